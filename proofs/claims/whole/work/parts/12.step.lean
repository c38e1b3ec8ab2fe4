/-! step: what is refused, what is kept -/
theorem sm_xch {post : Int32 → Prop} {k : Int32} (h1 : sm_ch k = 1 → post 1) (h0 : sm_ch k = 0 → post 0) : wpX_isChoosing post k := by
  by_cases e0 : k = 0
  · exact br_t e0 (h1 (by rw [sm_ch, if_pos e0]))
  · refine br_f e0 ?_
    by_cases e4 : k = 4
    · exact br_t e4 (h1 (by rw [sm_ch, if_neg e0, if_pos e4]))
    · refine br_f e4 ?_
      by_cases e9 : k = 9
      · exact br_t e9 (h1 (by rw [sm_ch, if_neg e0, if_neg e4, if_pos e9]))
      · exact br_f e9 (h0 (by rw [sm_ch, if_neg e0, if_neg e4, if_neg e9]))
theorem sm_ych {post : Int32 → Prop} {u : SY} {k : Int32} (h1 : sm_ch k = 1 → post 1) (h0 : sm_ch k = 0 → post 0) : wpY_choice post u k := by
  by_cases e0 : k = 0
  · exact br_t e0 (h1 (by rw [sm_ch, if_pos e0]))
  · refine br_f e0 ?_
    by_cases e4 : k = 4
    · exact br_t e4 (h1 (by rw [sm_ch, if_neg e0, if_pos e4]))
    · refine br_f e4 ?_
      by_cases e9 : k = 9
      · exact br_t e9 (h1 (by rw [sm_ch, if_neg e0, if_neg e4, if_pos e9]))
      · exact br_f e9 (h0 (by rw [sm_ch, if_neg e0, if_neg e4, if_neg e9]))
theorem sm_xcs {post : Int32 → Prop} {wc : Int32} {K T O c : Nat → Int32} {n : Nat} (hn : n ≤ 14) : ∀ m i acc : Nat, i + m = n → post (nI (acc + sm_c K i m)) → ∀ f, m < f → wX_choosingSteps_4 post (nI n) wc K T O c f (nI acc) (nI i) := by
  intro m
  induction m with
  | zero =>
    intro i acc hi h f hf
    cases f with
    | zero => exact absurd hf (Nat.not_lt_zero _)
    | succ f => exact br_t (nI_le (by omega) (by omega)) h
  | succ m ih =>
    intro i acc hi h f hf
    cases f with
    | zero => exact absurd hf (Nat.not_lt_zero _)
    | succ f =>
      refine br_f (nI_ge (by omega) (by omega)) ⟨pk_in i 14 (by omega), ?_⟩
      rw [nI_clamp (show i < 2 ^ 31 by omega)]
      rw [sm_c] at h
      refine sm_xch (fun e => ?_) (fun e => ?_)
      · rw [e] at h
        exact br_f (by decide) (nm_r (nI_1 acc) (nm_r (nI_1 i) (ih (i + 1) (acc + 1) (by omega) (by rw [Nat.add_assoc]; exact h) f (by omega))))
      · rw [e, Nat.zero_add] at h
        exact br_t rfl (nm_r (nI_1 i) (ih (i + 1) acc (by omega) h f (by omega)))
theorem sm_ycs {post : Int32 → Prop} {K As Bs Cs vs fs : Nat → Int32} {n : Nat} (hn : n ≤ 14) : ∀ m i acc : Nat, i + m = n → post (nI (acc + sm_c K i m)) → ∀ f, m < f → wY_choices_4 post (nI n) K As Bs Cs vs fs f (nI acc) (nI i) := by
  intro m
  induction m with
  | zero =>
    intro i acc hi h f hf
    cases f with
    | zero => exact absurd hf (Nat.not_lt_zero _)
    | succ f => exact br_t (nI_le (by omega) (by omega)) h
  | succ m ih =>
    intro i acc hi h f hf
    cases f with
    | zero => exact absurd hf (Nat.not_lt_zero _)
    | succ f =>
      refine br_f (nI_ge (by omega) (by omega)) ⟨pk_in i 14 (by omega), ?_⟩
      rw [nI_clamp (show i < 2 ^ 31 by omega)]
      rw [sm_c] at h
      refine sm_ych (fun e => ?_) (fun e => ?_)
      · rw [e] at h
        exact br_f (by decide) (nm_r (nI_1 acc) (nm_r (nI_1 i) (ih (i + 1) (acc + 1) (by omega) (by rw [Nat.add_assoc]; exact h) f (by omega))))
      · rw [e, Nat.zero_add] at h
        exact br_t rfl (nm_r (nI_1 i) (ih (i + 1) acc (by omega) h f (by omega)))
/-- both sides take the same steps for valid -/
def sm_both (k a b : Int32) : Prop := (sm_ok k a b ∧ (∀ post : Int32 → Prop, post 1 → wpX_isStep post k a b) ∧ (∀ (post : Int32 → Prop) (u : SY), post 1 → wpY_good post u k a b)) ∨ ((∀ post : Int32 → Prop, post 0 → wpX_isStep post k a b) ∧ (∀ (post : Int32 → Prop) (u : SY), post 0 → wpY_good post u k a b))
theorem sm_shr_neg {b : Int32} (h : b < 0) : b >>> ((4 : Int32) &&& 31) < 0 := by
  have h0 : (0 : Int32).toInt = 0 := by decide
  rw [Int32.lt_iff_toInt_lt, h0] at h
  rw [Int32.lt_iff_toInt_lt, h0, pk_shr b ((4 : Int32) &&& 31) 4 (by decide), Int.shiftRight_eq_div_pow]
  show b.toInt / 16 < 0
  omega
theorem sm_good0 (a b : Int32) : sm_both 0 a b := by
  rcases sm_v a with ha | ⟨A, hA, rfl⟩
  · refine Or.inr ⟨fun post h => ?_, fun post u h => ?_⟩
    · refine br_f (by decide) (br_t (by decide) (br_f (by decide) ?_))
      refine sm_xv0 ha ?_
      exact br_t rfl h
    · refine br_t rfl ?_
      refine sm_yv0 ha ?_
      exact br_t rfl h
  · obtain ⟨lo, hlo, elo⟩ := pk_andE b (m := 15) 4 (by decide)
    have hlo' : lo < 16 := hlo
    have hX : ∀ post : Int32 → Prop, wpX_isRange (fun r_12 => (narrow .boolean (.int r_12) = .int r_12 ∧ (post r_12))) b → wpX_isStep post 0 (nI A) b := fun post h => by
      refine br_f (by decide) (br_t (by decide) (br_f (by decide) ?_))
      refine sm_xv1 hA ?_
      exact br_f (by decide) (br_t rfl h)
    have hY : ∀ (post : Int32 → Prop) (u : SY), (((b < 0 → (post 0)) ∧ (¬ b < 0 → (((12 < (b &&& 15) → (post 0)) ∧ (¬ 12 < (b &&& 15) → (((12 < (b >>> ((4 : Int32) &&& 31)) → (post 0)) ∧ (¬ 12 < (b >>> ((4 : Int32) &&& 31)) → (post 1)))))))))) → wpY_good post u 0 (nI A) b := fun post u h => by
      refine br_t rfl ?_
      refine sm_yv1 hA ?_
      exact br_f (by decide) h
    by_cases hb : b < 0
    · refine Or.inr ⟨fun post h => hX post ?_, fun post u h => hY post u (br_t hb h)⟩
      exact nm_e (nm_e (br_c (fun _ => ⟨rfl, h⟩) (fun _ => br_t (sm_shr_neg hb) ⟨rfl, h⟩)))
    · obtain ⟨j, hj, rfl⟩ := nI_of hb
      have ehi : nI j >>> ((4 : Int32) &&& 31) = nI (j / 16) := pk_shrN hj _ 4 (by decide)
      by_cases h1 : 13 ≤ lo
      · refine Or.inr ⟨fun post h => hX post ?_, fun post u h => hY post u (br_f hb (br_t ?_ h))⟩
        · exact nm_r elo (nm_e (br_t (nI_le (a := 13) h1 (by omega)) ⟨rfl, h⟩))
        · rw [elo]; exact nI_lt (a := 12) (by omega) (by omega)
      · have n1 : ¬ (13 : Int32) ≤ nI lo := nI_ge (b := 13) (by omega) (by decide)
        have n1' : ¬ (12 : Int32) < nI j &&& 15 := by rw [elo]; exact nI_nlt (a := 12) (by omega) (by decide)
        have n2 : ¬ nI (j / 16) < 0 := nI_pos (by omega)
        by_cases h2 : 13 ≤ j / 16
        · refine Or.inr ⟨fun post h => hX post ?_, fun post u h => hY post u (br_f hb (br_f n1' (br_t ?_ h)))⟩
          · exact nm_r elo (nm_r ehi (br_f n1 (br_f n2 (br_t (nI_le (a := 13) h2 (by omega)) ⟨rfl, h⟩))))
          · rw [ehi]; exact nI_lt (a := 12) (by omega) (by omega)
        · refine Or.inl ⟨Or.inr (Or.inl ⟨rfl, A, lo, j / 16, hA, by omega, by omega, rfl, elo, ehi⟩), fun post h => hX post ?_, fun post u h => hY post u (br_f hb (br_f n1' (br_f ?_ h)))⟩
          · exact nm_r elo (nm_r ehi (br_f n1 (br_f n2 (br_f (nI_ge (b := 13) (by omega) (by decide)) ⟨rfl, h⟩))))
          · rw [ehi]; exact nI_nlt (a := 12) (by omega) (by decide)
theorem sm_good1 (a b : Int32) : sm_both 1 a b := by
  rcases sm_v a with ha | ⟨A, hA, rfl⟩
  · refine Or.inr ⟨fun post h => ?_, fun post u h => ?_⟩
    · refine br_f (by decide) (br_t (by decide) (br_f (by decide) ?_))
      refine sm_xv0 ha ?_
      exact br_t rfl h
    · refine br_f (by decide) (br_t rfl ?_)
      refine sm_yv0 ha ?_
      exact br_t rfl h
  · have hX : ∀ post : Int32 → Prop, ((b < (-20) → (post 0)) ∧ (¬ b < (-20) → (((20 < b → (post 0)) ∧ (¬ 20 < b → (post 1)))))) → wpX_isStep post 1 (nI A) b := fun post h => by
      refine br_f (by decide) (br_t (by decide) (br_f (by decide) ?_))
      refine sm_xv1 hA ?_
      exact br_f (by decide) (br_f (by decide) (br_t rfl h))
    have hY : ∀ (post : Int32 → Prop) (u : SY), ((b < (-20) → (post 0)) ∧ (¬ b < (-20) → (((20 < b → (post 0)) ∧ (¬ 20 < b → (post 1)))))) → wpY_good post u 1 (nI A) b := fun post u h => by
      refine br_f (by decide) (br_t rfl ?_)
      refine sm_yv1 hA ?_
      exact br_f (by decide) h
    by_cases h1 : b < (-20)
    · exact Or.inr ⟨fun post h => hX post (br_t h1 h), fun post u h => hY post u (br_t h1 h)⟩
    · by_cases h2 : 20 < b
      · exact Or.inr ⟨fun post h => hX post (br_f h1 (br_t h2 h)), fun post u h => hY post u (br_f h1 (br_t h2 h))⟩
      · exact Or.inl ⟨Or.inr (Or.inr (Or.inl ⟨rfl, A, hA, rfl⟩)), fun post h => hX post (br_f h1 (br_f h2 h)), fun post u h => hY post u (br_f h1 (br_f h2 h))⟩
theorem sm_good2 (k a b : Int32) (hk : k = 2 ∨ k = 3 ∨ k = 4 ∨ k = 5 ∨ k = 6 ∨ k = 7 ∨ k = 9) : sm_both k a b := by
  have f1 : ¬ k < 0 := by rcases hk with rfl | rfl | rfl | rfl | rfl | rfl | rfl <;> decide
  have f2 : k ≤ 9 := by rcases hk with rfl | rfl | rfl | rfl | rfl | rfl | rfl <;> decide
  have f3 : ¬ k = 8 := by rcases hk with rfl | rfl | rfl | rfl | rfl | rfl | rfl <;> decide
  have f4 : ¬ k = 0 := by rcases hk with rfl | rfl | rfl | rfl | rfl | rfl | rfl <;> decide
  have f5 : ¬ k = 1 := by rcases hk with rfl | rfl | rfl | rfl | rfl | rfl | rfl <;> decide
  have f6 : ¬ k < 2 := by rcases hk with rfl | rfl | rfl | rfl | rfl | rfl | rfl <;> decide
  have f7 : ¬ 9 < k := by rcases hk with rfl | rfl | rfl | rfl | rfl | rfl | rfl <;> decide
  rcases sm_v a with ha | ⟨A, hA, rfl⟩
  · refine Or.inr ⟨fun post h => ?_, fun post u h => ?_⟩
    · refine br_f f1 (br_t f2 (br_f f3 ?_))
      refine sm_xv0 ha ?_
      exact br_t rfl h
    · refine br_f f4 (br_f f5 (br_f f3 (br_f f6 (br_f f7 ?_))))
      refine sm_yv0 ha ?_
      exact br_t rfl h
  · rcases sm_v b with hb | ⟨B, hB, rfl⟩
    · refine Or.inr ⟨fun post h => ?_, fun post u h => ?_⟩
      · refine br_f f1 (br_t f2 (br_f f3 ?_))
        refine sm_xv1 hA ?_
        refine br_f (by decide) (br_f f4 (br_f f5 ?_))
        refine sm_xv0 hb ?_
        exact ⟨rfl, h⟩
      · refine br_f f4 (br_f f5 (br_f f3 (br_f f6 (br_f f7 ?_))))
        refine sm_yv1 hA ?_
        refine br_f (by decide) ?_
        refine sm_yv0 hb ?_
        exact br_t rfl h
    · refine Or.inl ⟨Or.inr (Or.inr (Or.inr ⟨hk, A, B, hA, hB, rfl, rfl⟩)), fun post h => ?_, fun post u h => ?_⟩
      · refine br_f f1 (br_t f2 (br_f f3 ?_))
        refine sm_xv1 hA ?_
        refine br_f (by decide) (br_f f4 (br_f f5 ?_))
        refine sm_xv1 hB ?_
        exact ⟨rfl, h⟩
      · refine br_f f4 (br_f f5 (br_f f3 (br_f f6 (br_f f7 ?_))))
        refine sm_yv1 hA ?_
        refine br_f (by decide) ?_
        refine sm_yv1 hB ?_
        exact br_f (by decide) h
theorem sm_good (k a b : Int32) : sm_both k a b := by
  rcases pk_ix k (n := 10) (by decide) with h | h | ⟨j, hj, rfl⟩
  · have f0 : ¬ k = 0 := fun z => absurd h (by rw [z]; decide)
    have f1 : ¬ k = 1 := fun z => absurd h (by rw [z]; decide)
    have f8 : ¬ k = 8 := fun z => absurd h (by rw [z]; decide)
    have f2 : k < 2 := Int32.lt_trans h (by decide)
    exact Or.inr ⟨fun post hp => br_t h hp, fun post u hp => br_f f0 (br_f f1 (br_f f8 (br_t f2 hp)))⟩
  · have h10 : (10 : Int32) ≤ k := h
    have g0 : ¬ k < 0 := Int32.not_lt.mpr (Int32.le_trans (by decide) h10)
    obtain ⟨j, hj, rfl⟩ := nI_of g0
    have hj10 : 10 ≤ j := (nI_leI (a := 10) (by decide) hj).mp h10
    have f0 : ¬ nI j = 0 := nI_ne0 (by omega) hj
    have f1 : ¬ nI j = 1 := fun z => by have := (nI_eq (b := 1) hj (by decide)).mp z; omega
    have f8 : ¬ nI j = 8 := fun z => by have := (nI_eq (b := 8) hj (by decide)).mp z; omega
    have f2 : ¬ nI j < 2 := nI_nlt (b := 2) (by omega) hj
    have f9 : (9 : Int32) < nI j := nI_lt (a := 9) (by omega) hj
    have f9' : ¬ nI j ≤ 9 := nI_ge (a := 9) (by omega) hj
    exact Or.inr ⟨fun post hp => br_f g0 (br_f f9' hp), fun post u hp => br_f f0 (br_f f1 (br_f f8 (br_f f2 (br_t f9 hp))))⟩
  · have hc : j = 0 ∨ j = 1 ∨ j = 2 ∨ j = 3 ∨ j = 4 ∨ j = 5 ∨ j = 6 ∨ j = 7 ∨ j = 8 ∨ j = 9 := by omega
    rcases hc with rfl | rfl | rfl | rfl | rfl | rfl | rfl | rfl | rfl | rfl
    · exact sm_good0 a b
    · exact sm_good1 a b
    · exact sm_good2 2 a b (Or.inl rfl)
    · exact sm_good2 3 a b (Or.inr (Or.inl rfl))
    · exact sm_good2 4 a b (Or.inr (Or.inr (Or.inl rfl)))
    · exact sm_good2 5 a b (Or.inr (Or.inr (Or.inr (Or.inl rfl))))
    · exact sm_good2 6 a b (Or.inr (Or.inr (Or.inr (Or.inr (Or.inl rfl)))))
    · exact sm_good2 7 a b (Or.inr (Or.inr (Or.inr (Or.inr (Or.inr (Or.inl rfl))))))
    · exact Or.inl ⟨Or.inl rfl, fun post hp => br_f (by decide) (br_t (by decide) (br_t rfl hp)), fun post u hp => br_f (by decide) (br_f (by decide) (br_t rfl hp))⟩
    · exact sm_good2 9 a b (Or.inr (Or.inr (Or.inr (Or.inr (Or.inr (Or.inr rfl))))))
theorem sm_X28 {post : Int32 → SX → Prop} {k a b wc : Int32} {K T O c : Nat → Int32} {n : Nat} (hn : n < 14) (h : post (nI n) (nI (n + 1), wc, upd K n k, upd T n a, upd O n b, c)) : wX_step_28 post k a b (nI n) wc K T O c := by
  have hin : vp_in (nI n) 14 := vp_in_nI hn (by decide)
  have hc : (nI n).toNatClampNeg = n := nI_clamp (by omega)
  refine br_t (nI_lt (b := 14) hn (by decide)) ⟨hin, nm_r (by rw [hc]) ⟨hin, nm_r (by rw [hc]) ⟨hin, nm_r (by rw [hc]) (nm_r (nI_1 n) ?_)⟩⟩⟩
  rw [nI_pred]
  exact h
theorem sm_Y28 {post : Int32 → SY → Prop} {k a b : Int32} {K As Bs Cs vs fs : Nat → Int32} {n : Nat} (hn : n < 14) (h : post (nI n) (nI (n + 1), upd K n k, upd As n (if k = 8 then 0 else a), upd Bs n (if k = 0 then (b &&& 15) - 3 else if k = 8 then 0 else b), upd Cs n (if k = 0 then (b >>> ((4 : Int32) &&& 31)) - 3 else 0), vs, fs)) : wY_step_28 post k a b (nI n) K As Bs Cs vs fs := by
  have hin : vp_in (nI n) 14 := vp_in_nI hn (by decide)
  have hc : (nI n).toNatClampNeg = n := nI_clamp (by omega)
  have h124 : ∀ z, z = (if k = 0 then (b >>> ((4 : Int32) &&& 31)) - 3 else 0) → wY_step_124 post z (nI n) (nI n) (upd K n k) (upd As n (if k = 8 then 0 else a)) (upd Bs n (if k = 0 then (b &&& 15) - 3 else if k = 8 then 0 else b)) Cs vs fs := by
    intro z hz
    subst hz
    refine ⟨hin, nm_r (by rw [hc]) (nm_r (nI_1 n) ?_)⟩
    rw [nI_pred]
    exact h
  have h102 : ∀ z, z = (if k = 0 then (b &&& 15) - 3 else if k = 8 then 0 else b) → wY_step_102 post k b z (nI n) (nI n) (upd K n k) (upd As n (if k = 8 then 0 else a)) Bs Cs vs fs := by
    intro z hz
    subst hz
    refine ⟨hin, nm_r (by rw [hc]) ?_⟩
    by_cases h0 : k = 0
    · exact br_t h0 (h124 _ (by rw [if_pos h0]))
    · exact br_f h0 (h124 _ (by rw [if_neg h0]))
  have h69 : ∀ z, z = (if k = 8 then 0 else a) → wY_step_69 post k b z (nI n) (nI n) (upd K n k) As Bs Cs vs fs := by
    intro z hz
    subst hz
    refine ⟨hin, nm_r (by rw [hc]) ?_⟩
    by_cases h0 : k = 0
    · exact br_t h0 (h102 _ (by rw [if_pos h0]))
    · refine br_f h0 ?_
      by_cases h8 : k = 8
      · exact br_t h8 (h102 _ (by rw [if_neg h0, if_pos h8]))
      · exact br_f h8 (h102 _ (by rw [if_neg h0, if_neg h8]))
  refine br_t (nI_lt (b := 14) hn (by decide)) ⟨hin, nm_r (by rw [hc]) ?_⟩
  by_cases h8 : k = 8
  · exact br_t h8 (h69 _ (by rw [if_pos h8]))
  · exact br_f h8 (h69 _ (by rw [if_neg h8]))
theorem sm_Xstep {post : Int32 → SX → Prop} {k a b wc : Int32} {K T O c : Nat → Int32} {n : Nat} (hn : n ≤ 14) (hs : ∀ post : Int32 → Prop, post 1 → wpX_isStep post k a b) (hr : sm_ch k = 1 → 3 ≤ sm_c K 0 n → post (-1) (nI n, wc, K, T, O, c)) (hg : (sm_ch k = 0 ∨ sm_c K 0 n < 3) → wX_step_28 post k a b (nI n) wc K T O c) (hb : sm_c K 0 n ≤ 3) : wpX_step post (nI n, wc, K, T, O, c) k a b := by
  unfold wpX_step
  dsimp only
  refine hs _ ?_
  refine br_f (by decide) ?_
  refine sm_xch (fun e => ?_) (fun e => br_t rfl (hg (Or.inl e)))
  refine br_f (by decide) ⟨n + 1, sm_xcs hn n 0 0 (Nat.zero_add n) ?_ (n + 1) (Nat.lt_succ_self n)⟩
  rw [Nat.zero_add]
  exact pk_lt (sm_c K 0 n) 3 (fun hlt => hg (Or.inr hlt)) (fun hge => hr e hge) rfl rfl (by omega) (by omega)
theorem sm_Ystep {post : Int32 → SY → Prop} {k a b : Int32} {K As Bs Cs vs fs : Nat → Int32} {n : Nat} (hn : n ≤ 14) (hs : ∀ (post : Int32 → Prop) (u : SY), post 1 → wpY_good post u k a b) (hr : sm_ch k = 1 → 3 ≤ sm_c K 0 n → post (-1) (nI n, K, As, Bs, Cs, vs, fs)) (hg : (sm_ch k = 0 ∨ sm_c K 0 n < 3) → wY_step_28 post k a b (nI n) K As Bs Cs vs fs) (hb : sm_c K 0 n ≤ 3) : wpY_step post (nI n, K, As, Bs, Cs, vs, fs) k a b := by
  unfold wpY_step
  dsimp only
  refine hs _ _ ?_
  refine br_f (by decide) ?_
  refine sm_ych (fun e => ?_) (fun e => br_t rfl (hg (Or.inl e)))
  refine br_f (by decide) ⟨n + 1, sm_ycs hn n 0 0 (Nat.zero_add n) ?_ (n + 1) (Nat.lt_succ_self n)⟩
  rw [Nat.zero_add]
  exact pk_lt (sm_c K 0 n) 3 (fun hlt => hg (Or.inr hlt)) (fun hge => hr e hge) rfl rfl (by omega) (by omega)
theorem sm_G_s {K T O : Nat → Int32} {n : Nat} {k a b : Int32} (hG : sm_G K T O n) (hn : n < 14) (hok : sm_ok k a b) (hc : sm_c K 0 n + sm_ch k ≤ 3) : sm_G (upd K n k) (upd T n a) (upd O n b) (n + 1) := by
  refine ⟨by omega, fun j hj => ?_, ?_⟩
  · by_cases e : j = n
    · subst e
      rw [pk_us, pk_us, pk_us]
      exact hok
    · rw [pk_un e, pk_un e, pk_un e]
      exact hG.2.1 j (by omega)
  · rw [sm_c_add, Nat.zero_add, sm_c, sm_c, pk_us, Nat.add_zero, sm_c_congr (K' := K) n 0 (fun j _ h2 => pk_un (by omega))]
    exact hc
theorem sm_Y_s {K T O As Bs Cs : Nat → Int32} {n : Nat} {k a b : Int32} (hY : sm_Y K T O As Bs Cs n) : sm_Y (upd K n k) (upd T n a) (upd O n b) (upd As n (if k = 8 then 0 else a)) (upd Bs n (if k = 0 then (b &&& 15) - 3 else if k = 8 then 0 else b)) (upd Cs n (if k = 0 then (b >>> ((4 : Int32) &&& 31)) - 3 else 0)) (n + 1) := by
  intro j hj
  by_cases e : j = n
  · subst e
    rw [pk_us, pk_us, pk_us, pk_us, pk_us, pk_us]
    exact ⟨rfl, rfl, rfl⟩
  · rw [pk_un e, pk_un e, pk_un e, pk_un e, pk_un e, pk_un e]
    exact hY j (by omega)
