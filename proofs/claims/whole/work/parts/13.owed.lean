/-- the two states hold the same program: valid steps, at most three of them choosing; what else they hold is scratch -/
def i_Rel (k : Nat) (u : SX) (v : SY) : Prop := ∃ (n : Nat) (wc : Int32) (K T O c As Bs Cs vs fs : Nat → Int32), u = (nI n, wc, K, T, O, c) ∧ v = (nI n, K, As, Bs, Cs, vs, fs) ∧ sm_G K T O n ∧ sm_Y K T O As Bs Cs n
theorem i_up {k : Nat} {u : SX} {v : SY} (h : i_Rel k u v) : i_Rel (k + 4) u v := h
theorem i_vc0 : wpX_init (fun u => wpY_init (fun v => i_Rel 0 u v)) :=
  ⟨0, 0, fun _ => 0, fun _ => 0, fun _ => 0, fun _ => 0, fun _ => 0, fun _ => 0, fun _ => 0, fun _ => 0, fun _ => 0, rfl, rfl, ⟨by decide, fun j hj => absurd hj (Nat.not_lt_zero _), Nat.zero_le _⟩, fun j hj => absurd hj (Nat.not_lt_zero _)⟩
theorem i_vc_step {k : Nat} {u : SX} {v : SY} (I : i_Rel k u v) (hk : k + 4 ≤ 2048) (v1 : Int32) (v2 : Int32) (v3 : Int32) : wpX_step (fun r u' => wpY_step (fun r' v' => r' = r ∧ i_Rel (k + 4) u' v') v v1 v2 v3) u v1 v2 v3 := by
  obtain ⟨n, wc, K, T, O, c, As, Bs, Cs, vs, fs, rfl, rfl, hG, hY⟩ := I
  have J : i_Rel (k + 4) (nI n, wc, K, T, O, c) (nI n, K, As, Bs, Cs, vs, fs) := ⟨n, wc, K, T, O, c, As, Bs, Cs, vs, fs, rfl, rfl, hG, hY⟩
  have hn := hG.1
  have hc3 := hG.2.2
  rcases sm_good v1 v2 v3 with ⟨hok, hX, hYg⟩ | ⟨hX, hYg⟩
  · refine sm_Xstep hn hX (fun e1 e2 => ?_) (fun hg => ?_) hc3
    · refine sm_Ystep hn hYg (fun _ _ => ⟨rfl, J⟩) (fun hg => ?_) hc3
      exact absurd hg (by omega)
    · by_cases h14 : n < 14
      · refine sm_X28 h14 ?_
        refine sm_Ystep hn hYg (fun e1 e2 => absurd hg (by omega)) (fun _ => ?_) hc3
        refine sm_Y28 h14 ⟨rfl, n + 1, wc, _, _, _, c, _, _, _, vs, fs, rfl, rfl, sm_G_s hG h14 hok ?_, sm_Y_s hY⟩
        have : sm_ch v1 ≤ 1 := by
          rw [sm_ch]
          by_cases h0 : v1 = 0
          · rw [if_pos h0]; omega
          · rw [if_neg h0]
            by_cases h4 : v1 = 4
            · rw [if_pos h4]; omega
            · rw [if_neg h4]
              by_cases h9 : v1 = 9
              · rw [if_pos h9]; omega
              · rw [if_neg h9]; omega
        omega
      · have hl : ¬ nI n < 14 := nI_nlt (b := 14) (by omega) (by omega)
        refine br_f hl ?_
        refine sm_Ystep hn hYg (fun e1 e2 => absurd hg (by omega)) (fun _ => ?_) hc3
        exact br_f hl ⟨rfl, J⟩
  · unfold wpX_step wpY_step
    dsimp only
    refine hX _ ?_
    refine br_t rfl ?_
    refine hYg _ _ ?_
    exact br_t rfl ⟨rfl, J⟩
theorem i_vc_drop {k : Nat} {u : SX} {v : SY} (I : i_Rel k u v) (hk : k + 4 ≤ 2048) : wpX_drop (fun r u' => wpY_drop (fun r' v' => r' = r ∧ i_Rel (k + 4) u' v') v) u := by
  obtain ⟨n, wc, K, T, O, c, As, Bs, Cs, vs, fs, rfl, rfl, hG, hY⟩ := I
  have hn := hG.1
  cases n with
  | zero => exact br_t rfl (br_t rfl ⟨rfl, 0, wc, K, T, O, c, As, Bs, Cs, vs, fs, rfl, rfl, hG, hY⟩)
  | succ n =>
    have h0 : ¬ nI (n + 1) = 0 := nI_ne0 (by omega) (by omega)
    have hc := hG.2.2
    rw [sm_c_add] at hc
    exact br_f h0 (nm_r (nI_pred n) (br_f h0 (nm_r (nI_pred n) ⟨rfl, n, wc, K, T, O, c, As, Bs, Cs, vs, fs, rfl, rfl, ⟨by omega, fun j hj => hG.2.1 j (by omega), by omega⟩, fun j hj => hY j (by omega)⟩)))
theorem i_vc_length {k : Nat} {u : SX} {v : SY} (I : i_Rel k u v) (hk : k + 4 ≤ 2048) : wpX_length (fun r => wpY_length (fun r' => r' = r ∧ i_Rel (k + 4) u v) v) u := by
  obtain ⟨n, wc, K, T, O, c, As, Bs, Cs, vs, fs, rfl, rfl, hG, hY⟩ := I
  exact ⟨rfl, n, wc, K, T, O, c, As, Bs, Cs, vs, fs, rfl, rfl, hG, hY⟩
theorem i_vc_answers {k : Nat} {u : SX} {v : SY} (I : i_Rel k u v) (hk : k + 4 ≤ 2048) : wpX_answers (fun r u' => wpY_answers (fun r' v' => r' = r ∧ i_Rel (k + 4) u' v') v) u := by
  obtain ⟨n, wc, K, T, O, c, As, Bs, Cs, vs, fs, rfl, rfl, hG, hY⟩ := I
  refine sm_Xanswers hG (fun wc' c' => ?_)
  exact sm_Yanswers hG hY (fun vs' fs' => ⟨rfl, n, wc', K, T, O, c', As, Bs, Cs, vs', fs', rfl, rfl, hG, hY⟩)
theorem i_vc_value {k : Nat} {u : SX} {v : SY} (I : i_Rel k u v) (hk : k + 4 ≤ 2048) (v1 : Int32) (v2 : Int32) : wpX_value (fun r u' => wpY_value (fun r' v' => r' = r ∧ i_Rel (k + 4) u' v') v v1 v2) u v1 v2 := by
  obtain ⟨n, wc, K, T, O, c, As, Bs, Cs, vs, fs, rfl, rfl, hG, hY⟩ := I
  rcases sm_v v2 with hb | ⟨j, hj, rfl⟩
  · unfold wpX_value
    dsimp only
    refine sm_xv0 hb ?_
    refine br_t rfl ?_
    exact sm_Yvalue0 hG hY hb (fun vs' fs' => ⟨rfl, n, wc, K, T, O, c, As, Bs, Cs, vs', fs', rfl, rfl, hG, hY⟩)
  · refine sm_Xvalue hG hj (fun wc' c' => ?_)
    exact sm_Yvalue hG hY hj (fun vs' fs' => ⟨rfl, n, wc', K, T, O, c', As, Bs, Cs, vs', fs', rfl, rfl, hG, hY⟩)
theorem i_vc_countWith {k : Nat} {u : SX} {v : SY} (I : i_Rel k u v) (hk : k + 4 ≤ 2048) (v1 : Int32) (v2 : Int32) : wpX_countWith (fun r u' => wpY_countWith (fun r' v' => r' = r ∧ i_Rel (k + 4) u' v') v v1 v2) u v1 v2 := by
  obtain ⟨n, wc, K, T, O, c, As, Bs, Cs, vs, fs, rfl, rfl, hG, hY⟩ := I
  rcases sm_v v1 with hb | ⟨j, hj, rfl⟩
  · unfold wpX_countWith
    dsimp only
    refine sm_xv0 hb ?_
    refine br_t rfl ?_
    exact sm_Ycount0 hG hY hb (fun vs' fs' => ⟨rfl, n, wc, K, T, O, c, As, Bs, Cs, vs', fs', rfl, rfl, hG, hY⟩)
  · refine sm_Xcount hG hj (fun wc' c' => ?_)
    exact sm_Ycount hG hY hj (fun vs' fs' => ⟨rfl, n, wc', K, T, O, c', As, Bs, Cs, vs', fs', rfl, rfl, hG, hY⟩)
theorem i_vc_firstWith {k : Nat} {u : SX} {v : SY} (I : i_Rel k u v) (hk : k + 4 ≤ 2048) (v1 : Int32) (v2 : Int32) : wpX_firstWith (fun r u' => wpY_firstWith (fun r' v' => r' = r ∧ i_Rel (k + 4) u' v') v v1 v2) u v1 v2 := by
  obtain ⟨n, wc, K, T, O, c, As, Bs, Cs, vs, fs, rfl, rfl, hG, hY⟩ := I
  rcases sm_v v1 with hb | ⟨j, hj, rfl⟩
  · unfold wpX_firstWith
    dsimp only
    refine sm_xv0 hb ?_
    refine br_t rfl ?_
    exact sm_Yfirst0 hG hY hb (fun vs' fs' => ⟨rfl, n, wc, K, T, O, c, As, Bs, Cs, vs', fs', rfl, rfl, hG, hY⟩)
  · refine sm_Xfirst hG hj (fun wc' c' => ?_)
    exact sm_Yfirst hG hY hj (fun vs' fs' => ⟨rfl, n, wc', K, T, O, c', As, Bs, Cs, vs', fs', rfl, rfl, hG, hY⟩)
theorem i_vc_extreme {k : Nat} {u : SX} {v : SY} (I : i_Rel k u v) (hk : k + 4 ≤ 2048) (v1 : Int32) (v2 : Int32) : wpX_extreme (fun r u' => wpY_extreme (fun r' v' => r' = r ∧ i_Rel (k + 4) u' v') v v1 v2) u v1 v2 := by
  obtain ⟨n, wc, K, T, O, c, As, Bs, Cs, vs, fs, rfl, rfl, hG, hY⟩ := I
  have hJ : ((v1 < 0 ∨ 4 ≤ v1) ∨ (¬ v2 = 0 ∧ ¬ v2 = 1)) → wpY_extreme (fun r' v' => r' = (-1000000000) ∧ i_Rel (k + 4) (nI n, wc, K, T, O, c) v') (nI n, K, As, Bs, Cs, vs, fs) v1 v2 := fun hb =>
    sm_Yextreme0 hG hY hb (fun vs' fs' => ⟨rfl, n, wc, K, T, O, c, As, Bs, Cs, vs', fs', rfl, rfl, hG, hY⟩)
  rcases sm_v v1 with hb | ⟨j, hj, rfl⟩
  · unfold wpX_extreme
    dsimp only
    refine sm_xv0 hb ?_
    refine br_t rfl ?_
    exact hJ (Or.inl hb)
  · rcases pk_ix v2 (n := 2) (by decide) with h | h | ⟨q, hq, rfl⟩
    · unfold wpX_extreme
      dsimp only
      refine sm_xv1 hj ?_
      refine br_f (by decide) (br_t h ?_)
      exact hJ (Or.inr ⟨fun z => absurd h (by rw [z]; decide), fun z => absurd h (by rw [z]; decide)⟩)
    · have h2 : (2 : Int32) ≤ v2 := h
      have h0 : ¬ v2 < 0 := Int32.not_lt.mpr (Int32.le_trans (by decide) h2)
      obtain ⟨q, hq, rfl⟩ := nI_of h0
      have hq2 : 2 ≤ q := (nI_leI (a := 2) (by decide) hq).mp h2
      unfold wpX_extreme
      dsimp only
      refine sm_xv1 hj ?_
      refine br_f (by decide) (br_f h0 (br_f (nI_ge (a := 1) (by omega) hq) ?_))
      exact hJ (Or.inr ⟨nI_ne0 (by omega) hq, fun z => by have := (nI_eq (b := 1) hq (by decide)).mp z; omega⟩)
    · have hq01 : nI q = 0 ∨ nI q = 1 := by
        have : q = 0 ∨ q = 1 := by omega
        rcases this with rfl | rfl
        · exact Or.inl rfl
        · exact Or.inr rfl
      refine sm_Xextreme hG hj hq01 (fun wc' c' => ?_)
      exact sm_Yextreme hG hY hj hq01 (fun vs' fs' => ⟨rfl, n, wc', K, T, O, c', As, Bs, Cs, vs', fs', rfl, rfl, hG, hY⟩)
theorem i_vc_ways {k : Nat} {u : SX} {v : SY} (I : i_Rel k u v) (hk : k + 4 ≤ 2048) (v1 : Int32) : wpX_ways (fun r u' => wpY_ways (fun r' v' => r' = r ∧ i_Rel (k + 4) u' v') v v1) u v1 := by
  obtain ⟨n, wc, K, T, O, c, As, Bs, Cs, vs, fs, rfl, rfl, hG, hY⟩ := I
  have J : i_Rel (k + 4) (nI n, wc, K, T, O, c) (nI n, K, As, Bs, Cs, vs, fs) := ⟨n, wc, K, T, O, c, As, Bs, Cs, vs, fs, rfl, rfl, hG, hY⟩
  have hn := hG.1
  by_cases h0 : v1 < 0
  · exact br_t h0 (br_t h0 ⟨rfl, J⟩)
  · obtain ⟨j, hj, rfl⟩ := nI_of h0
    by_cases hle : j ≤ n
    · refine sm_Xways hG hle (fun wc' c' => ?_)
      exact sm_Yways hG hY hle (fun vs' fs' => ⟨rfl, n, wc', K, T, O, c', As, Bs, Cs, vs', fs', rfl, rfl, hG, hY⟩)
    · have hl : ¬ nI j ≤ nI n := nI_ge (by omega) hj
      exact br_f h0 (br_f hl (br_f h0 (br_f hl ⟨rfl, J⟩)))
