/-! the reference: options, between, carryOut -/
def sm_Y (K T O As Bs Cs : Nat → Int32) (n : Nat) : Prop := ∀ i, i < n → As i = (if K i = 8 then 0 else T i) ∧ Bs i = (if K i = 0 then (O i &&& 15) - 3 else if K i = 8 then 0 else O i) ∧ Cs i = (if K i = 0 then (O i >>> ((4 : Int32) &&& 31)) - 3 else 0)
theorem sm_ok0 {k a b : Int32} (h : sm_ok k a b) (hk : k = 0) : ∃ A lo hi : Nat, A < 4 ∧ lo < 13 ∧ hi < 13 ∧ a = nI A ∧ b &&& 15 = nI lo ∧ b >>> ((4 : Int32) &&& 31) = nI hi := by
  rcases h with rfl | ⟨_, h⟩ | ⟨rfl, _⟩ | ⟨h, _⟩
  · exact absurd hk (by decide)
  · exact h
  · exact absurd hk (by decide)
  · subst hk
    rcases h with h | h | h | h | h | h | h <;> exact absurd h (by decide)
theorem sm_opt {post : Int32 → Prop} {sz : Int32} {K T O As Bs Cs vs fs : Nat → Int32} {n i : Nat} (hG : sm_G K T O n) (hY : sm_Y K T O As Bs Cs n) (hi : i < n) (h : post (nI (sm_o (K i) (O i)))) : wpY_options post (sz, K, As, Bs, Cs, vs, fs) (nI i) := by
  have hn := hG.1
  have hin : vp_in (nI i) 14 := vp_in_nI (by omega) (by decide)
  have ⟨_, eB, eC⟩ := hY i hi
  unfold wpY_options
  dsimp only
  rw [nI_clamp (show i < 2 ^ 31 by omega)]
  refine ⟨hin, ?_⟩
  by_cases h0 : K i = 0
  · obtain ⟨A, lo, hi', _, hl, hh, _, e1, e2⟩ := sm_ok0 (hG.2.1 i hi) h0
    rw [if_pos h0, e1] at eB
    rw [if_pos h0, e2] at eC
    rw [h0, sm_o_0 hl hh e1 e2] at h
    rw [eB, eC]
    refine br_t h0 ⟨hin, hin, ?_⟩
    by_cases hle : lo ≤ hi'
    · refine br_t (sm_num1 hl hh hle).2 ⟨hin, hin, ?_⟩
      rw [(sm_num1 hl hh hle).1]
      exact h
    · rw [show hi' + 1 - lo = 0 from by omega] at h
      exact br_f (sm_num2 hl hh hle).2 h
  · refine br_f h0 ⟨hin, ?_⟩
    rw [sm_o, if_neg h0] at h
    by_cases h4 : K i = 4
    · rw [if_pos h4] at h
      exact br_t h4 h
    · rw [if_neg h4] at h
      refine br_f h4 ⟨hin, ?_⟩
      by_cases h9 : K i = 9
      · rw [if_pos h9] at h
        exact br_t h9 h
      · rw [if_neg h9] at h
        exact br_f h9 h
theorem sm_btw5 {post : Int32 → Prop} {sz : Int32} {K T O As Bs Cs vs fs : Nat → Int32} {n N : Nat} (hG : sm_G K T O n) (hY : sm_Y K T O As Bs Cs n) (hN : N ≤ n) : ∀ m i acc : Nat, i + m = N → post (nI (acc * sm_P K O i m)) → ∀ f, m < f → wY_between_5 post (nI N) sz K As Bs Cs vs fs f (nI acc) (nI i) := by
  have hn := hG.1
  intro m
  induction m with
  | zero =>
    intro i acc hi h f hf
    cases f with
    | zero => exact absurd hf (Nat.not_lt_zero _)
    | succ f =>
      rw [sm_P, Nat.mul_one] at h
      exact br_t (nI_le (by omega) (by omega)) h
  | succ m ih =>
    intro i acc hi h f hf
    cases f with
    | zero => exact absurd hf (Nat.not_lt_zero _)
    | succ f =>
      rw [sm_P, ← Nat.mul_assoc] at h
      exact br_f (nI_ge (by omega) (by omega)) (sm_opt hG hY (by omega) (nm_r (pk_mul _ _) (nm_r (nI_1 i) (ih (i + 1) _ (by omega) h f (by omega)))))
theorem sm_btw {post : Int32 → Prop} {sz : Int32} {K T O As Bs Cs vs fs : Nat → Int32} {n N i m : Nat} (hG : sm_G K T O n) (hY : sm_Y K T O As Bs Cs n) (hN : N ≤ n) (hi : i + m = N) (h : post (nI (sm_P K O i m))) : wpY_between post (sz, K, As, Bs, Cs, vs, fs) (nI i) (nI N) :=
  ⟨m + 1, sm_btw5 hG hY hN m i 1 hi (by rw [Nat.one_mul]; exact h) (m + 1) (Nat.lt_succ_self m)⟩
theorem sm_updw {vs w : Nat → Int32} (hw : ∀ v, v < 4 → vs v = w v) (A : Nat) {x y : Int32} (e : x = y) : ∀ v, v < 4 → upd vs A x v = upd w A y v := by
  intro v hv
  show (if v = A then x else vs v) = (if v = A then y else w v)
  rw [e, hw v hv]
theorem sm_200 {post : Int32 → SY → Prop} {k x1 x3 x7 x8 sz : Int32} {K As Bs Cs vs fs : Nat → Int32} (h8 : ¬ k = 8) (h5 : ¬ k = 5) (h6 : ¬ k = 6) (h7 : ¬ k = 7) (h : post 1 (sz, K, As, Bs, Cs, vs, fs)) : wY_carryOut_200 post x1 x3 k x7 x8 sz K As Bs Cs vs fs :=
  br_f h8 (br_f h5 (br_f h6 (br_f h7 h)))
theorem sm_and3 : ∀ B : Fin 4, nI B.val &&& 3 = nI B.val := by decide
theorem sm_carry {post : Int32 → SY → Prop} {sz x3 : Int32} {K T O As Bs Cs vs fs w : Nat → Int32} {n i d : Nat} (hG : sm_G K T O n) (hY : sm_Y K T O As Bs Cs n) (hi : i < n) (hd : d < 2 ^ 31) (hw : ∀ v, v < 4 → vs v = w v) (h8 : ¬ K i = 8)
    (h1 : ∀ w', sm_op (K i) (T i) (O i) w d = some w' → ∀ vs', (∀ v, v < 4 → vs' v = w' v) → post 1 (sz, K, As, Bs, Cs, vs', fs)) (h0 : sm_op (K i) (T i) (O i) w d = none → ∀ vs', post 0 (sz, K, As, Bs, Cs, vs', fs)) : wpY_carryOut post (sz, K, As, Bs, Cs, vs, fs) (nI i) (nI d) x3 := by
  have hn := hG.1
  have hin : vp_in (nI i) 14 := vp_in_nI (by omega) (by decide)
  have ⟨eA, eB, _⟩ := hY i hi
  have hok := hG.2.1 i hi
  have hc : (nI i).toNatClampNeg = i := nI_clamp (by omega)
  rw [if_neg h8] at eA
  rw [if_neg h8] at eB
  rw [← hc] at eA eB
  have eK : K (nI i).toNatClampNeg = K i := by rw [hc]
  rw [hc] at eA eB
  generalize hk : K i = k at *
  generalize ha : T i = a at *
  generalize hb : O i = b at *
  rcases hok with rfl | ⟨rfl, A, lo, hi', hA, hl, hh, rfl, e1, e2⟩ | ⟨rfl, A, hA, rfl⟩ | ⟨hk', A, B, hA, hB, rfl, rfl⟩
  · exact absurd rfl h8
  · have eA' : As (nI i).toNatClampNeg = nI A := by rw [hc]; exact eA
    have eB' : Bs (nI i).toNatClampNeg = (b &&& 15) - 3 := by rw [hc]; exact eB
    have hcA : (nI A).toNatClampNeg = A := nI_clamp (by omega)
    refine ⟨hin, nm_r eK ⟨hin, nm_r eA' ⟨hin, nm_r eB' ⟨pk_in A 4 hA, nm_e (br_t (by decide) (br_t rfl ⟨pk_in A 4 hA, nm_e (sm_200 (by decide) (by decide) (by decide) (by decide) ?_)⟩))⟩⟩⟩⟩
    refine h1 (upd w A ((b &&& 15) - 3 + nI d)) (by rw [sm_op, if_pos rfl, hcA]) _ ?_
    rw [hcA]
    exact sm_updw hw A rfl
  · have eA' : As (nI i).toNatClampNeg = nI A := by rw [hc]; exact eA
    have eB' : Bs (nI i).toNatClampNeg = b := by rw [hc]; exact eB
    have hcA : (nI A).toNatClampNeg = A := nI_clamp (by omega)
    refine ⟨hin, nm_r eK ⟨hin, nm_r eA' ⟨hin, nm_r eB' ⟨pk_in A 4 hA, nm_e (br_t (by decide) (br_f (by decide) (br_t rfl ⟨pk_in A 4 hA, nm_e (sm_200 (by decide) (by decide) (by decide) (by decide) ?_)⟩)))⟩⟩⟩⟩
    refine h1 (upd w A b) (by rw [sm_op, if_neg (by decide), if_pos rfl, hcA]) _ ?_
    rw [hcA]
    exact sm_updw hw A rfl
  · have hk0 : ¬ k = 0 := by rcases hk' with rfl | rfl | rfl | rfl | rfl | rfl | rfl <;> decide
    have hk2 : ¬ k < 2 := by rcases hk' with rfl | rfl | rfl | rfl | rfl | rfl | rfl <;> decide
    rw [if_neg hk0] at eB
    have eA' : As (nI i).toNatClampNeg = nI A := by rw [hc]; exact eA
    have eB' : Bs (nI i).toNatClampNeg = nI B := by rw [hc]; exact eB
    have hcA : (nI A).toNatClampNeg = A := nI_clamp (by omega)
    have hcB : (nI B).toNatClampNeg = B := nI_clamp (by omega)
    have h3 : nI B &&& 3 = nI B := sm_and3 ⟨B, hB⟩
    have eX : vs (nI A).toNatClampNeg = w A := by rw [hcA]; exact hw A hA
    have eZ : vs (nI B &&& 3).toNatClampNeg = w B := by rw [h3, hcB]; exact hw B hB
    have hin3 : vp_in (nI B &&& 3) 4 := by rw [h3]; exact vp_in_nI hB (by decide)
    refine ⟨hin, nm_r eK ⟨hin, nm_r eA' ⟨hin, nm_r eB' ⟨pk_in A 4 hA, nm_r eX (br_f hk2 (br_f h8 ⟨hin3, ?_⟩))⟩⟩⟩⟩
    rw [eZ]
    rcases hk' with rfl | rfl | rfl | rfl | rfl | rfl | rfl
    · refine br_f (by decide) (br_f (by decide) (br_t rfl ⟨pk_in A 4 hA, nm_e (sm_200 (by decide) (by decide) (by decide) (by decide) ?_)⟩))
      refine h1 (upd w A (w A + w B)) (by rw [sm_op, if_neg (by decide), if_neg (by decide), if_pos rfl, hcA, hcB]) _ ?_
      rw [hcA]
      exact sm_updw hw A rfl
    · refine br_f (by decide) (br_f (by decide) (br_f (by decide) (br_t rfl ⟨pk_in A 4 hA, nm_e (sm_200 (by decide) (by decide) (by decide) (by decide) ?_)⟩)))
      refine h1 (upd w A (w A * w B)) (by rw [sm_op, if_neg (by decide), if_neg (by decide), if_neg (by decide), if_pos rfl, hcA, hcB]) _ ?_
      rw [hcA]
      exact sm_updw hw A rfl
    · refine br_f (by decide) (br_f (by decide) (br_f (by decide) (br_f (by decide) (br_t rfl (pk_eq d 0 (fun hd0 => ?_) (fun hd0 => ?_) rfl rfl hd (by decide))))))
      · refine ⟨pk_in A 4 hA, nm_e (sm_200 (by decide) (by decide) (by decide) (by decide) ?_)⟩
        refine h1 (upd w A (w B)) (by rw [sm_op, if_neg (by decide), if_neg (by decide), if_neg (by decide), if_neg (by decide), if_pos rfl, if_pos hd0, hcA, hcB]) _ ?_
        rw [hcA]
        exact sm_updw hw A rfl
      · refine ⟨pk_in A 4 hA, nm_e (sm_200 (by decide) (by decide) (by decide) (by decide) ?_)⟩
        refine h1 w (by rw [sm_op, if_neg (by decide), if_neg (by decide), if_neg (by decide), if_neg (by decide), if_pos rfl, if_neg hd0]) _ ?_
        rw [hcA]
        intro v hv
        show (if v = A then w A else vs v) = w v
        by_cases hv2 : v = A
        · rw [if_pos hv2, hv2]
        · rw [if_neg hv2, hw v hv]
    · refine br_f (by decide) (br_f (by decide) (br_f (by decide) (br_f (by decide) (br_f (by decide) (br_f (by decide) (br_f (by decide) (br_t rfl (br_c (fun hle => ?_) (fun hnle => ?_)))))))))
      · exact h0 (by rw [sm_op_t (Or.inl rfl) hA hB, if_neg]; show ¬ decide (w A < w B) = true; rw [decide_eq_false (Int32.not_lt.mpr hle)]; decide) vs
      · exact h1 w (by rw [sm_op_t (Or.inl rfl) hA hB, if_pos]; exact decide_eq_true (Int32.not_le.mp hnle)) vs hw
    · refine br_f (by decide) (br_f (by decide) (br_f (by decide) (br_f (by decide) (br_f (by decide) (br_f (by decide) (br_f (by decide) (br_f (by decide) (br_t rfl (br_c (fun he => ?_) (fun hne => ?_))))))))))
      · exact h1 w (by rw [sm_op_t (Or.inr (Or.inl rfl)) hA hB, if_pos]; exact decide_eq_true he) vs hw
      · exact h0 (by rw [sm_op_t (Or.inr (Or.inl rfl)) hA hB, if_neg]; show ¬ decide (w A = w B) = true; rw [decide_eq_false hne]; decide) vs
    · refine br_f (by decide) (br_f (by decide) (br_f (by decide) (br_f (by decide) (br_f (by decide) (br_f (by decide) (br_f (by decide) (br_f (by decide) (br_f (by decide) (br_t rfl (br_c (fun he => ?_) (fun hne => ?_)))))))))))
      · exact h0 (by rw [sm_op_t (Or.inr (Or.inr rfl)) hA hB, if_neg]; show ¬ (!decide (w A = w B)) = true; rw [decide_eq_true he]; decide) vs
      · exact h1 w (by rw [sm_op_t (Or.inr (Or.inr rfl)) hA hB, if_pos]; show (!decide (w A = w B)) = true; rw [decide_eq_false hne]; rfl) vs hw
    · refine br_f (by decide) (br_f (by decide) (br_f (by decide) (br_f (by decide) (br_f (by decide) (br_t rfl (pk_eq d 0 (fun hd0 => ?_) (fun hd0 => ?_) rfl rfl hd (by decide)))))))
      · refine ⟨pk_in A 4 hA, pk_in A 4 hA, nm_e (sm_200 (by decide) (by decide) (by decide) (by decide) ?_)⟩
        refine h1 (upd w A (w A + 1)) (by rw [sm_op, if_neg (by decide), if_neg (by decide), if_neg (by decide), if_neg (by decide), if_neg (by decide), if_pos rfl, if_pos hd0, hcA]) _ ?_
        rw [hcA]
        exact sm_updw hw A (by rw [hw A hA])
      · refine ⟨hin3, hin3, nm_e (sm_200 (by decide) (by decide) (by decide) (by decide) ?_)⟩
        refine h1 (upd w B (w B + 1)) (by rw [sm_op, if_neg (by decide), if_neg (by decide), if_neg (by decide), if_neg (by decide), if_neg (by decide), if_pos rfl, if_neg hd0, hcB]) _ ?_
        rw [h3, hcB]
        exact sm_updw hw B (by rw [hw B hB])
theorem sm_carry8 {post : Int32 → SY → Prop} {sz x2 x3 y : Int32} {K T O As Bs Cs vs fs : Nat → Int32} {n i : Nat} (hG : sm_G K T O n) (hY : sm_Y K T O As Bs Cs n) (hi : i < n) (h8 : K i = 8) (hy : y = if 0 ≤ fs i then fs i else x3)
    (h1 : y = x3 → post 1 (sz, K, As, Bs, Cs, vs, upd fs i y)) (h0 : ¬ y = x3 → post 0 (sz, K, As, Bs, Cs, vs, upd fs i y)) : wpY_carryOut post (sz, K, As, Bs, Cs, vs, fs) (nI i) x2 x3 := by
  have hn := hG.1
  have hin : vp_in (nI i) 14 := vp_in_nI (by omega) (by decide)
  have hc : (nI i).toNatClampNeg = i := nI_clamp (by omega)
  have eA : As (nI i).toNatClampNeg = 0 := by
    rw [hc, (hY i hi).1, if_pos h8]
  have eK : K (nI i).toNatClampNeg = 8 := by rw [hc, h8]
  have h00 : vp_in (0 : Int32) 4 := vp_in_nI (n := 0) (by decide) (by decide)
  have hs : upd fs i y i = y := if_pos rfl
  have key : ∀ z, z = y → wY_carryOut_231 post (nI i) x3 z (nI i) sz K As Bs Cs vs fs := by
    intro z hz
    subst hz
    refine ⟨hin, nm_r (e' := upd fs i z) (by rw [hc]) ⟨hin, ?_⟩⟩
    rw [hc, hs]
    exact br_c h1 h0
  refine ⟨hin, nm_r eK ⟨hin, nm_r eA ⟨hin, nm_e ⟨h00, nm_e (br_f (by decide) (br_t rfl (br_f (by decide) (br_f (by decide) (br_f (by decide) (br_f (by decide) (br_f (by decide) (br_f (by decide) (br_t rfl ⟨hin, ?_⟩)))))))))⟩⟩⟩⟩
  rw [hc]
  by_cases hp : 0 ≤ fs i
  · rw [if_pos hp] at hy
    exact br_t hp ⟨hin, key _ hy.symm⟩
  · rw [if_neg hp] at hy
    exact br_f hp (key _ hy.symm)
