/-! the reference's run of one code -/
def sm_f (K T O : Nat → Int32) (n c : Nat) (fs : Nat → Int32) (i : Nat) : Prop := K i = 8 →
  (∃ p, fs i = nI p ∧ p * sm_P K O (i + 1) (n - i - 1) < c ∧ (∃ w, sm_R K T O i p = some w) ∧ ∀ q, q < p → sm_R K T O i q = none)
  ∨ (fs i = -1 ∧ ∀ p, p * sm_P K O (i + 1) (n - i - 1) < c → sm_R K T O i p = none)
theorem sm_f_congr {K T O : Nat → Int32} {n c : Nat} {fs fs' : Nat → Int32} {i : Nat} (e : fs' i = fs i) (h : sm_f K T O n c fs i) : sm_f K T O n c fs' i := by
  intro h8
  rcases h h8 with ⟨p, e1, h2⟩ | ⟨e1, h2⟩
  · exact Or.inl ⟨p, e.trans e1, h2⟩
  · exact Or.inr ⟨e.trans e1, h2⟩
theorem sm_f_up {K T O : Nat → Int32} {n c : Nat} {fs : Nat → Int32} {i : Nat} (hl : 0 < sm_P K O (i + 1) (n - i - 1)) (hR : K i = 8 → sm_R K T O i (c / sm_P K O (i + 1) (n - i - 1)) = none) (h : sm_f K T O n c fs i) : sm_f K T O n (c + 1) fs i := by
  intro h8
  rcases h h8 with ⟨p, e1, h2, h3⟩ | ⟨e1, h2⟩
  · exact Or.inl ⟨p, e1, by omega, h3⟩
  · refine Or.inr ⟨e1, fun p hp => ?_⟩
    by_cases hlt : p * sm_P K O (i + 1) (n - i - 1) < c
    · exact h2 p hlt
    · have e : p * sm_P K O (i + 1) (n - i - 1) = c := by omega
      have h4 := hR h8
      rw [← e, Nat.mul_div_cancel _ hl] at h4
      exact h4
theorem sm_R8_first {K T O : Nat → Int32} {i p : Nat} {w : Nat → Int32} (h8 : K i = 8) (h : sm_R K T O i p = some w) (hq : ∀ q, q < p → sm_R K T O i q = none) : sm_R K T O (i + 1) p = some w := by
  rw [sm_R, sm_nx, if_pos h8, sm_lf_none p 0 (fun d hd => by rw [Nat.zero_add]; exact hq d hd)]
  exact h
theorem sm_R8_not {K T O : Nat → Int32} {i p q : Nat} {w : Nat → Int32} (h8 : K i = 8) (hq : q < p) (h : sm_R K T O i q = some w) : sm_R K T O (i + 1) p = none := by
  rw [sm_R, sm_nx, if_pos h8]
  cases e : sm_lf (sm_R K T O i) 0 p with
  | nil =>
    have := sm_lf_nil p 0 e q hq
    rw [Nat.zero_add, h] at this
    exact absurd this (by simp)
  | cons a t => rfl
theorem sm_R_none {K T O : Nat → Int32} {i p : Nat} (h : sm_R K T O i (p / sm_o (K i) (O i)) = none) : sm_R K T O (i + 1) p = none := by
  rw [sm_R, sm_nx]
  by_cases h8 : K i = 8
  · rw [if_pos h8]
    rw [h8, show sm_o 8 (O i) = 1 from rfl, Nat.div_one] at h
    cases e : sm_lf (sm_R K T O i) 0 p with
    | nil => exact h
    | cons a t => rfl
  · rw [if_neg h8, h]
theorem sm_R_step {K T O : Nat → Int32} {i p : Nat} {w : Nat → Int32} (h8 : ¬ K i = 8) (h : sm_R K T O i (p / sm_o (K i) (O i)) = some w) : sm_R K T O (i + 1) p = sm_op (K i) (T i) (O i) w (p % sm_o (K i) (O i)) := by
  rw [sm_R, sm_nx, if_neg h8, h]
theorem sm_pc {K O : Nat → Int32} {i m c : Nat} : c / sm_P K O i (m + 1) = c / sm_P K O (i + 1) m / sm_o (K i) (O i) := by
  rw [sm_P, Nat.mul_comm, Nat.div_div_eq_div_mul]
/-- a run that has failed stays failed -/
theorem sm_R_fail {K T O : Nat → Int32} {c : Nat} : ∀ (m i j : Nat), i ≤ j → j ≤ i + m → sm_R K T O i (c / sm_P K O i m) = none → sm_R K T O j (c / sm_P K O j (i + m - j)) = none := by
  intro m
  induction m with
  | zero =>
    intro i j h1 h2 h
    have e : j = i := by omega
    subst e
    rw [show j + 0 - j = 0 from by omega]
    exact h
  | succ m ih =>
    intro i j h1 h2 h
    by_cases e : j = i
    · subst e
      rw [show j + (m + 1) - j = m + 1 from by omega]
      exact h
    · rw [sm_pc] at h
      have := ih (i + 1) j (by omega) (by omega) (sm_R_none h)
      rw [show i + 1 + m = i + (m + 1) from by omega] at this
      exact this
theorem sm_y0 {post : Int32 → SY → Prop} {sz x1 : Int32} {K As Bs Cs vs fs : Nat → Int32} {N f : Nat} {x4 : Int32} (h : post 0 (sz, K, As, Bs, Cs, vs, fs)) : wY_run_25 post x1 (nI N) (f + 1) 0 x4 sz K As Bs Cs vs fs :=
  br_c (fun _ => ⟨rfl, h⟩) (fun _ => br_t rfl ⟨rfl, h⟩)
theorem sm_r25 {post : Int32 → SY → Prop} {sz : Int32} {K T O As Bs Cs : Nat → Int32} {n N c : Nat} (hG : sm_G K T O n) (hY : sm_Y K T O As Bs Cs n) (hN : N ≤ n) (hc : c < 2 ^ 31) (hpos : ∀ i m, i + m = N → 0 < sm_P K O i m)
    (h1 : ∀ w, sm_R K T O N c = some w → ∀ vs' fs', (∀ v, v < 4 → vs' v = w v) → (∀ j, j < N → sm_f K T O N (c + 1) fs' j) → post 1 (sz, K, As, Bs, Cs, vs', fs'))
    (h0 : sm_R K T O N c = none → ∀ vs' fs', (∀ j, j < N → sm_f K T O N (c + 1) fs' j) → post 0 (sz, K, As, Bs, Cs, vs', fs')) :
    ∀ (m i : Nat) (vs fs w : Nat → Int32), i + m = N → sm_R K T O i (c / sm_P K O i m) = some w → (∀ v, v < 4 → vs v = w v) → (∀ j, j < i → sm_f K T O N (c + 1) fs j) → (∀ j, i ≤ j → j < N → sm_f K T O N c fs j) → ∀ f, m + 1 < f → wY_run_25 post (nI c) (nI N) f 1 (nI i) sz K As Bs Cs vs fs := by
  have hn := hG.1
  intro m
  induction m with
  | zero =>
    intro i vs fs w hi hR hw hlo hhi f hf
    cases f with
    | zero => exact absurd hf (Nat.not_lt_zero _)
    | succ f =>
      have e : i = N := by omega
      subst e
      rw [sm_P, Nat.div_one] at hR
      exact br_t (nI_le (Nat.le_refl _) (by omega)) ⟨rfl, h1 w hR vs fs hw hlo⟩
  | succ m ih =>
    intro i vs fs w hi hR hw hlo hhi f hf
    cases f with
    | zero => exact absurd hf (Nat.not_lt_zero _)
    | succ f =>
    cases f with
    | zero => exact absurd hf (by omega)
    | succ f =>
      have hl := hpos (i + 1) m (by omega)
      have hP := hpos i (m + 1) hi
      have hlb := sm_G_P hG (i := i + 1) (m := m) (by omega)
      have hPb := sm_G_P hG (i := i) (m := m + 1) (by omega)
      have ho : 0 < sm_o (K i) (O i) := by
        rw [sm_P] at hP
        exact Nat.pos_of_mul_pos_right hP
      have hob : sm_o (K i) (O i) ≤ 2197 := by
        rw [sm_P] at hPb
        exact Nat.le_trans (Nat.le_mul_of_pos_right _ hl) hPb
      have em : N - i - 1 = m := by omega
      have hdb : c / sm_P K O (i + 1) m ≤ c := Nat.div_le_self _ _
      rw [sm_pc] at hR
      refine br_f (nI_ge (by omega) (by omega)) (br_f (by decide) ?_)
      rw [nI_1 i]
      refine sm_btw hG hY hN (m := m) (by omega) (sm_opt hG hY (by omega) (br_f (nI_nle hl (by omega)) ⟨nI_ne0 hl (by omega), ?_⟩))
      rw [pk_div hc hl (by omega)]
      refine br_f (nI_nle ho (by omega)) ⟨nI_ne0 ho (by omega), ?_⟩
      rw [pk_rem (by omega) ho (by omega)]
      have hfail : sm_R K T O (i + 1) (c / sm_P K O (i + 1) m) = none → ∀ vs' fs', (∀ j, j < i + 1 → sm_f K T O N (c + 1) fs' j) → (∀ j, i + 1 ≤ j → j < N → sm_f K T O N c fs' j) → post 0 (sz, K, As, Bs, Cs, vs', fs') := by
        intro hno vs' fs' q1 q2
        have hall : ∀ j, i + 1 ≤ j → j ≤ N → sm_R K T O j (c / sm_P K O j (N - j)) = none := fun j hj1 hj2 => by
          have := sm_R_fail m (i + 1) j hj1 (by omega) hno
          rw [show i + 1 + m - j = N - j from by omega] at this
          exact this
        refine h0 ?_ vs' fs' (fun j hj => ?_)
        · have := hall N (by omega) (Nat.le_refl N)
          rw [Nat.sub_self, sm_P, Nat.div_one] at this
          exact this
        · by_cases hji : j < i + 1
          · exact q1 j hji
          · refine sm_f_up (hpos (j + 1) (N - j - 1) (by omega)) (fun h8 => ?_) (q2 j (by omega) hj)
            have := hall j (by omega) (by omega)
            rw [show N - j = (N - j - 1) + 1 from by omega, sm_pc, h8, show sm_o 8 (O j) = 1 from rfl, Nat.div_one] at this
            exact this
      by_cases h8 : K i = 8
      · have ho1 : sm_o (K i) (O i) = 1 := by rw [h8]; rfl
        rw [ho1, Nat.div_one] at hR
        have hfi := hhi i (Nat.le_refl i) (by omega) h8
        rw [em] at hfi
        have hup : ∀ (y : Int32) (j : Nat), j ≠ i → upd fs i y j = fs j := fun y j hj => if_neg hj
        have hus : ∀ (y : Int32), upd fs i y i = y := fun y => if_pos rfl
        rcases hfi with ⟨p0, e1, g2, ⟨w0, g3⟩, g4⟩ | ⟨e1, g2⟩
        · have hp0 : p0 ≤ p0 * sm_P K O (i + 1) m := Nat.le_mul_of_pos_right _ hl
          have hy : nI p0 = if 0 ≤ fs i then fs i else nI (c / sm_P K O (i + 1) m) := by
            rw [e1, if_pos (nI_pos' (by omega))]
          have hlo' : ∀ j, j < i + 1 → sm_f K T O N (c + 1) (upd fs i (nI p0)) j := fun j hj => by
            by_cases hji : j = i
            · subst hji
              exact fun _ => Or.inl ⟨p0, hus _, by rw [em]; omega, ⟨w0, g3⟩, g4⟩
            · exact sm_f_congr (hup _ j hji) (hlo j (by omega))
          have hhi' : ∀ j, i + 1 ≤ j → j < N → sm_f K T O N c (upd fs i (nI p0)) j := fun j hj1 hj2 => sm_f_congr (hup _ j (by omega)) (hhi j (by omega) hj2)
          refine sm_carry8 hG hY (by omega) h8 hy (fun e => nm_r (nI_1 i) ?_) (fun e => nm_r (nI_1 i) ?_)
          · have e' := (nI_eq (by omega) (by omega)).mp e
            exact ih (i + 1) vs _ w (by omega) (sm_R8_first h8 hR (by rw [← e']; exact g4)) hw hlo' hhi' (f + 1) (by omega)
          · have hne : p0 ≠ c / sm_P K O (i + 1) m := fun z => e (by rw [z])
            have hlt : p0 < c / sm_P K O (i + 1) m := by
              by_cases hge : c / sm_P K O (i + 1) m < p0
              · have := g4 _ hge
                rw [hR] at this
                exact absurd this (by simp)
              · omega
            exact sm_y0 (hfail (sm_R8_not h8 hlt g3) vs _ hlo' hhi')
        · have hy : nI (c / sm_P K O (i + 1) m) = if 0 ≤ fs i then fs i else nI (c / sm_P K O (i + 1) m) := by
            rw [e1, if_neg (by decide)]
          have hdm : c / sm_P K O (i + 1) m * sm_P K O (i + 1) m ≤ c := Nat.div_mul_le_self _ _
          have hfst : ∀ q, q < c / sm_P K O (i + 1) m → sm_R K T O i q = none := fun q hq => g2 q (by
            have : (q + 1) * sm_P K O (i + 1) m ≤ c / sm_P K O (i + 1) m * sm_P K O (i + 1) m := Nat.mul_le_mul_right _ hq
            rw [Nat.add_mul, Nat.one_mul] at this
            omega)
          refine sm_carry8 hG hY (by omega) h8 hy (fun _ => nm_r (nI_1 i) ?_) (fun e => absurd rfl e)
          refine ih (i + 1) vs _ w (by omega) (sm_R8_first h8 hR hfst) hw (fun j hj => ?_) (fun j hj1 hj2 => sm_f_congr (hup _ j (by omega)) (hhi j (by omega) hj2)) (f + 1) (by omega)
          by_cases hji : j = i
          · subst hji
            exact fun _ => Or.inl ⟨_, hus _, by rw [em]; omega, ⟨w, hR⟩, hfst⟩
          · exact sm_f_congr (hup _ j hji) (hlo j (by omega))
      · have hst := sm_R_step h8 hR
        have hlo' : ∀ j, j < i + 1 → sm_f K T O N (c + 1) fs j := fun j hj => by
          by_cases hji : j = i
          · subst hji
            exact fun z => absurd z h8
          · exact hlo j (by omega)
        have hhi' : ∀ j, i + 1 ≤ j → j < N → sm_f K T O N c fs j := fun j hj1 hj2 => hhi j (by omega) hj2
        have hmb : c / sm_P K O (i + 1) m % sm_o (K i) (O i) ≤ c / sm_P K O (i + 1) m := Nat.mod_le _ _
        exact sm_carry hG hY (by omega) (by omega) hw h8
          (fun w' hop vs' hw' => nm_r (nI_1 i) (ih (i + 1) vs' fs w' (by omega) (hst.trans hop) hw' hlo' hhi' (f + 1) (by omega)))
          (fun hop vs' => nm_r (nI_1 i) (sm_y0 (hfail (hst.trans hop) vs' fs hlo' hhi')))
theorem sm_yrun {post : Int32 → SY → Prop} {sz : Int32} {K T O As Bs Cs vs fs : Nat → Int32} {n N c : Nat} (hG : sm_G K T O n) (hY : sm_Y K T O As Bs Cs n) (hN : N ≤ n) (hc : c < sm_P K O 0 N) (hf : ∀ j, j < N → sm_f K T O N c fs j)
    (h1 : ∀ w, sm_R K T O N c = some w → ∀ vs' fs', (∀ v, v < 4 → vs' v = w v) → (∀ j, j < N → sm_f K T O N (c + 1) fs' j) → post 1 (sz, K, As, Bs, Cs, vs', fs'))
    (h0 : sm_R K T O N c = none → ∀ vs' fs', (∀ j, j < N → sm_f K T O N (c + 1) fs' j) → post 0 (sz, K, As, Bs, Cs, vs', fs')) :
    wpY_run post (sz, K, As, Bs, Cs, vs, fs) (nI c) (nI N) := by
  have hb := sm_G_P hG (i := 0) (m := N) (by omega)
  have hpos : ∀ i m, i + m = N → 0 < sm_P K O i m := fun i m him => by
    have e := sm_P_add K O i m 0
    rw [him, Nat.zero_add] at e
    rw [e] at hc
    exact Nat.pos_of_mul_pos_left (Nat.lt_of_le_of_lt (Nat.zero_le c) hc)
  exact loop_0 (fun n i s => wY_run_2 post (nI c) (nI N) sz n (nI i) K As Bs Cs s fs) (fun i s => s = sm_z vs 0 i) 4 vs (sm_z_0 vs 0).symm
    (fun n s e => by
      subst e
      exact br_t (nI_le (b := 4) (Nat.le_refl 4) (by decide)) ⟨N + 2, sm_r25 hG hY hN (by omega) hpos h1 h0 N 0 (sm_z vs 0 4) fs (fun _ => 0) (Nat.zero_add N) rfl (fun v hv => sm_z_v hv) (fun j hj => absurd hj (Nat.not_lt_zero _)) (fun j _ hj => hf j hj) (N + 2) (by omega)⟩)
    (fun n i s hi e ih => by
      subst e
      refine br_f (nI_ge (b := 4) hi (by decide)) ⟨pk_in i 4 (by omega), nm_r ?_ (nm_r (nI_1 i) (ih _ rfl))⟩
      rw [nI_clamp (by omega)]
      exact sm_z_s vs 0 i)
theorem sm_begin {post : SY → Prop} {sz : Int32} {K T O As Bs Cs vs fs : Nat → Int32} {N : Nat} (hN : N ≤ 14) (h : ∀ fs', (∀ j, j < N → sm_f K T O N 0 fs' j) → post (sz, K, As, Bs, Cs, vs, fs')) : wpY_begin post (sz, K, As, Bs, Cs, vs, fs) :=
  loop_0 (fun n i s => wY_begin_2 post sz n (nI i) K As Bs Cs vs s) (fun i s => s = sm_z fs (-1) i) 14 fs (sm_z_0 fs (-1)).symm
    (fun n s e => by
      subst e
      exact br_t (nI_le (b := 14) (Nat.le_refl 14) (by decide)) (h _ (fun j hj _ => Or.inr ⟨sm_z_v (by omega), fun p hp => absurd hp (Nat.not_lt_zero _)⟩)))
    (fun n i s hi e ih => by
      subst e
      refine br_f (nI_ge (b := 14) hi (by decide)) ⟨pk_in i 14 (by omega), nm_r ?_ (nm_r (nI_1 i) (ih _ rfl))⟩
      rw [nI_clamp (by omega)]
      exact sm_z_s fs (-1) i)
