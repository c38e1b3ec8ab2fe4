/-! the questions: pure answers, and the component's -/
def sm_G (K T O : Nat → Int32) (n : Nat) : Prop := n ≤ 14 ∧ (∀ j, j < n → sm_ok (K j) (T j) (O j)) ∧ sm_c K 0 n ≤ 3
theorem sm_G_P {K T O : Nat → Int32} {n : Nat} (hG : sm_G K T O n) {i m : Nat} (h : i + m ≤ n) : sm_P K O i m ≤ 2197 := sm_P_b hG.2.1 hG.2.2 i m h
theorem sm_G_L {K T O : Nat → Int32} {n : Nat} (hG : sm_G K T O n) {N : Nat} (h : N ≤ n) : (sm_L K T O N).length ≤ 2197 := Nat.le_trans (sm_L_len K T O N) (sm_G_P hG (by omega))
theorem sm_runG {post : SX → Prop} {sc wc : Int32} {K T O : Nat → Int32} {c : Nat → Int32} {n N : Nat} (hG : sm_G K T O n) (hN : N ≤ n) (h : ∀ c', sm_H c' 0 (sm_L K T O N) → post (sc, nI (sm_L K T O N).length, K, T, O, c')) : wpX_runFirst post (sc, wc, K, T, O, c) (nI N) :=
  sm_run c N (by have := hG.1; omega) (fun j hj => hG.2.1 j (by omega)) (fun j hj => sm_G_P hG (by omega)) h
def sm_cw (v : Nat) (x : Int32) : List (Nat → Int32) → Int32 → Int32
  | [], acc => acc
  | w :: t, acc => if w v = x then sm_cw v x t (acc + 1) else sm_cw v x t acc
def sm_fw (v : Nat) (x : Int32) : List (Nat → Int32) → Nat → Int32
  | [], _ => -1
  | w :: t, i => if w v = x then nI i else sm_fw v x t (i + 1)
def sm_ex (v : Nat) (q : Int32) : List (Nat → Int32) → Int32 → Int32
  | [], e => e
  | w :: t, e => if q = 0 then (if e ≤ w v then sm_ex v q t e else sm_ex v q t (w v)) else (if w v ≤ e then sm_ex v q t e else sm_ex v q t (w v))
def sm_ex0 (v : Nat) (q : Int32) : List (Nat → Int32) → Int32
  | [] => -1000000000
  | w :: t => sm_ex v q t (w v)
def sm_val (v : Nat) (k : Int32) : List (Nat → Int32) → Nat → Int32
  | [], _ => -1000000000
  | w :: t, i => if nI i = k then w v else sm_val v k t (i + 1)
theorem sm_val_neg {v : Nat} {k : Int32} (hk : k < 0) : ∀ (L : List (Nat → Int32)) (i : Nat), i + L.length < 2 ^ 31 → sm_val v k L i = -1000000000 := by
  intro L
  induction L with
  | nil => intro i _; rfl
  | cons w t ih =>
    intro i hi
    rw [List.length_cons] at hi
    rw [sm_val, if_neg (fun z => nI_pos (show i < 2 ^ 31 by omega) (by rw [z]; exact hk))]
    exact ih (i + 1) (by omega)
theorem sm_val_big {v k : Nat} (hk : k < 2 ^ 31) : ∀ (L : List (Nat → Int32)) (i : Nat), i + L.length ≤ k → sm_val v (nI k) L i = -1000000000 := by
  intro L
  induction L with
  | nil => intro i _; rfl
  | cons w t ih =>
    intro i hi
    rw [List.length_cons] at hi
    rw [sm_val, if_neg (fun z => by have := (nI_eq (by omega) hk).mp z; omega)]
    exact ih (i + 1) (by omega)
theorem sm_val_get {v : Nat} : ∀ (L : List (Nat → Int32)) (i j : Nat), i + L.length < 2 ^ 31 → j < L.length → ∃ w, L[j]? = some w ∧ sm_val v (nI (i + j)) L i = w v := by
  intro L
  induction L with
  | nil => intro i j _ hj; exact absurd hj (Nat.not_lt_zero _)
  | cons w t ih =>
    intro i j hi hj
    rw [List.length_cons] at hi hj
    cases j with
    | zero => exact ⟨w, rfl, by rw [sm_val, if_pos (by rw [Nat.add_zero])]⟩
    | succ j =>
      obtain ⟨w', e1, e2⟩ := ih (i + 1) j (by omega) (by omega)
      refine ⟨w', by rw [List.getElem?_cons_succ]; exact e1, ?_⟩
      rw [sm_val, if_neg (fun z => by have := (nI_eq (by omega) (by omega)).mp z; omega), ← e2, show i + 1 + j = i + (j + 1) from by omega]
/-! is it a variable -/
theorem sm_xv0 {post : Int32 → Prop} {v : Int32} (h : v < 0 ∨ 4 ≤ v) (hp : post 0) : wpX_isVariable post v := by
  by_cases h0 : v < 0
  · exact br_t h0 hp
  · exact br_f h0 (br_t (h.resolve_left h0) hp)
theorem sm_xv1 {post : Int32 → Prop} {v : Nat} (h : v < 4) (hp : post 1) : wpX_isVariable post (nI v) :=
  br_f (nI_pos (by omega)) (br_f (nI_ge (b := 4) h (by decide)) hp)
theorem sm_yv0 {post : Int32 → Prop} {u : SY} {v : Int32} (h : v < 0 ∨ 4 ≤ v) (hp : post 0) : wpY_variable post u v := by
  by_cases h0 : v < 0
  · exact br_t h0 hp
  · have h4 := h.resolve_left h0
    obtain ⟨j, hj, rfl⟩ := nI_of h0
    have h5 : 4 ≤ j := (nI_leI (a := 4) (by decide) hj).mp h4
    exact br_f h0 (br_t (nI_lt (a := 3) (by omega) hj) hp)
theorem sm_yv1 {post : Int32 → Prop} {u : SY} {v : Nat} (h : v < 4) (hp : post 1) : wpY_variable post u (nI v) :=
  br_f (nI_pos (by omega)) (br_f (nI_nlt (a := 3) (by omega) (by omega)) hp)
theorem sm_v (v : Int32) : (v < 0 ∨ 4 ≤ v) ∨ ∃ j : Nat, j < 4 ∧ v = nI j := by
  rcases pk_ix v (n := 4) (by decide) with h | h | h
  · exact Or.inl (Or.inl h)
  · exact Or.inl (Or.inr h)
  · exact Or.inr h
/-! the component's loops over the ways -/
theorem sm_xcw {post : Int32 → SX → Prop} {sc x : Int32} {K T O c : Nat → Int32} (v N : Nat) (hv : v < 4) (hN : N ≤ 2197) : ∀ (L : List (Nat → Int32)) (i : Nat) (acc : Int32), i + L.length = N → sm_H c i L → post (sm_cw v x L acc) (sc, nI N, K, T, O, c) → ∀ n, L.length < n → wX_countWith_22 post (nI v) x sc (nI N) K T O c n acc (nI i) := by
  intro L
  induction L with
  | nil =>
    intro i acc hi _ h n hn
    cases n with
    | zero => exact absurd hn (Nat.not_lt_zero _)
    | succ n => exact br_t (nI_le (by rw [← hi]; exact Nat.le_refl _) (by rw [← hi] at hN; exact Nat.lt_of_le_of_lt hN (by decide))) h
  | cons w t ih =>
    intro i acc hi hH h n hn
    rw [List.length_cons] at hi hn
    cases n with
    | zero => exact absurd hn (Nat.not_lt_zero _)
    | succ n =>
      have he : c (nI i * 4 + nI v).toNatClampNeg = w v := by
        rw [sm_ix, nI_clamp (by omega)]
        exact hH.1 v hv
      refine br_f (nI_ge (by omega) (by omega)) ⟨pk_in (4 * i + v) 8788 (by omega) (sm_ix _ _), ?_⟩
      by_cases hx : w v = x
      · rw [sm_cw, if_pos hx] at h
        exact br_t (he.trans hx) (nm_e (nm_r (nI_1 i) (ih (i + 1) (acc + 1) (by omega) hH.2 h n (by omega))))
      · rw [sm_cw, if_neg hx] at h
        exact br_f (fun z => hx (he.symm.trans z)) (nm_r (nI_1 i) (ih (i + 1) acc (by omega) hH.2 h n (by omega)))
theorem sm_xfw {post : Int32 → SX → Prop} {sc x : Int32} {K T O c : Nat → Int32} (v N : Nat) (hv : v < 4) (hN : N ≤ 2197) : ∀ (L : List (Nat → Int32)) (i : Nat), i + L.length = N → sm_H c i L → post (sm_fw v x L i) (sc, nI N, K, T, O, c) → ∀ n, L.length < n → wX_firstWith_19 post (nI v) x sc (nI N) K T O c n (nI i) := by
  intro L
  induction L with
  | nil =>
    intro i hi _ h n hn
    cases n with
    | zero => exact absurd hn (Nat.not_lt_zero _)
    | succ n => exact br_t (nI_le (by rw [← hi]; exact Nat.le_refl _) (by rw [← hi] at hN; exact Nat.lt_of_le_of_lt hN (by decide))) h
  | cons w t ih =>
    intro i hi hH h n hn
    rw [List.length_cons] at hi hn
    cases n with
    | zero => exact absurd hn (Nat.not_lt_zero _)
    | succ n =>
      have he : c (nI i * 4 + nI v).toNatClampNeg = w v := by
        rw [sm_ix, nI_clamp (by omega)]
        exact hH.1 v hv
      refine br_f (nI_ge (by omega) (by omega)) ⟨pk_in (4 * i + v) 8788 (by omega) (sm_ix _ _), ?_⟩
      by_cases hx : w v = x
      · rw [sm_fw, if_pos hx] at h
        exact br_t (he.trans hx) h
      · rw [sm_fw, if_neg hx] at h
        exact br_f (fun z => hx (he.symm.trans z)) (nm_r (nI_1 i) (ih (i + 1) (by omega) hH.2 h n (by omega)))
theorem sm_xex {post : Int32 → SX → Prop} {sc q : Int32} {K T O c : Nat → Int32} (v N : Nat) (hv : v < 4) (hN : N ≤ 2197) : ∀ (L : List (Nat → Int32)) (i : Nat) (e : Int32), i + L.length = N → sm_H c i L → post (sm_ex v q L e) (sc, nI N, K, T, O, c) → ∀ n, L.length < n → wX_extreme_47 post (nI v) q sc (nI N) K T O c n e (nI i) := by
  intro L
  induction L with
  | nil =>
    intro i e hi _ h n hn
    cases n with
    | zero => exact absurd hn (Nat.not_lt_zero _)
    | succ n => exact br_t (nI_le (by rw [← hi]; exact Nat.le_refl _) (by rw [← hi] at hN; exact Nat.lt_of_le_of_lt hN (by decide))) h
  | cons w t ih =>
    intro i e hi hH h n hn
    rw [List.length_cons] at hi hn
    cases n with
    | zero => exact absurd hn (Nat.not_lt_zero _)
    | succ n =>
      have he : c (nI i * 4 + nI v).toNatClampNeg = w v := by
        rw [sm_ix, nI_clamp (by omega)]
        exact hH.1 v hv
      refine br_f (nI_ge (by omega) (by omega)) ⟨pk_in (4 * i + v) 8788 (by omega) (sm_ix _ _), nm_r he ?_⟩
      by_cases hq : q = 0
      · rw [sm_ex, if_pos hq] at h
        refine br_t hq ?_
        by_cases hx : e ≤ w v
        · rw [if_pos hx] at h
          exact br_t hx (nm_r (nI_1 i) (ih (i + 1) e (by omega) hH.2 h n (by omega)))
        · rw [if_neg hx] at h
          exact br_f hx (nm_r (nI_1 i) (ih (i + 1) (w v) (by omega) hH.2 h n (by omega)))
      · rw [sm_ex, if_neg hq] at h
        refine br_f hq ?_
        by_cases hx : w v ≤ e
        · rw [if_pos hx] at h
          exact br_t hx (nm_r (nI_1 i) (ih (i + 1) e (by omega) hH.2 h n (by omega)))
        · rw [if_neg hx] at h
          exact br_f hx (nm_r (nI_1 i) (ih (i + 1) (w v) (by omega) hH.2 h n (by omega)))
/-! the component's questions -/
theorem sm_Xanswers {post : Int32 → SX → Prop} {wc : Int32} {K T O c : Nat → Int32} {n : Nat} (hG : sm_G K T O n) (h : ∀ wc' c', post (nI (sm_L K T O n).length) (nI n, wc', K, T, O, c')) : wpX_answers post (nI n, wc, K, T, O, c) :=
  sm_runG hG (Nat.le_refl n) (fun c' _ => h _ c')
theorem sm_Xways {post : Int32 → SX → Prop} {wc : Int32} {K T O c : Nat → Int32} {n N : Nat} (hG : sm_G K T O n) (hN : N ≤ n) (h : ∀ wc' c', post (nI (sm_L K T O N).length) (nI n, wc', K, T, O, c')) : wpX_ways post (nI n, wc, K, T, O, c) (nI N) := by
  have hn := hG.1
  exact br_f (nI_pos (by omega)) (br_t (nI_le hN (by omega)) (sm_runG hG hN (fun c' _ => h _ c')))
theorem sm_Xvalue {post : Int32 → SX → Prop} {wc k : Int32} {K T O c : Nat → Int32} {n v : Nat} (hG : sm_G K T O n) (hv : v < 4) (h : ∀ wc' c', post (sm_val v k (sm_L K T O n) 0) (nI n, wc', K, T, O, c')) : wpX_value post (nI n, wc, K, T, O, c) k (nI v) := by
  have hl := sm_G_L hG (Nat.le_refl n)
  unfold wpX_value
  dsimp only
  refine sm_xv1 hv ?_
  refine br_f (by decide) ?_
  refine sm_runG hG (Nat.le_refl n) (fun c' hc' => ?_)
  by_cases h0 : k < 0
  · rw [sm_val_neg h0 _ _ (by omega)] at h
    exact br_t h0 (h _ c')
  · obtain ⟨j, hj, rfl⟩ := nI_of h0
    refine br_f h0 (pk_lt j (sm_L K T O n).length (fun hlt => ?_) (fun hge => ?_) rfl rfl hj (by omega))
    · obtain ⟨w, e1, e2⟩ := sm_val_get (v := v) (sm_L K T O n) 0 j (by omega) hlt
      rw [Nat.zero_add] at e2
      have e3 := sm_H_get _ 0 hc' j w e1 v hv
      rw [Nat.zero_add] at e3
      refine ⟨pk_in (4 * j + v) 8788 (by omega) (sm_ix _ _), ?_⟩
      rw [sm_ix, nI_clamp (by omega)]
      dsimp only
      rw [e3, ← e2]
      exact h _ c'
    · rw [sm_val_big hj _ _ (by omega)] at h
      exact h _ c'
theorem sm_Xcount {post : Int32 → SX → Prop} {wc x : Int32} {K T O c : Nat → Int32} {n v : Nat} (hG : sm_G K T O n) (hv : v < 4) (h : ∀ wc' c', post (sm_cw v x (sm_L K T O n) 0) (nI n, wc', K, T, O, c')) : wpX_countWith post (nI n, wc, K, T, O, c) (nI v) x := by
  unfold wpX_countWith
  dsimp only
  refine sm_xv1 hv ?_
  refine br_f (by decide) ?_
  exact (sm_runG hG (Nat.le_refl n) (fun c' hc' => ⟨_, sm_xcw v _ hv (sm_G_L hG (Nat.le_refl n)) (sm_L K T O n) 0 0 (Nat.zero_add _) hc' (h _ c') _ (Nat.lt_succ_self _)⟩))
theorem sm_Xfirst {post : Int32 → SX → Prop} {wc x : Int32} {K T O c : Nat → Int32} {n v : Nat} (hG : sm_G K T O n) (hv : v < 4) (h : ∀ wc' c', post (sm_fw v x (sm_L K T O n) 0) (nI n, wc', K, T, O, c')) : wpX_firstWith post (nI n, wc, K, T, O, c) (nI v) x := by
  unfold wpX_firstWith
  dsimp only
  refine sm_xv1 hv ?_
  refine br_f (by decide) ?_
  exact (sm_runG hG (Nat.le_refl n) (fun c' hc' => ⟨_, sm_xfw v _ hv (sm_G_L hG (Nat.le_refl n)) (sm_L K T O n) 0 (Nat.zero_add _) hc' (h _ c') _ (Nat.lt_succ_self _)⟩))
theorem sm_Xextreme {post : Int32 → SX → Prop} {wc q : Int32} {K T O c : Nat → Int32} {n v : Nat} (hG : sm_G K T O n) (hv : v < 4) (hq : q = 0 ∨ q = 1) (h : ∀ wc' c', post (sm_ex0 v q (sm_L K T O n)) (nI n, wc', K, T, O, c')) : wpX_extreme post (nI n, wc, K, T, O, c) (nI v) q := by
  have hl := sm_G_L hG (Nat.le_refl n)
  have hq0 : ¬ q < 0 := by rcases hq with rfl | rfl <;> decide
  have hq1 : q ≤ 1 := by rcases hq with rfl | rfl <;> decide
  unfold wpX_extreme
  dsimp only
  refine sm_xv1 hv ?_
  refine br_f (by decide) ?_
  refine br_f hq0 ?_
  refine br_t hq1 ?_
  refine sm_runG hG (Nat.le_refl n) (fun c' hc' => ?_)
  revert hl hc' h
  generalize sm_L K T O n = L
  intro h hl hc'
  cases L with
  | nil => exact br_t rfl (h _ c')
  | cons w t =>
    rw [List.length_cons] at hl
    refine br_f (nI_ne0 (by rw [List.length_cons]; omega) (by rw [List.length_cons]; omega)) ⟨pk_in v 8788 (by omega), nm_r (e' := w v) ?_ ⟨_, sm_xex v _ hv (by rw [List.length_cons]; exact hl) t 1 (w v) (by rw [List.length_cons, Nat.add_comm]) hc'.2 (h _ c') _ (Nat.lt_succ_self _)⟩⟩
    rw [nI_clamp (by omega)]
    have := hc'.1 v hv
    rw [Nat.mul_zero, Nat.zero_add] at this
    exact this
