/-! the cells hold a list of ways; copies and stores -/
def sm_H (c : Nat → Int32) : Nat → List (Nat → Int32) → Prop
  | _, [] => True
  | i, w :: t => (∀ v, v < 4 → c (4 * i + v) = w v) ∧ sm_H c (i + 1) t
theorem sm_H_app {c : Nat → Int32} : ∀ (A B : List (Nat → Int32)) (i : Nat), sm_H c i A → sm_H c (i + A.length) B → sm_H c i (A ++ B) := by
  intro A
  induction A with
  | nil => intro B i _ h; exact h
  | cons w t ih =>
    intro B i h1 h2
    refine ⟨h1.1, ih B (i + 1) h1.2 ?_⟩
    rw [List.length_cons] at h2
    rw [show i + 1 + t.length = i + (t.length + 1) from by omega]
    exact h2
theorem sm_H_get {c : Nat → Int32} : ∀ (L : List (Nat → Int32)) (i : Nat), sm_H c i L → ∀ k w, L[k]? = some w → ∀ v, v < 4 → c (4 * (i + k) + v) = w v := by
  intro L
  induction L with
  | nil => intro i _ k w h; simp at h
  | cons a t ih =>
    intro i h k w e v hv
    cases k with
    | zero =>
      have e' : a = w := by simpa using e
      rw [← e']
      exact h.1 v hv
    | succ k =>
      rw [List.getElem?_cons_succ] at e
      have := ih (i + 1) h.2 k w e v hv
      rw [show i + 1 + k = i + (k + 1) from by omega] at this
      exact this
theorem sm_H_of {c : Nat → Int32} : ∀ (L : List (Nat → Int32)) (i : Nat), (∀ k w, L[k]? = some w → ∀ v, v < 4 → c (4 * (i + k) + v) = w v) → sm_H c i L := by
  intro L
  induction L with
  | nil => intro i _; exact True.intro
  | cons a t ih =>
    intro i h
    refine ⟨fun v hv => h 0 a rfl v hv, ih (i + 1) (fun k w e v hv => ?_)⟩
    have := h (k + 1) w (by rw [List.getElem?_cons_succ]; exact e) v hv
    rw [show i + 1 + k = i + (k + 1) from by omega]
    exact this
theorem sm_H_congr {c c' : Nat → Int32} : ∀ (L : List (Nat → Int32)) (i : Nat), (∀ x, 4 * i ≤ x → x < 4 * (i + L.length) → c' x = c x) → sm_H c i L → sm_H c' i L := by
  intro L
  induction L with
  | nil => intro i _ _; exact True.intro
  | cons a t ih =>
    intro i h h1
    rw [List.length_cons] at h
    refine ⟨fun v hv => ?_, ih (i + 1) (fun x h2 h3 => h x (by omega) (by omega)) h1.2⟩
    rw [h _ (by omega) (by omega)]
    exact h1.1 v hv
/-- the cells of a program's ways, where every way becomes m ways -/
theorem sm_H_flat {c : Nat → Int32} {m : Nat} {f : (Nat → Int32) → Nat → Option (Nat → Int32)} {g : (Nat → Int32) → Nat → Nat → Int32} (hf : ∀ w d, d < m → f w d = some (g w d)) : ∀ (L : List (Nat → Int32)) (i : Nat), (∀ k w, L[k]? = some w → ∀ d, d < m → ∀ v, v < 4 → c (4 * ((i + k) * m + d) + v) = g w d v) → sm_H c (i * m) (L.flatMap (fun w => sm_lf (f w) 0 m)) ∧ (L.flatMap (fun w => sm_lf (f w) 0 m)).length = L.length * m := by
  intro L
  induction L with
  | nil => intro i _; exact ⟨True.intro, by simp⟩
  | cons a t ih =>
    intro i h
    have ⟨t1, t2⟩ := sm_lf_tot (f := f a) (g := g a) m 0 (fun d hd => by rw [Nat.zero_add]; exact hf a d hd)
    have ⟨i1, i2⟩ := ih (i + 1) (fun k w e d hd v hv => by
      have := h (k + 1) w (by rw [List.getElem?_cons_succ]; exact e) d hd v hv
      rw [show i + 1 + k = i + (k + 1) from by omega]
      exact this)
    rw [List.flatMap_cons]
    constructor
    · refine sm_H_app _ _ _ (sm_H_of _ _ (fun k w e v hv => ?_)) (by rw [t1, ← Nat.succ_mul]; exact i1)
      have hk : k < m := by
        rw [← t1]
        exact (List.getElem?_eq_some_iff.mp e).1
      have e' := t2 k hk
      rw [e, Nat.zero_add] at e'
      rw [Option.some.inj e']
      exact h 0 a rfl k hk v hv
    · rw [List.length_append, t1, i2, List.length_cons, Nat.succ_mul, Nat.add_comm]
/-- the cells after t cells of way fr were copied to way to -/
def sm_cp (c : Nat → Int32) (to fr t : Nat) : Nat → Int32 := fun x => if 4 * to ≤ x ∧ x < 4 * to + t then c (4 * fr + (x - 4 * to)) else c x
theorem sm_cp_0 (c : Nat → Int32) (to fr : Nat) : sm_cp c to fr 0 = c := by
  funext x
  exact if_neg (by omega)
theorem sm_cp_s (c : Nat → Int32) (to fr t : Nat) (ht : t < 4) : upd (sm_cp c to fr t) (4 * to + t) (sm_cp c to fr t (4 * fr + t)) = sm_cp c to fr (t + 1) := by
  have e : sm_cp c to fr t (4 * fr + t) = c (4 * fr + t) := if_neg (by omega)
  funext x
  rw [e]
  show (if x = 4 * to + t then _ else (if _ then _ else _)) = (if _ then _ else _)
  by_cases h : x = 4 * to + t
  · rw [if_pos h, if_pos (by omega), show x - 4 * to = t from by omega]
  · rw [if_neg h]
    by_cases h2 : 4 * to ≤ x ∧ x < 4 * to + t
    · rw [if_pos h2, if_pos (by omega)]
    · rw [if_neg h2, if_neg (by omega)]
/-- the cells after the ways below i got a value at one place each -/
def sm_wr (c : Nat → Int32) (A : Nat → Nat) (F : Nat → Int32) (i : Nat) : Nat → Int32 := fun x => if x / 4 < i ∧ x % 4 = A (x / 4) then F (x / 4) else c x
theorem sm_wr_0 (c : Nat → Int32) (A : Nat → Nat) (F : Nat → Int32) : sm_wr c A F 0 = c := by
  funext x
  exact if_neg (by omega)
theorem sm_wr_s (c : Nat → Int32) (A : Nat → Nat) (F : Nat → Int32) (i : Nat) (hA : A i < 4) : upd (sm_wr c A F i) (4 * i + A i) (F i) = sm_wr c A F (i + 1) := by
  funext x
  show (if x = 4 * i + A i then F i else (if _ then _ else _)) = (if _ then _ else _)
  by_cases h : x = 4 * i + A i
  · have h4 : x / 4 = i := by omega
    rw [if_pos h, if_pos (by rw [h4]; omega), h4]
  · rw [if_neg h]
    by_cases h2 : x / 4 < i ∧ x % 4 = A (x / 4)
    · rw [if_pos h2, if_pos ⟨by omega, h2.2⟩]
    · rw [if_neg h2, if_neg (fun z => ?_)]
      by_cases h4 : x / 4 = i
      · rw [h4] at z
        exact h (by omega)
      · exact h2 ⟨by omega, z.2⟩
theorem sm_wr_r (c : Nat → Int32) (A : Nat → Nat) (F : Nat → Int32) (i j v : Nat) (hv : v < 4) (h : i ≤ j) : sm_wr c A F i (4 * j + v) = c (4 * j + v) := if_neg (by omega)
theorem sm_wr_v (c : Nat → Int32) (A : Nat → Nat) (F : Nat → Int32) (i j v : Nat) (hv : v < 4) (h : j < i) : sm_wr c A F i (4 * j + v) = if v = A j then F j else c (4 * j + v) := by
  have h4 : (4 * j + v) / 4 = j := by omega
  have h5 : (4 * j + v) % 4 = v := by omega
  show (if (4 * j + v) / 4 < i ∧ (4 * j + v) % 4 = A ((4 * j + v) / 4) then F ((4 * j + v) / 4) else c (4 * j + v)) = _
  rw [h4, h5]
  by_cases e : v = A j
  · rw [if_pos ⟨h, e⟩, if_pos e]
  · rw [if_neg (fun z => e z.2), if_neg e]
theorem sm_ix (a i : Nat) : nI a * 4 + nI i = nI (4 * a + i) := by
  show nI a * nI 4 + nI i = _
  rw [pk_mul, nI_add, Nat.mul_comm]
theorem sm_sub1 (x : Int32) : x - 1 = x + (-1) := Int32.sub_eq_add_neg x 1
