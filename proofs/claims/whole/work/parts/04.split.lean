/-! split: every way m times, from the last to the first -/
theorem sm_cp_in {c : Nat → Int32} {to fr t x : Nat} (h : 4 * to ≤ x ∧ x < 4 * to + t) : sm_cp c to fr t x = c (4 * fr + (x - 4 * to)) := if_pos h
theorem sm_cp_out {c : Nat → Int32} {to fr t x : Nat} (h : ¬ (4 * to ≤ x ∧ x < 4 * to + t)) : sm_cp c to fr t x = c x := if_neg h
theorem sm_s29 {post : SX → Prop} {J7 J15 : Int32 → (Nat → Int32) → (Nat → Int32) → (Nat → Int32) → (Nat → Int32) → Prop} {x1 x3 sc wc : Int32} {K T O : Nat → Int32} (c : Nat → Int32) (to fr : Nat) (ht : to < 2197) (hf : fr < 2197) (h : J15 (x3 + (-1)) K T O (sm_cp c to fr 4)) : ∃ n, wX_split_29 post J7 J15 x1 (nI fr) x3 (nI to) sc wc n 0 K T O c :=
  loop_0 (fun n i s => wX_split_29 post J7 J15 x1 (nI fr) x3 (nI to) sc wc n (nI i) K T O s) (fun i s => s = sm_cp c to fr i) 4 c (sm_cp_0 c to fr).symm
    (fun n s e => by subst e; exact br_t (nI_le (b := 4) (Nat.le_refl 4) (by decide)) (nm_e h))
    (fun n i s hi e ih => by
      subst e
      refine br_f (nI_ge (b := 4) hi (by decide)) ⟨pk_in (4 * fr + i) 8788 (by omega) (sm_ix _ _), pk_in (4 * to + i) 8788 (by omega) (sm_ix _ _), nm_r ?_ (nm_r (nI_1 i) (ih _ rfl))⟩
      rw [sm_ix, sm_ix, nI_clamp (by omega), nI_clamp (by omega)]
      exact sm_cp_s c to fr i hi)
theorem sm_neg1 : nI 0 + (-1) < (0 : Int32) := by decide
theorem sm_s15 {post : SX → Prop} {J7 : Int32 → (Nat → Int32) → (Nat → Int32) → (Nat → Int32) → (Nat → Int32) → Prop} {sc wc : Int32} {K T O : Nat → Int32} (c0 c : Nat → Int32) (N m way : Nat) (hm : 0 < m) (hw : way < N) (hN : N * m ≤ 2197)
    (p1 : ∀ x, 4 * (way * m + m) ≤ x → x < 4 * (N * m) → c x = c0 (4 * (x / 4 / m) + x % 4)) (p2 : ∀ x, x < 4 * (way + 1) → c x = c0 x)
    (h : ∀ c', (∀ x, 4 * (way * m) ≤ x → x < 4 * (N * m) → c' x = c0 (4 * (x / 4 / m) + x % 4)) → (∀ x, x < 4 * (way + 1) → c' x = c0 x) → J7 (nI way + (-1)) K T O c') :
    wX_split_15 post J7 (nI m) (nI way) sc wc (m + 1) (nI m + (-1)) K T O c := by
  refine pk_loopD (fun n s c' => wX_split_15 post J7 (nI m) (nI way) sc wc n (nI s + (-1)) K T O c') (fun s c' => s ≤ m ∧ (∀ x, 4 * (way * m + s) ≤ x → x < 4 * (N * m) → c' x = c0 (4 * (x / 4 / m) + x % 4)) ∧ (∀ x, x < 4 * (way + 1) → c' x = c0 x)) ?_ ?_ m c ⟨Nat.le_refl m, p1, p2⟩
  · intro n c' ⟨_, q1, q2⟩
    exact br_t sm_neg1 (nm_e (h c' q1 q2))
  · intro n s c' ⟨hs, q1, q2⟩ ih
    show wX_split_15 post J7 (nI m) (nI way) sc wc (n + 1) (nI (s + 1) + (-1)) K T O c'
    rw [pk_m1]
    have h1 : (way + 1) * m ≤ N * m := Nat.mul_le_mul_right m hw
    rw [Nat.succ_mul] at h1
    have h2 : way ≤ way * m := Nat.le_mul_of_pos_right way hm
    have h3 : (way * m + s) / m = way := (sm_dm (by omega)).1
    refine br_f (nI_pos (by omega)) (nm_r (by rw [pk_mul, nI_add]) (sm_s29 c' (way * m + s) way (by omega) (by omega) (ih _ ⟨by omega, ?_, ?_⟩)))
    · intro x hx1 hx2
      by_cases hb : x < 4 * (way * m + s) + 4
      · rw [sm_cp_in ⟨hx1, hb⟩, q2 _ (by omega), show x / 4 = way * m + s from by omega, h3, show x % 4 = x - 4 * (way * m + s) from by omega]
      · rw [sm_cp_out (by omega)]
        exact q1 x (by omega) hx2
    · intro x hx
      by_cases hb : 4 * (way * m + s) ≤ x ∧ x < 4 * (way * m + s) + 4
      · rw [sm_cp_in hb, show 4 * way + (x - 4 * (way * m + s)) = x from by omega]
        exact q2 x hx
      · rw [sm_cp_out hb]
        exact q2 x hx
theorem sm_s7 {post : SX → Prop} {sc : Int32} {K T O : Nat → Int32} (c : Nat → Int32) (N m : Nat) (hm : 0 < m) (hN : N * m ≤ 2197)
    (h : ∀ c', (∀ x, x < 4 * (N * m) → c' x = c (4 * (x / 4 / m) + x % 4)) → post (sc, nI (N * m), K, T, O, c')) :
    wX_split_7 post (nI m) sc (nI N) (N + 1) (nI N + (-1)) K T O c := by
  refine pk_loopD (fun n s c' => wX_split_7 post (nI m) sc (nI N) n (nI s + (-1)) K T O c') (fun s c' => s ≤ N ∧ (∀ x, 4 * (s * m) ≤ x → x < 4 * (N * m) → c' x = c (4 * (x / 4 / m) + x % 4)) ∧ (∀ x, x < 4 * s → c' x = c x)) ?_ ?_ N c ⟨Nat.le_refl N, fun x h1 h2 => absurd h2 (by omega), fun x _ => rfl⟩
  · intro n c' ⟨_, q1, q2⟩
    exact br_t sm_neg1 (nm_r (pk_mul N m) (h c' (fun x hx => q1 x (by rw [Nat.zero_mul]; omega) hx)))
  · intro n s c' ⟨hs, q1, q2⟩ ih
    show wX_split_7 post (nI m) sc (nI N) (n + 1) (nI (s + 1) + (-1)) K T O c'
    rw [pk_m1]
    have h0 : N ≤ N * m := Nat.le_mul_of_pos_right N hm
    rw [show (s + 1) * m = s * m + m from Nat.succ_mul s m] at q1
    exact br_f (nI_pos (by omega)) (nm_r (sm_sub1 (nI m)) ⟨m + 1, sm_s15 c c' N m s hm (by omega) hN q1 q2 (fun c'' r1 r2 => ih c'' ⟨by omega, r1, fun x hx => r2 x (by omega)⟩)⟩)
theorem sm_split {post : SX → Prop} {sc : Int32} {K T O : Nat → Int32} (c : Nat → Int32) (N m : Nat) (hm : 0 < m) (hN : N * m ≤ 2197)
    (h : ∀ c', (∀ x, x < 4 * (N * m) → c' x = c (4 * (x / 4 / m) + x % 4)) → post (sc, nI (N * m), K, T, O, c')) :
    wpX_split post (sc, nI N, K, T, O, c) (nI m) :=
  nm_r (sm_sub1 (nI N)) ⟨N + 1, sm_s7 c N m hm hN h⟩
