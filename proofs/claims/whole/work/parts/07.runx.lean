/-! a step of the component, and its run -/
theorem sm_do {post : SX → Prop} {sc : Int32} {K T O : Nat → Int32} (c : Nat → Int32) (L : List (Nat → Int32)) {k a b : Int32} (hok : sm_ok k a b) (hN : L.length * sm_o k b ≤ 2197) (hL : L.length ≤ 2197) (hH : sm_H c 0 L)
    (h : ∀ c', sm_H c' 0 (sm_nl k a b L) → post (sc, nI (sm_nl k a b L).length, K, T, O, c')) : wpX_doStep post (sc, nI L.length, K, T, O, c) k a b := by
  rcases hok with rfl | ⟨rfl, A, lo, hi, hA, hl, hh, rfl, e1, e2⟩ | ⟨rfl, A, hA, rfl⟩ | ⟨hk, A, B, hA, hB, rfl, rfl⟩
  · exact br_f (by decide) (br_f (by decide) (br_f (by decide) (br_f (by decide) (br_f (by decide) (br_f (by decide) (br_f (by decide) (br_f (by decide) (br_f (by decide) (br_f (by decide) (br_t rfl (sm_x8 c L a b hL hH h)))))))))))
  · exact br_f (by decide) (br_f (by decide) (br_t rfl (sm_x0 c L b A lo hi hA hl hh e1 e2 hN hH h)))
  · exact br_f (by decide) (br_f (by decide) (br_f (by decide) (br_t rfl (sm_x1 c L b A hA hL hH h))))
  · rcases hk with rfl | rfl | rfl | rfl | rfl | rfl | rfl
    · exact br_f (by decide) (br_f (by decide) (br_f (by decide) (br_f (by decide) (br_t rfl (sm_x2 c L A B hA hB hL hH h)))))
    · exact br_f (by decide) (br_f (by decide) (br_f (by decide) (br_f (by decide) (br_f (by decide) (br_t rfl (sm_x3 c L A B hA hB hL hH h))))))
    · exact br_f (by decide) (br_f (by decide) (br_f (by decide) (br_f (by decide) (br_f (by decide) (br_f (by decide) (br_t rfl (sm_x4 c L A B hA hB hN hH h)))))))
    · exact br_f (by decide) (br_f (by decide) (br_f (by decide) (br_f (by decide) (br_f (by decide) (br_f (by decide) (br_f (by decide) (br_t rfl (sm_x567 c L A B (Or.inl rfl) hA hB hL hH h))))))))
    · exact br_f (by decide) (br_f (by decide) (br_f (by decide) (br_f (by decide) (br_f (by decide) (br_f (by decide) (br_f (by decide) (br_f (by decide) (br_t rfl (sm_x567 c L A B (Or.inr (Or.inl rfl)) hA hB hL hH h)))))))))
    · exact br_f (by decide) (br_f (by decide) (br_f (by decide) (br_f (by decide) (br_f (by decide) (br_f (by decide) (br_f (by decide) (br_f (by decide) (br_f (by decide) (br_t rfl (sm_x567 c L A B (Or.inr (Or.inr rfl)) hA hB hL hH h))))))))))
    · exact br_f (by decide) (br_f (by decide) (br_f (by decide) (br_f (by decide) (br_f (by decide) (br_f (by decide) (br_f (by decide) (br_f (by decide) (br_f (by decide) (br_f (by decide) (br_f (by decide) (br_t rfl (sm_x9 c L A B hA hB hN hH h))))))))))))
theorem sm_r27 {post : SX → Prop} {sc : Int32} {K T O : Nat → Int32} (N : Nat) (hN : N ≤ 14) (hok : ∀ j, j < N → sm_ok (K j) (T j) (O j)) (hP : ∀ j, j ≤ N → sm_P K O 0 j ≤ 2197)
    (h : ∀ c', sm_H c' 0 (sm_L K T O N) → post (sc, nI (sm_L K T O N).length, K, T, O, c')) : ∀ (m j : Nat) (c : Nat → Int32), j + m = N → sm_H c 0 (sm_L K T O j) → ∀ n, m < n → wX_runFirst_27 post (nI N) n (nI j) sc (nI (sm_L K T O j).length) K T O c := by
  intro m
  induction m with
  | zero =>
    intro j c hj hH n hn
    cases n with
    | zero => exact absurd hn (Nat.not_lt_zero _)
    | succ n =>
      have e : j = N := by omega
      rw [e]
      rw [e] at hH
      exact br_t (nI_le (Nat.le_refl N) (by omega)) (h c hH)
  | succ m ih =>
    intro j c hj hH n hn
    cases n with
    | zero => exact absurd hn (Nat.not_lt_zero _)
    | succ n =>
      have hi : vp_in (nI j) 14 := vp_in_nI (by omega) (by decide)
      have l1 := sm_L_len K T O j
      have l2 := hP j (by omega)
      have l3 := hP (j + 1) (by omega)
      rw [sm_P_s] at l3
      have l4 : (sm_L K T O j).length * sm_o (K j) (O j) ≤ sm_P K O 0 j * sm_o (K j) (O j) := Nat.mul_le_mul_right _ l1
      refine br_f (nI_ge (by omega) (by omega)) ⟨hi, hi, hi, ?_⟩
      rw [nI_clamp (show j < 2 ^ 31 by omega)]
      exact sm_do c (sm_L K T O j) (hok j (by omega)) (Nat.le_trans l4 l3) (by omega) hH (fun c' hc' => nm_r (nI_1 j) (ih (j + 1) c' (by omega) hc' n (by omega)))
def sm_z (c : Nat → Int32) (x : Int32) (i : Nat) : Nat → Int32 := fun j => if j < i then x else c j
theorem sm_z_0 (c : Nat → Int32) (x : Int32) : sm_z c x 0 = c := by
  funext j
  exact if_neg (Nat.not_lt_zero _)
theorem sm_z_s (c : Nat → Int32) (x : Int32) (i : Nat) : upd (sm_z c x i) i x = sm_z c x (i + 1) := by
  funext j
  show (if j = i then x else (if j < i then x else c j)) = (if j < i + 1 then x else c j)
  by_cases h : j = i
  · rw [if_pos h, if_pos (by omega)]
  · rw [if_neg h]
    by_cases h2 : j < i
    · rw [if_pos h2, if_pos (by omega)]
    · rw [if_neg h2, if_neg (by omega)]
theorem sm_z_v {c : Nat → Int32} {x : Int32} {i j : Nat} (h : j < i) : sm_z c x i j = x := if_pos h
theorem sm_run {post : SX → Prop} {sc wc : Int32} {K T O : Nat → Int32} (c : Nat → Int32) (N : Nat) (hN : N ≤ 14) (hok : ∀ j, j < N → sm_ok (K j) (T j) (O j)) (hP : ∀ j, j ≤ N → sm_P K O 0 j ≤ 2197)
    (h : ∀ c', sm_H c' 0 (sm_L K T O N) → post (sc, nI (sm_L K T O N).length, K, T, O, c')) : wpX_runFirst post (sc, wc, K, T, O, c) (nI N) :=
  loop_0 (fun n i s => wX_runFirst_2 post (nI N) sc wc n (nI i) K T O s) (fun i s => s = sm_z c 0 i) 4 c (sm_z_0 c 0).symm
    (fun n s e => by
      subst e
      exact br_t (nI_le (b := 4) (Nat.le_refl 4) (by decide)) ⟨N + 1, sm_r27 N hN hok hP h N 0 (sm_z c 0 4) (Nat.zero_add N) ⟨fun v hv => sm_z_v (by omega), True.intro⟩ (N + 1) (Nat.lt_succ_self N)⟩)
    (fun n i s hi e ih => by
      subst e
      refine br_f (nI_ge (b := 4) hi (by decide)) ⟨pk_in i 8788 (by omega), nm_r ?_ (nm_r (nI_1 i) (ih _ rfl))⟩
      rw [nI_clamp (by omega)]
      exact sm_z_s c 0 i)
