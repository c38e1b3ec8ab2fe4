/-! the steps by which every way becomes m ways: CHOOSE, PICK, EITHER -/
theorem sm_nlH {k a b : Int32} {L : List (Nat → Int32)} {c c' : Nat → Int32} {m : Nat} {g : (Nat → Int32) → Nat → Nat → Int32} (hk : ¬ k = 8) (hm : sm_o k b = m) (hf : ∀ w d, d < m → sm_op k a b w d = some (g w d)) (hH : sm_H c 0 L)
    (hc : ∀ q w, q < L.length → (∀ v, v < 4 → c (4 * q + v) = w v) → ∀ d, d < m → ∀ v, v < 4 → c' (4 * (q * m + d) + v) = g w d v) : sm_H c' 0 (sm_nl k a b L) ∧ (sm_nl k a b L).length = L.length * m := by
  have h := sm_H_flat (c := c') (m := m) (f := fun w => sm_op k a b w) (g := g) hf L 0 (fun q w e d hd v hv => by
    rw [Nat.zero_add]
    refine hc q w (List.getElem?_eq_some_iff.mp e).1 (fun v hv => ?_) d hd v hv
    have := sm_H_get L 0 hH q w e v hv
    rw [Nat.zero_add] at this
    exact this)
  rw [sm_nl, if_neg hk, hm]
  rw [Nat.zero_mul] at h
  exact h
theorem sm_end {post : SX → Prop} {sc : Int32} {K T O c' : Nat → Int32} {L' : List (Nat → Int32)} {M : Nat} (h : ∀ c', sm_H c' 0 L' → post (sc, nI L'.length, K, T, O, c')) (e : sm_H c' 0 L' ∧ L'.length = M) : post (sc, nI M, K, T, O, c') := by
  rw [← e.2]
  exact h c' e.1
/-- what split leaves at way q * m + d -/
theorem sm_spl {c c' : Nat → Int32} {N m : Nat} (h : ∀ x, x < 4 * (N * m) → c' x = c (4 * (x / 4 / m) + x % 4)) {q d v : Nat} (hq : q < N) (hd : d < m) (hv : v < 4) : c' (4 * (q * m + d) + v) = c (4 * q + v) := by
  have h1 : (q + 1) * m ≤ N * m := Nat.mul_le_mul_right m hq
  rw [show (q + 1) * m = q * m + m from Nat.succ_mul q m] at h1
  rw [h _ (by omega), show (4 * (q * m + d) + v) / 4 = q * m + d from by omega, show (4 * (q * m + d) + v) % 4 = v from by omega, (sm_dm hd).1]
theorem sm_lt {q d m N : Nat} (hq : q < N) (hd : d < m) : q * m + d < N * m := by
  have h1 : (q + 1) * m ≤ N * m := Nat.mul_le_mul_right m hq
  rw [show (q + 1) * m = q * m + m from Nat.succ_mul q m] at h1
  omega
theorem sm_c43 {post : SX → Prop} {sc : Int32} {K T O : Nat → Int32} (c : Nat → Int32) (A M m : Nat) (z : Int32) (hA : A < 4) (hm : 0 < m) (hm' : m < 2 ^ 31) (hM : M ≤ 2197) (h : post (sc, nI M, K, T, O, sm_wr c (fun _ => A) (fun i => z + nI (i % m)) M)) : ∃ n, wX_choose_43 post (nI A) z (nI m) sc (nI M) n 0 K T O c :=
  loop_0 (fun n i s => wX_choose_43 post (nI A) z (nI m) sc (nI M) n (nI i) K T O s) (fun i s => s = sm_wr c (fun _ => A) (fun i => z + nI (i % m)) i) M c (sm_wr_0 _ _ _).symm
    (fun n s e => by subst e; exact br_t (nI_le (Nat.le_refl M) (by omega)) h)
    (fun n i s hi e ih => by
      subst e
      refine br_f (nI_ge hi (by omega)) ⟨nI_ne0 hm hm', pk_in (4 * i + A) 8788 (by omega) (sm_ix _ _), nm_r ?_ (nm_r (nI_1 i) (ih _ rfl))⟩
      rw [sm_ix, nI_clamp (by omega), pk_rem (by omega) hm hm']
      exact sm_wr_s c (fun _ => A) (fun i => z + nI (i % m)) i hA)
theorem sm_num : ∀ lo hi : Fin 13, (lo.val ≤ hi.val → ((nI hi.val - 3) - (nI lo.val - 3)) + 1 = nI (hi.val + 1 - lo.val) ∧ nI lo.val - 3 ≤ nI hi.val - 3) ∧ (¬ lo.val ≤ hi.val → ¬ (1 : Int32) ≤ ((nI hi.val - 3) - (nI lo.val - 3)) + 1 ∧ ¬ nI lo.val - 3 ≤ nI hi.val - 3) := by
  decide +kernel
theorem sm_num1 {lo hi : Nat} (hl : lo < 13) (hh : hi < 13) (h : lo ≤ hi) : ((nI hi - 3) - (nI lo - 3)) + 1 = nI (hi + 1 - lo) ∧ nI lo - 3 ≤ nI hi - 3 := (sm_num ⟨lo, hl⟩ ⟨hi, hh⟩).1 h
theorem sm_num2 {lo hi : Nat} (hl : lo < 13) (hh : hi < 13) (h : ¬ lo ≤ hi) : ¬ (1 : Int32) ≤ ((nI hi - 3) - (nI lo - 3)) + 1 ∧ ¬ nI lo - 3 ≤ nI hi - 3 := (sm_num ⟨lo, hl⟩ ⟨hi, hh⟩).2 h
theorem sm_x0 {post : SX → Prop} {sc : Int32} {K T O : Nat → Int32} (c : Nat → Int32) (L : List (Nat → Int32)) (b : Int32) (A lo hi : Nat) (hA : A < 4) (hl : lo < 13) (hh : hi < 13) (e1 : b &&& 15 = nI lo) (e2 : b >>> ((4 : Int32) &&& 31) = nI hi) (hN : L.length * sm_o 0 b ≤ 2197) (hH : sm_H c 0 L)
    (h : ∀ c', sm_H c' 0 (sm_nl 0 (nI A) b L) → post (sc, nI (sm_nl 0 (nI A) b L).length, K, T, O, c')) : wpX_choose post (sc, nI L.length, K, T, O, c) (nI A) b := by
  have ho := sm_o_0 hl hh e1 e2
  have hf : ∀ w d, sm_op 0 (nI A) b w d = some (upd w A (nI lo - 3 + nI d)) := fun w d => by
    rw [sm_op, if_pos rfl, nI_clamp (by omega), e1]
  have h8 : ¬ (0 : Int32) = 8 := by decide
  by_cases hle : lo ≤ hi
  · rw [ho] at hN
    refine nm_r (congrArg (fun y => y - 3) e1) (nm_r (congrArg (fun y => y - 3) e2) (nm_r (sm_num1 hl hh hle).1 (br_t (nI_le (a := 1) (by omega) (by omega)) (sm_split c L.length (hi + 1 - lo) (by omega) hN (fun c' hc' => sm_c43 c' A (L.length * (hi + 1 - lo)) (hi + 1 - lo) (nI lo - 3) hA (by omega) (by omega) hN ?_)))))
    refine sm_end h (sm_nlH h8 ho (fun w d _ => hf w d) hH (fun q w hq hw d hd v hv => ?_))
    rw [sm_wr_v _ _ _ _ _ _ hv (sm_lt hq hd)]
    show (if v = A then nI lo - 3 + nI ((q * (hi + 1 - lo) + d) % (hi + 1 - lo)) else _) = (if v = A then _ else _)
    rw [(sm_dm hd).2, sm_spl hc' hq hd hv, hw v hv]
  · refine nm_r (congrArg (fun y => y - 3) e1) (nm_r (congrArg (fun y => y - 3) e2) (nm_e (br_f (sm_num2 hl hh hle).1 ?_)))
    have h0 : sm_o 0 b = 0 := by rw [ho]; omega
    exact sm_end (M := 0) h (sm_nlH (c' := c) (g := fun w d => upd w A (nI lo - 3 + nI d)) h8 h0 (fun w d _ => hf w d) hH (fun q w hq hw d hd => absurd hd (Nat.not_lt_zero _)))
theorem sm_wr_id (c : Nat → Int32) (A : Nat → Nat) (F : Nat → Int32) (i : Nat) (hA : A i < 4) (hF : F i = c (4 * i + A i)) : sm_wr c A F (i + 1) = sm_wr c A F i := by
  rw [← sm_wr_s c A F i hA, hF, ← sm_wr_r c A F i i (A i) hA (Nat.le_refl i)]
  funext x
  show (if x = 4 * i + A i then _ else _) = _
  by_cases h : x = 4 * i + A i
  · rw [if_pos h, h]
  · rw [if_neg h]
theorem sm_p7 {post : SX → Prop} {sc : Int32} {K T O : Nat → Int32} (c : Nat → Int32) (A B N : Nat) (hA : A < 4) (hB : B < 4) (hM : N * 2 ≤ 2197) (h : post (sc, nI (N * 2), K, T, O, sm_wr c (fun _ => A) (fun q => if q % 2 = 0 then c (4 * q + B) else c (4 * q + A)) (N * 2))) : ∃ n, wX_pick_7 post (nI A) (nI B) sc (nI (N * 2)) n 0 K T O c :=
  loop_0 (fun n i s => wX_pick_7 post (nI A) (nI B) sc (nI (N * 2)) n (nI (i * 2)) K T O s) (fun i s => s = sm_wr c (fun _ => A) (fun q => if q % 2 = 0 then c (4 * q + B) else c (4 * q + A)) (i * 2)) N c (sm_wr_0 _ _ _).symm
    (fun n s e => by subst e; exact br_t (nI_le (Nat.le_refl (N * 2)) (by omega)) h)
    (fun n i s hi e ih => by
      subst e
      refine br_f (nI_ge (by omega) (by omega)) ⟨pk_in (4 * (i * 2) + B) 8788 (by omega) (sm_ix _ _), pk_in (4 * (i * 2) + A) 8788 (by omega) (sm_ix _ _), nm_r ?_ (nm_r (?_ : nI (i * 2) + 2 = nI ((i + 1) * 2)) (ih _ rfl))⟩
      · rw [sm_ix, sm_ix, nI_clamp (by omega), nI_clamp (by omega), sm_wr_r _ _ _ _ _ _ hB (Nat.le_refl _)]
        have e1 := sm_wr_s c (fun _ => A) (fun q => if q % 2 = 0 then c (4 * q + B) else c (4 * q + A)) (i * 2) hA
        have e2 := sm_wr_id c (fun _ => A) (fun q => if q % 2 = 0 then c (4 * q + B) else c (4 * q + A)) (i * 2 + 1) hA (if_neg (by omega))
        rw [if_pos (show i * 2 % 2 = 0 from by omega)] at e1
        rw [e1, ← e2, show (i + 1) * 2 = i * 2 + 1 + 1 from by omega]
      · show nI (i * 2) + nI 2 = _
        rw [nI_add, show (i + 1) * 2 = i * 2 + 2 from by omega])
theorem sm_x4 {post : SX → Prop} {sc : Int32} {K T O : Nat → Int32} (c : Nat → Int32) (L : List (Nat → Int32)) (A B : Nat) (hA : A < 4) (hB : B < 4) (hN : L.length * 2 ≤ 2197) (hH : sm_H c 0 L)
    (h : ∀ c', sm_H c' 0 (sm_nl 4 (nI A) (nI B) L) → post (sc, nI (sm_nl 4 (nI A) (nI B) L).length, K, T, O, c')) : wpX_pick post (sc, nI L.length, K, T, O, c) (nI A) (nI B) := by
  refine sm_split c L.length 2 (by omega) hN (fun c' hc' => sm_p7 c' A B L.length hA hB hN ?_)
  refine sm_end h (sm_nlH (g := fun w d => if d = 0 then upd w A (w B) else w) (by decide) rfl (fun w d _ => ?_) hH (fun q w hq hw d hd v hv => ?_))
  · rw [sm_op, if_neg (by decide), if_neg (by decide), if_neg (by decide), if_neg (by decide), if_pos rfl, nI_clamp (by omega), nI_clamp (by omega)]
  · rw [sm_wr_v _ _ _ _ _ _ hv (sm_lt hq hd)]
    rw [sm_spl hc' hq hd hv, sm_spl hc' hq hd hA, sm_spl hc' hq hd hB, hw v hv, hw A hA, hw B hB]
    by_cases h0 : d = 0
    · rw [if_pos h0, if_pos (show (q * 2 + d) % 2 = 0 from by omega)]
      rfl
    · rw [if_neg h0, if_neg (show ¬ (q * 2 + d) % 2 = 0 from by omega)]
      by_cases hv2 : v = A
      · rw [if_pos hv2, hv2]
      · rw [if_neg hv2]
theorem sm_g7 {post : SX → Prop} {sc : Int32} {K T O : Nat → Int32} (c : Nat → Int32) (A B M : Nat) (hA : A < 4) (hB : B < 4) (hM : M ≤ 2197) (h : post (sc, nI M, K, T, O, sm_wr c (fun q => if q % 2 = 0 then A else B) (fun q => c (4 * q + if q % 2 = 0 then A else B) + 1) M)) : ∃ n, wX_growEither_7 post (nI A) (nI B) sc (nI M) n 0 K T O c :=
  loop_0 (fun n i s => wX_growEither_7 post (nI A) (nI B) sc (nI M) n (nI i) K T O s) (fun i s => s = sm_wr c (fun q => if q % 2 = 0 then A else B) (fun q => c (4 * q + if q % 2 = 0 then A else B) + 1) i) M c (sm_wr_0 _ _ _).symm
    (fun n s e => by subst e; exact br_t (nI_le (Nat.le_refl M) (by omega)) h)
    (fun n i s hi e ih => by
      subst e
      have e1 := sm_wr_s c (fun q => if q % 2 = 0 then A else B) (fun q => c (4 * q + if q % 2 = 0 then A else B) + 1) i (by by_cases h2 : i % 2 = 0 <;> simp only [h2, if_true, if_false] <;> omega)
      refine br_f (nI_ge hi (by omega)) ⟨by decide, pk_eq (i % 2) 0 (fun h2 => ?_) (fun h2 => ?_) (pk_rem (d := 2) (by omega) (by omega) (by omega)) rfl (by omega) (by omega)⟩
      · rw [if_pos h2] at e1
        refine ⟨pk_in (4 * i + A) 8788 (by omega) (sm_ix _ _), pk_in (4 * i + A) 8788 (by omega) (sm_ix _ _), nm_r ?_ (nm_r (nI_1 i) (ih _ rfl))⟩
        rw [sm_ix, nI_clamp (by omega), sm_wr_r _ _ _ _ _ _ hA (Nat.le_refl _)]
        exact e1
      · rw [if_neg h2] at e1
        refine ⟨pk_in (4 * i + B) 8788 (by omega) (sm_ix _ _), pk_in (4 * i + B) 8788 (by omega) (sm_ix _ _), nm_r ?_ (nm_r (nI_1 i) (ih _ rfl))⟩
        rw [sm_ix, nI_clamp (by omega), sm_wr_r _ _ _ _ _ _ hB (Nat.le_refl _)]
        exact e1)
theorem sm_x9 {post : SX → Prop} {sc : Int32} {K T O : Nat → Int32} (c : Nat → Int32) (L : List (Nat → Int32)) (A B : Nat) (hA : A < 4) (hB : B < 4) (hN : L.length * 2 ≤ 2197) (hH : sm_H c 0 L)
    (h : ∀ c', sm_H c' 0 (sm_nl 9 (nI A) (nI B) L) → post (sc, nI (sm_nl 9 (nI A) (nI B) L).length, K, T, O, c')) : wpX_growEither post (sc, nI L.length, K, T, O, c) (nI A) (nI B) := by
  refine sm_split c L.length 2 (by omega) hN (fun c' hc' => sm_g7 c' A B (L.length * 2) hA hB hN ?_)
  refine sm_end h (sm_nlH (g := fun w d => if d = 0 then upd w A (w A + 1) else upd w B (w B + 1)) (by decide) rfl (fun w d _ => ?_) hH (fun q w hq hw d hd v hv => ?_))
  · rw [sm_op, if_neg (by decide), if_neg (by decide), if_neg (by decide), if_neg (by decide), if_neg (by decide), if_pos rfl, nI_clamp (by omega), nI_clamp (by omega)]
  · rw [sm_wr_v _ _ _ _ _ _ hv (sm_lt hq hd)]
    by_cases h0 : d = 0
    · rw [if_pos h0, if_pos (show (q * 2 + d) % 2 = 0 from by omega), sm_spl hc' hq hd hv, sm_spl hc' hq hd hA, hw v hv, hw A hA]
      rfl
    · rw [if_neg h0, if_neg (show ¬ (q * 2 + d) % 2 = 0 from by omega), sm_spl hc' hq hd hv, sm_spl hc' hq hd hB, hw v hv, hw B hB]
      rfl
