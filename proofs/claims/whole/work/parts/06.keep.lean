/-! the steps that keep or change ways one by one: LESS, EQUAL, DIFFER, ONCE, SET, ADD, MUL -/
theorem sm_holds {post : Int32 → Prop} {k x y : Int32} (hk : k = 5 ∨ k = 6 ∨ k = 7) (h1 : sm_t k x y = true → post 1) (h0 : sm_t k x y = false → post 0) : wpX_holds post k x y := by
  rcases hk with rfl | rfl | rfl
  · have e : sm_t 5 x y = decide (x < y) := if_pos rfl
    exact br_t rfl (br_c (fun hle => h0 (e.trans (decide_eq_false (Int32.not_lt.mpr hle)))) (fun hn => h1 (e.trans (decide_eq_true (Int32.not_le.mp hn)))))
  · have e : sm_t 6 x y = decide (x = y) := rfl
    exact br_f (by decide) (br_t rfl (br_c (fun he => h1 (e.trans (decide_eq_true he))) (fun hn => h0 (e.trans (decide_eq_false hn)))))
  · have e : sm_t 7 x y = !decide (x = y) := rfl
    exact br_f (by decide) (br_f (by decide) (br_c (fun he => h0 (by rw [e, decide_eq_true he]; rfl)) (fun hn => h1 (by rw [e, decide_eq_false hn]; rfl))))
theorem sm_copy {post : SX → Prop} {sc wc : Int32} {K T O : Nat → Int32} (c : Nat → Int32) (fr to : Nat) (ht : to < 2197) (hf : fr < 2197) (h : post (sc, wc, K, T, O, sm_cp c to fr 4)) : wpX_copyWay post (sc, wc, K, T, O, c) (nI fr) (nI to) :=
  loop_0 (fun n i s => wX_copyWay_2 post (nI fr) (nI to) sc wc n (nI i) K T O s) (fun i s => s = sm_cp c to fr i) 4 c (sm_cp_0 c to fr).symm
    (fun n s e => by subst e; exact br_t (nI_le (b := 4) (Nat.le_refl 4) (by decide)) h)
    (fun n i s hi e ih => by
      subst e
      refine br_f (nI_ge (b := 4) hi (by decide)) ⟨pk_in (4 * fr + i) 8788 (by omega) (sm_ix _ _), pk_in (4 * to + i) 8788 (by omega) (sm_ix _ _), nm_r ?_ (nm_r (nI_1 i) (ih _ rfl))⟩
      rw [sm_ix, sm_ix, nI_clamp (by omega), nI_clamp (by omega)]
      exact sm_cp_s c to fr i hi)
theorem sm_op_t {k : Int32} (hk : k = 5 ∨ k = 6 ∨ k = 7) {A B : Nat} (hA : A < 4) (hB : B < 4) (w : Nat → Int32) (d : Nat) : sm_op k (nI A) (nI B) w d = if sm_t k (w A) (w B) = true then some w else none := by
  have hA' : (nI A).toNatClampNeg = A := nI_clamp (by omega)
  have hB' : (nI B).toNatClampNeg = B := nI_clamp (by omega)
  rcases hk with rfl | rfl | rfl
  · rw [sm_op, if_neg (by decide), if_neg (by decide), if_neg (by decide), if_neg (by decide), if_neg (by decide), if_neg (by decide), hA', hB']
  · rw [sm_op, if_neg (by decide), if_neg (by decide), if_neg (by decide), if_neg (by decide), if_neg (by decide), if_neg (by decide), hA', hB']
  · rw [sm_op, if_neg (by decide), if_neg (by decide), if_neg (by decide), if_neg (by decide), if_neg (by decide), if_neg (by decide), hA', hB']
theorem sm_o_t {k b : Int32} (hk : k = 5 ∨ k = 6 ∨ k = 7) : sm_o k b = 1 := by
  rcases hk with rfl | rfl | rfl <;> rfl
theorem sm_F_1 {k : Int32} (hk : k = 5 ∨ k = 6 ∨ k = 7) {A B : Nat} (hA : A < 4) (hB : B < 4) {w : Nat → Int32} (h : sm_t k (w A) (w B) = true) : sm_lf (sm_op k (nI A) (nI B) w) 0 1 = [w] := by
  rw [sm_lf_s (w := w) (by rw [sm_op_t hk hA hB, if_pos h]), sm_lf_0]
theorem sm_F_0 {k : Int32} (hk : k = 5 ∨ k = 6 ∨ k = 7) {A B : Nat} (hA : A < 4) (hB : B < 4) {w : Nat → Int32} (h : sm_t k (w A) (w B) = false) : sm_lf (sm_op k (nI A) (nI B) w) 0 1 = [] := by
  rw [sm_lf_n (by rw [sm_op_t hk hA hB, if_neg (by rw [h]; decide)]), sm_lf_0]
theorem sm_k6 {post : SX → Prop} {sc : Int32} {K T O : Nat → Int32} {k : Int32} (A B N : Nat) (hk : k = 5 ∨ k = 6 ∨ k = 7) (hA : A < 4) (hB : B < 4) (hN : N ≤ 2197) : ∀ (rest : List (Nat → Int32)) (c : Nat → Int32) (done : List (Nat → Int32)) (i : Nat), i + rest.length = N → done.length ≤ i → sm_H c 0 done → sm_H c i rest →
    (∀ c', sm_H c' 0 (done ++ rest.flatMap (fun w => sm_lf (sm_op k (nI A) (nI B) w) 0 1)) → post (sc, nI (done ++ rest.flatMap (fun w => sm_lf (sm_op k (nI A) (nI B) w) 0 1)).length, K, T, O, c')) →
    ∀ n, rest.length < n → wX_keepHolding_6 post k (nI A) (nI B) n (nI done.length) (nI i) sc (nI N) K T O c := by
  intro rest
  induction rest with
  | nil =>
    intro c done i hi hd h1 h2 h n hn
    rw [List.length_nil] at hi
    cases n with
    | zero => exact absurd hn (Nat.not_lt_zero _)
    | succ n =>
      rw [List.flatMap_nil, List.append_nil] at h
      exact br_t (nI_le (by omega) (by omega)) (h c h1)
  | cons w t ih =>
    intro c done i hi hd h1 h2 h n hn
    rw [List.length_cons] at hi hn
    cases n with
    | zero => exact absurd hn (Nat.not_lt_zero _)
    | succ n =>
      refine br_f (nI_ge (by omega) (by omega)) ⟨pk_in (4 * i + A) 8788 (by omega) (sm_ix _ _), nm_r (?_ : _ = w A) ⟨pk_in (4 * i + B) 8788 (by omega) (sm_ix _ _), nm_r (?_ : _ = w B) (sm_holds hk (fun ht => ?_) (fun ht => ?_))⟩⟩
      · rw [sm_ix, nI_clamp (by omega)]
        exact h2.1 A hA
      · rw [sm_ix, nI_clamp (by omega)]
        exact h2.1 B hB
      · refine br_f (by decide) (sm_copy c i done.length (by omega) (by omega) (nm_r (nI_1 _) (nm_r (nI_1 i) ?_)))
        have hl : (done ++ [w]).length = done.length + 1 := by rw [List.length_append]; rfl
        have := ih (sm_cp c done.length i 4) (done ++ [w]) (i + 1) (by omega) (by omega) ?_ ?_ ?_ n (by omega)
        · rw [hl] at this
          exact this
        · refine sm_H_app done [w] 0 (sm_H_congr done 0 (fun x _ hx => sm_cp_out (by omega)) h1) ⟨fun v hv => ?_, True.intro⟩
          rw [Nat.zero_add, sm_cp_in (by omega), show 4 * i + (4 * done.length + v - 4 * done.length) = 4 * i + v from by omega]
          exact h2.1 v hv
        · exact sm_H_congr t (i + 1) (fun x hx _ => sm_cp_out (by omega)) h2.2
        · rw [List.flatMap_cons, sm_F_1 hk hA hB ht, ← List.append_assoc] at h
          exact h
      · refine br_t rfl (nm_r (nI_1 i) (ih c done (i + 1) (by omega) (by omega) h1 h2.2 ?_ n (by omega)))
        rw [List.flatMap_cons, sm_F_0 hk hA hB ht, List.nil_append] at h
        exact h
theorem sm_x567 {post : SX → Prop} {sc : Int32} {K T O : Nat → Int32} (c : Nat → Int32) (L : List (Nat → Int32)) {k : Int32} (A B : Nat) (hk : k = 5 ∨ k = 6 ∨ k = 7) (hA : A < 4) (hB : B < 4) (hN : L.length ≤ 2197) (hH : sm_H c 0 L)
    (h : ∀ c', sm_H c' 0 (sm_nl k (nI A) (nI B) L) → post (sc, nI (sm_nl k (nI A) (nI B) L).length, K, T, O, c')) : wpX_keepHolding post (sc, nI L.length, K, T, O, c) k (nI A) (nI B) := by
  have h8 : ¬ k = 8 := by rcases hk with rfl | rfl | rfl <;> decide
  rw [sm_nl, if_neg h8, sm_o_t hk] at h
  exact ⟨L.length + 1, sm_k6 A B L.length hk hA hB hN L c [] 0 (Nat.zero_add _) (Nat.le_refl _) True.intro hH h (L.length + 1) (Nat.lt_succ_self _)⟩
theorem sm_x8 {post : SX → Prop} {sc : Int32} {K T O : Nat → Int32} (c : Nat → Int32) (L : List (Nat → Int32)) (a b : Int32) (hN : L.length ≤ 2197) (hH : sm_H c 0 L)
    (h : ∀ c', sm_H c' 0 (sm_nl 8 a b L) → post (sc, nI (sm_nl 8 a b L).length, K, T, O, c')) : wpX_keepFirst post (sc, nI L.length, K, T, O, c) := by
  rw [sm_nl, if_pos rfl] at h
  refine pk_le L.length 1 (fun hl => ?_) (fun hl => ?_) rfl rfl (by omega) (by omega)
  · rw [List.take_of_length_le hl] at h
    exact h c hH
  · cases L with
    | nil => exact absurd hl (by simp)
    | cons w t => exact h c ⟨hH.1, True.intro⟩
theorem sm_k1 {post : SX → Prop} {sc : Int32} {K T O : Nat → Int32} (c : Nat → Int32) (A M : Nat) (b : Int32) (hA : A < 4) (hM : M ≤ 2197) (h : post (sc, nI M, K, T, O, sm_wr c (fun _ => A) (fun _ => b) M)) : ∃ n, wX_compute_3 post 1 (nI A) b sc (nI M) n 0 K T O c :=
  loop_0 (fun n i s => wX_compute_3 post 1 (nI A) b sc (nI M) n (nI i) K T O s) (fun i s => s = sm_wr c (fun _ => A) (fun _ => b) i) M c (sm_wr_0 _ _ _).symm
    (fun n s e => by subst e; exact br_t (nI_le (Nat.le_refl M) (by omega)) h)
    (fun n i s hi e ih => by
      subst e
      refine br_f (nI_ge hi (by omega)) (nm_r (sm_ix i A) (br_t rfl ⟨pk_in (4 * i + A) 8788 (by omega), nm_r ?_ (nm_r (nI_1 i) (ih _ rfl))⟩))
      rw [nI_clamp (by omega)]
      exact sm_wr_s c (fun _ => A) (fun _ => b) i hA)
theorem sm_k2 {post : SX → Prop} {sc : Int32} {K T O : Nat → Int32} (c : Nat → Int32) (A B M : Nat) (hA : A < 4) (hB : B < 4) (hM : M ≤ 2197) (h : post (sc, nI M, K, T, O, sm_wr c (fun _ => A) (fun q => c (4 * q + A) + c (4 * q + B)) M)) : ∃ n, wX_compute_3 post 2 (nI A) (nI B) sc (nI M) n 0 K T O c :=
  loop_0 (fun n i s => wX_compute_3 post 2 (nI A) (nI B) sc (nI M) n (nI i) K T O s) (fun i s => s = sm_wr c (fun _ => A) (fun q => c (4 * q + A) + c (4 * q + B)) i) M c (sm_wr_0 _ _ _).symm
    (fun n s e => by subst e; exact br_t (nI_le (Nat.le_refl M) (by omega)) h)
    (fun n i s hi e ih => by
      subst e
      refine br_f (nI_ge hi (by omega)) (nm_r (sm_ix i A) (br_f (by decide) (br_t rfl ⟨pk_in (4 * i + A) 8788 (by omega), pk_in (4 * i + B) 8788 (by omega) (sm_ix _ _), pk_in (4 * i + A) 8788 (by omega), nm_r ?_ (nm_r (nI_1 i) (ih _ rfl))⟩)))
      rw [sm_ix, nI_clamp (by omega), nI_clamp (by omega), sm_wr_r _ _ _ _ _ _ hA (Nat.le_refl _), sm_wr_r _ _ _ _ _ _ hB (Nat.le_refl _)]
      exact sm_wr_s c (fun _ => A) (fun q => c (4 * q + A) + c (4 * q + B)) i hA)
theorem sm_k3 {post : SX → Prop} {sc : Int32} {K T O : Nat → Int32} (c : Nat → Int32) (A B M : Nat) (hA : A < 4) (hB : B < 4) (hM : M ≤ 2197) (h : post (sc, nI M, K, T, O, sm_wr c (fun _ => A) (fun q => c (4 * q + A) * c (4 * q + B)) M)) : ∃ n, wX_compute_3 post 3 (nI A) (nI B) sc (nI M) n 0 K T O c :=
  loop_0 (fun n i s => wX_compute_3 post 3 (nI A) (nI B) sc (nI M) n (nI i) K T O s) (fun i s => s = sm_wr c (fun _ => A) (fun q => c (4 * q + A) * c (4 * q + B)) i) M c (sm_wr_0 _ _ _).symm
    (fun n s e => by subst e; exact br_t (nI_le (Nat.le_refl M) (by omega)) h)
    (fun n i s hi e ih => by
      subst e
      refine br_f (nI_ge hi (by omega)) (nm_r (sm_ix i A) (br_f (by decide) (br_f (by decide) (br_t rfl ⟨pk_in (4 * i + A) 8788 (by omega), pk_in (4 * i + B) 8788 (by omega) (sm_ix _ _), pk_in (4 * i + A) 8788 (by omega), nm_r ?_ (nm_r (nI_1 i) (ih _ rfl))⟩))))
      rw [sm_ix, nI_clamp (by omega), nI_clamp (by omega), sm_wr_r _ _ _ _ _ _ hA (Nat.le_refl _), sm_wr_r _ _ _ _ _ _ hB (Nat.le_refl _)]
      exact sm_wr_s c (fun _ => A) (fun q => c (4 * q + A) * c (4 * q + B)) i hA)
theorem sm_x1 {post : SX → Prop} {sc : Int32} {K T O : Nat → Int32} (c : Nat → Int32) (L : List (Nat → Int32)) (b : Int32) (A : Nat) (hA : A < 4) (hN : L.length ≤ 2197) (hH : sm_H c 0 L)
    (h : ∀ c', sm_H c' 0 (sm_nl 1 (nI A) b L) → post (sc, nI (sm_nl 1 (nI A) b L).length, K, T, O, c')) : wpX_compute post (sc, nI L.length, K, T, O, c) 1 (nI A) b := by
  refine sm_k1 c A L.length b hA hN ?_
  have hx := sm_nlH (k := 1) (a := nI A) (b := b) (c' := sm_wr c (fun _ => A) (fun _ => b) L.length) (m := 1) (g := fun w _ => upd w A b) (by decide) rfl (fun w d _ => ?_) hH (fun q w hq hw d hd v hv => ?_)
  · rw [Nat.mul_one] at hx
    exact sm_end h hx
  · rw [sm_op, if_neg (by decide), if_pos rfl, nI_clamp (by omega)]
  · rw [show q * 1 + d = q from by omega, sm_wr_v _ _ _ _ _ _ hv hq, hw v hv]
    rfl
theorem sm_x2 {post : SX → Prop} {sc : Int32} {K T O : Nat → Int32} (c : Nat → Int32) (L : List (Nat → Int32)) (A B : Nat) (hA : A < 4) (hB : B < 4) (hN : L.length ≤ 2197) (hH : sm_H c 0 L)
    (h : ∀ c', sm_H c' 0 (sm_nl 2 (nI A) (nI B) L) → post (sc, nI (sm_nl 2 (nI A) (nI B) L).length, K, T, O, c')) : wpX_compute post (sc, nI L.length, K, T, O, c) 2 (nI A) (nI B) := by
  refine sm_k2 c A B L.length hA hB hN ?_
  have hx := sm_nlH (k := 2) (a := nI A) (b := nI B) (c' := sm_wr c (fun _ => A) (fun q => c (4 * q + A) + c (4 * q + B)) L.length) (m := 1) (g := fun w _ => upd w A (w A + w B)) (by decide) rfl (fun w d _ => ?_) hH (fun q w hq hw d hd v hv => ?_)
  · rw [Nat.mul_one] at hx
    exact sm_end h hx
  · rw [sm_op, if_neg (by decide), if_neg (by decide), if_pos rfl, nI_clamp (by omega), nI_clamp (by omega)]
  · rw [show q * 1 + d = q from by omega, sm_wr_v _ _ _ _ _ _ hv hq, hw v hv, hw A hA, hw B hB]
    rfl
theorem sm_x3 {post : SX → Prop} {sc : Int32} {K T O : Nat → Int32} (c : Nat → Int32) (L : List (Nat → Int32)) (A B : Nat) (hA : A < 4) (hB : B < 4) (hN : L.length ≤ 2197) (hH : sm_H c 0 L)
    (h : ∀ c', sm_H c' 0 (sm_nl 3 (nI A) (nI B) L) → post (sc, nI (sm_nl 3 (nI A) (nI B) L).length, K, T, O, c')) : wpX_compute post (sc, nI L.length, K, T, O, c) 3 (nI A) (nI B) := by
  refine sm_k3 c A B L.length hA hB hN ?_
  have hx := sm_nlH (k := 3) (a := nI A) (b := nI B) (c' := sm_wr c (fun _ => A) (fun q => c (4 * q + A) * c (4 * q + B)) L.length) (m := 1) (g := fun w _ => upd w A (w A * w B)) (by decide) rfl (fun w d _ => ?_) hH (fun q w hq hw d hd v hv => ?_)
  · rw [Nat.mul_one] at hx
    exact sm_end h hx
  · rw [sm_op, if_neg (by decide), if_neg (by decide), if_neg (by decide), if_pos rfl, nI_clamp (by omega), nI_clamp (by omega)]
  · rw [show q * 1 + d = q from by omega, sm_wr_v _ _ _ _ _ _ hv hq, hw v hv, hw A hA, hw B hB]
    rfl
