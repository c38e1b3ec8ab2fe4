/-! the reference's questions -/
theorem sm_yw {post : Int32 → SY → Prop} {sz : Int32} {K T O As Bs Cs : Nat → Int32} {n N : Nat} (hG : sm_G K T O n) (hY : sm_Y K T O As Bs Cs n) (hN : N ≤ n) : ∀ (m c cnt : Nat) (vs fs : Nat → Int32), c + m = sm_P K O 0 N → (∀ j, j < N → sm_f K T O N c fs j) →
    (∀ vs' fs', post (nI (cnt + (sm_lf (sm_R K T O N) c m).length)) (sz, K, As, Bs, Cs, vs', fs')) → ∀ f, m < f → wY_ways_30 post (nI N) (nI (sm_P K O 0 N)) f (nI cnt) (nI c) sz K As Bs Cs vs fs := by
  have hb := sm_G_P hG (i := 0) (m := N) (by omega)
  intro m
  induction m with
  | zero =>
    intro c cnt vs fs hc hf h f hlt
    cases f with
    | zero => exact absurd hlt (Nat.not_lt_zero _)
    | succ f => exact br_t (nI_le (by omega) (by omega)) (h vs fs)
  | succ m ih =>
    intro c cnt vs fs hc hf h f hlt
    cases f with
    | zero => exact absurd hlt (Nat.not_lt_zero _)
    | succ f =>
      refine br_f (nI_ge (by omega) (by omega)) ?_
      refine sm_yrun hG hY hN (by omega) hf (fun w hR vs' fs' hw hf' => ?_) (fun hR vs' fs' hf' => ?_)
      · rw [sm_lf_s hR, List.length_cons] at h
        refine br_f (by decide) (nm_r (nI_1 cnt) (nm_r (nI_1 c) (ih (c + 1) (cnt + 1) vs' fs' (by omega) hf' ?_ f (by omega))))
        rw [show cnt + 1 + (sm_lf (sm_R K T O N) (c + 1) m).length = cnt + ((sm_lf (sm_R K T O N) (c + 1) m).length + 1) from by omega]
        exact h
      · rw [sm_lf_n hR] at h
        exact br_t rfl (nm_r (nI_1 c) (ih (c + 1) cnt vs' fs' (by omega) hf' h f (by omega)))
theorem sm_Yways {post : Int32 → SY → Prop} {K T O As Bs Cs vs fs : Nat → Int32} {n N : Nat} (hG : sm_G K T O n) (hY : sm_Y K T O As Bs Cs n) (hN : N ≤ n) (h : ∀ vs' fs', post (nI (sm_L K T O N).length) (nI n, K, As, Bs, Cs, vs', fs')) : wpY_ways post (nI n, K, As, Bs, Cs, vs, fs) (nI N) := by
  have hn := hG.1
  rw [sm_L_R] at h
  refine br_f (nI_pos (by omega)) (br_t (nI_le hN (by omega)) ?_)
  refine sm_begin (T := T) (O := O) (N := N) (by omega) (fun fs' hf' => ?_)
  refine sm_btw (i := 0) (m := N) hG hY hN (Nat.zero_add N) ?_
  exact ⟨_, sm_yw hG hY hN (sm_P K O 0 N) 0 0 vs fs' (Nat.zero_add _) hf' (by rw [Nat.zero_add]; exact h) _ (Nat.lt_succ_self _)⟩
theorem sm_Yanswers {post : Int32 → SY → Prop} {K T O As Bs Cs vs fs : Nat → Int32} {n : Nat} (hG : sm_G K T O n) (hY : sm_Y K T O As Bs Cs n) (h : ∀ vs' fs', post (nI (sm_L K T O n).length) (nI n, K, As, Bs, Cs, vs', fs')) : wpY_answers post (nI n, K, As, Bs, Cs, vs, fs) :=
  sm_Yways hG hY (Nat.le_refl n) h
theorem sm_yval {post : Int32 → SY → Prop} {k : Int32} {K T O As Bs Cs : Nat → Int32} {n v : Nat} (hG : sm_G K T O n) (hY : sm_Y K T O As Bs Cs n) (hv : v < 4) : ∀ (m c i : Nat) (vs fs : Nat → Int32), c + m = sm_P K O 0 n → (∀ j, j < n → sm_f K T O n c fs j) →
    (∀ vs' fs', post (sm_val v k (sm_lf (sm_R K T O n) c m) i) (nI n, K, As, Bs, Cs, vs', fs')) → ∀ f, m < f → wY_value_20 post k (nI v) (nI (sm_P K O 0 n)) f (nI i) (nI c) (nI n) K As Bs Cs vs fs := by
  have hb := sm_G_P hG (i := 0) (m := n) (by omega)
  intro m
  induction m with
  | zero =>
    intro c i vs fs hc hf h f hlt
    cases f with
    | zero => exact absurd hlt (Nat.not_lt_zero _)
    | succ f => exact br_t (nI_le (by omega) (by omega)) (h vs fs)
  | succ m ih =>
    intro c i vs fs hc hf h f hlt
    cases f with
    | zero => exact absurd hlt (Nat.not_lt_zero _)
    | succ f =>
      refine br_f (nI_ge (by omega) (by omega)) ?_
      refine sm_yv1 hv ?_
      refine br_f (by decide) ?_
      refine sm_yrun hG hY (Nat.le_refl n) (by omega) hf (fun w hR vs' fs' hw hf' => ?_) (fun hR vs' fs' hf' => ?_)
      · rw [sm_lf_s hR, sm_val] at h
        refine br_f (by decide) ?_
        by_cases hk : nI i = k
        · rw [if_pos hk] at h
          refine br_t hk ⟨pk_in v 4 hv, ?_⟩
          rw [nI_clamp (by omega)]
          have := h vs' fs'
          rw [← hw v hv] at this
          exact this
        · rw [if_neg hk] at h
          exact br_f hk (nm_r (nI_1 i) (nm_r (nI_1 c) (ih (c + 1) (i + 1) vs' fs' (by omega) hf' h f (by omega))))
      · rw [sm_lf_n hR] at h
        exact br_t rfl (nm_r (nI_1 c) (ih (c + 1) i vs' fs' (by omega) hf' h f (by omega)))
theorem sm_Yvalue {post : Int32 → SY → Prop} {k : Int32} {K T O As Bs Cs vs fs : Nat → Int32} {n v : Nat} (hG : sm_G K T O n) (hY : sm_Y K T O As Bs Cs n) (hv : v < 4) (h : ∀ vs' fs', post (sm_val v k (sm_L K T O n) 0) (nI n, K, As, Bs, Cs, vs', fs')) : wpY_value post (nI n, K, As, Bs, Cs, vs, fs) k (nI v) := by
  have hn := hG.1
  rw [sm_L_R] at h
  unfold wpY_value
  dsimp only
  refine sm_begin (T := T) (O := O) (N := n) hn (fun fs' hf' => ?_)
  refine sm_btw (i := 0) (m := n) hG hY (Nat.le_refl n) (Nat.zero_add n) ?_
  exact ⟨_, sm_yval hG hY hv (sm_P K O 0 n) 0 0 vs fs' (Nat.zero_add _) hf' h _ (Nat.lt_succ_self _)⟩
theorem sm_Yvalue0 {post : Int32 → SY → Prop} {k v : Int32} {K T O As Bs Cs vs fs : Nat → Int32} {n : Nat} (hG : sm_G K T O n) (hY : sm_Y K T O As Bs Cs n) (hv : v < 0 ∨ 4 ≤ v) (h : ∀ vs' fs', post (-1000000000) (nI n, K, As, Bs, Cs, vs', fs')) : wpY_value post (nI n, K, As, Bs, Cs, vs, fs) k v := by
  have hn := hG.1
  unfold wpY_value
  dsimp only
  refine sm_begin (T := T) (O := O) (N := n) hn (fun fs' hf' => ?_)
  refine sm_btw (i := 0) (m := n) hG hY (Nat.le_refl n) (Nat.zero_add n) ?_
  refine ⟨1, br_c (fun _ => h vs fs') (fun _ => ?_)⟩
  refine sm_yv0 hv ?_
  exact br_t rfl (h vs fs')
theorem sm_ycw {post : Int32 → SY → Prop} {x : Int32} {K T O As Bs Cs : Nat → Int32} {n v : Nat} (hG : sm_G K T O n) (hY : sm_Y K T O As Bs Cs n) (hv : v < 4) : ∀ (m c : Nat) (acc : Int32) (vs fs : Nat → Int32), c + m = sm_P K O 0 n → (∀ j, j < n → sm_f K T O n c fs j) →
    (∀ vs' fs', post (sm_cw v x (sm_lf (sm_R K T O n) c m) acc) (nI n, K, As, Bs, Cs, vs', fs')) → ∀ f, m < f → wY_countWith_20 post (nI v) x (nI (sm_P K O 0 n)) f acc (nI c) (nI n) K As Bs Cs vs fs := by
  have hb := sm_G_P hG (i := 0) (m := n) (by omega)
  intro m
  induction m with
  | zero =>
    intro c acc vs fs hc hf h f hlt
    cases f with
    | zero => exact absurd hlt (Nat.not_lt_zero _)
    | succ f => exact br_t (nI_le (by omega) (by omega)) (h vs fs)
  | succ m ih =>
    intro c acc vs fs hc hf h f hlt
    cases f with
    | zero => exact absurd hlt (Nat.not_lt_zero _)
    | succ f =>
      refine br_f (nI_ge (by omega) (by omega)) ?_
      refine sm_yv1 hv ?_
      refine br_f (by decide) ?_
      refine sm_yrun hG hY (Nat.le_refl n) (by omega) hf (fun w hR vs' fs' hw hf' => ?_) (fun hR vs' fs' hf' => ?_)
      · rw [sm_lf_s hR, sm_cw] at h
        have he : vs' (nI v).toNatClampNeg = w v := by rw [nI_clamp (by omega)]; exact hw v hv
        refine br_f (by decide) ⟨pk_in v 4 hv, ?_⟩
        by_cases hx : w v = x
        · rw [if_pos hx] at h
          exact br_t (he.trans hx) (nm_e (nm_r (nI_1 c) (ih (c + 1) (acc + 1) vs' fs' (by omega) hf' h f (by omega))))
        · rw [if_neg hx] at h
          exact br_f (fun z => hx (he.symm.trans z)) (nm_r (nI_1 c) (ih (c + 1) acc vs' fs' (by omega) hf' h f (by omega)))
      · rw [sm_lf_n hR] at h
        exact br_t rfl (nm_r (nI_1 c) (ih (c + 1) acc vs' fs' (by omega) hf' h f (by omega)))
theorem sm_Ycount {post : Int32 → SY → Prop} {x : Int32} {K T O As Bs Cs vs fs : Nat → Int32} {n v : Nat} (hG : sm_G K T O n) (hY : sm_Y K T O As Bs Cs n) (hv : v < 4) (h : ∀ vs' fs', post (sm_cw v x (sm_L K T O n) 0) (nI n, K, As, Bs, Cs, vs', fs')) : wpY_countWith post (nI n, K, As, Bs, Cs, vs, fs) (nI v) x := by
  have hn := hG.1
  rw [sm_L_R] at h
  unfold wpY_countWith
  dsimp only
  refine sm_begin (T := T) (O := O) (N := n) hn (fun fs' hf' => ?_)
  refine sm_btw (i := 0) (m := n) hG hY (Nat.le_refl n) (Nat.zero_add n) ?_
  exact ⟨_, sm_ycw hG hY hv (sm_P K O 0 n) 0 0 vs fs' (Nat.zero_add _) hf' h _ (Nat.lt_succ_self _)⟩
theorem sm_Ycount0 {post : Int32 → SY → Prop} {x v : Int32} {K T O As Bs Cs vs fs : Nat → Int32} {n : Nat} (hG : sm_G K T O n) (hY : sm_Y K T O As Bs Cs n) (hv : v < 0 ∨ 4 ≤ v) (h : ∀ vs' fs', post 0 (nI n, K, As, Bs, Cs, vs', fs')) : wpY_countWith post (nI n, K, As, Bs, Cs, vs, fs) v x := by
  have hn := hG.1
  unfold wpY_countWith
  dsimp only
  refine sm_begin (T := T) (O := O) (N := n) hn (fun fs' hf' => ?_)
  refine sm_btw (i := 0) (m := n) hG hY (Nat.le_refl n) (Nat.zero_add n) ?_
  refine ⟨1, br_c (fun _ => h vs fs') (fun _ => ?_)⟩
  refine sm_yv0 hv ?_
  exact br_t rfl (h vs fs')
theorem sm_yfw {post : Int32 → SY → Prop} {x : Int32} {K T O As Bs Cs : Nat → Int32} {n v : Nat} (hG : sm_G K T O n) (hY : sm_Y K T O As Bs Cs n) (hv : v < 4) : ∀ (m c i : Nat) (vs fs : Nat → Int32), c + m = sm_P K O 0 n → (∀ j, j < n → sm_f K T O n c fs j) →
    (∀ vs' fs', post (sm_fw v x (sm_lf (sm_R K T O n) c m) i) (nI n, K, As, Bs, Cs, vs', fs')) → ∀ f, m < f → wY_firstWith_20 post (nI v) x (nI (sm_P K O 0 n)) f (nI i) (nI c) (nI n) K As Bs Cs vs fs := by
  have hb := sm_G_P hG (i := 0) (m := n) (by omega)
  intro m
  induction m with
  | zero =>
    intro c i vs fs hc hf h f hlt
    cases f with
    | zero => exact absurd hlt (Nat.not_lt_zero _)
    | succ f => exact br_t (nI_le (by omega) (by omega)) (h vs fs)
  | succ m ih =>
    intro c i vs fs hc hf h f hlt
    cases f with
    | zero => exact absurd hlt (Nat.not_lt_zero _)
    | succ f =>
      refine br_f (nI_ge (by omega) (by omega)) ?_
      refine sm_yv1 hv ?_
      refine br_f (by decide) ?_
      refine sm_yrun hG hY (Nat.le_refl n) (by omega) hf (fun w hR vs' fs' hw hf' => ?_) (fun hR vs' fs' hf' => ?_)
      · rw [sm_lf_s hR, sm_fw] at h
        have he : vs' (nI v).toNatClampNeg = w v := by rw [nI_clamp (by omega)]; exact hw v hv
        refine br_f (by decide) ⟨pk_in v 4 hv, ?_⟩
        by_cases hx : w v = x
        · rw [if_pos hx] at h
          exact br_t (he.trans hx) (h vs' fs')
        · rw [if_neg hx] at h
          exact br_f (fun z => hx (he.symm.trans z)) (nm_r (nI_1 i) (nm_r (nI_1 c) (ih (c + 1) (i + 1) vs' fs' (by omega) hf' h f (by omega))))
      · rw [sm_lf_n hR] at h
        exact br_t rfl (nm_r (nI_1 c) (ih (c + 1) i vs' fs' (by omega) hf' h f (by omega)))
theorem sm_Yfirst {post : Int32 → SY → Prop} {x : Int32} {K T O As Bs Cs vs fs : Nat → Int32} {n v : Nat} (hG : sm_G K T O n) (hY : sm_Y K T O As Bs Cs n) (hv : v < 4) (h : ∀ vs' fs', post (sm_fw v x (sm_L K T O n) 0) (nI n, K, As, Bs, Cs, vs', fs')) : wpY_firstWith post (nI n, K, As, Bs, Cs, vs, fs) (nI v) x := by
  have hn := hG.1
  rw [sm_L_R] at h
  unfold wpY_firstWith
  dsimp only
  refine sm_begin (T := T) (O := O) (N := n) hn (fun fs' hf' => ?_)
  refine sm_btw (i := 0) (m := n) hG hY (Nat.le_refl n) (Nat.zero_add n) ?_
  exact ⟨_, sm_yfw hG hY hv (sm_P K O 0 n) 0 0 vs fs' (Nat.zero_add _) hf' h _ (Nat.lt_succ_self _)⟩
theorem sm_Yfirst0 {post : Int32 → SY → Prop} {x v : Int32} {K T O As Bs Cs vs fs : Nat → Int32} {n : Nat} (hG : sm_G K T O n) (hY : sm_Y K T O As Bs Cs n) (hv : v < 0 ∨ 4 ≤ v) (h : ∀ vs' fs', post (-1) (nI n, K, As, Bs, Cs, vs', fs')) : wpY_firstWith post (nI n, K, As, Bs, Cs, vs, fs) v x := by
  have hn := hG.1
  unfold wpY_firstWith
  dsimp only
  refine sm_begin (T := T) (O := O) (N := n) hn (fun fs' hf' => ?_)
  refine sm_btw (i := 0) (m := n) hG hY (Nat.le_refl n) (Nat.zero_add n) ?_
  refine ⟨1, br_c (fun _ => h vs fs') (fun _ => ?_)⟩
  refine sm_yv0 hv ?_
  exact br_t rfl (h vs fs')
theorem sm_y94 {post : Int32 → SY → Prop} {J24 : Int32 → Int32 → Int32 → Int32 → (Nat → Int32) → (Nat → Int32) → (Nat → Int32) → (Nat → Int32) → (Nat → Int32) → (Nat → Int32) → Prop} {x2 x3 x4 y sz : Int32} {K As Bs Cs vs fs : Nat → Int32} {v c : Nat} (hv : v < 4) (hy : vs v = y) (h : J24 y 1 (nI (c + 1)) sz K As Bs Cs vs fs) : wY_extreme_94 post J24 (nI v) x2 x3 x4 (nI c) sz K As Bs Cs vs fs :=
  br_f (by decide) ⟨pk_in v 4 hv, nm_r (by rw [nI_clamp (by omega)]; exact hy) (nm_r (nI_1 c) h)⟩
theorem sm_y98 {post : Int32 → SY → Prop} {J24 : Int32 → Int32 → Int32 → Int32 → (Nat → Int32) → (Nat → Int32) → (Nat → Int32) → (Nat → Int32) → (Nat → Int32) → (Nat → Int32) → Prop} {x1 x2 x3 x4 sz : Int32} {K As Bs Cs vs fs : Nat → Int32} {c : Nat} (h : J24 x4 1 (nI (c + 1)) sz K As Bs Cs vs fs) : wY_extreme_98 post J24 x1 x2 x3 x4 (nI c) sz K As Bs Cs vs fs :=
  br_t rfl (nm_r (nI_1 c) h)
theorem sm_y24 {post : Int32 → SY → Prop} {q B x4 x5 c sz : Int32} {K As Bs Cs vs fs : Nat → Int32} {v f : Nat} (hv : v < 4) (hq : q = 0 ∨ q = 1) (hlt : ¬ B ≤ c) (h : wY_extreme_47 post (wY_extreme_24 post (nI v) q B f) (nI v) q B x4 x5 c sz K As Bs Cs vs fs) : wY_extreme_24 post (nI v) q B (f + 1) x4 x5 c sz K As Bs Cs vs fs := by
  refine br_f hlt ?_
  refine sm_yv1 hv ?_
  refine br_f (by decide) ?_
  rcases hq with rfl | rfl
  · exact br_t rfl h
  · exact br_f (by decide) (br_t rfl h)
theorem sm_yex {post : Int32 → SY → Prop} {q : Int32} {K T O As Bs Cs : Nat → Int32} {n v : Nat} (hG : sm_G K T O n) (hY : sm_Y K T O As Bs Cs n) (hv : v < 4) (hq : q = 0 ∨ q = 1) : ∀ (m c : Nat) (e : Int32) (vs fs : Nat → Int32), c + m = sm_P K O 0 n → (∀ j, j < n → sm_f K T O n c fs j) →
    (∀ vs' fs', post (sm_ex v q (sm_lf (sm_R K T O n) c m) e) (nI n, K, As, Bs, Cs, vs', fs')) → ∀ f, m < f → wY_extreme_24 post (nI v) q (nI (sm_P K O 0 n)) f e 1 (nI c) (nI n) K As Bs Cs vs fs := by
  have hb := sm_G_P hG (i := 0) (m := n) (by omega)
  intro m
  induction m with
  | zero =>
    intro c e vs fs hc hf h f hlt
    cases f with
    | zero => exact absurd hlt (Nat.not_lt_zero _)
    | succ f => exact br_t (nI_le (by omega) (by omega)) (h vs fs)
  | succ m ih =>
    intro c e vs fs hc hf h f hlt
    cases f with
    | zero => exact absurd hlt (Nat.not_lt_zero _)
    | succ f =>
      refine sm_y24 hv hq (nI_ge (by omega) (by omega)) ?_
      refine sm_yrun hG hY (Nat.le_refl n) (by omega) hf (fun w hR vs' fs' hw hf' => ?_) (fun hR vs' fs' hf' => ?_)
      · rw [sm_lf_s hR, sm_ex] at h
        have he : vs' (nI v).toNatClampNeg = w v := by rw [nI_clamp (by omega)]; exact hw v hv
        refine br_f (by decide) (br_f (by decide) ?_)
        by_cases h0 : q = 0
        · rw [if_pos h0] at h
          refine br_t h0 ⟨pk_in v 4 hv, ?_⟩
          rw [he]
          by_cases hx : e ≤ w v
          · rw [if_pos hx] at h
            exact br_t hx (sm_y98 (ih (c + 1) e vs' fs' (by omega) hf' h f (by omega)))
          · rw [if_neg hx] at h
            exact br_f hx (sm_y94 hv (hw v hv) (ih (c + 1) (w v) vs' fs' (by omega) hf' h f (by omega)))
        · rw [if_neg h0] at h
          refine br_f h0 ⟨pk_in v 4 hv, ?_⟩
          rw [he]
          by_cases hx : w v ≤ e
          · rw [if_pos hx] at h
            exact br_t hx (sm_y98 (ih (c + 1) e vs' fs' (by omega) hf' h f (by omega)))
          · rw [if_neg hx] at h
            exact br_f hx (sm_y94 hv (hw v hv) (ih (c + 1) (w v) vs' fs' (by omega) hf' h f (by omega)))
      · rw [sm_lf_n hR] at h
        exact br_t rfl (nm_r (nI_1 c) (ih (c + 1) e vs' fs' (by omega) hf' h f (by omega)))
theorem sm_yex0 {post : Int32 → SY → Prop} {q : Int32} {K T O As Bs Cs : Nat → Int32} {n v : Nat} (hG : sm_G K T O n) (hY : sm_Y K T O As Bs Cs n) (hv : v < 4) (hq : q = 0 ∨ q = 1) : ∀ (m c : Nat) (vs fs : Nat → Int32), c + m = sm_P K O 0 n → (∀ j, j < n → sm_f K T O n c fs j) →
    (∀ vs' fs', post (sm_ex0 v q (sm_lf (sm_R K T O n) c m)) (nI n, K, As, Bs, Cs, vs', fs')) → ∀ f, m < f → wY_extreme_24 post (nI v) q (nI (sm_P K O 0 n)) f (-1000000000) 0 (nI c) (nI n) K As Bs Cs vs fs := by
  have hb := sm_G_P hG (i := 0) (m := n) (by omega)
  intro m
  induction m with
  | zero =>
    intro c vs fs hc hf h f hlt
    cases f with
    | zero => exact absurd hlt (Nat.not_lt_zero _)
    | succ f => exact br_t (nI_le (by omega) (by omega)) (h vs fs)
  | succ m ih =>
    intro c vs fs hc hf h f hlt
    cases f with
    | zero => exact absurd hlt (Nat.not_lt_zero _)
    | succ f =>
      refine sm_y24 hv hq (nI_ge (by omega) (by omega)) ?_
      refine sm_yrun hG hY (Nat.le_refl n) (by omega) hf (fun w hR vs' fs' hw hf' => ?_) (fun hR vs' fs' hf' => ?_)
      · rw [sm_lf_s hR, sm_ex0] at h
        exact br_f (by decide) (br_t rfl (sm_y94 hv (hw v hv) (sm_yex hG hY hv hq m (c + 1) (w v) vs' fs' (by omega) hf' h f (by omega))))
      · rw [sm_lf_n hR] at h
        exact br_t rfl (nm_r (nI_1 c) (ih (c + 1) vs' fs' (by omega) hf' h f (by omega)))
theorem sm_Yextreme {post : Int32 → SY → Prop} {q : Int32} {K T O As Bs Cs vs fs : Nat → Int32} {n v : Nat} (hG : sm_G K T O n) (hY : sm_Y K T O As Bs Cs n) (hv : v < 4) (hq : q = 0 ∨ q = 1) (h : ∀ vs' fs', post (sm_ex0 v q (sm_L K T O n)) (nI n, K, As, Bs, Cs, vs', fs')) : wpY_extreme post (nI n, K, As, Bs, Cs, vs, fs) (nI v) q := by
  have hn := hG.1
  rw [sm_L_R] at h
  unfold wpY_extreme
  dsimp only
  refine sm_begin (T := T) (O := O) (N := n) hn (fun fs' hf' => ?_)
  refine sm_btw (i := 0) (m := n) hG hY (Nat.le_refl n) (Nat.zero_add n) ?_
  exact ⟨_, sm_yex0 hG hY hv hq (sm_P K O 0 n) 0 vs fs' (Nat.zero_add _) hf' h _ (Nat.lt_succ_self _)⟩
theorem sm_Yextreme0 {post : Int32 → SY → Prop} {q v : Int32} {K T O As Bs Cs vs fs : Nat → Int32} {n : Nat} (hG : sm_G K T O n) (hY : sm_Y K T O As Bs Cs n) (hv : (v < 0 ∨ 4 ≤ v) ∨ (¬ q = 0 ∧ ¬ q = 1)) (h : ∀ vs' fs', post (-1000000000) (nI n, K, As, Bs, Cs, vs', fs')) : wpY_extreme post (nI n, K, As, Bs, Cs, vs, fs) v q := by
  have hn := hG.1
  unfold wpY_extreme
  dsimp only
  refine sm_begin (T := T) (O := O) (N := n) hn (fun fs' hf' => ?_)
  refine sm_btw (i := 0) (m := n) hG hY (Nat.le_refl n) (Nat.zero_add n) ?_
  refine ⟨1, br_c (fun _ => h vs fs') (fun _ => ?_)⟩
  rcases sm_v v with hb | ⟨j, hj, rfl⟩
  · refine sm_yv0 hb ?_
    exact br_t rfl (h vs fs')
  · refine sm_yv1 hj ?_
    refine br_f (by decide) ?_
    have hq2 : ¬ q = 0 ∧ ¬ q = 1 := hv.resolve_left (fun z => z.elim (fun z1 => nI_pos (by omega) z1) (fun z1 => nI_ge (b := 4) hj (by decide) z1))
    exact br_f hq2.1 (br_f hq2.2 (h vs fs'))
