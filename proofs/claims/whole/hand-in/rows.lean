section
/-! pure rows to paste: stores, nI and lN arithmetic, masks, shifts, narrowing, branches by naturals (pk_le, pk_lt, pk_eq), loops (lp1 .. lp16: the measure of the state; rp1 ..: recursion), negatives. Take what you need -/
theorem pk_us {f : Nat → Int32} {k : Nat} {x : Int32} : upd f k x k = x := if_pos rfl
theorem pk_un {f : Nat → Int32} {k j : Nat} {x : Int32} (h : j ≠ k) : upd f k x j = f j := if_neg h
theorem pk_sub {a b : Nat} (h : b ≤ a) : nI a - nI b = nI (a - b) := by
  obtain ⟨c, rfl⟩ : ∃ c, a = c + b := ⟨a - b, by omega⟩
  rw [← nI_add, Int32.add_sub_cancel, Nat.add_sub_cancel]
theorem pk_m1 (n : Nat) : nI (n + 1) + (-1) = nI n := by
  rw [← nI_1, Int32.add_assoc, show (1 : Int32) + (-1) = 0 from rfl, Int32.add_zero]
theorem pk_mul (a b : Nat) : nI a * nI b = nI (a * b) := (Int32.ofNat_mul a b).symm
theorem pk_div {a d : Nat} (ha : a < 2 ^ 31) (h0 : 0 < d) (hd : d < 2 ^ 31) : nI a / nI d = nI (a / d) := by
  apply Int32.toInt_inj.mp
  rw [lg_idiv_nonneg (by rw [nI_toInt ha]; omega) (by rw [nI_toInt hd]; omega), nI_toInt ha, nI_toInt hd, nI_toInt (Nat.lt_of_le_of_lt (Nat.div_le_self a d) ha)]
  first | rfl | exact (Int.natCast_ediv _ _).symm
theorem pk_rem {a d : Nat} (ha : a < 2 ^ 31) (h0 : 0 < d) (hd : d < 2 ^ 31) : nI a - nI a / nI d * nI d = nI (a % d) := by
  rw [pk_div ha h0 hd, pk_mul, pk_sub (Nat.div_mul_le_self a d)]
  exact congrArg nI (by have := Nat.div_add_mod' a d; omega)
theorem pk_sub_toInt {a b : Nat} (ha : a < 2 ^ 30) (hb : b < 2 ^ 30) : (nI a - nI b).toInt = (a : Int) - b := by
  rw [Int32.toInt_sub, nI_toInt (by omega), nI_toInt (by omega)]
  exact Int.bmod_eq_of_le (by omega) (by omega)
theorem pk_sneg {a b : Nat} (hb : b < 2 ^ 30) (h : a < b) : nI a - nI b < 0 := by
  rw [Int32.lt_iff_toInt_lt, pk_sub_toInt (by omega) hb, show (0 : Int32).toInt = 0 from by decide]
  omega
theorem pk_ix (x : Int32) {n : Nat} (hn : n < 2 ^ 31) : x < 0 ∨ nI n ≤ x ∨ ∃ j : Nat, j < n ∧ x = nI j := by
  by_cases h : x < 0
  · exact Or.inl h
  · obtain ⟨j, hj, rfl⟩ := nI_of h
    by_cases h2 : j < n
    · exact Or.inr (Or.inr ⟨j, h2, rfl⟩)
    · exact Or.inr (Or.inl (nI_le (by omega) hj))
theorem pk_le {x y : Int32} {A B : Prop} (a b : Nat) (f : a ≤ b → A) (g : b < a → B) (hx : x = nI a := by rfl) (hy : y = nI b := by rfl) (ha : a < 2 ^ 31 := by omega) (hb : b < 2 ^ 31 := by omega) : (x ≤ y → A) ∧ (¬ x ≤ y → B) := by
  subst hx hy
  rw [nI_leI ha hb]
  exact ⟨f, fun z => g (by omega)⟩
theorem pk_lt {x y : Int32} {A B : Prop} (a b : Nat) (f : a < b → A) (g : b ≤ a → B) (hx : x = nI a := by rfl) (hy : y = nI b := by rfl) (ha : a < 2 ^ 31 := by omega) (hb : b < 2 ^ 31 := by omega) : (x < y → A) ∧ (¬ x < y → B) := by
  subst hx hy
  rw [nI_ltI ha hb]
  exact ⟨f, fun z => g (by omega)⟩
theorem pk_eq {x y : Int32} {A B : Prop} (a b : Nat) (f : a = b → A) (g : a ≠ b → B) (hx : x = nI a := by rfl) (hy : y = nI b := by rfl) (ha : a < 2 ^ 31 := by omega) (hb : b < 2 ^ 31 := by omega) : (x = y → A) ∧ (¬ x = y → B) := by
  subst hx hy
  rw [nI_eq ha hb]
  exact ⟨f, g⟩
theorem pk_in {x : Int32} (n N : Nat) (h : n < N) (hx : x = nI n := by rfl) (hN : N < 2 ^ 31 := by omega) : vp_in x N := by
  subst hx
  exact vp_in_nI h hN
theorem pk_cl {x : Int32} (n : Nat) (hx : x = nI n := by rfl) (h : n < 2 ^ 31 := by omega) : x.toNatClampNeg = n := by
  subst hx
  exact nI_clamp h
theorem pk_tn {n : Nat} (h : n < 2 ^ 32) : (nI n).toBitVec.toNat = n := Nat.mod_eq_of_lt h
theorem pk_and (x : Int32) {m : Int32} (k : Nat) (hm : m.toBitVec.toNat = 2 ^ k - 1) : x &&& m = nI (x.toBitVec.toNat % 2 ^ k) := by
  apply Int32.toBitVec_inj.mp
  apply BitVec.eq_of_toNat_eq
  rw [Int32.toBitVec_and, BitVec.toNat_and, hm, Nat.and_two_pow_sub_one_eq_mod]
  show _ = (BitVec.ofNat 32 _).toNat
  rw [BitVec.toNat_ofNat]
  exact (Nat.mod_eq_of_lt (Nat.lt_of_le_of_lt (Nat.mod_le _ _) x.toBitVec.isLt)).symm
theorem pk_andN {n : Nat} (h : n < 2 ^ 32) {m : Int32} (k : Nat) (hm : m.toBitVec.toNat = 2 ^ k - 1) : nI n &&& m = nI (n % 2 ^ k) := by
  rw [pk_and _ k hm, pk_tn h]
theorem pk_andE (x : Int32) {m : Int32} (k : Nat) (hm : m.toBitVec.toNat = 2 ^ k - 1) : ∃ j : Nat, j < 2 ^ k ∧ x &&& m = nI j := ⟨_, Nat.mod_lt _ (Nat.two_pow_pos k), pk_and x k hm⟩
theorem pk_andIn (x : Int32) {m : Int32} (k : Nat) (hm : m.toBitVec.toNat = 2 ^ k - 1) (hk : k ≤ 30) : vp_in (x &&& m) (2 ^ k) := by
  obtain ⟨j, hj, e⟩ := pk_andE x k hm
  rw [e]
  exact vp_in_nI hj (Nat.lt_of_le_of_lt (Nat.pow_le_pow_right (by decide) hk) (by decide))
theorem pk_shl (a s : Int32) (k : Nat) (hs : (s.toBitVec.smod 32).toNat = k) : (a <<< s).toBitVec.toNat = a.toBitVec.toNat * 2 ^ k % 2 ^ 32 := by
  show (a.toBitVec <<< (s.toBitVec.smod 32).toNat).toNat = _
  rw [hs, BitVec.toNat_shiftLeft, Nat.shiftLeft_eq]
theorem pk_shlN {n : Nat} (s : Int32) (k : Nat) (hs : (s.toBitVec.smod 32).toNat = k) (h : n * 2 ^ k < 2 ^ 32) : nI n <<< s = nI (n * 2 ^ k) := by
  apply Int32.toBitVec_inj.mp
  apply BitVec.eq_of_toNat_eq
  have hn : n < 2 ^ 32 := Nat.lt_of_le_of_lt (Nat.le_mul_of_pos_right n (Nat.two_pow_pos k)) h
  rw [pk_shl _ _ k hs, pk_tn hn, pk_tn h, Nat.mod_eq_of_lt h]
theorem pk_shr (a s : Int32) (k : Nat) (hs : (s.toBitVec.smod 32).toNat = k) : (a >>> s).toInt = a.toInt >>> k := by
  show (a.toBitVec.sshiftRight (s.toBitVec.smod 32).toNat).toInt = _
  rw [hs, BitVec.toInt_sshiftRight]
  rfl
theorem pk_shrN {n : Nat} (h : n < 2 ^ 31) (s : Int32) (k : Nat) (hs : (s.toBitVec.smod 32).toNat = k) : nI n >>> s = nI (n / 2 ^ k) := by
  apply Int32.toInt_inj.mp
  have h2 : n / 2 ^ k ≤ n := Nat.div_le_self _ _
  rw [pk_shr _ _ k hs, nI_toInt h, nI_toInt (by omega), Int.shiftRight_eq_div_pow]
  rfl
theorem pk_ushr (x s : Int32) (k : Nat) (hs : ((s.toUInt32 &&& Int32.toUInt32 31).toBitVec % 32).toNat = k) : (x.toUInt32 >>> (s.toUInt32 &&& Int32.toUInt32 31)).toInt32.toBitVec.toNat = x.toBitVec.toNat / 2 ^ k := by
  have e : (x.toUInt32 >>> (s.toUInt32 &&& Int32.toUInt32 31)).toInt32.toBitVec = x.toBitVec >>> k := by
    rw [← hs]
    exact UInt32.toBitVec_shiftRight _ _
  rw [e, BitVec.toNat_ushiftRight, Nat.shiftRight_eq_div_pow]
theorem pk_ushrN {n : Nat} (hn : n < 2 ^ 32) (s : Int32) (k : Nat) (hs : ((s.toUInt32 &&& Int32.toUInt32 31).toBitVec % 32).toNat = k) : ((nI n).toUInt32 >>> (s.toUInt32 &&& Int32.toUInt32 31)).toInt32 = nI (n / 2 ^ k) := by
  apply Int32.toBitVec_inj.mp
  apply BitVec.eq_of_toNat_eq
  rw [pk_ushr _ s k hs, pk_tn hn, pk_tn (Nat.lt_of_le_of_lt (Nat.div_le_self _ _) hn)]
theorem pk_loop {σ : Type} (W : Nat → Nat → σ → Prop) (I : Nat → σ → Prop) (e i0 : Nat) (s : σ) (hi : i0 ≤ e) (h0 : I i0 s) (hx : ∀ n s, I e s → W (n + 1) e s)
    (hs : ∀ n i s, i < e → I i s → (∀ s', I (i + 1) s' → W n (i + 1) s') → W (n + 1) i s) : ∃ n, W n i0 s :=
  ⟨e + 1, loop_i W I e hx hs (e + 1) i0 s hi (by omega) h0⟩
theorem pk_loopD {σ : Type} (W : Nat → Nat → σ → Prop) (I : Nat → σ → Prop) (hx : ∀ n s, I 0 s → W (n + 1) 0 s)
    (hs : ∀ n i s, I (i + 1) s → (∀ s', I i s' → W n i s') → W (n + 1) (i + 1) s) : ∀ (e : Nat) (s : σ), I e s → W (e + 1) e s := by
  intro e
  induction e with
  | zero => exact fun s h => hx 0 s h
  | succ e ih => exact fun s h => hs (e + 1) e s h (fun s' h' => ih s' h')
end
section
/-! the pure picture: ways, decisions, codes -/
def sm_lf {α : Type} (f : Nat → Option α) : Nat → Nat → List α
  | _, 0 => []
  | c, m + 1 => match f c with
    | none => sm_lf f (c + 1) m
    | some w => w :: sm_lf f (c + 1) m
theorem sm_lf_0 {α : Type} {f : Nat → Option α} {c : Nat} : sm_lf f c 0 = [] := by rw [sm_lf]
theorem sm_lf_n {α : Type} {f : Nat → Option α} {c m : Nat} (h : f c = none) : sm_lf f c (m + 1) = sm_lf f (c + 1) m := by
  rw [sm_lf, h]
theorem sm_lf_s {α : Type} {f : Nat → Option α} {c m : Nat} {w : α} (h : f c = some w) : sm_lf f c (m + 1) = w :: sm_lf f (c + 1) m := by
  rw [sm_lf, h]
theorem sm_lf_add {α : Type} (f : Nat → Option α) : ∀ a b c : Nat, sm_lf f c (a + b) = sm_lf f c a ++ sm_lf f (c + a) b := by
  intro a
  induction a with
  | zero => intro b c; rw [sm_lf_0, Nat.zero_add, Nat.add_zero]; rfl
  | succ a ih =>
    intro b c
    rw [show a + 1 + b = (a + b) + 1 from by omega, show c + (a + 1) = (c + 1) + a from by omega]
    cases h : f c with
    | none => rw [sm_lf_n h, sm_lf_n h, ih]
    | some w => rw [sm_lf_s h, sm_lf_s h, ih]; rfl
theorem sm_lf_len {α : Type} (f : Nat → Option α) : ∀ m c : Nat, (sm_lf f c m).length ≤ m := by
  intro m
  induction m with
  | zero => intro c; rw [sm_lf_0]; exact Nat.le_refl _
  | succ m ih =>
    intro c
    have h1 := ih (c + 1)
    cases h : f c with
    | none => rw [sm_lf_n h]; omega
    | some w => rw [sm_lf_s h, List.length_cons]; omega
theorem sm_lf_congr {α : Type} {f g : Nat → Option α} : ∀ m c c' : Nat, (∀ d, d < m → f (c + d) = g (c' + d)) → sm_lf f c m = sm_lf g c' m := by
  intro m
  induction m with
  | zero => intro c c' _; rw [sm_lf_0, sm_lf_0]
  | succ m ih =>
    intro c c' h
    have h0 := h 0 (by omega)
    rw [Nat.add_zero, Nat.add_zero] at h0
    have h1 : sm_lf f (c + 1) m = sm_lf g (c' + 1) m := ih _ _ (fun d hd => by
      have := h (d + 1) (by omega)
      rw [show c + 1 + d = c + (d + 1) from by omega, show c' + 1 + d = c' + (d + 1) from by omega]
      exact this)
    cases e : f c with
    | none => rw [sm_lf_n e, sm_lf_n (h0.symm.trans e), h1]
    | some w => rw [sm_lf_s e, sm_lf_s (h0.symm.trans e), h1]
theorem sm_lf_none {α : Type} {f : Nat → Option α} : ∀ m c : Nat, (∀ d, d < m → f (c + d) = none) → sm_lf f c m = [] := by
  intro m
  induction m with
  | zero => intro c _; rw [sm_lf_0]
  | succ m ih =>
    intro c h
    have h0 := h 0 (by omega)
    rw [Nat.add_zero] at h0
    rw [sm_lf_n h0]
    exact ih _ (fun d hd => by
      have := h (d + 1) (by omega)
      rw [show c + 1 + d = c + (d + 1) from by omega]
      exact this)
theorem sm_lf_nil {α : Type} {f : Nat → Option α} : ∀ m c : Nat, sm_lf f c m = [] → ∀ d, d < m → f (c + d) = none := by
  intro m
  induction m with
  | zero => intro c _ d hd; exact absurd hd (Nat.not_lt_zero _)
  | succ m ih =>
    intro c h d hd
    cases e : f c with
    | some w => rw [sm_lf_s e] at h; exact absurd h (by simp)
    | none =>
      rw [sm_lf_n e] at h
      cases d with
      | zero => exact e
      | succ d =>
        have := ih _ h d (by omega)
        rw [show c + 1 + d = c + (d + 1) from by omega] at this
        exact this
theorem sm_lf_tot {α : Type} {f : Nat → Option α} {g : Nat → α} : ∀ m c : Nat, (∀ d, d < m → f (c + d) = some (g (c + d))) → (sm_lf f c m).length = m ∧ ∀ d, d < m → (sm_lf f c m)[d]? = some (g (c + d)) := by
  intro m
  induction m with
  | zero => intro c _; rw [sm_lf_0]; exact ⟨rfl, fun d hd => absurd hd (Nat.not_lt_zero _)⟩
  | succ m ih =>
    intro c h
    have h0 := h 0 (by omega)
    rw [Nat.add_zero] at h0
    have ⟨i1, i2⟩ := ih (c + 1) (fun d hd => by
      have := h (d + 1) (by omega)
      rw [show c + 1 + d = c + (d + 1) from by omega]
      exact this)
    rw [sm_lf_s h0]
    refine ⟨by rw [List.length_cons, i1], fun d hd => ?_⟩
    cases d with
    | zero => rfl
    | succ d =>
      rw [List.getElem?_cons_succ, i2 d (by omega), show c + 1 + d = c + (d + 1) from by omega]

/-! one step -/
def sm_t (k x y : Int32) : Bool := if k = 5 then decide (x < y) else if k = 6 then decide (x = y) else !decide (x = y)
def sm_op (k a b : Int32) (w : Nat → Int32) (d : Nat) : Option (Nat → Int32) :=
  if k = 0 then some (upd w a.toNatClampNeg ((b &&& 15) - 3 + nI d))
  else if k = 1 then some (upd w a.toNatClampNeg b)
  else if k = 2 then some (upd w a.toNatClampNeg (w a.toNatClampNeg + w b.toNatClampNeg))
  else if k = 3 then some (upd w a.toNatClampNeg (w a.toNatClampNeg * w b.toNatClampNeg))
  else if k = 4 then some (if d = 0 then upd w a.toNatClampNeg (w b.toNatClampNeg) else w)
  else if k = 9 then some (if d = 0 then upd w a.toNatClampNeg (w a.toNatClampNeg + 1) else upd w b.toNatClampNeg (w b.toNatClampNeg + 1))
  else if sm_t k (w a.toNatClampNeg) (w b.toNatClampNeg) = true then some w else none
def sm_o (k b : Int32) : Nat :=
  if k = 0 then ((b >>> ((4 : Int32) &&& 31)).toNatClampNeg + 1) - (b &&& 15).toNatClampNeg
  else if k = 4 then 2 else if k = 9 then 2 else 1
def sm_nx (k a b : Int32) (f : Nat → Option (Nat → Int32)) (p : Nat) : Option (Nat → Int32) :=
  if k = 8 then (match sm_lf f 0 p with
    | [] => f p
    | _ :: _ => none)
  else match f (p / sm_o k b) with
    | none => none
    | some w => sm_op k a b w (p % sm_o k b)
def sm_nl (k a b : Int32) (L : List (Nat → Int32)) : List (Nat → Int32) :=
  if k = 8 then L.take 1 else L.flatMap (fun w => sm_lf (sm_op k a b w) 0 (sm_o k b))
def sm_R (K T O : Nat → Int32) : Nat → Nat → Option (Nat → Int32)
  | 0 => fun _ => some (fun _ => 0)
  | j + 1 => sm_nx (K j) (T j) (O j) (sm_R K T O j)
def sm_L (K T O : Nat → Int32) : Nat → List (Nat → Int32)
  | 0 => [fun _ => 0]
  | j + 1 => sm_nl (K j) (T j) (O j) (sm_L K T O j)
/-- the product of the numbers of decisions of m steps from i on -/
def sm_P (K O : Nat → Int32) : Nat → Nat → Nat
  | _, 0 => 1
  | i, m + 1 => sm_o (K i) (O i) * sm_P K O (i + 1) m
theorem sm_P_add (K O : Nat → Int32) : ∀ a b i : Nat, sm_P K O i (a + b) = sm_P K O i a * sm_P K O (i + a) b := by
  intro a
  induction a with
  | zero => intro b i; rw [Nat.zero_add, Nat.add_zero, sm_P, Nat.one_mul]
  | succ a ih =>
    intro b i
    rw [show a + 1 + b = (a + b) + 1 from by omega, sm_P, sm_P, ih, Nat.mul_assoc, show i + 1 + a = i + (a + 1) from by omega]
theorem sm_P_s (K O : Nat → Int32) (j : Nat) : sm_P K O 0 (j + 1) = sm_P K O 0 j * sm_o (K j) (O j) := by
  rw [sm_P_add, Nat.zero_add, sm_P, sm_P, Nat.mul_one]
def sm_ch (k : Int32) : Nat := if k = 0 then 1 else if k = 4 then 1 else if k = 9 then 1 else 0
def sm_c (K : Nat → Int32) : Nat → Nat → Nat
  | _, 0 => 0
  | i, m + 1 => sm_ch (K i) + sm_c K (i + 1) m
theorem sm_c_add (K : Nat → Int32) : ∀ a b i : Nat, sm_c K i (a + b) = sm_c K i a + sm_c K (i + a) b := by
  intro a
  induction a with
  | zero => intro b i; rw [Nat.zero_add, Nat.add_zero, sm_c, Nat.zero_add]
  | succ a ih =>
    intro b i
    rw [show a + 1 + b = (a + b) + 1 from by omega, sm_c, sm_c, ih, show i + 1 + a = i + (a + 1) from by omega, Nat.add_assoc]
theorem sm_c_congr {K K' : Nat → Int32} : ∀ m i : Nat, (∀ j, i ≤ j → j < i + m → K j = K' j) → sm_c K i m = sm_c K' i m := by
  intro m
  induction m with
  | zero => intro i _; rw [sm_c, sm_c]
  | succ m ih =>
    intro i h
    rw [sm_c, sm_c, h i (by omega) (by omega), ih (i + 1) (fun j h1 h2 => h j (by omega) (by omega))]
/-- a valid step -/
def sm_ok (k a b : Int32) : Prop :=
  k = 8 ∨ (k = 0 ∧ ∃ A lo hi : Nat, A < 4 ∧ lo < 13 ∧ hi < 13 ∧ a = nI A ∧ b &&& 15 = nI lo ∧ b >>> ((4 : Int32) &&& 31) = nI hi)
  ∨ (k = 1 ∧ ∃ A : Nat, A < 4 ∧ a = nI A)
  ∨ ((k = 2 ∨ k = 3 ∨ k = 4 ∨ k = 5 ∨ k = 6 ∨ k = 7 ∨ k = 9) ∧ ∃ A B : Nat, A < 4 ∧ B < 4 ∧ a = nI A ∧ b = nI B)
theorem sm_o_0 {b : Int32} {lo hi : Nat} (hl : lo < 13) (hh : hi < 13) (e1 : b &&& 15 = nI lo) (e2 : b >>> ((4 : Int32) &&& 31) = nI hi) : sm_o 0 b = hi + 1 - lo := by
  rw [sm_o, if_pos rfl, e1, e2, nI_clamp (by omega), nI_clamp (by omega)]
theorem sm_o_le {k a b : Int32} (h : sm_ok k a b) : sm_o k b ≤ 13 ^ sm_ch k := by
  rcases h with rfl | ⟨rfl, A, lo, hi, hA, hl, hh, _, e1, e2⟩ | ⟨rfl, _⟩ | ⟨h, _⟩
  · exact Nat.le_of_eq (by rfl)
  · rw [sm_o_0 hl hh e1 e2]; show _ ≤ 13 ^ 1; omega
  · exact Nat.le_of_eq (by rfl)
  · rcases h with rfl | rfl | rfl | rfl | rfl | rfl | rfl
    · exact Nat.le_of_eq (by rfl)
    · exact Nat.le_of_eq (by rfl)
    · show 2 ≤ 13 ^ 1; omega
    · exact Nat.le_of_eq (by rfl)
    · exact Nat.le_of_eq (by rfl)
    · exact Nat.le_of_eq (by rfl)
    · show 2 ≤ 13 ^ 1; omega
theorem sm_P_le {K T O : Nat → Int32} : ∀ m i : Nat, (∀ j, i ≤ j → j < i + m → sm_ok (K j) (T j) (O j)) → sm_P K O i m ≤ 13 ^ sm_c K i m := by
  intro m
  induction m with
  | zero => intro i _; rw [sm_P, sm_c]; exact Nat.le_refl _
  | succ m ih =>
    intro i h
    rw [sm_P, sm_c, Nat.pow_add]
    exact Nat.mul_le_mul (sm_o_le (h i (by omega) (by omega))) (ih (i + 1) (fun j h1 h2 => h j (by omega) (by omega)))
/-- every stretch of a program with at most three choosing steps has at most 2197 codes -/
theorem sm_P_b {K T O : Nat → Int32} {n : Nat} (h : ∀ j, j < n → sm_ok (K j) (T j) (O j)) (hc : sm_c K 0 n ≤ 3) (i m : Nat) (hm : i + m ≤ n) : sm_P K O i m ≤ 2197 := by
  have h1 : sm_P K O i m ≤ 13 ^ sm_c K i m := sm_P_le m i (fun j _ h2 => h j (by omega))
  have h2 : sm_c K 0 n = sm_c K 0 i + (sm_c K i m + sm_c K (i + m) (n - i - m)) := by
    rw [← sm_c_add, show m + (n - i - m) = n - i from by omega]
    have := sm_c_add K i (n - i) 0
    rw [show i + (n - i) = n from by omega, Nat.zero_add] at this
    exact this
  have h3 : 13 ^ sm_c K i m ≤ 13 ^ 3 := Nat.pow_le_pow_right (by omega) (by omega)
  exact Nat.le_trans h1 h3

/-! the list of the ways is the list over the codes -/
theorem sm_once {f : Nat → Option (Nat → Int32)} {k a b : Int32} (hk : k = 8) : ∀ m c : Nat, (sm_lf f 0 c = [] → sm_lf (sm_nx k a b f) c m = (sm_lf f c m).take 1) ∧ (sm_lf f 0 c ≠ [] → sm_lf (sm_nx k a b f) c m = []) := by
  intro m
  induction m with
  | zero => intro c; rw [sm_lf_0, sm_lf_0]; exact ⟨fun _ => rfl, fun _ => rfl⟩
  | succ m ih =>
    intro c
    have hs : sm_lf f 0 (c + 1) = sm_lf f 0 c ++ sm_lf f c 1 := by
      rw [sm_lf_add, Nat.zero_add]
    constructor
    · intro h
      have hn : sm_nx k a b f c = f c := by rw [sm_nx, if_pos hk, h]
      rw [h] at hs
      cases e : f c with
      | none =>
        rw [sm_lf_n (hn.trans e), sm_lf_n e]
        exact (ih (c + 1)).1 (by rw [hs, sm_lf_n e, sm_lf_0]; rfl)
      | some w =>
        rw [sm_lf_s (hn.trans e), sm_lf_s e]
        rw [(ih (c + 1)).2 (by rw [hs, sm_lf_s e]; simp)]
        rfl
    · intro h
      have hn : sm_nx k a b f c = none := by
        rw [sm_nx, if_pos hk]
        cases e : sm_lf f 0 c with
        | nil => exact absurd e h
        | cons w t => rfl
      rw [sm_lf_n hn]
      exact (ih (c + 1)).2 (by rw [hs]; intro z; exact h (List.append_eq_nil_iff.mp z).1)
theorem sm_dm {k m d : Nat} (hd : d < m) : (k * m + d) / m = k ∧ (k * m + d) % m = d := by
  constructor
  · rw [Nat.mul_comm, Nat.mul_add_div (by omega), Nat.div_eq_of_lt hd, Nat.add_zero]
  · rw [Nat.mul_comm, Nat.mul_add_mod, Nat.mod_eq_of_lt hd]
theorem sm_flat {f : Nat → Option (Nat → Int32)} {k a b : Int32} (hk : ¬ k = 8) : ∀ m c : Nat, sm_lf (sm_nx k a b f) (c * sm_o k b) (m * sm_o k b) = (sm_lf f c m).flatMap (fun w => sm_lf (sm_op k a b w) 0 (sm_o k b)) := by
  intro m
  induction m with
  | zero => intro c; rw [Nat.zero_mul, sm_lf_0, sm_lf_0]; rfl
  | succ m ih =>
    intro c
    have hb : ∀ d, d < sm_o k b → sm_nx k a b f (c * sm_o k b + d) = (match f c with
        | none => none
        | some w => sm_op k a b w d) := fun d hd => by
      rw [sm_nx, if_neg hk, (sm_dm hd).1, (sm_dm hd).2]
    rw [show (m + 1) * sm_o k b = sm_o k b + m * sm_o k b from by rw [Nat.succ_mul, Nat.add_comm], sm_lf_add, show c * sm_o k b + sm_o k b = (c + 1) * sm_o k b from by rw [Nat.succ_mul], ih]
    cases e : f c with
    | none =>
      rw [e] at hb
      rw [sm_lf_n e, sm_lf_none _ _ hb]
      rfl
    | some w =>
      rw [e] at hb
      rw [sm_lf_s e, List.flatMap_cons, sm_lf_congr (g := sm_op k a b w) (sm_o k b) (c * sm_o k b) 0 (fun d hd => by rw [hb d hd, Nat.zero_add])]
theorem sm_L_R (K T O : Nat → Int32) : ∀ j : Nat, sm_L K T O j = sm_lf (sm_R K T O j) 0 (sm_P K O 0 j) := by
  intro j
  induction j with
  | zero => rfl
  | succ j ih =>
    rw [sm_P_s, sm_L, sm_nl, sm_R]
    by_cases h : K j = 8
    · rw [if_pos h, ih, show sm_o (K j) (O j) = 1 from by rw [h]; rfl, Nat.mul_one]
      exact ((sm_once h _ 0).1 sm_lf_0).symm
    · rw [if_neg h, ih, ← sm_flat h _ 0, Nat.zero_mul]
theorem sm_L_len (K T O : Nat → Int32) (j : Nat) : (sm_L K T O j).length ≤ sm_P K O 0 j := by
  rw [sm_L_R]; exact sm_lf_len _ _ _
end
section
/-! the cells hold a list of ways; copies and stores -/
def sm_H (c : Nat → Int32) : Nat → List (Nat → Int32) → Prop
  | _, [] => True
  | i, w :: t => (∀ v, v < 4 → c (4 * i + v) = w v) ∧ sm_H c (i + 1) t
theorem sm_H_app {c : Nat → Int32} : ∀ (A B : List (Nat → Int32)) (i : Nat), sm_H c i A → sm_H c (i + A.length) B → sm_H c i (A ++ B) := by
  intro A
  induction A with
  | nil => intro B i _ h; exact h
  | cons w t ih =>
    intro B i h1 h2
    refine ⟨h1.1, ih B (i + 1) h1.2 ?_⟩
    rw [List.length_cons] at h2
    rw [show i + 1 + t.length = i + (t.length + 1) from by omega]
    exact h2
theorem sm_H_get {c : Nat → Int32} : ∀ (L : List (Nat → Int32)) (i : Nat), sm_H c i L → ∀ k w, L[k]? = some w → ∀ v, v < 4 → c (4 * (i + k) + v) = w v := by
  intro L
  induction L with
  | nil => intro i _ k w h; simp at h
  | cons a t ih =>
    intro i h k w e v hv
    cases k with
    | zero =>
      have e' : a = w := by simpa using e
      rw [← e']
      exact h.1 v hv
    | succ k =>
      rw [List.getElem?_cons_succ] at e
      have := ih (i + 1) h.2 k w e v hv
      rw [show i + 1 + k = i + (k + 1) from by omega] at this
      exact this
theorem sm_H_of {c : Nat → Int32} : ∀ (L : List (Nat → Int32)) (i : Nat), (∀ k w, L[k]? = some w → ∀ v, v < 4 → c (4 * (i + k) + v) = w v) → sm_H c i L := by
  intro L
  induction L with
  | nil => intro i _; exact True.intro
  | cons a t ih =>
    intro i h
    refine ⟨fun v hv => h 0 a rfl v hv, ih (i + 1) (fun k w e v hv => ?_)⟩
    have := h (k + 1) w (by rw [List.getElem?_cons_succ]; exact e) v hv
    rw [show i + 1 + k = i + (k + 1) from by omega]
    exact this
theorem sm_H_congr {c c' : Nat → Int32} : ∀ (L : List (Nat → Int32)) (i : Nat), (∀ x, 4 * i ≤ x → x < 4 * (i + L.length) → c' x = c x) → sm_H c i L → sm_H c' i L := by
  intro L
  induction L with
  | nil => intro i _ _; exact True.intro
  | cons a t ih =>
    intro i h h1
    rw [List.length_cons] at h
    refine ⟨fun v hv => ?_, ih (i + 1) (fun x h2 h3 => h x (by omega) (by omega)) h1.2⟩
    rw [h _ (by omega) (by omega)]
    exact h1.1 v hv
/-- the cells of a program's ways, where every way becomes m ways -/
theorem sm_H_flat {c : Nat → Int32} {m : Nat} {f : (Nat → Int32) → Nat → Option (Nat → Int32)} {g : (Nat → Int32) → Nat → Nat → Int32} (hf : ∀ w d, d < m → f w d = some (g w d)) : ∀ (L : List (Nat → Int32)) (i : Nat), (∀ k w, L[k]? = some w → ∀ d, d < m → ∀ v, v < 4 → c (4 * ((i + k) * m + d) + v) = g w d v) → sm_H c (i * m) (L.flatMap (fun w => sm_lf (f w) 0 m)) ∧ (L.flatMap (fun w => sm_lf (f w) 0 m)).length = L.length * m := by
  intro L
  induction L with
  | nil => intro i _; exact ⟨True.intro, by simp⟩
  | cons a t ih =>
    intro i h
    have ⟨t1, t2⟩ := sm_lf_tot (f := f a) (g := g a) m 0 (fun d hd => by rw [Nat.zero_add]; exact hf a d hd)
    have ⟨i1, i2⟩ := ih (i + 1) (fun k w e d hd v hv => by
      have := h (k + 1) w (by rw [List.getElem?_cons_succ]; exact e) d hd v hv
      rw [show i + 1 + k = i + (k + 1) from by omega]
      exact this)
    rw [List.flatMap_cons]
    constructor
    · refine sm_H_app _ _ _ (sm_H_of _ _ (fun k w e v hv => ?_)) (by rw [t1, ← Nat.succ_mul]; exact i1)
      have hk : k < m := by
        rw [← t1]
        exact (List.getElem?_eq_some_iff.mp e).1
      have e' := t2 k hk
      rw [e, Nat.zero_add] at e'
      rw [Option.some.inj e']
      exact h 0 a rfl k hk v hv
    · rw [List.length_append, t1, i2, List.length_cons, Nat.succ_mul, Nat.add_comm]
/-- the cells after t cells of way fr were copied to way to -/
def sm_cp (c : Nat → Int32) (to fr t : Nat) : Nat → Int32 := fun x => if 4 * to ≤ x ∧ x < 4 * to + t then c (4 * fr + (x - 4 * to)) else c x
theorem sm_cp_0 (c : Nat → Int32) (to fr : Nat) : sm_cp c to fr 0 = c := by
  funext x
  exact if_neg (by omega)
theorem sm_cp_s (c : Nat → Int32) (to fr t : Nat) (ht : t < 4) : upd (sm_cp c to fr t) (4 * to + t) (sm_cp c to fr t (4 * fr + t)) = sm_cp c to fr (t + 1) := by
  have e : sm_cp c to fr t (4 * fr + t) = c (4 * fr + t) := if_neg (by omega)
  funext x
  rw [e]
  show (if x = 4 * to + t then _ else (if _ then _ else _)) = (if _ then _ else _)
  by_cases h : x = 4 * to + t
  · rw [if_pos h, if_pos (by omega), show x - 4 * to = t from by omega]
  · rw [if_neg h]
    by_cases h2 : 4 * to ≤ x ∧ x < 4 * to + t
    · rw [if_pos h2, if_pos (by omega)]
    · rw [if_neg h2, if_neg (by omega)]
/-- the cells after the ways below i got a value at one place each -/
def sm_wr (c : Nat → Int32) (A : Nat → Nat) (F : Nat → Int32) (i : Nat) : Nat → Int32 := fun x => if x / 4 < i ∧ x % 4 = A (x / 4) then F (x / 4) else c x
theorem sm_wr_0 (c : Nat → Int32) (A : Nat → Nat) (F : Nat → Int32) : sm_wr c A F 0 = c := by
  funext x
  exact if_neg (by omega)
theorem sm_wr_s (c : Nat → Int32) (A : Nat → Nat) (F : Nat → Int32) (i : Nat) (hA : A i < 4) : upd (sm_wr c A F i) (4 * i + A i) (F i) = sm_wr c A F (i + 1) := by
  funext x
  show (if x = 4 * i + A i then F i else (if _ then _ else _)) = (if _ then _ else _)
  by_cases h : x = 4 * i + A i
  · have h4 : x / 4 = i := by omega
    rw [if_pos h, if_pos (by rw [h4]; omega), h4]
  · rw [if_neg h]
    by_cases h2 : x / 4 < i ∧ x % 4 = A (x / 4)
    · rw [if_pos h2, if_pos ⟨by omega, h2.2⟩]
    · rw [if_neg h2, if_neg (fun z => ?_)]
      by_cases h4 : x / 4 = i
      · rw [h4] at z
        exact h (by omega)
      · exact h2 ⟨by omega, z.2⟩
theorem sm_wr_r (c : Nat → Int32) (A : Nat → Nat) (F : Nat → Int32) (i j v : Nat) (hv : v < 4) (h : i ≤ j) : sm_wr c A F i (4 * j + v) = c (4 * j + v) := if_neg (by omega)
theorem sm_wr_v (c : Nat → Int32) (A : Nat → Nat) (F : Nat → Int32) (i j v : Nat) (hv : v < 4) (h : j < i) : sm_wr c A F i (4 * j + v) = if v = A j then F j else c (4 * j + v) := by
  have h4 : (4 * j + v) / 4 = j := by omega
  have h5 : (4 * j + v) % 4 = v := by omega
  show (if (4 * j + v) / 4 < i ∧ (4 * j + v) % 4 = A ((4 * j + v) / 4) then F ((4 * j + v) / 4) else c (4 * j + v)) = _
  rw [h4, h5]
  by_cases e : v = A j
  · rw [if_pos ⟨h, e⟩, if_pos e]
  · rw [if_neg (fun z => e z.2), if_neg e]
theorem sm_ix (a i : Nat) : nI a * 4 + nI i = nI (4 * a + i) := by
  show nI a * nI 4 + nI i = _
  rw [pk_mul, nI_add, Nat.mul_comm]
theorem sm_sub1 (x : Int32) : x - 1 = x + (-1) := Int32.sub_eq_add_neg x 1
end
section
/-! split: every way m times, from the last to the first -/
theorem sm_cp_in {c : Nat → Int32} {to fr t x : Nat} (h : 4 * to ≤ x ∧ x < 4 * to + t) : sm_cp c to fr t x = c (4 * fr + (x - 4 * to)) := if_pos h
theorem sm_cp_out {c : Nat → Int32} {to fr t x : Nat} (h : ¬ (4 * to ≤ x ∧ x < 4 * to + t)) : sm_cp c to fr t x = c x := if_neg h
theorem sm_s29 {post : SX → Prop} {J7 J15 : Int32 → (Nat → Int32) → (Nat → Int32) → (Nat → Int32) → (Nat → Int32) → Prop} {x1 x3 sc wc : Int32} {K T O : Nat → Int32} (c : Nat → Int32) (to fr : Nat) (ht : to < 2197) (hf : fr < 2197) (h : J15 (x3 + (-1)) K T O (sm_cp c to fr 4)) : ∃ n, wX_split_29 post J7 J15 x1 (nI fr) x3 (nI to) sc wc n 0 K T O c :=
  loop_0 (fun n i s => wX_split_29 post J7 J15 x1 (nI fr) x3 (nI to) sc wc n (nI i) K T O s) (fun i s => s = sm_cp c to fr i) 4 c (sm_cp_0 c to fr).symm
    (fun n s e => by subst e; exact br_t (nI_le (b := 4) (Nat.le_refl 4) (by decide)) (nm_e h))
    (fun n i s hi e ih => by
      subst e
      refine br_f (nI_ge (b := 4) hi (by decide)) ⟨pk_in (4 * fr + i) 8788 (by omega) (sm_ix _ _), pk_in (4 * to + i) 8788 (by omega) (sm_ix _ _), nm_r ?_ (nm_r (nI_1 i) (ih _ rfl))⟩
      rw [sm_ix, sm_ix, nI_clamp (by omega), nI_clamp (by omega)]
      exact sm_cp_s c to fr i hi)
theorem sm_neg1 : nI 0 + (-1) < (0 : Int32) := by decide
theorem sm_s15 {post : SX → Prop} {J7 : Int32 → (Nat → Int32) → (Nat → Int32) → (Nat → Int32) → (Nat → Int32) → Prop} {sc wc : Int32} {K T O : Nat → Int32} (c0 c : Nat → Int32) (N m way : Nat) (hm : 0 < m) (hw : way < N) (hN : N * m ≤ 2197)
    (p1 : ∀ x, 4 * (way * m + m) ≤ x → x < 4 * (N * m) → c x = c0 (4 * (x / 4 / m) + x % 4)) (p2 : ∀ x, x < 4 * (way + 1) → c x = c0 x)
    (h : ∀ c', (∀ x, 4 * (way * m) ≤ x → x < 4 * (N * m) → c' x = c0 (4 * (x / 4 / m) + x % 4)) → (∀ x, x < 4 * (way + 1) → c' x = c0 x) → J7 (nI way + (-1)) K T O c') :
    wX_split_15 post J7 (nI m) (nI way) sc wc (m + 1) (nI m + (-1)) K T O c := by
  refine pk_loopD (fun n s c' => wX_split_15 post J7 (nI m) (nI way) sc wc n (nI s + (-1)) K T O c') (fun s c' => s ≤ m ∧ (∀ x, 4 * (way * m + s) ≤ x → x < 4 * (N * m) → c' x = c0 (4 * (x / 4 / m) + x % 4)) ∧ (∀ x, x < 4 * (way + 1) → c' x = c0 x)) ?_ ?_ m c ⟨Nat.le_refl m, p1, p2⟩
  · intro n c' ⟨_, q1, q2⟩
    exact br_t sm_neg1 (nm_e (h c' q1 q2))
  · intro n s c' ⟨hs, q1, q2⟩ ih
    show wX_split_15 post J7 (nI m) (nI way) sc wc (n + 1) (nI (s + 1) + (-1)) K T O c'
    rw [pk_m1]
    have h1 : (way + 1) * m ≤ N * m := Nat.mul_le_mul_right m hw
    rw [Nat.succ_mul] at h1
    have h2 : way ≤ way * m := Nat.le_mul_of_pos_right way hm
    have h3 : (way * m + s) / m = way := (sm_dm (by omega)).1
    refine br_f (nI_pos (by omega)) (nm_r (by rw [pk_mul, nI_add]) (sm_s29 c' (way * m + s) way (by omega) (by omega) (ih _ ⟨by omega, ?_, ?_⟩)))
    · intro x hx1 hx2
      by_cases hb : x < 4 * (way * m + s) + 4
      · rw [sm_cp_in ⟨hx1, hb⟩, q2 _ (by omega), show x / 4 = way * m + s from by omega, h3, show x % 4 = x - 4 * (way * m + s) from by omega]
      · rw [sm_cp_out (by omega)]
        exact q1 x (by omega) hx2
    · intro x hx
      by_cases hb : 4 * (way * m + s) ≤ x ∧ x < 4 * (way * m + s) + 4
      · rw [sm_cp_in hb, show 4 * way + (x - 4 * (way * m + s)) = x from by omega]
        exact q2 x hx
      · rw [sm_cp_out hb]
        exact q2 x hx
theorem sm_s7 {post : SX → Prop} {sc : Int32} {K T O : Nat → Int32} (c : Nat → Int32) (N m : Nat) (hm : 0 < m) (hN : N * m ≤ 2197)
    (h : ∀ c', (∀ x, x < 4 * (N * m) → c' x = c (4 * (x / 4 / m) + x % 4)) → post (sc, nI (N * m), K, T, O, c')) :
    wX_split_7 post (nI m) sc (nI N) (N + 1) (nI N + (-1)) K T O c := by
  refine pk_loopD (fun n s c' => wX_split_7 post (nI m) sc (nI N) n (nI s + (-1)) K T O c') (fun s c' => s ≤ N ∧ (∀ x, 4 * (s * m) ≤ x → x < 4 * (N * m) → c' x = c (4 * (x / 4 / m) + x % 4)) ∧ (∀ x, x < 4 * s → c' x = c x)) ?_ ?_ N c ⟨Nat.le_refl N, fun x h1 h2 => absurd h2 (by omega), fun x _ => rfl⟩
  · intro n c' ⟨_, q1, q2⟩
    exact br_t sm_neg1 (nm_r (pk_mul N m) (h c' (fun x hx => q1 x (by rw [Nat.zero_mul]; omega) hx)))
  · intro n s c' ⟨hs, q1, q2⟩ ih
    show wX_split_7 post (nI m) sc (nI N) (n + 1) (nI (s + 1) + (-1)) K T O c'
    rw [pk_m1]
    have h0 : N ≤ N * m := Nat.le_mul_of_pos_right N hm
    rw [show (s + 1) * m = s * m + m from Nat.succ_mul s m] at q1
    exact br_f (nI_pos (by omega)) (nm_r (sm_sub1 (nI m)) ⟨m + 1, sm_s15 c c' N m s hm (by omega) hN q1 q2 (fun c'' r1 r2 => ih c'' ⟨by omega, r1, fun x hx => r2 x (by omega)⟩)⟩)
theorem sm_split {post : SX → Prop} {sc : Int32} {K T O : Nat → Int32} (c : Nat → Int32) (N m : Nat) (hm : 0 < m) (hN : N * m ≤ 2197)
    (h : ∀ c', (∀ x, x < 4 * (N * m) → c' x = c (4 * (x / 4 / m) + x % 4)) → post (sc, nI (N * m), K, T, O, c')) :
    wpX_split post (sc, nI N, K, T, O, c) (nI m) :=
  nm_r (sm_sub1 (nI N)) ⟨N + 1, sm_s7 c N m hm hN h⟩
end
section
/-! the steps by which every way becomes m ways: CHOOSE, PICK, EITHER -/
theorem sm_nlH {k a b : Int32} {L : List (Nat → Int32)} {c c' : Nat → Int32} {m : Nat} {g : (Nat → Int32) → Nat → Nat → Int32} (hk : ¬ k = 8) (hm : sm_o k b = m) (hf : ∀ w d, d < m → sm_op k a b w d = some (g w d)) (hH : sm_H c 0 L)
    (hc : ∀ q w, q < L.length → (∀ v, v < 4 → c (4 * q + v) = w v) → ∀ d, d < m → ∀ v, v < 4 → c' (4 * (q * m + d) + v) = g w d v) : sm_H c' 0 (sm_nl k a b L) ∧ (sm_nl k a b L).length = L.length * m := by
  have h := sm_H_flat (c := c') (m := m) (f := fun w => sm_op k a b w) (g := g) hf L 0 (fun q w e d hd v hv => by
    rw [Nat.zero_add]
    refine hc q w (List.getElem?_eq_some_iff.mp e).1 (fun v hv => ?_) d hd v hv
    have := sm_H_get L 0 hH q w e v hv
    rw [Nat.zero_add] at this
    exact this)
  rw [sm_nl, if_neg hk, hm]
  rw [Nat.zero_mul] at h
  exact h
theorem sm_end {post : SX → Prop} {sc : Int32} {K T O c' : Nat → Int32} {L' : List (Nat → Int32)} {M : Nat} (h : ∀ c', sm_H c' 0 L' → post (sc, nI L'.length, K, T, O, c')) (e : sm_H c' 0 L' ∧ L'.length = M) : post (sc, nI M, K, T, O, c') := by
  rw [← e.2]
  exact h c' e.1
/-- what split leaves at way q * m + d -/
theorem sm_spl {c c' : Nat → Int32} {N m : Nat} (h : ∀ x, x < 4 * (N * m) → c' x = c (4 * (x / 4 / m) + x % 4)) {q d v : Nat} (hq : q < N) (hd : d < m) (hv : v < 4) : c' (4 * (q * m + d) + v) = c (4 * q + v) := by
  have h1 : (q + 1) * m ≤ N * m := Nat.mul_le_mul_right m hq
  rw [show (q + 1) * m = q * m + m from Nat.succ_mul q m] at h1
  rw [h _ (by omega), show (4 * (q * m + d) + v) / 4 = q * m + d from by omega, show (4 * (q * m + d) + v) % 4 = v from by omega, (sm_dm hd).1]
theorem sm_lt {q d m N : Nat} (hq : q < N) (hd : d < m) : q * m + d < N * m := by
  have h1 : (q + 1) * m ≤ N * m := Nat.mul_le_mul_right m hq
  rw [show (q + 1) * m = q * m + m from Nat.succ_mul q m] at h1
  omega
theorem sm_c43 {post : SX → Prop} {sc : Int32} {K T O : Nat → Int32} (c : Nat → Int32) (A M m : Nat) (z : Int32) (hA : A < 4) (hm : 0 < m) (hm' : m < 2 ^ 31) (hM : M ≤ 2197) (h : post (sc, nI M, K, T, O, sm_wr c (fun _ => A) (fun i => z + nI (i % m)) M)) : ∃ n, wX_choose_43 post (nI A) z (nI m) sc (nI M) n 0 K T O c :=
  loop_0 (fun n i s => wX_choose_43 post (nI A) z (nI m) sc (nI M) n (nI i) K T O s) (fun i s => s = sm_wr c (fun _ => A) (fun i => z + nI (i % m)) i) M c (sm_wr_0 _ _ _).symm
    (fun n s e => by subst e; exact br_t (nI_le (Nat.le_refl M) (by omega)) h)
    (fun n i s hi e ih => by
      subst e
      refine br_f (nI_ge hi (by omega)) ⟨nI_ne0 hm hm', pk_in (4 * i + A) 8788 (by omega) (sm_ix _ _), nm_r ?_ (nm_r (nI_1 i) (ih _ rfl))⟩
      rw [sm_ix, nI_clamp (by omega), pk_rem (by omega) hm hm']
      exact sm_wr_s c (fun _ => A) (fun i => z + nI (i % m)) i hA)
theorem sm_num : ∀ lo hi : Fin 13, (lo.val ≤ hi.val → ((nI hi.val - 3) - (nI lo.val - 3)) + 1 = nI (hi.val + 1 - lo.val) ∧ nI lo.val - 3 ≤ nI hi.val - 3) ∧ (¬ lo.val ≤ hi.val → ¬ (1 : Int32) ≤ ((nI hi.val - 3) - (nI lo.val - 3)) + 1 ∧ ¬ nI lo.val - 3 ≤ nI hi.val - 3) := by
  decide +kernel
theorem sm_num1 {lo hi : Nat} (hl : lo < 13) (hh : hi < 13) (h : lo ≤ hi) : ((nI hi - 3) - (nI lo - 3)) + 1 = nI (hi + 1 - lo) ∧ nI lo - 3 ≤ nI hi - 3 := (sm_num ⟨lo, hl⟩ ⟨hi, hh⟩).1 h
theorem sm_num2 {lo hi : Nat} (hl : lo < 13) (hh : hi < 13) (h : ¬ lo ≤ hi) : ¬ (1 : Int32) ≤ ((nI hi - 3) - (nI lo - 3)) + 1 ∧ ¬ nI lo - 3 ≤ nI hi - 3 := (sm_num ⟨lo, hl⟩ ⟨hi, hh⟩).2 h
theorem sm_x0 {post : SX → Prop} {sc : Int32} {K T O : Nat → Int32} (c : Nat → Int32) (L : List (Nat → Int32)) (b : Int32) (A lo hi : Nat) (hA : A < 4) (hl : lo < 13) (hh : hi < 13) (e1 : b &&& 15 = nI lo) (e2 : b >>> ((4 : Int32) &&& 31) = nI hi) (hN : L.length * sm_o 0 b ≤ 2197) (hH : sm_H c 0 L)
    (h : ∀ c', sm_H c' 0 (sm_nl 0 (nI A) b L) → post (sc, nI (sm_nl 0 (nI A) b L).length, K, T, O, c')) : wpX_choose post (sc, nI L.length, K, T, O, c) (nI A) b := by
  have ho := sm_o_0 hl hh e1 e2
  have hf : ∀ w d, sm_op 0 (nI A) b w d = some (upd w A (nI lo - 3 + nI d)) := fun w d => by
    rw [sm_op, if_pos rfl, nI_clamp (by omega), e1]
  have h8 : ¬ (0 : Int32) = 8 := by decide
  by_cases hle : lo ≤ hi
  · rw [ho] at hN
    refine nm_r (congrArg (fun y => y - 3) e1) (nm_r (congrArg (fun y => y - 3) e2) (nm_r (sm_num1 hl hh hle).1 (br_t (nI_le (a := 1) (by omega) (by omega)) (sm_split c L.length (hi + 1 - lo) (by omega) hN (fun c' hc' => sm_c43 c' A (L.length * (hi + 1 - lo)) (hi + 1 - lo) (nI lo - 3) hA (by omega) (by omega) hN ?_)))))
    refine sm_end h (sm_nlH h8 ho (fun w d _ => hf w d) hH (fun q w hq hw d hd v hv => ?_))
    rw [sm_wr_v _ _ _ _ _ _ hv (sm_lt hq hd)]
    show (if v = A then nI lo - 3 + nI ((q * (hi + 1 - lo) + d) % (hi + 1 - lo)) else _) = (if v = A then _ else _)
    rw [(sm_dm hd).2, sm_spl hc' hq hd hv, hw v hv]
  · refine nm_r (congrArg (fun y => y - 3) e1) (nm_r (congrArg (fun y => y - 3) e2) (nm_e (br_f (sm_num2 hl hh hle).1 ?_)))
    have h0 : sm_o 0 b = 0 := by rw [ho]; omega
    exact sm_end (M := 0) h (sm_nlH (c' := c) (g := fun w d => upd w A (nI lo - 3 + nI d)) h8 h0 (fun w d _ => hf w d) hH (fun q w hq hw d hd => absurd hd (Nat.not_lt_zero _)))
theorem sm_wr_id (c : Nat → Int32) (A : Nat → Nat) (F : Nat → Int32) (i : Nat) (hA : A i < 4) (hF : F i = c (4 * i + A i)) : sm_wr c A F (i + 1) = sm_wr c A F i := by
  rw [← sm_wr_s c A F i hA, hF, ← sm_wr_r c A F i i (A i) hA (Nat.le_refl i)]
  funext x
  show (if x = 4 * i + A i then _ else _) = _
  by_cases h : x = 4 * i + A i
  · rw [if_pos h, h]
  · rw [if_neg h]
theorem sm_p7 {post : SX → Prop} {sc : Int32} {K T O : Nat → Int32} (c : Nat → Int32) (A B N : Nat) (hA : A < 4) (hB : B < 4) (hM : N * 2 ≤ 2197) (h : post (sc, nI (N * 2), K, T, O, sm_wr c (fun _ => A) (fun q => if q % 2 = 0 then c (4 * q + B) else c (4 * q + A)) (N * 2))) : ∃ n, wX_pick_7 post (nI A) (nI B) sc (nI (N * 2)) n 0 K T O c :=
  loop_0 (fun n i s => wX_pick_7 post (nI A) (nI B) sc (nI (N * 2)) n (nI (i * 2)) K T O s) (fun i s => s = sm_wr c (fun _ => A) (fun q => if q % 2 = 0 then c (4 * q + B) else c (4 * q + A)) (i * 2)) N c (sm_wr_0 _ _ _).symm
    (fun n s e => by subst e; exact br_t (nI_le (Nat.le_refl (N * 2)) (by omega)) h)
    (fun n i s hi e ih => by
      subst e
      refine br_f (nI_ge (by omega) (by omega)) ⟨pk_in (4 * (i * 2) + B) 8788 (by omega) (sm_ix _ _), pk_in (4 * (i * 2) + A) 8788 (by omega) (sm_ix _ _), nm_r ?_ (nm_r (?_ : nI (i * 2) + 2 = nI ((i + 1) * 2)) (ih _ rfl))⟩
      · rw [sm_ix, sm_ix, nI_clamp (by omega), nI_clamp (by omega), sm_wr_r _ _ _ _ _ _ hB (Nat.le_refl _)]
        have e1 := sm_wr_s c (fun _ => A) (fun q => if q % 2 = 0 then c (4 * q + B) else c (4 * q + A)) (i * 2) hA
        have e2 := sm_wr_id c (fun _ => A) (fun q => if q % 2 = 0 then c (4 * q + B) else c (4 * q + A)) (i * 2 + 1) hA (if_neg (by omega))
        rw [if_pos (show i * 2 % 2 = 0 from by omega)] at e1
        rw [e1, ← e2, show (i + 1) * 2 = i * 2 + 1 + 1 from by omega]
      · show nI (i * 2) + nI 2 = _
        rw [nI_add, show (i + 1) * 2 = i * 2 + 2 from by omega])
theorem sm_x4 {post : SX → Prop} {sc : Int32} {K T O : Nat → Int32} (c : Nat → Int32) (L : List (Nat → Int32)) (A B : Nat) (hA : A < 4) (hB : B < 4) (hN : L.length * 2 ≤ 2197) (hH : sm_H c 0 L)
    (h : ∀ c', sm_H c' 0 (sm_nl 4 (nI A) (nI B) L) → post (sc, nI (sm_nl 4 (nI A) (nI B) L).length, K, T, O, c')) : wpX_pick post (sc, nI L.length, K, T, O, c) (nI A) (nI B) := by
  refine sm_split c L.length 2 (by omega) hN (fun c' hc' => sm_p7 c' A B L.length hA hB hN ?_)
  refine sm_end h (sm_nlH (g := fun w d => if d = 0 then upd w A (w B) else w) (by decide) rfl (fun w d _ => ?_) hH (fun q w hq hw d hd v hv => ?_))
  · rw [sm_op, if_neg (by decide), if_neg (by decide), if_neg (by decide), if_neg (by decide), if_pos rfl, nI_clamp (by omega), nI_clamp (by omega)]
  · rw [sm_wr_v _ _ _ _ _ _ hv (sm_lt hq hd)]
    rw [sm_spl hc' hq hd hv, sm_spl hc' hq hd hA, sm_spl hc' hq hd hB, hw v hv, hw A hA, hw B hB]
    by_cases h0 : d = 0
    · rw [if_pos h0, if_pos (show (q * 2 + d) % 2 = 0 from by omega)]
      rfl
    · rw [if_neg h0, if_neg (show ¬ (q * 2 + d) % 2 = 0 from by omega)]
      by_cases hv2 : v = A
      · rw [if_pos hv2, hv2]
      · rw [if_neg hv2]
theorem sm_g7 {post : SX → Prop} {sc : Int32} {K T O : Nat → Int32} (c : Nat → Int32) (A B M : Nat) (hA : A < 4) (hB : B < 4) (hM : M ≤ 2197) (h : post (sc, nI M, K, T, O, sm_wr c (fun q => if q % 2 = 0 then A else B) (fun q => c (4 * q + if q % 2 = 0 then A else B) + 1) M)) : ∃ n, wX_growEither_7 post (nI A) (nI B) sc (nI M) n 0 K T O c :=
  loop_0 (fun n i s => wX_growEither_7 post (nI A) (nI B) sc (nI M) n (nI i) K T O s) (fun i s => s = sm_wr c (fun q => if q % 2 = 0 then A else B) (fun q => c (4 * q + if q % 2 = 0 then A else B) + 1) i) M c (sm_wr_0 _ _ _).symm
    (fun n s e => by subst e; exact br_t (nI_le (Nat.le_refl M) (by omega)) h)
    (fun n i s hi e ih => by
      subst e
      have e1 := sm_wr_s c (fun q => if q % 2 = 0 then A else B) (fun q => c (4 * q + if q % 2 = 0 then A else B) + 1) i (by by_cases h2 : i % 2 = 0 <;> simp only [h2, if_true, if_false] <;> omega)
      refine br_f (nI_ge hi (by omega)) ⟨by decide, pk_eq (i % 2) 0 (fun h2 => ?_) (fun h2 => ?_) (pk_rem (d := 2) (by omega) (by omega) (by omega)) rfl (by omega) (by omega)⟩
      · rw [if_pos h2] at e1
        refine ⟨pk_in (4 * i + A) 8788 (by omega) (sm_ix _ _), pk_in (4 * i + A) 8788 (by omega) (sm_ix _ _), nm_r ?_ (nm_r (nI_1 i) (ih _ rfl))⟩
        rw [sm_ix, nI_clamp (by omega), sm_wr_r _ _ _ _ _ _ hA (Nat.le_refl _)]
        exact e1
      · rw [if_neg h2] at e1
        refine ⟨pk_in (4 * i + B) 8788 (by omega) (sm_ix _ _), pk_in (4 * i + B) 8788 (by omega) (sm_ix _ _), nm_r ?_ (nm_r (nI_1 i) (ih _ rfl))⟩
        rw [sm_ix, nI_clamp (by omega), sm_wr_r _ _ _ _ _ _ hB (Nat.le_refl _)]
        exact e1)
theorem sm_x9 {post : SX → Prop} {sc : Int32} {K T O : Nat → Int32} (c : Nat → Int32) (L : List (Nat → Int32)) (A B : Nat) (hA : A < 4) (hB : B < 4) (hN : L.length * 2 ≤ 2197) (hH : sm_H c 0 L)
    (h : ∀ c', sm_H c' 0 (sm_nl 9 (nI A) (nI B) L) → post (sc, nI (sm_nl 9 (nI A) (nI B) L).length, K, T, O, c')) : wpX_growEither post (sc, nI L.length, K, T, O, c) (nI A) (nI B) := by
  refine sm_split c L.length 2 (by omega) hN (fun c' hc' => sm_g7 c' A B (L.length * 2) hA hB hN ?_)
  refine sm_end h (sm_nlH (g := fun w d => if d = 0 then upd w A (w A + 1) else upd w B (w B + 1)) (by decide) rfl (fun w d _ => ?_) hH (fun q w hq hw d hd v hv => ?_))
  · rw [sm_op, if_neg (by decide), if_neg (by decide), if_neg (by decide), if_neg (by decide), if_neg (by decide), if_pos rfl, nI_clamp (by omega), nI_clamp (by omega)]
  · rw [sm_wr_v _ _ _ _ _ _ hv (sm_lt hq hd)]
    by_cases h0 : d = 0
    · rw [if_pos h0, if_pos (show (q * 2 + d) % 2 = 0 from by omega), sm_spl hc' hq hd hv, sm_spl hc' hq hd hA, hw v hv, hw A hA]
      rfl
    · rw [if_neg h0, if_neg (show ¬ (q * 2 + d) % 2 = 0 from by omega), sm_spl hc' hq hd hv, sm_spl hc' hq hd hB, hw v hv, hw B hB]
      rfl
end
section
/-! the steps that keep or change ways one by one: LESS, EQUAL, DIFFER, ONCE, SET, ADD, MUL -/
theorem sm_holds {post : Int32 → Prop} {k x y : Int32} (hk : k = 5 ∨ k = 6 ∨ k = 7) (h1 : sm_t k x y = true → post 1) (h0 : sm_t k x y = false → post 0) : wpX_holds post k x y := by
  rcases hk with rfl | rfl | rfl
  · have e : sm_t 5 x y = decide (x < y) := if_pos rfl
    exact br_t rfl (br_c (fun hle => h0 (e.trans (decide_eq_false (Int32.not_lt.mpr hle)))) (fun hn => h1 (e.trans (decide_eq_true (Int32.not_le.mp hn)))))
  · have e : sm_t 6 x y = decide (x = y) := rfl
    exact br_f (by decide) (br_t rfl (br_c (fun he => h1 (e.trans (decide_eq_true he))) (fun hn => h0 (e.trans (decide_eq_false hn)))))
  · have e : sm_t 7 x y = !decide (x = y) := rfl
    exact br_f (by decide) (br_f (by decide) (br_c (fun he => h0 (by rw [e, decide_eq_true he]; rfl)) (fun hn => h1 (by rw [e, decide_eq_false hn]; rfl))))
theorem sm_copy {post : SX → Prop} {sc wc : Int32} {K T O : Nat → Int32} (c : Nat → Int32) (fr to : Nat) (ht : to < 2197) (hf : fr < 2197) (h : post (sc, wc, K, T, O, sm_cp c to fr 4)) : wpX_copyWay post (sc, wc, K, T, O, c) (nI fr) (nI to) :=
  loop_0 (fun n i s => wX_copyWay_2 post (nI fr) (nI to) sc wc n (nI i) K T O s) (fun i s => s = sm_cp c to fr i) 4 c (sm_cp_0 c to fr).symm
    (fun n s e => by subst e; exact br_t (nI_le (b := 4) (Nat.le_refl 4) (by decide)) h)
    (fun n i s hi e ih => by
      subst e
      refine br_f (nI_ge (b := 4) hi (by decide)) ⟨pk_in (4 * fr + i) 8788 (by omega) (sm_ix _ _), pk_in (4 * to + i) 8788 (by omega) (sm_ix _ _), nm_r ?_ (nm_r (nI_1 i) (ih _ rfl))⟩
      rw [sm_ix, sm_ix, nI_clamp (by omega), nI_clamp (by omega)]
      exact sm_cp_s c to fr i hi)
theorem sm_op_t {k : Int32} (hk : k = 5 ∨ k = 6 ∨ k = 7) {A B : Nat} (hA : A < 4) (hB : B < 4) (w : Nat → Int32) (d : Nat) : sm_op k (nI A) (nI B) w d = if sm_t k (w A) (w B) = true then some w else none := by
  have hA' : (nI A).toNatClampNeg = A := nI_clamp (by omega)
  have hB' : (nI B).toNatClampNeg = B := nI_clamp (by omega)
  rcases hk with rfl | rfl | rfl
  · rw [sm_op, if_neg (by decide), if_neg (by decide), if_neg (by decide), if_neg (by decide), if_neg (by decide), if_neg (by decide), hA', hB']
  · rw [sm_op, if_neg (by decide), if_neg (by decide), if_neg (by decide), if_neg (by decide), if_neg (by decide), if_neg (by decide), hA', hB']
  · rw [sm_op, if_neg (by decide), if_neg (by decide), if_neg (by decide), if_neg (by decide), if_neg (by decide), if_neg (by decide), hA', hB']
theorem sm_o_t {k b : Int32} (hk : k = 5 ∨ k = 6 ∨ k = 7) : sm_o k b = 1 := by
  rcases hk with rfl | rfl | rfl <;> rfl
theorem sm_F_1 {k : Int32} (hk : k = 5 ∨ k = 6 ∨ k = 7) {A B : Nat} (hA : A < 4) (hB : B < 4) {w : Nat → Int32} (h : sm_t k (w A) (w B) = true) : sm_lf (sm_op k (nI A) (nI B) w) 0 1 = [w] := by
  rw [sm_lf_s (w := w) (by rw [sm_op_t hk hA hB, if_pos h]), sm_lf_0]
theorem sm_F_0 {k : Int32} (hk : k = 5 ∨ k = 6 ∨ k = 7) {A B : Nat} (hA : A < 4) (hB : B < 4) {w : Nat → Int32} (h : sm_t k (w A) (w B) = false) : sm_lf (sm_op k (nI A) (nI B) w) 0 1 = [] := by
  rw [sm_lf_n (by rw [sm_op_t hk hA hB, if_neg (by rw [h]; decide)]), sm_lf_0]
theorem sm_k6 {post : SX → Prop} {sc : Int32} {K T O : Nat → Int32} {k : Int32} (A B N : Nat) (hk : k = 5 ∨ k = 6 ∨ k = 7) (hA : A < 4) (hB : B < 4) (hN : N ≤ 2197) : ∀ (rest : List (Nat → Int32)) (c : Nat → Int32) (done : List (Nat → Int32)) (i : Nat), i + rest.length = N → done.length ≤ i → sm_H c 0 done → sm_H c i rest →
    (∀ c', sm_H c' 0 (done ++ rest.flatMap (fun w => sm_lf (sm_op k (nI A) (nI B) w) 0 1)) → post (sc, nI (done ++ rest.flatMap (fun w => sm_lf (sm_op k (nI A) (nI B) w) 0 1)).length, K, T, O, c')) →
    ∀ n, rest.length < n → wX_keepHolding_6 post k (nI A) (nI B) n (nI done.length) (nI i) sc (nI N) K T O c := by
  intro rest
  induction rest with
  | nil =>
    intro c done i hi hd h1 h2 h n hn
    rw [List.length_nil] at hi
    cases n with
    | zero => exact absurd hn (Nat.not_lt_zero _)
    | succ n =>
      rw [List.flatMap_nil, List.append_nil] at h
      exact br_t (nI_le (by omega) (by omega)) (h c h1)
  | cons w t ih =>
    intro c done i hi hd h1 h2 h n hn
    rw [List.length_cons] at hi hn
    cases n with
    | zero => exact absurd hn (Nat.not_lt_zero _)
    | succ n =>
      refine br_f (nI_ge (by omega) (by omega)) ⟨pk_in (4 * i + A) 8788 (by omega) (sm_ix _ _), nm_r (?_ : _ = w A) ⟨pk_in (4 * i + B) 8788 (by omega) (sm_ix _ _), nm_r (?_ : _ = w B) (sm_holds hk (fun ht => ?_) (fun ht => ?_))⟩⟩
      · rw [sm_ix, nI_clamp (by omega)]
        exact h2.1 A hA
      · rw [sm_ix, nI_clamp (by omega)]
        exact h2.1 B hB
      · refine br_f (by decide) (sm_copy c i done.length (by omega) (by omega) (nm_r (nI_1 _) (nm_r (nI_1 i) ?_)))
        have hl : (done ++ [w]).length = done.length + 1 := by rw [List.length_append]; rfl
        have := ih (sm_cp c done.length i 4) (done ++ [w]) (i + 1) (by omega) (by omega) ?_ ?_ ?_ n (by omega)
        · rw [hl] at this
          exact this
        · refine sm_H_app done [w] 0 (sm_H_congr done 0 (fun x _ hx => sm_cp_out (by omega)) h1) ⟨fun v hv => ?_, True.intro⟩
          rw [Nat.zero_add, sm_cp_in (by omega), show 4 * i + (4 * done.length + v - 4 * done.length) = 4 * i + v from by omega]
          exact h2.1 v hv
        · exact sm_H_congr t (i + 1) (fun x hx _ => sm_cp_out (by omega)) h2.2
        · rw [List.flatMap_cons, sm_F_1 hk hA hB ht, ← List.append_assoc] at h
          exact h
      · refine br_t rfl (nm_r (nI_1 i) (ih c done (i + 1) (by omega) (by omega) h1 h2.2 ?_ n (by omega)))
        rw [List.flatMap_cons, sm_F_0 hk hA hB ht, List.nil_append] at h
        exact h
theorem sm_x567 {post : SX → Prop} {sc : Int32} {K T O : Nat → Int32} (c : Nat → Int32) (L : List (Nat → Int32)) {k : Int32} (A B : Nat) (hk : k = 5 ∨ k = 6 ∨ k = 7) (hA : A < 4) (hB : B < 4) (hN : L.length ≤ 2197) (hH : sm_H c 0 L)
    (h : ∀ c', sm_H c' 0 (sm_nl k (nI A) (nI B) L) → post (sc, nI (sm_nl k (nI A) (nI B) L).length, K, T, O, c')) : wpX_keepHolding post (sc, nI L.length, K, T, O, c) k (nI A) (nI B) := by
  have h8 : ¬ k = 8 := by rcases hk with rfl | rfl | rfl <;> decide
  rw [sm_nl, if_neg h8, sm_o_t hk] at h
  exact ⟨L.length + 1, sm_k6 A B L.length hk hA hB hN L c [] 0 (Nat.zero_add _) (Nat.le_refl _) True.intro hH h (L.length + 1) (Nat.lt_succ_self _)⟩
theorem sm_x8 {post : SX → Prop} {sc : Int32} {K T O : Nat → Int32} (c : Nat → Int32) (L : List (Nat → Int32)) (a b : Int32) (hN : L.length ≤ 2197) (hH : sm_H c 0 L)
    (h : ∀ c', sm_H c' 0 (sm_nl 8 a b L) → post (sc, nI (sm_nl 8 a b L).length, K, T, O, c')) : wpX_keepFirst post (sc, nI L.length, K, T, O, c) := by
  rw [sm_nl, if_pos rfl] at h
  refine pk_le L.length 1 (fun hl => ?_) (fun hl => ?_) rfl rfl (by omega) (by omega)
  · rw [List.take_of_length_le hl] at h
    exact h c hH
  · cases L with
    | nil => exact absurd hl (by simp)
    | cons w t => exact h c ⟨hH.1, True.intro⟩
theorem sm_k1 {post : SX → Prop} {sc : Int32} {K T O : Nat → Int32} (c : Nat → Int32) (A M : Nat) (b : Int32) (hA : A < 4) (hM : M ≤ 2197) (h : post (sc, nI M, K, T, O, sm_wr c (fun _ => A) (fun _ => b) M)) : ∃ n, wX_compute_3 post 1 (nI A) b sc (nI M) n 0 K T O c :=
  loop_0 (fun n i s => wX_compute_3 post 1 (nI A) b sc (nI M) n (nI i) K T O s) (fun i s => s = sm_wr c (fun _ => A) (fun _ => b) i) M c (sm_wr_0 _ _ _).symm
    (fun n s e => by subst e; exact br_t (nI_le (Nat.le_refl M) (by omega)) h)
    (fun n i s hi e ih => by
      subst e
      refine br_f (nI_ge hi (by omega)) (nm_r (sm_ix i A) (br_t rfl ⟨pk_in (4 * i + A) 8788 (by omega), nm_r ?_ (nm_r (nI_1 i) (ih _ rfl))⟩))
      rw [nI_clamp (by omega)]
      exact sm_wr_s c (fun _ => A) (fun _ => b) i hA)
theorem sm_k2 {post : SX → Prop} {sc : Int32} {K T O : Nat → Int32} (c : Nat → Int32) (A B M : Nat) (hA : A < 4) (hB : B < 4) (hM : M ≤ 2197) (h : post (sc, nI M, K, T, O, sm_wr c (fun _ => A) (fun q => c (4 * q + A) + c (4 * q + B)) M)) : ∃ n, wX_compute_3 post 2 (nI A) (nI B) sc (nI M) n 0 K T O c :=
  loop_0 (fun n i s => wX_compute_3 post 2 (nI A) (nI B) sc (nI M) n (nI i) K T O s) (fun i s => s = sm_wr c (fun _ => A) (fun q => c (4 * q + A) + c (4 * q + B)) i) M c (sm_wr_0 _ _ _).symm
    (fun n s e => by subst e; exact br_t (nI_le (Nat.le_refl M) (by omega)) h)
    (fun n i s hi e ih => by
      subst e
      refine br_f (nI_ge hi (by omega)) (nm_r (sm_ix i A) (br_f (by decide) (br_t rfl ⟨pk_in (4 * i + A) 8788 (by omega), pk_in (4 * i + B) 8788 (by omega) (sm_ix _ _), pk_in (4 * i + A) 8788 (by omega), nm_r ?_ (nm_r (nI_1 i) (ih _ rfl))⟩)))
      rw [sm_ix, nI_clamp (by omega), nI_clamp (by omega), sm_wr_r _ _ _ _ _ _ hA (Nat.le_refl _), sm_wr_r _ _ _ _ _ _ hB (Nat.le_refl _)]
      exact sm_wr_s c (fun _ => A) (fun q => c (4 * q + A) + c (4 * q + B)) i hA)
theorem sm_k3 {post : SX → Prop} {sc : Int32} {K T O : Nat → Int32} (c : Nat → Int32) (A B M : Nat) (hA : A < 4) (hB : B < 4) (hM : M ≤ 2197) (h : post (sc, nI M, K, T, O, sm_wr c (fun _ => A) (fun q => c (4 * q + A) * c (4 * q + B)) M)) : ∃ n, wX_compute_3 post 3 (nI A) (nI B) sc (nI M) n 0 K T O c :=
  loop_0 (fun n i s => wX_compute_3 post 3 (nI A) (nI B) sc (nI M) n (nI i) K T O s) (fun i s => s = sm_wr c (fun _ => A) (fun q => c (4 * q + A) * c (4 * q + B)) i) M c (sm_wr_0 _ _ _).symm
    (fun n s e => by subst e; exact br_t (nI_le (Nat.le_refl M) (by omega)) h)
    (fun n i s hi e ih => by
      subst e
      refine br_f (nI_ge hi (by omega)) (nm_r (sm_ix i A) (br_f (by decide) (br_f (by decide) (br_t rfl ⟨pk_in (4 * i + A) 8788 (by omega), pk_in (4 * i + B) 8788 (by omega) (sm_ix _ _), pk_in (4 * i + A) 8788 (by omega), nm_r ?_ (nm_r (nI_1 i) (ih _ rfl))⟩))))
      rw [sm_ix, nI_clamp (by omega), nI_clamp (by omega), sm_wr_r _ _ _ _ _ _ hA (Nat.le_refl _), sm_wr_r _ _ _ _ _ _ hB (Nat.le_refl _)]
      exact sm_wr_s c (fun _ => A) (fun q => c (4 * q + A) * c (4 * q + B)) i hA)
theorem sm_x1 {post : SX → Prop} {sc : Int32} {K T O : Nat → Int32} (c : Nat → Int32) (L : List (Nat → Int32)) (b : Int32) (A : Nat) (hA : A < 4) (hN : L.length ≤ 2197) (hH : sm_H c 0 L)
    (h : ∀ c', sm_H c' 0 (sm_nl 1 (nI A) b L) → post (sc, nI (sm_nl 1 (nI A) b L).length, K, T, O, c')) : wpX_compute post (sc, nI L.length, K, T, O, c) 1 (nI A) b := by
  refine sm_k1 c A L.length b hA hN ?_
  have hx := sm_nlH (k := 1) (a := nI A) (b := b) (c' := sm_wr c (fun _ => A) (fun _ => b) L.length) (m := 1) (g := fun w _ => upd w A b) (by decide) rfl (fun w d _ => ?_) hH (fun q w hq hw d hd v hv => ?_)
  · rw [Nat.mul_one] at hx
    exact sm_end h hx
  · rw [sm_op, if_neg (by decide), if_pos rfl, nI_clamp (by omega)]
  · rw [show q * 1 + d = q from by omega, sm_wr_v _ _ _ _ _ _ hv hq, hw v hv]
    rfl
theorem sm_x2 {post : SX → Prop} {sc : Int32} {K T O : Nat → Int32} (c : Nat → Int32) (L : List (Nat → Int32)) (A B : Nat) (hA : A < 4) (hB : B < 4) (hN : L.length ≤ 2197) (hH : sm_H c 0 L)
    (h : ∀ c', sm_H c' 0 (sm_nl 2 (nI A) (nI B) L) → post (sc, nI (sm_nl 2 (nI A) (nI B) L).length, K, T, O, c')) : wpX_compute post (sc, nI L.length, K, T, O, c) 2 (nI A) (nI B) := by
  refine sm_k2 c A B L.length hA hB hN ?_
  have hx := sm_nlH (k := 2) (a := nI A) (b := nI B) (c' := sm_wr c (fun _ => A) (fun q => c (4 * q + A) + c (4 * q + B)) L.length) (m := 1) (g := fun w _ => upd w A (w A + w B)) (by decide) rfl (fun w d _ => ?_) hH (fun q w hq hw d hd v hv => ?_)
  · rw [Nat.mul_one] at hx
    exact sm_end h hx
  · rw [sm_op, if_neg (by decide), if_neg (by decide), if_pos rfl, nI_clamp (by omega), nI_clamp (by omega)]
  · rw [show q * 1 + d = q from by omega, sm_wr_v _ _ _ _ _ _ hv hq, hw v hv, hw A hA, hw B hB]
    rfl
theorem sm_x3 {post : SX → Prop} {sc : Int32} {K T O : Nat → Int32} (c : Nat → Int32) (L : List (Nat → Int32)) (A B : Nat) (hA : A < 4) (hB : B < 4) (hN : L.length ≤ 2197) (hH : sm_H c 0 L)
    (h : ∀ c', sm_H c' 0 (sm_nl 3 (nI A) (nI B) L) → post (sc, nI (sm_nl 3 (nI A) (nI B) L).length, K, T, O, c')) : wpX_compute post (sc, nI L.length, K, T, O, c) 3 (nI A) (nI B) := by
  refine sm_k3 c A B L.length hA hB hN ?_
  have hx := sm_nlH (k := 3) (a := nI A) (b := nI B) (c' := sm_wr c (fun _ => A) (fun q => c (4 * q + A) * c (4 * q + B)) L.length) (m := 1) (g := fun w _ => upd w A (w A * w B)) (by decide) rfl (fun w d _ => ?_) hH (fun q w hq hw d hd v hv => ?_)
  · rw [Nat.mul_one] at hx
    exact sm_end h hx
  · rw [sm_op, if_neg (by decide), if_neg (by decide), if_neg (by decide), if_pos rfl, nI_clamp (by omega), nI_clamp (by omega)]
  · rw [show q * 1 + d = q from by omega, sm_wr_v _ _ _ _ _ _ hv hq, hw v hv, hw A hA, hw B hB]
    rfl
end
section
/-! a step of the component, and its run -/
theorem sm_do {post : SX → Prop} {sc : Int32} {K T O : Nat → Int32} (c : Nat → Int32) (L : List (Nat → Int32)) {k a b : Int32} (hok : sm_ok k a b) (hN : L.length * sm_o k b ≤ 2197) (hL : L.length ≤ 2197) (hH : sm_H c 0 L)
    (h : ∀ c', sm_H c' 0 (sm_nl k a b L) → post (sc, nI (sm_nl k a b L).length, K, T, O, c')) : wpX_doStep post (sc, nI L.length, K, T, O, c) k a b := by
  rcases hok with rfl | ⟨rfl, A, lo, hi, hA, hl, hh, rfl, e1, e2⟩ | ⟨rfl, A, hA, rfl⟩ | ⟨hk, A, B, hA, hB, rfl, rfl⟩
  · exact br_f (by decide) (br_f (by decide) (br_f (by decide) (br_f (by decide) (br_f (by decide) (br_f (by decide) (br_f (by decide) (br_f (by decide) (br_f (by decide) (br_f (by decide) (br_t rfl (sm_x8 c L a b hL hH h)))))))))))
  · exact br_f (by decide) (br_f (by decide) (br_t rfl (sm_x0 c L b A lo hi hA hl hh e1 e2 hN hH h)))
  · exact br_f (by decide) (br_f (by decide) (br_f (by decide) (br_t rfl (sm_x1 c L b A hA hL hH h))))
  · rcases hk with rfl | rfl | rfl | rfl | rfl | rfl | rfl
    · exact br_f (by decide) (br_f (by decide) (br_f (by decide) (br_f (by decide) (br_t rfl (sm_x2 c L A B hA hB hL hH h)))))
    · exact br_f (by decide) (br_f (by decide) (br_f (by decide) (br_f (by decide) (br_f (by decide) (br_t rfl (sm_x3 c L A B hA hB hL hH h))))))
    · exact br_f (by decide) (br_f (by decide) (br_f (by decide) (br_f (by decide) (br_f (by decide) (br_f (by decide) (br_t rfl (sm_x4 c L A B hA hB hN hH h)))))))
    · exact br_f (by decide) (br_f (by decide) (br_f (by decide) (br_f (by decide) (br_f (by decide) (br_f (by decide) (br_f (by decide) (br_t rfl (sm_x567 c L A B (Or.inl rfl) hA hB hL hH h))))))))
    · exact br_f (by decide) (br_f (by decide) (br_f (by decide) (br_f (by decide) (br_f (by decide) (br_f (by decide) (br_f (by decide) (br_f (by decide) (br_t rfl (sm_x567 c L A B (Or.inr (Or.inl rfl)) hA hB hL hH h)))))))))
    · exact br_f (by decide) (br_f (by decide) (br_f (by decide) (br_f (by decide) (br_f (by decide) (br_f (by decide) (br_f (by decide) (br_f (by decide) (br_f (by decide) (br_t rfl (sm_x567 c L A B (Or.inr (Or.inr rfl)) hA hB hL hH h))))))))))
    · exact br_f (by decide) (br_f (by decide) (br_f (by decide) (br_f (by decide) (br_f (by decide) (br_f (by decide) (br_f (by decide) (br_f (by decide) (br_f (by decide) (br_f (by decide) (br_f (by decide) (br_t rfl (sm_x9 c L A B hA hB hN hH h))))))))))))
theorem sm_r27 {post : SX → Prop} {sc : Int32} {K T O : Nat → Int32} (N : Nat) (hN : N ≤ 14) (hok : ∀ j, j < N → sm_ok (K j) (T j) (O j)) (hP : ∀ j, j ≤ N → sm_P K O 0 j ≤ 2197)
    (h : ∀ c', sm_H c' 0 (sm_L K T O N) → post (sc, nI (sm_L K T O N).length, K, T, O, c')) : ∀ (m j : Nat) (c : Nat → Int32), j + m = N → sm_H c 0 (sm_L K T O j) → ∀ n, m < n → wX_runFirst_27 post (nI N) n (nI j) sc (nI (sm_L K T O j).length) K T O c := by
  intro m
  induction m with
  | zero =>
    intro j c hj hH n hn
    cases n with
    | zero => exact absurd hn (Nat.not_lt_zero _)
    | succ n =>
      have e : j = N := by omega
      rw [e]
      rw [e] at hH
      exact br_t (nI_le (Nat.le_refl N) (by omega)) (h c hH)
  | succ m ih =>
    intro j c hj hH n hn
    cases n with
    | zero => exact absurd hn (Nat.not_lt_zero _)
    | succ n =>
      have hi : vp_in (nI j) 14 := vp_in_nI (by omega) (by decide)
      have l1 := sm_L_len K T O j
      have l2 := hP j (by omega)
      have l3 := hP (j + 1) (by omega)
      rw [sm_P_s] at l3
      have l4 : (sm_L K T O j).length * sm_o (K j) (O j) ≤ sm_P K O 0 j * sm_o (K j) (O j) := Nat.mul_le_mul_right _ l1
      refine br_f (nI_ge (by omega) (by omega)) ⟨hi, hi, hi, ?_⟩
      rw [nI_clamp (show j < 2 ^ 31 by omega)]
      exact sm_do c (sm_L K T O j) (hok j (by omega)) (Nat.le_trans l4 l3) (by omega) hH (fun c' hc' => nm_r (nI_1 j) (ih (j + 1) c' (by omega) hc' n (by omega)))
def sm_z (c : Nat → Int32) (x : Int32) (i : Nat) : Nat → Int32 := fun j => if j < i then x else c j
theorem sm_z_0 (c : Nat → Int32) (x : Int32) : sm_z c x 0 = c := by
  funext j
  exact if_neg (Nat.not_lt_zero _)
theorem sm_z_s (c : Nat → Int32) (x : Int32) (i : Nat) : upd (sm_z c x i) i x = sm_z c x (i + 1) := by
  funext j
  show (if j = i then x else (if j < i then x else c j)) = (if j < i + 1 then x else c j)
  by_cases h : j = i
  · rw [if_pos h, if_pos (by omega)]
  · rw [if_neg h]
    by_cases h2 : j < i
    · rw [if_pos h2, if_pos (by omega)]
    · rw [if_neg h2, if_neg (by omega)]
theorem sm_z_v {c : Nat → Int32} {x : Int32} {i j : Nat} (h : j < i) : sm_z c x i j = x := if_pos h
theorem sm_run {post : SX → Prop} {sc wc : Int32} {K T O : Nat → Int32} (c : Nat → Int32) (N : Nat) (hN : N ≤ 14) (hok : ∀ j, j < N → sm_ok (K j) (T j) (O j)) (hP : ∀ j, j ≤ N → sm_P K O 0 j ≤ 2197)
    (h : ∀ c', sm_H c' 0 (sm_L K T O N) → post (sc, nI (sm_L K T O N).length, K, T, O, c')) : wpX_runFirst post (sc, wc, K, T, O, c) (nI N) :=
  loop_0 (fun n i s => wX_runFirst_2 post (nI N) sc wc n (nI i) K T O s) (fun i s => s = sm_z c 0 i) 4 c (sm_z_0 c 0).symm
    (fun n s e => by
      subst e
      exact br_t (nI_le (b := 4) (Nat.le_refl 4) (by decide)) ⟨N + 1, sm_r27 N hN hok hP h N 0 (sm_z c 0 4) (Nat.zero_add N) ⟨fun v hv => sm_z_v (by omega), True.intro⟩ (N + 1) (Nat.lt_succ_self N)⟩)
    (fun n i s hi e ih => by
      subst e
      refine br_f (nI_ge (b := 4) hi (by decide)) ⟨pk_in i 8788 (by omega), nm_r ?_ (nm_r (nI_1 i) (ih _ rfl))⟩
      rw [nI_clamp (by omega)]
      exact sm_z_s c 0 i)
end
section
/-! the questions: pure answers, and the component's -/
def sm_G (K T O : Nat → Int32) (n : Nat) : Prop := n ≤ 14 ∧ (∀ j, j < n → sm_ok (K j) (T j) (O j)) ∧ sm_c K 0 n ≤ 3
theorem sm_G_P {K T O : Nat → Int32} {n : Nat} (hG : sm_G K T O n) {i m : Nat} (h : i + m ≤ n) : sm_P K O i m ≤ 2197 := sm_P_b hG.2.1 hG.2.2 i m h
theorem sm_G_L {K T O : Nat → Int32} {n : Nat} (hG : sm_G K T O n) {N : Nat} (h : N ≤ n) : (sm_L K T O N).length ≤ 2197 := Nat.le_trans (sm_L_len K T O N) (sm_G_P hG (by omega))
theorem sm_runG {post : SX → Prop} {sc wc : Int32} {K T O : Nat → Int32} {c : Nat → Int32} {n N : Nat} (hG : sm_G K T O n) (hN : N ≤ n) (h : ∀ c', sm_H c' 0 (sm_L K T O N) → post (sc, nI (sm_L K T O N).length, K, T, O, c')) : wpX_runFirst post (sc, wc, K, T, O, c) (nI N) :=
  sm_run c N (by have := hG.1; omega) (fun j hj => hG.2.1 j (by omega)) (fun j hj => sm_G_P hG (by omega)) h
def sm_cw (v : Nat) (x : Int32) : List (Nat → Int32) → Int32 → Int32
  | [], acc => acc
  | w :: t, acc => if w v = x then sm_cw v x t (acc + 1) else sm_cw v x t acc
def sm_fw (v : Nat) (x : Int32) : List (Nat → Int32) → Nat → Int32
  | [], _ => -1
  | w :: t, i => if w v = x then nI i else sm_fw v x t (i + 1)
def sm_ex (v : Nat) (q : Int32) : List (Nat → Int32) → Int32 → Int32
  | [], e => e
  | w :: t, e => if q = 0 then (if e ≤ w v then sm_ex v q t e else sm_ex v q t (w v)) else (if w v ≤ e then sm_ex v q t e else sm_ex v q t (w v))
def sm_ex0 (v : Nat) (q : Int32) : List (Nat → Int32) → Int32
  | [] => -1000000000
  | w :: t => sm_ex v q t (w v)
def sm_val (v : Nat) (k : Int32) : List (Nat → Int32) → Nat → Int32
  | [], _ => -1000000000
  | w :: t, i => if nI i = k then w v else sm_val v k t (i + 1)
theorem sm_val_neg {v : Nat} {k : Int32} (hk : k < 0) : ∀ (L : List (Nat → Int32)) (i : Nat), i + L.length < 2 ^ 31 → sm_val v k L i = -1000000000 := by
  intro L
  induction L with
  | nil => intro i _; rfl
  | cons w t ih =>
    intro i hi
    rw [List.length_cons] at hi
    rw [sm_val, if_neg (fun z => nI_pos (show i < 2 ^ 31 by omega) (by rw [z]; exact hk))]
    exact ih (i + 1) (by omega)
theorem sm_val_big {v k : Nat} (hk : k < 2 ^ 31) : ∀ (L : List (Nat → Int32)) (i : Nat), i + L.length ≤ k → sm_val v (nI k) L i = -1000000000 := by
  intro L
  induction L with
  | nil => intro i _; rfl
  | cons w t ih =>
    intro i hi
    rw [List.length_cons] at hi
    rw [sm_val, if_neg (fun z => by have := (nI_eq (by omega) hk).mp z; omega)]
    exact ih (i + 1) (by omega)
theorem sm_val_get {v : Nat} : ∀ (L : List (Nat → Int32)) (i j : Nat), i + L.length < 2 ^ 31 → j < L.length → ∃ w, L[j]? = some w ∧ sm_val v (nI (i + j)) L i = w v := by
  intro L
  induction L with
  | nil => intro i j _ hj; exact absurd hj (Nat.not_lt_zero _)
  | cons w t ih =>
    intro i j hi hj
    rw [List.length_cons] at hi hj
    cases j with
    | zero => exact ⟨w, rfl, by rw [sm_val, if_pos (by rw [Nat.add_zero])]⟩
    | succ j =>
      obtain ⟨w', e1, e2⟩ := ih (i + 1) j (by omega) (by omega)
      refine ⟨w', by rw [List.getElem?_cons_succ]; exact e1, ?_⟩
      rw [sm_val, if_neg (fun z => by have := (nI_eq (by omega) (by omega)).mp z; omega), ← e2, show i + 1 + j = i + (j + 1) from by omega]
/-! is it a variable -/
theorem sm_xv0 {post : Int32 → Prop} {v : Int32} (h : v < 0 ∨ 4 ≤ v) (hp : post 0) : wpX_isVariable post v := by
  by_cases h0 : v < 0
  · exact br_t h0 hp
  · exact br_f h0 (br_t (h.resolve_left h0) hp)
theorem sm_xv1 {post : Int32 → Prop} {v : Nat} (h : v < 4) (hp : post 1) : wpX_isVariable post (nI v) :=
  br_f (nI_pos (by omega)) (br_f (nI_ge (b := 4) h (by decide)) hp)
theorem sm_yv0 {post : Int32 → Prop} {u : SY} {v : Int32} (h : v < 0 ∨ 4 ≤ v) (hp : post 0) : wpY_variable post u v := by
  by_cases h0 : v < 0
  · exact br_t h0 hp
  · have h4 := h.resolve_left h0
    obtain ⟨j, hj, rfl⟩ := nI_of h0
    have h5 : 4 ≤ j := (nI_leI (a := 4) (by decide) hj).mp h4
    exact br_f h0 (br_t (nI_lt (a := 3) (by omega) hj) hp)
theorem sm_yv1 {post : Int32 → Prop} {u : SY} {v : Nat} (h : v < 4) (hp : post 1) : wpY_variable post u (nI v) :=
  br_f (nI_pos (by omega)) (br_f (nI_nlt (a := 3) (by omega) (by omega)) hp)
theorem sm_v (v : Int32) : (v < 0 ∨ 4 ≤ v) ∨ ∃ j : Nat, j < 4 ∧ v = nI j := by
  rcases pk_ix v (n := 4) (by decide) with h | h | h
  · exact Or.inl (Or.inl h)
  · exact Or.inl (Or.inr h)
  · exact Or.inr h
/-! the component's loops over the ways -/
theorem sm_xcw {post : Int32 → SX → Prop} {sc x : Int32} {K T O c : Nat → Int32} (v N : Nat) (hv : v < 4) (hN : N ≤ 2197) : ∀ (L : List (Nat → Int32)) (i : Nat) (acc : Int32), i + L.length = N → sm_H c i L → post (sm_cw v x L acc) (sc, nI N, K, T, O, c) → ∀ n, L.length < n → wX_countWith_22 post (nI v) x sc (nI N) K T O c n acc (nI i) := by
  intro L
  induction L with
  | nil =>
    intro i acc hi _ h n hn
    cases n with
    | zero => exact absurd hn (Nat.not_lt_zero _)
    | succ n => exact br_t (nI_le (by rw [← hi]; exact Nat.le_refl _) (by rw [← hi] at hN; exact Nat.lt_of_le_of_lt hN (by decide))) h
  | cons w t ih =>
    intro i acc hi hH h n hn
    rw [List.length_cons] at hi hn
    cases n with
    | zero => exact absurd hn (Nat.not_lt_zero _)
    | succ n =>
      have he : c (nI i * 4 + nI v).toNatClampNeg = w v := by
        rw [sm_ix, nI_clamp (by omega)]
        exact hH.1 v hv
      refine br_f (nI_ge (by omega) (by omega)) ⟨pk_in (4 * i + v) 8788 (by omega) (sm_ix _ _), ?_⟩
      by_cases hx : w v = x
      · rw [sm_cw, if_pos hx] at h
        exact br_t (he.trans hx) (nm_e (nm_r (nI_1 i) (ih (i + 1) (acc + 1) (by omega) hH.2 h n (by omega))))
      · rw [sm_cw, if_neg hx] at h
        exact br_f (fun z => hx (he.symm.trans z)) (nm_r (nI_1 i) (ih (i + 1) acc (by omega) hH.2 h n (by omega)))
theorem sm_xfw {post : Int32 → SX → Prop} {sc x : Int32} {K T O c : Nat → Int32} (v N : Nat) (hv : v < 4) (hN : N ≤ 2197) : ∀ (L : List (Nat → Int32)) (i : Nat), i + L.length = N → sm_H c i L → post (sm_fw v x L i) (sc, nI N, K, T, O, c) → ∀ n, L.length < n → wX_firstWith_19 post (nI v) x sc (nI N) K T O c n (nI i) := by
  intro L
  induction L with
  | nil =>
    intro i hi _ h n hn
    cases n with
    | zero => exact absurd hn (Nat.not_lt_zero _)
    | succ n => exact br_t (nI_le (by rw [← hi]; exact Nat.le_refl _) (by rw [← hi] at hN; exact Nat.lt_of_le_of_lt hN (by decide))) h
  | cons w t ih =>
    intro i hi hH h n hn
    rw [List.length_cons] at hi hn
    cases n with
    | zero => exact absurd hn (Nat.not_lt_zero _)
    | succ n =>
      have he : c (nI i * 4 + nI v).toNatClampNeg = w v := by
        rw [sm_ix, nI_clamp (by omega)]
        exact hH.1 v hv
      refine br_f (nI_ge (by omega) (by omega)) ⟨pk_in (4 * i + v) 8788 (by omega) (sm_ix _ _), ?_⟩
      by_cases hx : w v = x
      · rw [sm_fw, if_pos hx] at h
        exact br_t (he.trans hx) h
      · rw [sm_fw, if_neg hx] at h
        exact br_f (fun z => hx (he.symm.trans z)) (nm_r (nI_1 i) (ih (i + 1) (by omega) hH.2 h n (by omega)))
theorem sm_xex {post : Int32 → SX → Prop} {sc q : Int32} {K T O c : Nat → Int32} (v N : Nat) (hv : v < 4) (hN : N ≤ 2197) : ∀ (L : List (Nat → Int32)) (i : Nat) (e : Int32), i + L.length = N → sm_H c i L → post (sm_ex v q L e) (sc, nI N, K, T, O, c) → ∀ n, L.length < n → wX_extreme_47 post (nI v) q sc (nI N) K T O c n e (nI i) := by
  intro L
  induction L with
  | nil =>
    intro i e hi _ h n hn
    cases n with
    | zero => exact absurd hn (Nat.not_lt_zero _)
    | succ n => exact br_t (nI_le (by rw [← hi]; exact Nat.le_refl _) (by rw [← hi] at hN; exact Nat.lt_of_le_of_lt hN (by decide))) h
  | cons w t ih =>
    intro i e hi hH h n hn
    rw [List.length_cons] at hi hn
    cases n with
    | zero => exact absurd hn (Nat.not_lt_zero _)
    | succ n =>
      have he : c (nI i * 4 + nI v).toNatClampNeg = w v := by
        rw [sm_ix, nI_clamp (by omega)]
        exact hH.1 v hv
      refine br_f (nI_ge (by omega) (by omega)) ⟨pk_in (4 * i + v) 8788 (by omega) (sm_ix _ _), nm_r he ?_⟩
      by_cases hq : q = 0
      · rw [sm_ex, if_pos hq] at h
        refine br_t hq ?_
        by_cases hx : e ≤ w v
        · rw [if_pos hx] at h
          exact br_t hx (nm_r (nI_1 i) (ih (i + 1) e (by omega) hH.2 h n (by omega)))
        · rw [if_neg hx] at h
          exact br_f hx (nm_r (nI_1 i) (ih (i + 1) (w v) (by omega) hH.2 h n (by omega)))
      · rw [sm_ex, if_neg hq] at h
        refine br_f hq ?_
        by_cases hx : w v ≤ e
        · rw [if_pos hx] at h
          exact br_t hx (nm_r (nI_1 i) (ih (i + 1) e (by omega) hH.2 h n (by omega)))
        · rw [if_neg hx] at h
          exact br_f hx (nm_r (nI_1 i) (ih (i + 1) (w v) (by omega) hH.2 h n (by omega)))
/-! the component's questions -/
theorem sm_Xanswers {post : Int32 → SX → Prop} {wc : Int32} {K T O c : Nat → Int32} {n : Nat} (hG : sm_G K T O n) (h : ∀ wc' c', post (nI (sm_L K T O n).length) (nI n, wc', K, T, O, c')) : wpX_answers post (nI n, wc, K, T, O, c) :=
  sm_runG hG (Nat.le_refl n) (fun c' _ => h _ c')
theorem sm_Xways {post : Int32 → SX → Prop} {wc : Int32} {K T O c : Nat → Int32} {n N : Nat} (hG : sm_G K T O n) (hN : N ≤ n) (h : ∀ wc' c', post (nI (sm_L K T O N).length) (nI n, wc', K, T, O, c')) : wpX_ways post (nI n, wc, K, T, O, c) (nI N) := by
  have hn := hG.1
  exact br_f (nI_pos (by omega)) (br_t (nI_le hN (by omega)) (sm_runG hG hN (fun c' _ => h _ c')))
theorem sm_Xvalue {post : Int32 → SX → Prop} {wc k : Int32} {K T O c : Nat → Int32} {n v : Nat} (hG : sm_G K T O n) (hv : v < 4) (h : ∀ wc' c', post (sm_val v k (sm_L K T O n) 0) (nI n, wc', K, T, O, c')) : wpX_value post (nI n, wc, K, T, O, c) k (nI v) := by
  have hl := sm_G_L hG (Nat.le_refl n)
  unfold wpX_value
  dsimp only
  refine sm_xv1 hv ?_
  refine br_f (by decide) ?_
  refine sm_runG hG (Nat.le_refl n) (fun c' hc' => ?_)
  by_cases h0 : k < 0
  · rw [sm_val_neg h0 _ _ (by omega)] at h
    exact br_t h0 (h _ c')
  · obtain ⟨j, hj, rfl⟩ := nI_of h0
    refine br_f h0 (pk_lt j (sm_L K T O n).length (fun hlt => ?_) (fun hge => ?_) rfl rfl hj (by omega))
    · obtain ⟨w, e1, e2⟩ := sm_val_get (v := v) (sm_L K T O n) 0 j (by omega) hlt
      rw [Nat.zero_add] at e2
      have e3 := sm_H_get _ 0 hc' j w e1 v hv
      rw [Nat.zero_add] at e3
      refine ⟨pk_in (4 * j + v) 8788 (by omega) (sm_ix _ _), ?_⟩
      rw [sm_ix, nI_clamp (by omega)]
      dsimp only
      rw [e3, ← e2]
      exact h _ c'
    · rw [sm_val_big hj _ _ (by omega)] at h
      exact h _ c'
theorem sm_Xcount {post : Int32 → SX → Prop} {wc x : Int32} {K T O c : Nat → Int32} {n v : Nat} (hG : sm_G K T O n) (hv : v < 4) (h : ∀ wc' c', post (sm_cw v x (sm_L K T O n) 0) (nI n, wc', K, T, O, c')) : wpX_countWith post (nI n, wc, K, T, O, c) (nI v) x := by
  unfold wpX_countWith
  dsimp only
  refine sm_xv1 hv ?_
  refine br_f (by decide) ?_
  exact (sm_runG hG (Nat.le_refl n) (fun c' hc' => ⟨_, sm_xcw v _ hv (sm_G_L hG (Nat.le_refl n)) (sm_L K T O n) 0 0 (Nat.zero_add _) hc' (h _ c') _ (Nat.lt_succ_self _)⟩))
theorem sm_Xfirst {post : Int32 → SX → Prop} {wc x : Int32} {K T O c : Nat → Int32} {n v : Nat} (hG : sm_G K T O n) (hv : v < 4) (h : ∀ wc' c', post (sm_fw v x (sm_L K T O n) 0) (nI n, wc', K, T, O, c')) : wpX_firstWith post (nI n, wc, K, T, O, c) (nI v) x := by
  unfold wpX_firstWith
  dsimp only
  refine sm_xv1 hv ?_
  refine br_f (by decide) ?_
  exact (sm_runG hG (Nat.le_refl n) (fun c' hc' => ⟨_, sm_xfw v _ hv (sm_G_L hG (Nat.le_refl n)) (sm_L K T O n) 0 (Nat.zero_add _) hc' (h _ c') _ (Nat.lt_succ_self _)⟩))
theorem sm_Xextreme {post : Int32 → SX → Prop} {wc q : Int32} {K T O c : Nat → Int32} {n v : Nat} (hG : sm_G K T O n) (hv : v < 4) (hq : q = 0 ∨ q = 1) (h : ∀ wc' c', post (sm_ex0 v q (sm_L K T O n)) (nI n, wc', K, T, O, c')) : wpX_extreme post (nI n, wc, K, T, O, c) (nI v) q := by
  have hl := sm_G_L hG (Nat.le_refl n)
  have hq0 : ¬ q < 0 := by rcases hq with rfl | rfl <;> decide
  have hq1 : q ≤ 1 := by rcases hq with rfl | rfl <;> decide
  unfold wpX_extreme
  dsimp only
  refine sm_xv1 hv ?_
  refine br_f (by decide) ?_
  refine br_f hq0 ?_
  refine br_t hq1 ?_
  refine sm_runG hG (Nat.le_refl n) (fun c' hc' => ?_)
  revert hl hc' h
  generalize sm_L K T O n = L
  intro h hl hc'
  cases L with
  | nil => exact br_t rfl (h _ c')
  | cons w t =>
    rw [List.length_cons] at hl
    refine br_f (nI_ne0 (by rw [List.length_cons]; omega) (by rw [List.length_cons]; omega)) ⟨pk_in v 8788 (by omega), nm_r (e' := w v) ?_ ⟨_, sm_xex v _ hv (by rw [List.length_cons]; exact hl) t 1 (w v) (by rw [List.length_cons, Nat.add_comm]) hc'.2 (h _ c') _ (Nat.lt_succ_self _)⟩⟩
    rw [nI_clamp (by omega)]
    have := hc'.1 v hv
    rw [Nat.mul_zero, Nat.zero_add] at this
    exact this
end
section
/-! the reference: options, between, carryOut -/
def sm_Y (K T O As Bs Cs : Nat → Int32) (n : Nat) : Prop := ∀ i, i < n → As i = (if K i = 8 then 0 else T i) ∧ Bs i = (if K i = 0 then (O i &&& 15) - 3 else if K i = 8 then 0 else O i) ∧ Cs i = (if K i = 0 then (O i >>> ((4 : Int32) &&& 31)) - 3 else 0)
theorem sm_ok0 {k a b : Int32} (h : sm_ok k a b) (hk : k = 0) : ∃ A lo hi : Nat, A < 4 ∧ lo < 13 ∧ hi < 13 ∧ a = nI A ∧ b &&& 15 = nI lo ∧ b >>> ((4 : Int32) &&& 31) = nI hi := by
  rcases h with rfl | ⟨_, h⟩ | ⟨rfl, _⟩ | ⟨h, _⟩
  · exact absurd hk (by decide)
  · exact h
  · exact absurd hk (by decide)
  · subst hk
    rcases h with h | h | h | h | h | h | h <;> exact absurd h (by decide)
theorem sm_opt {post : Int32 → Prop} {sz : Int32} {K T O As Bs Cs vs fs : Nat → Int32} {n i : Nat} (hG : sm_G K T O n) (hY : sm_Y K T O As Bs Cs n) (hi : i < n) (h : post (nI (sm_o (K i) (O i)))) : wpY_options post (sz, K, As, Bs, Cs, vs, fs) (nI i) := by
  have hn := hG.1
  have hin : vp_in (nI i) 14 := vp_in_nI (by omega) (by decide)
  have ⟨_, eB, eC⟩ := hY i hi
  unfold wpY_options
  dsimp only
  rw [nI_clamp (show i < 2 ^ 31 by omega)]
  refine ⟨hin, ?_⟩
  by_cases h0 : K i = 0
  · obtain ⟨A, lo, hi', _, hl, hh, _, e1, e2⟩ := sm_ok0 (hG.2.1 i hi) h0
    rw [if_pos h0, e1] at eB
    rw [if_pos h0, e2] at eC
    rw [h0, sm_o_0 hl hh e1 e2] at h
    rw [eB, eC]
    refine br_t h0 ⟨hin, hin, ?_⟩
    by_cases hle : lo ≤ hi'
    · refine br_t (sm_num1 hl hh hle).2 ⟨hin, hin, ?_⟩
      rw [(sm_num1 hl hh hle).1]
      exact h
    · rw [show hi' + 1 - lo = 0 from by omega] at h
      exact br_f (sm_num2 hl hh hle).2 h
  · refine br_f h0 ⟨hin, ?_⟩
    rw [sm_o, if_neg h0] at h
    by_cases h4 : K i = 4
    · rw [if_pos h4] at h
      exact br_t h4 h
    · rw [if_neg h4] at h
      refine br_f h4 ⟨hin, ?_⟩
      by_cases h9 : K i = 9
      · rw [if_pos h9] at h
        exact br_t h9 h
      · rw [if_neg h9] at h
        exact br_f h9 h
theorem sm_btw5 {post : Int32 → Prop} {sz : Int32} {K T O As Bs Cs vs fs : Nat → Int32} {n N : Nat} (hG : sm_G K T O n) (hY : sm_Y K T O As Bs Cs n) (hN : N ≤ n) : ∀ m i acc : Nat, i + m = N → post (nI (acc * sm_P K O i m)) → ∀ f, m < f → wY_between_5 post (nI N) sz K As Bs Cs vs fs f (nI acc) (nI i) := by
  have hn := hG.1
  intro m
  induction m with
  | zero =>
    intro i acc hi h f hf
    cases f with
    | zero => exact absurd hf (Nat.not_lt_zero _)
    | succ f =>
      rw [sm_P, Nat.mul_one] at h
      exact br_t (nI_le (by omega) (by omega)) h
  | succ m ih =>
    intro i acc hi h f hf
    cases f with
    | zero => exact absurd hf (Nat.not_lt_zero _)
    | succ f =>
      rw [sm_P, ← Nat.mul_assoc] at h
      exact br_f (nI_ge (by omega) (by omega)) (sm_opt hG hY (by omega) (nm_r (pk_mul _ _) (nm_r (nI_1 i) (ih (i + 1) _ (by omega) h f (by omega)))))
theorem sm_btw {post : Int32 → Prop} {sz : Int32} {K T O As Bs Cs vs fs : Nat → Int32} {n N i m : Nat} (hG : sm_G K T O n) (hY : sm_Y K T O As Bs Cs n) (hN : N ≤ n) (hi : i + m = N) (h : post (nI (sm_P K O i m))) : wpY_between post (sz, K, As, Bs, Cs, vs, fs) (nI i) (nI N) :=
  ⟨m + 1, sm_btw5 hG hY hN m i 1 hi (by rw [Nat.one_mul]; exact h) (m + 1) (Nat.lt_succ_self m)⟩
theorem sm_updw {vs w : Nat → Int32} (hw : ∀ v, v < 4 → vs v = w v) (A : Nat) {x y : Int32} (e : x = y) : ∀ v, v < 4 → upd vs A x v = upd w A y v := by
  intro v hv
  show (if v = A then x else vs v) = (if v = A then y else w v)
  rw [e, hw v hv]
theorem sm_200 {post : Int32 → SY → Prop} {k x1 x3 x7 x8 sz : Int32} {K As Bs Cs vs fs : Nat → Int32} (h8 : ¬ k = 8) (h5 : ¬ k = 5) (h6 : ¬ k = 6) (h7 : ¬ k = 7) (h : post 1 (sz, K, As, Bs, Cs, vs, fs)) : wY_carryOut_200 post x1 x3 k x7 x8 sz K As Bs Cs vs fs :=
  br_f h8 (br_f h5 (br_f h6 (br_f h7 h)))
theorem sm_and3 : ∀ B : Fin 4, nI B.val &&& 3 = nI B.val := by decide
theorem sm_carry {post : Int32 → SY → Prop} {sz x3 : Int32} {K T O As Bs Cs vs fs w : Nat → Int32} {n i d : Nat} (hG : sm_G K T O n) (hY : sm_Y K T O As Bs Cs n) (hi : i < n) (hd : d < 2 ^ 31) (hw : ∀ v, v < 4 → vs v = w v) (h8 : ¬ K i = 8)
    (h1 : ∀ w', sm_op (K i) (T i) (O i) w d = some w' → ∀ vs', (∀ v, v < 4 → vs' v = w' v) → post 1 (sz, K, As, Bs, Cs, vs', fs)) (h0 : sm_op (K i) (T i) (O i) w d = none → ∀ vs', post 0 (sz, K, As, Bs, Cs, vs', fs)) : wpY_carryOut post (sz, K, As, Bs, Cs, vs, fs) (nI i) (nI d) x3 := by
  have hn := hG.1
  have hin : vp_in (nI i) 14 := vp_in_nI (by omega) (by decide)
  have ⟨eA, eB, _⟩ := hY i hi
  have hok := hG.2.1 i hi
  have hc : (nI i).toNatClampNeg = i := nI_clamp (by omega)
  rw [if_neg h8] at eA
  rw [if_neg h8] at eB
  rw [← hc] at eA eB
  have eK : K (nI i).toNatClampNeg = K i := by rw [hc]
  rw [hc] at eA eB
  generalize hk : K i = k at *
  generalize ha : T i = a at *
  generalize hb : O i = b at *
  rcases hok with rfl | ⟨rfl, A, lo, hi', hA, hl, hh, rfl, e1, e2⟩ | ⟨rfl, A, hA, rfl⟩ | ⟨hk', A, B, hA, hB, rfl, rfl⟩
  · exact absurd rfl h8
  · have eA' : As (nI i).toNatClampNeg = nI A := by rw [hc]; exact eA
    have eB' : Bs (nI i).toNatClampNeg = (b &&& 15) - 3 := by rw [hc]; exact eB
    have hcA : (nI A).toNatClampNeg = A := nI_clamp (by omega)
    refine ⟨hin, nm_r eK ⟨hin, nm_r eA' ⟨hin, nm_r eB' ⟨pk_in A 4 hA, nm_e (br_t (by decide) (br_t rfl ⟨pk_in A 4 hA, nm_e (sm_200 (by decide) (by decide) (by decide) (by decide) ?_)⟩))⟩⟩⟩⟩
    refine h1 (upd w A ((b &&& 15) - 3 + nI d)) (by rw [sm_op, if_pos rfl, hcA]) _ ?_
    rw [hcA]
    exact sm_updw hw A rfl
  · have eA' : As (nI i).toNatClampNeg = nI A := by rw [hc]; exact eA
    have eB' : Bs (nI i).toNatClampNeg = b := by rw [hc]; exact eB
    have hcA : (nI A).toNatClampNeg = A := nI_clamp (by omega)
    refine ⟨hin, nm_r eK ⟨hin, nm_r eA' ⟨hin, nm_r eB' ⟨pk_in A 4 hA, nm_e (br_t (by decide) (br_f (by decide) (br_t rfl ⟨pk_in A 4 hA, nm_e (sm_200 (by decide) (by decide) (by decide) (by decide) ?_)⟩)))⟩⟩⟩⟩
    refine h1 (upd w A b) (by rw [sm_op, if_neg (by decide), if_pos rfl, hcA]) _ ?_
    rw [hcA]
    exact sm_updw hw A rfl
  · have hk0 : ¬ k = 0 := by rcases hk' with rfl | rfl | rfl | rfl | rfl | rfl | rfl <;> decide
    have hk2 : ¬ k < 2 := by rcases hk' with rfl | rfl | rfl | rfl | rfl | rfl | rfl <;> decide
    rw [if_neg hk0] at eB
    have eA' : As (nI i).toNatClampNeg = nI A := by rw [hc]; exact eA
    have eB' : Bs (nI i).toNatClampNeg = nI B := by rw [hc]; exact eB
    have hcA : (nI A).toNatClampNeg = A := nI_clamp (by omega)
    have hcB : (nI B).toNatClampNeg = B := nI_clamp (by omega)
    have h3 : nI B &&& 3 = nI B := sm_and3 ⟨B, hB⟩
    have eX : vs (nI A).toNatClampNeg = w A := by rw [hcA]; exact hw A hA
    have eZ : vs (nI B &&& 3).toNatClampNeg = w B := by rw [h3, hcB]; exact hw B hB
    have hin3 : vp_in (nI B &&& 3) 4 := by rw [h3]; exact vp_in_nI hB (by decide)
    refine ⟨hin, nm_r eK ⟨hin, nm_r eA' ⟨hin, nm_r eB' ⟨pk_in A 4 hA, nm_r eX (br_f hk2 (br_f h8 ⟨hin3, ?_⟩))⟩⟩⟩⟩
    rw [eZ]
    rcases hk' with rfl | rfl | rfl | rfl | rfl | rfl | rfl
    · refine br_f (by decide) (br_f (by decide) (br_t rfl ⟨pk_in A 4 hA, nm_e (sm_200 (by decide) (by decide) (by decide) (by decide) ?_)⟩))
      refine h1 (upd w A (w A + w B)) (by rw [sm_op, if_neg (by decide), if_neg (by decide), if_pos rfl, hcA, hcB]) _ ?_
      rw [hcA]
      exact sm_updw hw A rfl
    · refine br_f (by decide) (br_f (by decide) (br_f (by decide) (br_t rfl ⟨pk_in A 4 hA, nm_e (sm_200 (by decide) (by decide) (by decide) (by decide) ?_)⟩)))
      refine h1 (upd w A (w A * w B)) (by rw [sm_op, if_neg (by decide), if_neg (by decide), if_neg (by decide), if_pos rfl, hcA, hcB]) _ ?_
      rw [hcA]
      exact sm_updw hw A rfl
    · refine br_f (by decide) (br_f (by decide) (br_f (by decide) (br_f (by decide) (br_t rfl (pk_eq d 0 (fun hd0 => ?_) (fun hd0 => ?_) rfl rfl hd (by decide))))))
      · refine ⟨pk_in A 4 hA, nm_e (sm_200 (by decide) (by decide) (by decide) (by decide) ?_)⟩
        refine h1 (upd w A (w B)) (by rw [sm_op, if_neg (by decide), if_neg (by decide), if_neg (by decide), if_neg (by decide), if_pos rfl, if_pos hd0, hcA, hcB]) _ ?_
        rw [hcA]
        exact sm_updw hw A rfl
      · refine ⟨pk_in A 4 hA, nm_e (sm_200 (by decide) (by decide) (by decide) (by decide) ?_)⟩
        refine h1 w (by rw [sm_op, if_neg (by decide), if_neg (by decide), if_neg (by decide), if_neg (by decide), if_pos rfl, if_neg hd0]) _ ?_
        rw [hcA]
        intro v hv
        show (if v = A then w A else vs v) = w v
        by_cases hv2 : v = A
        · rw [if_pos hv2, hv2]
        · rw [if_neg hv2, hw v hv]
    · refine br_f (by decide) (br_f (by decide) (br_f (by decide) (br_f (by decide) (br_f (by decide) (br_f (by decide) (br_f (by decide) (br_t rfl (br_c (fun hle => ?_) (fun hnle => ?_)))))))))
      · exact h0 (by rw [sm_op_t (Or.inl rfl) hA hB, if_neg]; show ¬ decide (w A < w B) = true; rw [decide_eq_false (Int32.not_lt.mpr hle)]; decide) vs
      · exact h1 w (by rw [sm_op_t (Or.inl rfl) hA hB, if_pos]; exact decide_eq_true (Int32.not_le.mp hnle)) vs hw
    · refine br_f (by decide) (br_f (by decide) (br_f (by decide) (br_f (by decide) (br_f (by decide) (br_f (by decide) (br_f (by decide) (br_f (by decide) (br_t rfl (br_c (fun he => ?_) (fun hne => ?_))))))))))
      · exact h1 w (by rw [sm_op_t (Or.inr (Or.inl rfl)) hA hB, if_pos]; exact decide_eq_true he) vs hw
      · exact h0 (by rw [sm_op_t (Or.inr (Or.inl rfl)) hA hB, if_neg]; show ¬ decide (w A = w B) = true; rw [decide_eq_false hne]; decide) vs
    · refine br_f (by decide) (br_f (by decide) (br_f (by decide) (br_f (by decide) (br_f (by decide) (br_f (by decide) (br_f (by decide) (br_f (by decide) (br_f (by decide) (br_t rfl (br_c (fun he => ?_) (fun hne => ?_)))))))))))
      · exact h0 (by rw [sm_op_t (Or.inr (Or.inr rfl)) hA hB, if_neg]; show ¬ (!decide (w A = w B)) = true; rw [decide_eq_true he]; decide) vs
      · exact h1 w (by rw [sm_op_t (Or.inr (Or.inr rfl)) hA hB, if_pos]; show (!decide (w A = w B)) = true; rw [decide_eq_false hne]; rfl) vs hw
    · refine br_f (by decide) (br_f (by decide) (br_f (by decide) (br_f (by decide) (br_f (by decide) (br_t rfl (pk_eq d 0 (fun hd0 => ?_) (fun hd0 => ?_) rfl rfl hd (by decide)))))))
      · refine ⟨pk_in A 4 hA, pk_in A 4 hA, nm_e (sm_200 (by decide) (by decide) (by decide) (by decide) ?_)⟩
        refine h1 (upd w A (w A + 1)) (by rw [sm_op, if_neg (by decide), if_neg (by decide), if_neg (by decide), if_neg (by decide), if_neg (by decide), if_pos rfl, if_pos hd0, hcA]) _ ?_
        rw [hcA]
        exact sm_updw hw A (by rw [hw A hA])
      · refine ⟨hin3, hin3, nm_e (sm_200 (by decide) (by decide) (by decide) (by decide) ?_)⟩
        refine h1 (upd w B (w B + 1)) (by rw [sm_op, if_neg (by decide), if_neg (by decide), if_neg (by decide), if_neg (by decide), if_neg (by decide), if_pos rfl, if_neg hd0, hcB]) _ ?_
        rw [h3, hcB]
        exact sm_updw hw B (by rw [hw B hB])
theorem sm_carry8 {post : Int32 → SY → Prop} {sz x2 x3 y : Int32} {K T O As Bs Cs vs fs : Nat → Int32} {n i : Nat} (hG : sm_G K T O n) (hY : sm_Y K T O As Bs Cs n) (hi : i < n) (h8 : K i = 8) (hy : y = if 0 ≤ fs i then fs i else x3)
    (h1 : y = x3 → post 1 (sz, K, As, Bs, Cs, vs, upd fs i y)) (h0 : ¬ y = x3 → post 0 (sz, K, As, Bs, Cs, vs, upd fs i y)) : wpY_carryOut post (sz, K, As, Bs, Cs, vs, fs) (nI i) x2 x3 := by
  have hn := hG.1
  have hin : vp_in (nI i) 14 := vp_in_nI (by omega) (by decide)
  have hc : (nI i).toNatClampNeg = i := nI_clamp (by omega)
  have eA : As (nI i).toNatClampNeg = 0 := by
    rw [hc, (hY i hi).1, if_pos h8]
  have eK : K (nI i).toNatClampNeg = 8 := by rw [hc, h8]
  have h00 : vp_in (0 : Int32) 4 := vp_in_nI (n := 0) (by decide) (by decide)
  have hs : upd fs i y i = y := if_pos rfl
  have key : ∀ z, z = y → wY_carryOut_231 post (nI i) x3 z (nI i) sz K As Bs Cs vs fs := by
    intro z hz
    subst hz
    refine ⟨hin, nm_r (e' := upd fs i z) (by rw [hc]) ⟨hin, ?_⟩⟩
    rw [hc, hs]
    exact br_c h1 h0
  refine ⟨hin, nm_r eK ⟨hin, nm_r eA ⟨hin, nm_e ⟨h00, nm_e (br_f (by decide) (br_t rfl (br_f (by decide) (br_f (by decide) (br_f (by decide) (br_f (by decide) (br_f (by decide) (br_f (by decide) (br_t rfl ⟨hin, ?_⟩)))))))))⟩⟩⟩⟩
  rw [hc]
  by_cases hp : 0 ≤ fs i
  · rw [if_pos hp] at hy
    exact br_t hp ⟨hin, key _ hy.symm⟩
  · rw [if_neg hp] at hy
    exact br_f hp (key _ hy.symm)
end
section
/-! the reference's run of one code -/
def sm_f (K T O : Nat → Int32) (n c : Nat) (fs : Nat → Int32) (i : Nat) : Prop := K i = 8 →
  (∃ p, fs i = nI p ∧ p * sm_P K O (i + 1) (n - i - 1) < c ∧ (∃ w, sm_R K T O i p = some w) ∧ ∀ q, q < p → sm_R K T O i q = none)
  ∨ (fs i = -1 ∧ ∀ p, p * sm_P K O (i + 1) (n - i - 1) < c → sm_R K T O i p = none)
theorem sm_f_congr {K T O : Nat → Int32} {n c : Nat} {fs fs' : Nat → Int32} {i : Nat} (e : fs' i = fs i) (h : sm_f K T O n c fs i) : sm_f K T O n c fs' i := by
  intro h8
  rcases h h8 with ⟨p, e1, h2⟩ | ⟨e1, h2⟩
  · exact Or.inl ⟨p, e.trans e1, h2⟩
  · exact Or.inr ⟨e.trans e1, h2⟩
theorem sm_f_up {K T O : Nat → Int32} {n c : Nat} {fs : Nat → Int32} {i : Nat} (hl : 0 < sm_P K O (i + 1) (n - i - 1)) (hR : K i = 8 → sm_R K T O i (c / sm_P K O (i + 1) (n - i - 1)) = none) (h : sm_f K T O n c fs i) : sm_f K T O n (c + 1) fs i := by
  intro h8
  rcases h h8 with ⟨p, e1, h2, h3⟩ | ⟨e1, h2⟩
  · exact Or.inl ⟨p, e1, by omega, h3⟩
  · refine Or.inr ⟨e1, fun p hp => ?_⟩
    by_cases hlt : p * sm_P K O (i + 1) (n - i - 1) < c
    · exact h2 p hlt
    · have e : p * sm_P K O (i + 1) (n - i - 1) = c := by omega
      have h4 := hR h8
      rw [← e, Nat.mul_div_cancel _ hl] at h4
      exact h4
theorem sm_R8_first {K T O : Nat → Int32} {i p : Nat} {w : Nat → Int32} (h8 : K i = 8) (h : sm_R K T O i p = some w) (hq : ∀ q, q < p → sm_R K T O i q = none) : sm_R K T O (i + 1) p = some w := by
  rw [sm_R, sm_nx, if_pos h8, sm_lf_none p 0 (fun d hd => by rw [Nat.zero_add]; exact hq d hd)]
  exact h
theorem sm_R8_not {K T O : Nat → Int32} {i p q : Nat} {w : Nat → Int32} (h8 : K i = 8) (hq : q < p) (h : sm_R K T O i q = some w) : sm_R K T O (i + 1) p = none := by
  rw [sm_R, sm_nx, if_pos h8]
  cases e : sm_lf (sm_R K T O i) 0 p with
  | nil =>
    have := sm_lf_nil p 0 e q hq
    rw [Nat.zero_add, h] at this
    exact absurd this (by simp)
  | cons a t => rfl
theorem sm_R_none {K T O : Nat → Int32} {i p : Nat} (h : sm_R K T O i (p / sm_o (K i) (O i)) = none) : sm_R K T O (i + 1) p = none := by
  rw [sm_R, sm_nx]
  by_cases h8 : K i = 8
  · rw [if_pos h8]
    rw [h8, show sm_o 8 (O i) = 1 from rfl, Nat.div_one] at h
    cases e : sm_lf (sm_R K T O i) 0 p with
    | nil => exact h
    | cons a t => rfl
  · rw [if_neg h8, h]
theorem sm_R_step {K T O : Nat → Int32} {i p : Nat} {w : Nat → Int32} (h8 : ¬ K i = 8) (h : sm_R K T O i (p / sm_o (K i) (O i)) = some w) : sm_R K T O (i + 1) p = sm_op (K i) (T i) (O i) w (p % sm_o (K i) (O i)) := by
  rw [sm_R, sm_nx, if_neg h8, h]
theorem sm_pc {K O : Nat → Int32} {i m c : Nat} : c / sm_P K O i (m + 1) = c / sm_P K O (i + 1) m / sm_o (K i) (O i) := by
  rw [sm_P, Nat.mul_comm, Nat.div_div_eq_div_mul]
/-- a run that has failed stays failed -/
theorem sm_R_fail {K T O : Nat → Int32} {c : Nat} : ∀ (m i j : Nat), i ≤ j → j ≤ i + m → sm_R K T O i (c / sm_P K O i m) = none → sm_R K T O j (c / sm_P K O j (i + m - j)) = none := by
  intro m
  induction m with
  | zero =>
    intro i j h1 h2 h
    have e : j = i := by omega
    subst e
    rw [show j + 0 - j = 0 from by omega]
    exact h
  | succ m ih =>
    intro i j h1 h2 h
    by_cases e : j = i
    · subst e
      rw [show j + (m + 1) - j = m + 1 from by omega]
      exact h
    · rw [sm_pc] at h
      have := ih (i + 1) j (by omega) (by omega) (sm_R_none h)
      rw [show i + 1 + m = i + (m + 1) from by omega] at this
      exact this
theorem sm_y0 {post : Int32 → SY → Prop} {sz x1 : Int32} {K As Bs Cs vs fs : Nat → Int32} {N f : Nat} {x4 : Int32} (h : post 0 (sz, K, As, Bs, Cs, vs, fs)) : wY_run_25 post x1 (nI N) (f + 1) 0 x4 sz K As Bs Cs vs fs :=
  br_c (fun _ => ⟨rfl, h⟩) (fun _ => br_t rfl ⟨rfl, h⟩)
theorem sm_r25 {post : Int32 → SY → Prop} {sz : Int32} {K T O As Bs Cs : Nat → Int32} {n N c : Nat} (hG : sm_G K T O n) (hY : sm_Y K T O As Bs Cs n) (hN : N ≤ n) (hc : c < 2 ^ 31) (hpos : ∀ i m, i + m = N → 0 < sm_P K O i m)
    (h1 : ∀ w, sm_R K T O N c = some w → ∀ vs' fs', (∀ v, v < 4 → vs' v = w v) → (∀ j, j < N → sm_f K T O N (c + 1) fs' j) → post 1 (sz, K, As, Bs, Cs, vs', fs'))
    (h0 : sm_R K T O N c = none → ∀ vs' fs', (∀ j, j < N → sm_f K T O N (c + 1) fs' j) → post 0 (sz, K, As, Bs, Cs, vs', fs')) :
    ∀ (m i : Nat) (vs fs w : Nat → Int32), i + m = N → sm_R K T O i (c / sm_P K O i m) = some w → (∀ v, v < 4 → vs v = w v) → (∀ j, j < i → sm_f K T O N (c + 1) fs j) → (∀ j, i ≤ j → j < N → sm_f K T O N c fs j) → ∀ f, m + 1 < f → wY_run_25 post (nI c) (nI N) f 1 (nI i) sz K As Bs Cs vs fs := by
  have hn := hG.1
  intro m
  induction m with
  | zero =>
    intro i vs fs w hi hR hw hlo hhi f hf
    cases f with
    | zero => exact absurd hf (Nat.not_lt_zero _)
    | succ f =>
      have e : i = N := by omega
      subst e
      rw [sm_P, Nat.div_one] at hR
      exact br_t (nI_le (Nat.le_refl _) (by omega)) ⟨rfl, h1 w hR vs fs hw hlo⟩
  | succ m ih =>
    intro i vs fs w hi hR hw hlo hhi f hf
    cases f with
    | zero => exact absurd hf (Nat.not_lt_zero _)
    | succ f =>
    cases f with
    | zero => exact absurd hf (by omega)
    | succ f =>
      have hl := hpos (i + 1) m (by omega)
      have hP := hpos i (m + 1) hi
      have hlb := sm_G_P hG (i := i + 1) (m := m) (by omega)
      have hPb := sm_G_P hG (i := i) (m := m + 1) (by omega)
      have ho : 0 < sm_o (K i) (O i) := by
        rw [sm_P] at hP
        exact Nat.pos_of_mul_pos_right hP
      have hob : sm_o (K i) (O i) ≤ 2197 := by
        rw [sm_P] at hPb
        exact Nat.le_trans (Nat.le_mul_of_pos_right _ hl) hPb
      have em : N - i - 1 = m := by omega
      have hdb : c / sm_P K O (i + 1) m ≤ c := Nat.div_le_self _ _
      rw [sm_pc] at hR
      refine br_f (nI_ge (by omega) (by omega)) (br_f (by decide) ?_)
      rw [nI_1 i]
      refine sm_btw hG hY hN (m := m) (by omega) (sm_opt hG hY (by omega) (br_f (nI_nle hl (by omega)) ⟨nI_ne0 hl (by omega), ?_⟩))
      rw [pk_div hc hl (by omega)]
      refine br_f (nI_nle ho (by omega)) ⟨nI_ne0 ho (by omega), ?_⟩
      rw [pk_rem (by omega) ho (by omega)]
      have hfail : sm_R K T O (i + 1) (c / sm_P K O (i + 1) m) = none → ∀ vs' fs', (∀ j, j < i + 1 → sm_f K T O N (c + 1) fs' j) → (∀ j, i + 1 ≤ j → j < N → sm_f K T O N c fs' j) → post 0 (sz, K, As, Bs, Cs, vs', fs') := by
        intro hno vs' fs' q1 q2
        have hall : ∀ j, i + 1 ≤ j → j ≤ N → sm_R K T O j (c / sm_P K O j (N - j)) = none := fun j hj1 hj2 => by
          have := sm_R_fail m (i + 1) j hj1 (by omega) hno
          rw [show i + 1 + m - j = N - j from by omega] at this
          exact this
        refine h0 ?_ vs' fs' (fun j hj => ?_)
        · have := hall N (by omega) (Nat.le_refl N)
          rw [Nat.sub_self, sm_P, Nat.div_one] at this
          exact this
        · by_cases hji : j < i + 1
          · exact q1 j hji
          · refine sm_f_up (hpos (j + 1) (N - j - 1) (by omega)) (fun h8 => ?_) (q2 j (by omega) hj)
            have := hall j (by omega) (by omega)
            rw [show N - j = (N - j - 1) + 1 from by omega, sm_pc, h8, show sm_o 8 (O j) = 1 from rfl, Nat.div_one] at this
            exact this
      by_cases h8 : K i = 8
      · have ho1 : sm_o (K i) (O i) = 1 := by rw [h8]; rfl
        rw [ho1, Nat.div_one] at hR
        have hfi := hhi i (Nat.le_refl i) (by omega) h8
        rw [em] at hfi
        have hup : ∀ (y : Int32) (j : Nat), j ≠ i → upd fs i y j = fs j := fun y j hj => if_neg hj
        have hus : ∀ (y : Int32), upd fs i y i = y := fun y => if_pos rfl
        rcases hfi with ⟨p0, e1, g2, ⟨w0, g3⟩, g4⟩ | ⟨e1, g2⟩
        · have hp0 : p0 ≤ p0 * sm_P K O (i + 1) m := Nat.le_mul_of_pos_right _ hl
          have hy : nI p0 = if 0 ≤ fs i then fs i else nI (c / sm_P K O (i + 1) m) := by
            rw [e1, if_pos (nI_pos' (by omega))]
          have hlo' : ∀ j, j < i + 1 → sm_f K T O N (c + 1) (upd fs i (nI p0)) j := fun j hj => by
            by_cases hji : j = i
            · subst hji
              exact fun _ => Or.inl ⟨p0, hus _, by rw [em]; omega, ⟨w0, g3⟩, g4⟩
            · exact sm_f_congr (hup _ j hji) (hlo j (by omega))
          have hhi' : ∀ j, i + 1 ≤ j → j < N → sm_f K T O N c (upd fs i (nI p0)) j := fun j hj1 hj2 => sm_f_congr (hup _ j (by omega)) (hhi j (by omega) hj2)
          refine sm_carry8 hG hY (by omega) h8 hy (fun e => nm_r (nI_1 i) ?_) (fun e => nm_r (nI_1 i) ?_)
          · have e' := (nI_eq (by omega) (by omega)).mp e
            exact ih (i + 1) vs _ w (by omega) (sm_R8_first h8 hR (by rw [← e']; exact g4)) hw hlo' hhi' (f + 1) (by omega)
          · have hne : p0 ≠ c / sm_P K O (i + 1) m := fun z => e (by rw [z])
            have hlt : p0 < c / sm_P K O (i + 1) m := by
              by_cases hge : c / sm_P K O (i + 1) m < p0
              · have := g4 _ hge
                rw [hR] at this
                exact absurd this (by simp)
              · omega
            exact sm_y0 (hfail (sm_R8_not h8 hlt g3) vs _ hlo' hhi')
        · have hy : nI (c / sm_P K O (i + 1) m) = if 0 ≤ fs i then fs i else nI (c / sm_P K O (i + 1) m) := by
            rw [e1, if_neg (by decide)]
          have hdm : c / sm_P K O (i + 1) m * sm_P K O (i + 1) m ≤ c := Nat.div_mul_le_self _ _
          have hfst : ∀ q, q < c / sm_P K O (i + 1) m → sm_R K T O i q = none := fun q hq => g2 q (by
            have : (q + 1) * sm_P K O (i + 1) m ≤ c / sm_P K O (i + 1) m * sm_P K O (i + 1) m := Nat.mul_le_mul_right _ hq
            rw [Nat.add_mul, Nat.one_mul] at this
            omega)
          refine sm_carry8 hG hY (by omega) h8 hy (fun _ => nm_r (nI_1 i) ?_) (fun e => absurd rfl e)
          refine ih (i + 1) vs _ w (by omega) (sm_R8_first h8 hR hfst) hw (fun j hj => ?_) (fun j hj1 hj2 => sm_f_congr (hup _ j (by omega)) (hhi j (by omega) hj2)) (f + 1) (by omega)
          by_cases hji : j = i
          · subst hji
            exact fun _ => Or.inl ⟨_, hus _, by rw [em]; omega, ⟨w, hR⟩, hfst⟩
          · exact sm_f_congr (hup _ j hji) (hlo j (by omega))
      · have hst := sm_R_step h8 hR
        have hlo' : ∀ j, j < i + 1 → sm_f K T O N (c + 1) fs j := fun j hj => by
          by_cases hji : j = i
          · subst hji
            exact fun z => absurd z h8
          · exact hlo j (by omega)
        have hhi' : ∀ j, i + 1 ≤ j → j < N → sm_f K T O N c fs j := fun j hj1 hj2 => hhi j (by omega) hj2
        have hmb : c / sm_P K O (i + 1) m % sm_o (K i) (O i) ≤ c / sm_P K O (i + 1) m := Nat.mod_le _ _
        exact sm_carry hG hY (by omega) (by omega) hw h8
          (fun w' hop vs' hw' => nm_r (nI_1 i) (ih (i + 1) vs' fs w' (by omega) (hst.trans hop) hw' hlo' hhi' (f + 1) (by omega)))
          (fun hop vs' => nm_r (nI_1 i) (sm_y0 (hfail (hst.trans hop) vs' fs hlo' hhi')))
theorem sm_yrun {post : Int32 → SY → Prop} {sz : Int32} {K T O As Bs Cs vs fs : Nat → Int32} {n N c : Nat} (hG : sm_G K T O n) (hY : sm_Y K T O As Bs Cs n) (hN : N ≤ n) (hc : c < sm_P K O 0 N) (hf : ∀ j, j < N → sm_f K T O N c fs j)
    (h1 : ∀ w, sm_R K T O N c = some w → ∀ vs' fs', (∀ v, v < 4 → vs' v = w v) → (∀ j, j < N → sm_f K T O N (c + 1) fs' j) → post 1 (sz, K, As, Bs, Cs, vs', fs'))
    (h0 : sm_R K T O N c = none → ∀ vs' fs', (∀ j, j < N → sm_f K T O N (c + 1) fs' j) → post 0 (sz, K, As, Bs, Cs, vs', fs')) :
    wpY_run post (sz, K, As, Bs, Cs, vs, fs) (nI c) (nI N) := by
  have hb := sm_G_P hG (i := 0) (m := N) (by omega)
  have hpos : ∀ i m, i + m = N → 0 < sm_P K O i m := fun i m him => by
    have e := sm_P_add K O i m 0
    rw [him, Nat.zero_add] at e
    rw [e] at hc
    exact Nat.pos_of_mul_pos_left (Nat.lt_of_le_of_lt (Nat.zero_le c) hc)
  exact loop_0 (fun n i s => wY_run_2 post (nI c) (nI N) sz n (nI i) K As Bs Cs s fs) (fun i s => s = sm_z vs 0 i) 4 vs (sm_z_0 vs 0).symm
    (fun n s e => by
      subst e
      exact br_t (nI_le (b := 4) (Nat.le_refl 4) (by decide)) ⟨N + 2, sm_r25 hG hY hN (by omega) hpos h1 h0 N 0 (sm_z vs 0 4) fs (fun _ => 0) (Nat.zero_add N) rfl (fun v hv => sm_z_v hv) (fun j hj => absurd hj (Nat.not_lt_zero _)) (fun j _ hj => hf j hj) (N + 2) (by omega)⟩)
    (fun n i s hi e ih => by
      subst e
      refine br_f (nI_ge (b := 4) hi (by decide)) ⟨pk_in i 4 (by omega), nm_r ?_ (nm_r (nI_1 i) (ih _ rfl))⟩
      rw [nI_clamp (by omega)]
      exact sm_z_s vs 0 i)
theorem sm_begin {post : SY → Prop} {sz : Int32} {K T O As Bs Cs vs fs : Nat → Int32} {N : Nat} (hN : N ≤ 14) (h : ∀ fs', (∀ j, j < N → sm_f K T O N 0 fs' j) → post (sz, K, As, Bs, Cs, vs, fs')) : wpY_begin post (sz, K, As, Bs, Cs, vs, fs) :=
  loop_0 (fun n i s => wY_begin_2 post sz n (nI i) K As Bs Cs vs s) (fun i s => s = sm_z fs (-1) i) 14 fs (sm_z_0 fs (-1)).symm
    (fun n s e => by
      subst e
      exact br_t (nI_le (b := 14) (Nat.le_refl 14) (by decide)) (h _ (fun j hj _ => Or.inr ⟨sm_z_v (by omega), fun p hp => absurd hp (Nat.not_lt_zero _)⟩)))
    (fun n i s hi e ih => by
      subst e
      refine br_f (nI_ge (b := 14) hi (by decide)) ⟨pk_in i 14 (by omega), nm_r ?_ (nm_r (nI_1 i) (ih _ rfl))⟩
      rw [nI_clamp (by omega)]
      exact sm_z_s fs (-1) i)
end
section
/-! the reference's questions -/
theorem sm_yw {post : Int32 → SY → Prop} {sz : Int32} {K T O As Bs Cs : Nat → Int32} {n N : Nat} (hG : sm_G K T O n) (hY : sm_Y K T O As Bs Cs n) (hN : N ≤ n) : ∀ (m c cnt : Nat) (vs fs : Nat → Int32), c + m = sm_P K O 0 N → (∀ j, j < N → sm_f K T O N c fs j) →
    (∀ vs' fs', post (nI (cnt + (sm_lf (sm_R K T O N) c m).length)) (sz, K, As, Bs, Cs, vs', fs')) → ∀ f, m < f → wY_ways_30 post (nI N) (nI (sm_P K O 0 N)) f (nI cnt) (nI c) sz K As Bs Cs vs fs := by
  have hb := sm_G_P hG (i := 0) (m := N) (by omega)
  intro m
  induction m with
  | zero =>
    intro c cnt vs fs hc hf h f hlt
    cases f with
    | zero => exact absurd hlt (Nat.not_lt_zero _)
    | succ f => exact br_t (nI_le (by omega) (by omega)) (h vs fs)
  | succ m ih =>
    intro c cnt vs fs hc hf h f hlt
    cases f with
    | zero => exact absurd hlt (Nat.not_lt_zero _)
    | succ f =>
      refine br_f (nI_ge (by omega) (by omega)) ?_
      refine sm_yrun hG hY hN (by omega) hf (fun w hR vs' fs' hw hf' => ?_) (fun hR vs' fs' hf' => ?_)
      · rw [sm_lf_s hR, List.length_cons] at h
        refine br_f (by decide) (nm_r (nI_1 cnt) (nm_r (nI_1 c) (ih (c + 1) (cnt + 1) vs' fs' (by omega) hf' ?_ f (by omega))))
        rw [show cnt + 1 + (sm_lf (sm_R K T O N) (c + 1) m).length = cnt + ((sm_lf (sm_R K T O N) (c + 1) m).length + 1) from by omega]
        exact h
      · rw [sm_lf_n hR] at h
        exact br_t rfl (nm_r (nI_1 c) (ih (c + 1) cnt vs' fs' (by omega) hf' h f (by omega)))
theorem sm_Yways {post : Int32 → SY → Prop} {K T O As Bs Cs vs fs : Nat → Int32} {n N : Nat} (hG : sm_G K T O n) (hY : sm_Y K T O As Bs Cs n) (hN : N ≤ n) (h : ∀ vs' fs', post (nI (sm_L K T O N).length) (nI n, K, As, Bs, Cs, vs', fs')) : wpY_ways post (nI n, K, As, Bs, Cs, vs, fs) (nI N) := by
  have hn := hG.1
  rw [sm_L_R] at h
  refine br_f (nI_pos (by omega)) (br_t (nI_le hN (by omega)) ?_)
  refine sm_begin (T := T) (O := O) (N := N) (by omega) (fun fs' hf' => ?_)
  refine sm_btw (i := 0) (m := N) hG hY hN (Nat.zero_add N) ?_
  exact ⟨_, sm_yw hG hY hN (sm_P K O 0 N) 0 0 vs fs' (Nat.zero_add _) hf' (by rw [Nat.zero_add]; exact h) _ (Nat.lt_succ_self _)⟩
theorem sm_Yanswers {post : Int32 → SY → Prop} {K T O As Bs Cs vs fs : Nat → Int32} {n : Nat} (hG : sm_G K T O n) (hY : sm_Y K T O As Bs Cs n) (h : ∀ vs' fs', post (nI (sm_L K T O n).length) (nI n, K, As, Bs, Cs, vs', fs')) : wpY_answers post (nI n, K, As, Bs, Cs, vs, fs) :=
  sm_Yways hG hY (Nat.le_refl n) h
theorem sm_yval {post : Int32 → SY → Prop} {k : Int32} {K T O As Bs Cs : Nat → Int32} {n v : Nat} (hG : sm_G K T O n) (hY : sm_Y K T O As Bs Cs n) (hv : v < 4) : ∀ (m c i : Nat) (vs fs : Nat → Int32), c + m = sm_P K O 0 n → (∀ j, j < n → sm_f K T O n c fs j) →
    (∀ vs' fs', post (sm_val v k (sm_lf (sm_R K T O n) c m) i) (nI n, K, As, Bs, Cs, vs', fs')) → ∀ f, m < f → wY_value_20 post k (nI v) (nI (sm_P K O 0 n)) f (nI i) (nI c) (nI n) K As Bs Cs vs fs := by
  have hb := sm_G_P hG (i := 0) (m := n) (by omega)
  intro m
  induction m with
  | zero =>
    intro c i vs fs hc hf h f hlt
    cases f with
    | zero => exact absurd hlt (Nat.not_lt_zero _)
    | succ f => exact br_t (nI_le (by omega) (by omega)) (h vs fs)
  | succ m ih =>
    intro c i vs fs hc hf h f hlt
    cases f with
    | zero => exact absurd hlt (Nat.not_lt_zero _)
    | succ f =>
      refine br_f (nI_ge (by omega) (by omega)) ?_
      refine sm_yv1 hv ?_
      refine br_f (by decide) ?_
      refine sm_yrun hG hY (Nat.le_refl n) (by omega) hf (fun w hR vs' fs' hw hf' => ?_) (fun hR vs' fs' hf' => ?_)
      · rw [sm_lf_s hR, sm_val] at h
        refine br_f (by decide) ?_
        by_cases hk : nI i = k
        · rw [if_pos hk] at h
          refine br_t hk ⟨pk_in v 4 hv, ?_⟩
          rw [nI_clamp (by omega)]
          have := h vs' fs'
          rw [← hw v hv] at this
          exact this
        · rw [if_neg hk] at h
          exact br_f hk (nm_r (nI_1 i) (nm_r (nI_1 c) (ih (c + 1) (i + 1) vs' fs' (by omega) hf' h f (by omega))))
      · rw [sm_lf_n hR] at h
        exact br_t rfl (nm_r (nI_1 c) (ih (c + 1) i vs' fs' (by omega) hf' h f (by omega)))
theorem sm_Yvalue {post : Int32 → SY → Prop} {k : Int32} {K T O As Bs Cs vs fs : Nat → Int32} {n v : Nat} (hG : sm_G K T O n) (hY : sm_Y K T O As Bs Cs n) (hv : v < 4) (h : ∀ vs' fs', post (sm_val v k (sm_L K T O n) 0) (nI n, K, As, Bs, Cs, vs', fs')) : wpY_value post (nI n, K, As, Bs, Cs, vs, fs) k (nI v) := by
  have hn := hG.1
  rw [sm_L_R] at h
  unfold wpY_value
  dsimp only
  refine sm_begin (T := T) (O := O) (N := n) hn (fun fs' hf' => ?_)
  refine sm_btw (i := 0) (m := n) hG hY (Nat.le_refl n) (Nat.zero_add n) ?_
  exact ⟨_, sm_yval hG hY hv (sm_P K O 0 n) 0 0 vs fs' (Nat.zero_add _) hf' h _ (Nat.lt_succ_self _)⟩
theorem sm_Yvalue0 {post : Int32 → SY → Prop} {k v : Int32} {K T O As Bs Cs vs fs : Nat → Int32} {n : Nat} (hG : sm_G K T O n) (hY : sm_Y K T O As Bs Cs n) (hv : v < 0 ∨ 4 ≤ v) (h : ∀ vs' fs', post (-1000000000) (nI n, K, As, Bs, Cs, vs', fs')) : wpY_value post (nI n, K, As, Bs, Cs, vs, fs) k v := by
  have hn := hG.1
  unfold wpY_value
  dsimp only
  refine sm_begin (T := T) (O := O) (N := n) hn (fun fs' hf' => ?_)
  refine sm_btw (i := 0) (m := n) hG hY (Nat.le_refl n) (Nat.zero_add n) ?_
  refine ⟨1, br_c (fun _ => h vs fs') (fun _ => ?_)⟩
  refine sm_yv0 hv ?_
  exact br_t rfl (h vs fs')
theorem sm_ycw {post : Int32 → SY → Prop} {x : Int32} {K T O As Bs Cs : Nat → Int32} {n v : Nat} (hG : sm_G K T O n) (hY : sm_Y K T O As Bs Cs n) (hv : v < 4) : ∀ (m c : Nat) (acc : Int32) (vs fs : Nat → Int32), c + m = sm_P K O 0 n → (∀ j, j < n → sm_f K T O n c fs j) →
    (∀ vs' fs', post (sm_cw v x (sm_lf (sm_R K T O n) c m) acc) (nI n, K, As, Bs, Cs, vs', fs')) → ∀ f, m < f → wY_countWith_20 post (nI v) x (nI (sm_P K O 0 n)) f acc (nI c) (nI n) K As Bs Cs vs fs := by
  have hb := sm_G_P hG (i := 0) (m := n) (by omega)
  intro m
  induction m with
  | zero =>
    intro c acc vs fs hc hf h f hlt
    cases f with
    | zero => exact absurd hlt (Nat.not_lt_zero _)
    | succ f => exact br_t (nI_le (by omega) (by omega)) (h vs fs)
  | succ m ih =>
    intro c acc vs fs hc hf h f hlt
    cases f with
    | zero => exact absurd hlt (Nat.not_lt_zero _)
    | succ f =>
      refine br_f (nI_ge (by omega) (by omega)) ?_
      refine sm_yv1 hv ?_
      refine br_f (by decide) ?_
      refine sm_yrun hG hY (Nat.le_refl n) (by omega) hf (fun w hR vs' fs' hw hf' => ?_) (fun hR vs' fs' hf' => ?_)
      · rw [sm_lf_s hR, sm_cw] at h
        have he : vs' (nI v).toNatClampNeg = w v := by rw [nI_clamp (by omega)]; exact hw v hv
        refine br_f (by decide) ⟨pk_in v 4 hv, ?_⟩
        by_cases hx : w v = x
        · rw [if_pos hx] at h
          exact br_t (he.trans hx) (nm_e (nm_r (nI_1 c) (ih (c + 1) (acc + 1) vs' fs' (by omega) hf' h f (by omega))))
        · rw [if_neg hx] at h
          exact br_f (fun z => hx (he.symm.trans z)) (nm_r (nI_1 c) (ih (c + 1) acc vs' fs' (by omega) hf' h f (by omega)))
      · rw [sm_lf_n hR] at h
        exact br_t rfl (nm_r (nI_1 c) (ih (c + 1) acc vs' fs' (by omega) hf' h f (by omega)))
theorem sm_Ycount {post : Int32 → SY → Prop} {x : Int32} {K T O As Bs Cs vs fs : Nat → Int32} {n v : Nat} (hG : sm_G K T O n) (hY : sm_Y K T O As Bs Cs n) (hv : v < 4) (h : ∀ vs' fs', post (sm_cw v x (sm_L K T O n) 0) (nI n, K, As, Bs, Cs, vs', fs')) : wpY_countWith post (nI n, K, As, Bs, Cs, vs, fs) (nI v) x := by
  have hn := hG.1
  rw [sm_L_R] at h
  unfold wpY_countWith
  dsimp only
  refine sm_begin (T := T) (O := O) (N := n) hn (fun fs' hf' => ?_)
  refine sm_btw (i := 0) (m := n) hG hY (Nat.le_refl n) (Nat.zero_add n) ?_
  exact ⟨_, sm_ycw hG hY hv (sm_P K O 0 n) 0 0 vs fs' (Nat.zero_add _) hf' h _ (Nat.lt_succ_self _)⟩
theorem sm_Ycount0 {post : Int32 → SY → Prop} {x v : Int32} {K T O As Bs Cs vs fs : Nat → Int32} {n : Nat} (hG : sm_G K T O n) (hY : sm_Y K T O As Bs Cs n) (hv : v < 0 ∨ 4 ≤ v) (h : ∀ vs' fs', post 0 (nI n, K, As, Bs, Cs, vs', fs')) : wpY_countWith post (nI n, K, As, Bs, Cs, vs, fs) v x := by
  have hn := hG.1
  unfold wpY_countWith
  dsimp only
  refine sm_begin (T := T) (O := O) (N := n) hn (fun fs' hf' => ?_)
  refine sm_btw (i := 0) (m := n) hG hY (Nat.le_refl n) (Nat.zero_add n) ?_
  refine ⟨1, br_c (fun _ => h vs fs') (fun _ => ?_)⟩
  refine sm_yv0 hv ?_
  exact br_t rfl (h vs fs')
theorem sm_yfw {post : Int32 → SY → Prop} {x : Int32} {K T O As Bs Cs : Nat → Int32} {n v : Nat} (hG : sm_G K T O n) (hY : sm_Y K T O As Bs Cs n) (hv : v < 4) : ∀ (m c i : Nat) (vs fs : Nat → Int32), c + m = sm_P K O 0 n → (∀ j, j < n → sm_f K T O n c fs j) →
    (∀ vs' fs', post (sm_fw v x (sm_lf (sm_R K T O n) c m) i) (nI n, K, As, Bs, Cs, vs', fs')) → ∀ f, m < f → wY_firstWith_20 post (nI v) x (nI (sm_P K O 0 n)) f (nI i) (nI c) (nI n) K As Bs Cs vs fs := by
  have hb := sm_G_P hG (i := 0) (m := n) (by omega)
  intro m
  induction m with
  | zero =>
    intro c i vs fs hc hf h f hlt
    cases f with
    | zero => exact absurd hlt (Nat.not_lt_zero _)
    | succ f => exact br_t (nI_le (by omega) (by omega)) (h vs fs)
  | succ m ih =>
    intro c i vs fs hc hf h f hlt
    cases f with
    | zero => exact absurd hlt (Nat.not_lt_zero _)
    | succ f =>
      refine br_f (nI_ge (by omega) (by omega)) ?_
      refine sm_yv1 hv ?_
      refine br_f (by decide) ?_
      refine sm_yrun hG hY (Nat.le_refl n) (by omega) hf (fun w hR vs' fs' hw hf' => ?_) (fun hR vs' fs' hf' => ?_)
      · rw [sm_lf_s hR, sm_fw] at h
        have he : vs' (nI v).toNatClampNeg = w v := by rw [nI_clamp (by omega)]; exact hw v hv
        refine br_f (by decide) ⟨pk_in v 4 hv, ?_⟩
        by_cases hx : w v = x
        · rw [if_pos hx] at h
          exact br_t (he.trans hx) (h vs' fs')
        · rw [if_neg hx] at h
          exact br_f (fun z => hx (he.symm.trans z)) (nm_r (nI_1 i) (nm_r (nI_1 c) (ih (c + 1) (i + 1) vs' fs' (by omega) hf' h f (by omega))))
      · rw [sm_lf_n hR] at h
        exact br_t rfl (nm_r (nI_1 c) (ih (c + 1) i vs' fs' (by omega) hf' h f (by omega)))
theorem sm_Yfirst {post : Int32 → SY → Prop} {x : Int32} {K T O As Bs Cs vs fs : Nat → Int32} {n v : Nat} (hG : sm_G K T O n) (hY : sm_Y K T O As Bs Cs n) (hv : v < 4) (h : ∀ vs' fs', post (sm_fw v x (sm_L K T O n) 0) (nI n, K, As, Bs, Cs, vs', fs')) : wpY_firstWith post (nI n, K, As, Bs, Cs, vs, fs) (nI v) x := by
  have hn := hG.1
  rw [sm_L_R] at h
  unfold wpY_firstWith
  dsimp only
  refine sm_begin (T := T) (O := O) (N := n) hn (fun fs' hf' => ?_)
  refine sm_btw (i := 0) (m := n) hG hY (Nat.le_refl n) (Nat.zero_add n) ?_
  exact ⟨_, sm_yfw hG hY hv (sm_P K O 0 n) 0 0 vs fs' (Nat.zero_add _) hf' h _ (Nat.lt_succ_self _)⟩
theorem sm_Yfirst0 {post : Int32 → SY → Prop} {x v : Int32} {K T O As Bs Cs vs fs : Nat → Int32} {n : Nat} (hG : sm_G K T O n) (hY : sm_Y K T O As Bs Cs n) (hv : v < 0 ∨ 4 ≤ v) (h : ∀ vs' fs', post (-1) (nI n, K, As, Bs, Cs, vs', fs')) : wpY_firstWith post (nI n, K, As, Bs, Cs, vs, fs) v x := by
  have hn := hG.1
  unfold wpY_firstWith
  dsimp only
  refine sm_begin (T := T) (O := O) (N := n) hn (fun fs' hf' => ?_)
  refine sm_btw (i := 0) (m := n) hG hY (Nat.le_refl n) (Nat.zero_add n) ?_
  refine ⟨1, br_c (fun _ => h vs fs') (fun _ => ?_)⟩
  refine sm_yv0 hv ?_
  exact br_t rfl (h vs fs')
theorem sm_y94 {post : Int32 → SY → Prop} {J24 : Int32 → Int32 → Int32 → Int32 → (Nat → Int32) → (Nat → Int32) → (Nat → Int32) → (Nat → Int32) → (Nat → Int32) → (Nat → Int32) → Prop} {x2 x3 x4 y sz : Int32} {K As Bs Cs vs fs : Nat → Int32} {v c : Nat} (hv : v < 4) (hy : vs v = y) (h : J24 y 1 (nI (c + 1)) sz K As Bs Cs vs fs) : wY_extreme_94 post J24 (nI v) x2 x3 x4 (nI c) sz K As Bs Cs vs fs :=
  br_f (by decide) ⟨pk_in v 4 hv, nm_r (by rw [nI_clamp (by omega)]; exact hy) (nm_r (nI_1 c) h)⟩
theorem sm_y98 {post : Int32 → SY → Prop} {J24 : Int32 → Int32 → Int32 → Int32 → (Nat → Int32) → (Nat → Int32) → (Nat → Int32) → (Nat → Int32) → (Nat → Int32) → (Nat → Int32) → Prop} {x1 x2 x3 x4 sz : Int32} {K As Bs Cs vs fs : Nat → Int32} {c : Nat} (h : J24 x4 1 (nI (c + 1)) sz K As Bs Cs vs fs) : wY_extreme_98 post J24 x1 x2 x3 x4 (nI c) sz K As Bs Cs vs fs :=
  br_t rfl (nm_r (nI_1 c) h)
theorem sm_y24 {post : Int32 → SY → Prop} {q B x4 x5 c sz : Int32} {K As Bs Cs vs fs : Nat → Int32} {v f : Nat} (hv : v < 4) (hq : q = 0 ∨ q = 1) (hlt : ¬ B ≤ c) (h : wY_extreme_47 post (wY_extreme_24 post (nI v) q B f) (nI v) q B x4 x5 c sz K As Bs Cs vs fs) : wY_extreme_24 post (nI v) q B (f + 1) x4 x5 c sz K As Bs Cs vs fs := by
  refine br_f hlt ?_
  refine sm_yv1 hv ?_
  refine br_f (by decide) ?_
  rcases hq with rfl | rfl
  · exact br_t rfl h
  · exact br_f (by decide) (br_t rfl h)
theorem sm_yex {post : Int32 → SY → Prop} {q : Int32} {K T O As Bs Cs : Nat → Int32} {n v : Nat} (hG : sm_G K T O n) (hY : sm_Y K T O As Bs Cs n) (hv : v < 4) (hq : q = 0 ∨ q = 1) : ∀ (m c : Nat) (e : Int32) (vs fs : Nat → Int32), c + m = sm_P K O 0 n → (∀ j, j < n → sm_f K T O n c fs j) →
    (∀ vs' fs', post (sm_ex v q (sm_lf (sm_R K T O n) c m) e) (nI n, K, As, Bs, Cs, vs', fs')) → ∀ f, m < f → wY_extreme_24 post (nI v) q (nI (sm_P K O 0 n)) f e 1 (nI c) (nI n) K As Bs Cs vs fs := by
  have hb := sm_G_P hG (i := 0) (m := n) (by omega)
  intro m
  induction m with
  | zero =>
    intro c e vs fs hc hf h f hlt
    cases f with
    | zero => exact absurd hlt (Nat.not_lt_zero _)
    | succ f => exact br_t (nI_le (by omega) (by omega)) (h vs fs)
  | succ m ih =>
    intro c e vs fs hc hf h f hlt
    cases f with
    | zero => exact absurd hlt (Nat.not_lt_zero _)
    | succ f =>
      refine sm_y24 hv hq (nI_ge (by omega) (by omega)) ?_
      refine sm_yrun hG hY (Nat.le_refl n) (by omega) hf (fun w hR vs' fs' hw hf' => ?_) (fun hR vs' fs' hf' => ?_)
      · rw [sm_lf_s hR, sm_ex] at h
        have he : vs' (nI v).toNatClampNeg = w v := by rw [nI_clamp (by omega)]; exact hw v hv
        refine br_f (by decide) (br_f (by decide) ?_)
        by_cases h0 : q = 0
        · rw [if_pos h0] at h
          refine br_t h0 ⟨pk_in v 4 hv, ?_⟩
          rw [he]
          by_cases hx : e ≤ w v
          · rw [if_pos hx] at h
            exact br_t hx (sm_y98 (ih (c + 1) e vs' fs' (by omega) hf' h f (by omega)))
          · rw [if_neg hx] at h
            exact br_f hx (sm_y94 hv (hw v hv) (ih (c + 1) (w v) vs' fs' (by omega) hf' h f (by omega)))
        · rw [if_neg h0] at h
          refine br_f h0 ⟨pk_in v 4 hv, ?_⟩
          rw [he]
          by_cases hx : w v ≤ e
          · rw [if_pos hx] at h
            exact br_t hx (sm_y98 (ih (c + 1) e vs' fs' (by omega) hf' h f (by omega)))
          · rw [if_neg hx] at h
            exact br_f hx (sm_y94 hv (hw v hv) (ih (c + 1) (w v) vs' fs' (by omega) hf' h f (by omega)))
      · rw [sm_lf_n hR] at h
        exact br_t rfl (nm_r (nI_1 c) (ih (c + 1) e vs' fs' (by omega) hf' h f (by omega)))
theorem sm_yex0 {post : Int32 → SY → Prop} {q : Int32} {K T O As Bs Cs : Nat → Int32} {n v : Nat} (hG : sm_G K T O n) (hY : sm_Y K T O As Bs Cs n) (hv : v < 4) (hq : q = 0 ∨ q = 1) : ∀ (m c : Nat) (vs fs : Nat → Int32), c + m = sm_P K O 0 n → (∀ j, j < n → sm_f K T O n c fs j) →
    (∀ vs' fs', post (sm_ex0 v q (sm_lf (sm_R K T O n) c m)) (nI n, K, As, Bs, Cs, vs', fs')) → ∀ f, m < f → wY_extreme_24 post (nI v) q (nI (sm_P K O 0 n)) f (-1000000000) 0 (nI c) (nI n) K As Bs Cs vs fs := by
  have hb := sm_G_P hG (i := 0) (m := n) (by omega)
  intro m
  induction m with
  | zero =>
    intro c vs fs hc hf h f hlt
    cases f with
    | zero => exact absurd hlt (Nat.not_lt_zero _)
    | succ f => exact br_t (nI_le (by omega) (by omega)) (h vs fs)
  | succ m ih =>
    intro c vs fs hc hf h f hlt
    cases f with
    | zero => exact absurd hlt (Nat.not_lt_zero _)
    | succ f =>
      refine sm_y24 hv hq (nI_ge (by omega) (by omega)) ?_
      refine sm_yrun hG hY (Nat.le_refl n) (by omega) hf (fun w hR vs' fs' hw hf' => ?_) (fun hR vs' fs' hf' => ?_)
      · rw [sm_lf_s hR, sm_ex0] at h
        exact br_f (by decide) (br_t rfl (sm_y94 hv (hw v hv) (sm_yex hG hY hv hq m (c + 1) (w v) vs' fs' (by omega) hf' h f (by omega))))
      · rw [sm_lf_n hR] at h
        exact br_t rfl (nm_r (nI_1 c) (ih (c + 1) vs' fs' (by omega) hf' h f (by omega)))
theorem sm_Yextreme {post : Int32 → SY → Prop} {q : Int32} {K T O As Bs Cs vs fs : Nat → Int32} {n v : Nat} (hG : sm_G K T O n) (hY : sm_Y K T O As Bs Cs n) (hv : v < 4) (hq : q = 0 ∨ q = 1) (h : ∀ vs' fs', post (sm_ex0 v q (sm_L K T O n)) (nI n, K, As, Bs, Cs, vs', fs')) : wpY_extreme post (nI n, K, As, Bs, Cs, vs, fs) (nI v) q := by
  have hn := hG.1
  rw [sm_L_R] at h
  unfold wpY_extreme
  dsimp only
  refine sm_begin (T := T) (O := O) (N := n) hn (fun fs' hf' => ?_)
  refine sm_btw (i := 0) (m := n) hG hY (Nat.le_refl n) (Nat.zero_add n) ?_
  exact ⟨_, sm_yex0 hG hY hv hq (sm_P K O 0 n) 0 vs fs' (Nat.zero_add _) hf' h _ (Nat.lt_succ_self _)⟩
theorem sm_Yextreme0 {post : Int32 → SY → Prop} {q v : Int32} {K T O As Bs Cs vs fs : Nat → Int32} {n : Nat} (hG : sm_G K T O n) (hY : sm_Y K T O As Bs Cs n) (hv : (v < 0 ∨ 4 ≤ v) ∨ (¬ q = 0 ∧ ¬ q = 1)) (h : ∀ vs' fs', post (-1000000000) (nI n, K, As, Bs, Cs, vs', fs')) : wpY_extreme post (nI n, K, As, Bs, Cs, vs, fs) v q := by
  have hn := hG.1
  unfold wpY_extreme
  dsimp only
  refine sm_begin (T := T) (O := O) (N := n) hn (fun fs' hf' => ?_)
  refine sm_btw (i := 0) (m := n) hG hY (Nat.le_refl n) (Nat.zero_add n) ?_
  refine ⟨1, br_c (fun _ => h vs fs') (fun _ => ?_)⟩
  rcases sm_v v with hb | ⟨j, hj, rfl⟩
  · refine sm_yv0 hb ?_
    exact br_t rfl (h vs fs')
  · refine sm_yv1 hj ?_
    refine br_f (by decide) ?_
    have hq2 : ¬ q = 0 ∧ ¬ q = 1 := hv.resolve_left (fun z => z.elim (fun z1 => nI_pos (by omega) z1) (fun z1 => nI_ge (b := 4) hj (by decide) z1))
    exact br_f hq2.1 (br_f hq2.2 (h vs fs'))
end
section
/-! step: what is refused, what is kept -/
theorem sm_xch {post : Int32 → Prop} {k : Int32} (h1 : sm_ch k = 1 → post 1) (h0 : sm_ch k = 0 → post 0) : wpX_isChoosing post k := by
  by_cases e0 : k = 0
  · exact br_t e0 (h1 (by rw [sm_ch, if_pos e0]))
  · refine br_f e0 ?_
    by_cases e4 : k = 4
    · exact br_t e4 (h1 (by rw [sm_ch, if_neg e0, if_pos e4]))
    · refine br_f e4 ?_
      by_cases e9 : k = 9
      · exact br_t e9 (h1 (by rw [sm_ch, if_neg e0, if_neg e4, if_pos e9]))
      · exact br_f e9 (h0 (by rw [sm_ch, if_neg e0, if_neg e4, if_neg e9]))
theorem sm_ych {post : Int32 → Prop} {u : SY} {k : Int32} (h1 : sm_ch k = 1 → post 1) (h0 : sm_ch k = 0 → post 0) : wpY_choice post u k := by
  by_cases e0 : k = 0
  · exact br_t e0 (h1 (by rw [sm_ch, if_pos e0]))
  · refine br_f e0 ?_
    by_cases e4 : k = 4
    · exact br_t e4 (h1 (by rw [sm_ch, if_neg e0, if_pos e4]))
    · refine br_f e4 ?_
      by_cases e9 : k = 9
      · exact br_t e9 (h1 (by rw [sm_ch, if_neg e0, if_neg e4, if_pos e9]))
      · exact br_f e9 (h0 (by rw [sm_ch, if_neg e0, if_neg e4, if_neg e9]))
theorem sm_xcs {post : Int32 → Prop} {wc : Int32} {K T O c : Nat → Int32} {n : Nat} (hn : n ≤ 14) : ∀ m i acc : Nat, i + m = n → post (nI (acc + sm_c K i m)) → ∀ f, m < f → wX_choosingSteps_4 post (nI n) wc K T O c f (nI acc) (nI i) := by
  intro m
  induction m with
  | zero =>
    intro i acc hi h f hf
    cases f with
    | zero => exact absurd hf (Nat.not_lt_zero _)
    | succ f => exact br_t (nI_le (by omega) (by omega)) h
  | succ m ih =>
    intro i acc hi h f hf
    cases f with
    | zero => exact absurd hf (Nat.not_lt_zero _)
    | succ f =>
      refine br_f (nI_ge (by omega) (by omega)) ⟨pk_in i 14 (by omega), ?_⟩
      rw [nI_clamp (show i < 2 ^ 31 by omega)]
      rw [sm_c] at h
      refine sm_xch (fun e => ?_) (fun e => ?_)
      · rw [e] at h
        exact br_f (by decide) (nm_r (nI_1 acc) (nm_r (nI_1 i) (ih (i + 1) (acc + 1) (by omega) (by rw [Nat.add_assoc]; exact h) f (by omega))))
      · rw [e, Nat.zero_add] at h
        exact br_t rfl (nm_r (nI_1 i) (ih (i + 1) acc (by omega) h f (by omega)))
theorem sm_ycs {post : Int32 → Prop} {K As Bs Cs vs fs : Nat → Int32} {n : Nat} (hn : n ≤ 14) : ∀ m i acc : Nat, i + m = n → post (nI (acc + sm_c K i m)) → ∀ f, m < f → wY_choices_4 post (nI n) K As Bs Cs vs fs f (nI acc) (nI i) := by
  intro m
  induction m with
  | zero =>
    intro i acc hi h f hf
    cases f with
    | zero => exact absurd hf (Nat.not_lt_zero _)
    | succ f => exact br_t (nI_le (by omega) (by omega)) h
  | succ m ih =>
    intro i acc hi h f hf
    cases f with
    | zero => exact absurd hf (Nat.not_lt_zero _)
    | succ f =>
      refine br_f (nI_ge (by omega) (by omega)) ⟨pk_in i 14 (by omega), ?_⟩
      rw [nI_clamp (show i < 2 ^ 31 by omega)]
      rw [sm_c] at h
      refine sm_ych (fun e => ?_) (fun e => ?_)
      · rw [e] at h
        exact br_f (by decide) (nm_r (nI_1 acc) (nm_r (nI_1 i) (ih (i + 1) (acc + 1) (by omega) (by rw [Nat.add_assoc]; exact h) f (by omega))))
      · rw [e, Nat.zero_add] at h
        exact br_t rfl (nm_r (nI_1 i) (ih (i + 1) acc (by omega) h f (by omega)))
/-- both sides take the same steps for valid -/
def sm_both (k a b : Int32) : Prop := (sm_ok k a b ∧ (∀ post : Int32 → Prop, post 1 → wpX_isStep post k a b) ∧ (∀ (post : Int32 → Prop) (u : SY), post 1 → wpY_good post u k a b)) ∨ ((∀ post : Int32 → Prop, post 0 → wpX_isStep post k a b) ∧ (∀ (post : Int32 → Prop) (u : SY), post 0 → wpY_good post u k a b))
theorem sm_shr_neg {b : Int32} (h : b < 0) : b >>> ((4 : Int32) &&& 31) < 0 := by
  have h0 : (0 : Int32).toInt = 0 := by decide
  rw [Int32.lt_iff_toInt_lt, h0] at h
  rw [Int32.lt_iff_toInt_lt, h0, pk_shr b ((4 : Int32) &&& 31) 4 (by decide), Int.shiftRight_eq_div_pow]
  show b.toInt / 16 < 0
  omega
theorem sm_good0 (a b : Int32) : sm_both 0 a b := by
  rcases sm_v a with ha | ⟨A, hA, rfl⟩
  · refine Or.inr ⟨fun post h => ?_, fun post u h => ?_⟩
    · refine br_f (by decide) (br_t (by decide) (br_f (by decide) ?_))
      refine sm_xv0 ha ?_
      exact br_t rfl h
    · refine br_t rfl ?_
      refine sm_yv0 ha ?_
      exact br_t rfl h
  · obtain ⟨lo, hlo, elo⟩ := pk_andE b (m := 15) 4 (by decide)
    have hlo' : lo < 16 := hlo
    have hX : ∀ post : Int32 → Prop, wpX_isRange (fun r_12 => (narrow .boolean (.int r_12) = .int r_12 ∧ (post r_12))) b → wpX_isStep post 0 (nI A) b := fun post h => by
      refine br_f (by decide) (br_t (by decide) (br_f (by decide) ?_))
      refine sm_xv1 hA ?_
      exact br_f (by decide) (br_t rfl h)
    have hY : ∀ (post : Int32 → Prop) (u : SY), (((b < 0 → (post 0)) ∧ (¬ b < 0 → (((12 < (b &&& 15) → (post 0)) ∧ (¬ 12 < (b &&& 15) → (((12 < (b >>> ((4 : Int32) &&& 31)) → (post 0)) ∧ (¬ 12 < (b >>> ((4 : Int32) &&& 31)) → (post 1)))))))))) → wpY_good post u 0 (nI A) b := fun post u h => by
      refine br_t rfl ?_
      refine sm_yv1 hA ?_
      exact br_f (by decide) h
    by_cases hb : b < 0
    · refine Or.inr ⟨fun post h => hX post ?_, fun post u h => hY post u (br_t hb h)⟩
      exact nm_e (nm_e (br_c (fun _ => ⟨rfl, h⟩) (fun _ => br_t (sm_shr_neg hb) ⟨rfl, h⟩)))
    · obtain ⟨j, hj, rfl⟩ := nI_of hb
      have ehi : nI j >>> ((4 : Int32) &&& 31) = nI (j / 16) := pk_shrN hj _ 4 (by decide)
      by_cases h1 : 13 ≤ lo
      · refine Or.inr ⟨fun post h => hX post ?_, fun post u h => hY post u (br_f hb (br_t ?_ h))⟩
        · exact nm_r elo (nm_e (br_t (nI_le (a := 13) h1 (by omega)) ⟨rfl, h⟩))
        · rw [elo]; exact nI_lt (a := 12) (by omega) (by omega)
      · have n1 : ¬ (13 : Int32) ≤ nI lo := nI_ge (b := 13) (by omega) (by decide)
        have n1' : ¬ (12 : Int32) < nI j &&& 15 := by rw [elo]; exact nI_nlt (a := 12) (by omega) (by decide)
        have n2 : ¬ nI (j / 16) < 0 := nI_pos (by omega)
        by_cases h2 : 13 ≤ j / 16
        · refine Or.inr ⟨fun post h => hX post ?_, fun post u h => hY post u (br_f hb (br_f n1' (br_t ?_ h)))⟩
          · exact nm_r elo (nm_r ehi (br_f n1 (br_f n2 (br_t (nI_le (a := 13) h2 (by omega)) ⟨rfl, h⟩))))
          · rw [ehi]; exact nI_lt (a := 12) (by omega) (by omega)
        · refine Or.inl ⟨Or.inr (Or.inl ⟨rfl, A, lo, j / 16, hA, by omega, by omega, rfl, elo, ehi⟩), fun post h => hX post ?_, fun post u h => hY post u (br_f hb (br_f n1' (br_f ?_ h)))⟩
          · exact nm_r elo (nm_r ehi (br_f n1 (br_f n2 (br_f (nI_ge (b := 13) (by omega) (by decide)) ⟨rfl, h⟩))))
          · rw [ehi]; exact nI_nlt (a := 12) (by omega) (by decide)
theorem sm_good1 (a b : Int32) : sm_both 1 a b := by
  rcases sm_v a with ha | ⟨A, hA, rfl⟩
  · refine Or.inr ⟨fun post h => ?_, fun post u h => ?_⟩
    · refine br_f (by decide) (br_t (by decide) (br_f (by decide) ?_))
      refine sm_xv0 ha ?_
      exact br_t rfl h
    · refine br_f (by decide) (br_t rfl ?_)
      refine sm_yv0 ha ?_
      exact br_t rfl h
  · have hX : ∀ post : Int32 → Prop, ((b < (-20) → (post 0)) ∧ (¬ b < (-20) → (((20 < b → (post 0)) ∧ (¬ 20 < b → (post 1)))))) → wpX_isStep post 1 (nI A) b := fun post h => by
      refine br_f (by decide) (br_t (by decide) (br_f (by decide) ?_))
      refine sm_xv1 hA ?_
      exact br_f (by decide) (br_f (by decide) (br_t rfl h))
    have hY : ∀ (post : Int32 → Prop) (u : SY), ((b < (-20) → (post 0)) ∧ (¬ b < (-20) → (((20 < b → (post 0)) ∧ (¬ 20 < b → (post 1)))))) → wpY_good post u 1 (nI A) b := fun post u h => by
      refine br_f (by decide) (br_t rfl ?_)
      refine sm_yv1 hA ?_
      exact br_f (by decide) h
    by_cases h1 : b < (-20)
    · exact Or.inr ⟨fun post h => hX post (br_t h1 h), fun post u h => hY post u (br_t h1 h)⟩
    · by_cases h2 : 20 < b
      · exact Or.inr ⟨fun post h => hX post (br_f h1 (br_t h2 h)), fun post u h => hY post u (br_f h1 (br_t h2 h))⟩
      · exact Or.inl ⟨Or.inr (Or.inr (Or.inl ⟨rfl, A, hA, rfl⟩)), fun post h => hX post (br_f h1 (br_f h2 h)), fun post u h => hY post u (br_f h1 (br_f h2 h))⟩
theorem sm_good2 (k a b : Int32) (hk : k = 2 ∨ k = 3 ∨ k = 4 ∨ k = 5 ∨ k = 6 ∨ k = 7 ∨ k = 9) : sm_both k a b := by
  have f1 : ¬ k < 0 := by rcases hk with rfl | rfl | rfl | rfl | rfl | rfl | rfl <;> decide
  have f2 : k ≤ 9 := by rcases hk with rfl | rfl | rfl | rfl | rfl | rfl | rfl <;> decide
  have f3 : ¬ k = 8 := by rcases hk with rfl | rfl | rfl | rfl | rfl | rfl | rfl <;> decide
  have f4 : ¬ k = 0 := by rcases hk with rfl | rfl | rfl | rfl | rfl | rfl | rfl <;> decide
  have f5 : ¬ k = 1 := by rcases hk with rfl | rfl | rfl | rfl | rfl | rfl | rfl <;> decide
  have f6 : ¬ k < 2 := by rcases hk with rfl | rfl | rfl | rfl | rfl | rfl | rfl <;> decide
  have f7 : ¬ 9 < k := by rcases hk with rfl | rfl | rfl | rfl | rfl | rfl | rfl <;> decide
  rcases sm_v a with ha | ⟨A, hA, rfl⟩
  · refine Or.inr ⟨fun post h => ?_, fun post u h => ?_⟩
    · refine br_f f1 (br_t f2 (br_f f3 ?_))
      refine sm_xv0 ha ?_
      exact br_t rfl h
    · refine br_f f4 (br_f f5 (br_f f3 (br_f f6 (br_f f7 ?_))))
      refine sm_yv0 ha ?_
      exact br_t rfl h
  · rcases sm_v b with hb | ⟨B, hB, rfl⟩
    · refine Or.inr ⟨fun post h => ?_, fun post u h => ?_⟩
      · refine br_f f1 (br_t f2 (br_f f3 ?_))
        refine sm_xv1 hA ?_
        refine br_f (by decide) (br_f f4 (br_f f5 ?_))
        refine sm_xv0 hb ?_
        exact ⟨rfl, h⟩
      · refine br_f f4 (br_f f5 (br_f f3 (br_f f6 (br_f f7 ?_))))
        refine sm_yv1 hA ?_
        refine br_f (by decide) ?_
        refine sm_yv0 hb ?_
        exact br_t rfl h
    · refine Or.inl ⟨Or.inr (Or.inr (Or.inr ⟨hk, A, B, hA, hB, rfl, rfl⟩)), fun post h => ?_, fun post u h => ?_⟩
      · refine br_f f1 (br_t f2 (br_f f3 ?_))
        refine sm_xv1 hA ?_
        refine br_f (by decide) (br_f f4 (br_f f5 ?_))
        refine sm_xv1 hB ?_
        exact ⟨rfl, h⟩
      · refine br_f f4 (br_f f5 (br_f f3 (br_f f6 (br_f f7 ?_))))
        refine sm_yv1 hA ?_
        refine br_f (by decide) ?_
        refine sm_yv1 hB ?_
        exact br_f (by decide) h
theorem sm_good (k a b : Int32) : sm_both k a b := by
  rcases pk_ix k (n := 10) (by decide) with h | h | ⟨j, hj, rfl⟩
  · have f0 : ¬ k = 0 := fun z => absurd h (by rw [z]; decide)
    have f1 : ¬ k = 1 := fun z => absurd h (by rw [z]; decide)
    have f8 : ¬ k = 8 := fun z => absurd h (by rw [z]; decide)
    have f2 : k < 2 := Int32.lt_trans h (by decide)
    exact Or.inr ⟨fun post hp => br_t h hp, fun post u hp => br_f f0 (br_f f1 (br_f f8 (br_t f2 hp)))⟩
  · have h10 : (10 : Int32) ≤ k := h
    have g0 : ¬ k < 0 := Int32.not_lt.mpr (Int32.le_trans (by decide) h10)
    obtain ⟨j, hj, rfl⟩ := nI_of g0
    have hj10 : 10 ≤ j := (nI_leI (a := 10) (by decide) hj).mp h10
    have f0 : ¬ nI j = 0 := nI_ne0 (by omega) hj
    have f1 : ¬ nI j = 1 := fun z => by have := (nI_eq (b := 1) hj (by decide)).mp z; omega
    have f8 : ¬ nI j = 8 := fun z => by have := (nI_eq (b := 8) hj (by decide)).mp z; omega
    have f2 : ¬ nI j < 2 := nI_nlt (b := 2) (by omega) hj
    have f9 : (9 : Int32) < nI j := nI_lt (a := 9) (by omega) hj
    have f9' : ¬ nI j ≤ 9 := nI_ge (a := 9) (by omega) hj
    exact Or.inr ⟨fun post hp => br_f g0 (br_f f9' hp), fun post u hp => br_f f0 (br_f f1 (br_f f8 (br_f f2 (br_t f9 hp))))⟩
  · have hc : j = 0 ∨ j = 1 ∨ j = 2 ∨ j = 3 ∨ j = 4 ∨ j = 5 ∨ j = 6 ∨ j = 7 ∨ j = 8 ∨ j = 9 := by omega
    rcases hc with rfl | rfl | rfl | rfl | rfl | rfl | rfl | rfl | rfl | rfl
    · exact sm_good0 a b
    · exact sm_good1 a b
    · exact sm_good2 2 a b (Or.inl rfl)
    · exact sm_good2 3 a b (Or.inr (Or.inl rfl))
    · exact sm_good2 4 a b (Or.inr (Or.inr (Or.inl rfl)))
    · exact sm_good2 5 a b (Or.inr (Or.inr (Or.inr (Or.inl rfl))))
    · exact sm_good2 6 a b (Or.inr (Or.inr (Or.inr (Or.inr (Or.inl rfl)))))
    · exact sm_good2 7 a b (Or.inr (Or.inr (Or.inr (Or.inr (Or.inr (Or.inl rfl))))))
    · exact Or.inl ⟨Or.inl rfl, fun post hp => br_f (by decide) (br_t (by decide) (br_t rfl hp)), fun post u hp => br_f (by decide) (br_f (by decide) (br_t rfl hp))⟩
    · exact sm_good2 9 a b (Or.inr (Or.inr (Or.inr (Or.inr (Or.inr (Or.inr rfl))))))
theorem sm_X28 {post : Int32 → SX → Prop} {k a b wc : Int32} {K T O c : Nat → Int32} {n : Nat} (hn : n < 14) (h : post (nI n) (nI (n + 1), wc, upd K n k, upd T n a, upd O n b, c)) : wX_step_28 post k a b (nI n) wc K T O c := by
  have hin : vp_in (nI n) 14 := vp_in_nI hn (by decide)
  have hc : (nI n).toNatClampNeg = n := nI_clamp (by omega)
  refine br_t (nI_lt (b := 14) hn (by decide)) ⟨hin, nm_r (by rw [hc]) ⟨hin, nm_r (by rw [hc]) ⟨hin, nm_r (by rw [hc]) (nm_r (nI_1 n) ?_)⟩⟩⟩
  rw [nI_pred]
  exact h
theorem sm_Y28 {post : Int32 → SY → Prop} {k a b : Int32} {K As Bs Cs vs fs : Nat → Int32} {n : Nat} (hn : n < 14) (h : post (nI n) (nI (n + 1), upd K n k, upd As n (if k = 8 then 0 else a), upd Bs n (if k = 0 then (b &&& 15) - 3 else if k = 8 then 0 else b), upd Cs n (if k = 0 then (b >>> ((4 : Int32) &&& 31)) - 3 else 0), vs, fs)) : wY_step_28 post k a b (nI n) K As Bs Cs vs fs := by
  have hin : vp_in (nI n) 14 := vp_in_nI hn (by decide)
  have hc : (nI n).toNatClampNeg = n := nI_clamp (by omega)
  have h124 : ∀ z, z = (if k = 0 then (b >>> ((4 : Int32) &&& 31)) - 3 else 0) → wY_step_124 post z (nI n) (nI n) (upd K n k) (upd As n (if k = 8 then 0 else a)) (upd Bs n (if k = 0 then (b &&& 15) - 3 else if k = 8 then 0 else b)) Cs vs fs := by
    intro z hz
    subst hz
    refine ⟨hin, nm_r (by rw [hc]) (nm_r (nI_1 n) ?_)⟩
    rw [nI_pred]
    exact h
  have h102 : ∀ z, z = (if k = 0 then (b &&& 15) - 3 else if k = 8 then 0 else b) → wY_step_102 post k b z (nI n) (nI n) (upd K n k) (upd As n (if k = 8 then 0 else a)) Bs Cs vs fs := by
    intro z hz
    subst hz
    refine ⟨hin, nm_r (by rw [hc]) ?_⟩
    by_cases h0 : k = 0
    · exact br_t h0 (h124 _ (by rw [if_pos h0]))
    · exact br_f h0 (h124 _ (by rw [if_neg h0]))
  have h69 : ∀ z, z = (if k = 8 then 0 else a) → wY_step_69 post k b z (nI n) (nI n) (upd K n k) As Bs Cs vs fs := by
    intro z hz
    subst hz
    refine ⟨hin, nm_r (by rw [hc]) ?_⟩
    by_cases h0 : k = 0
    · exact br_t h0 (h102 _ (by rw [if_pos h0]))
    · refine br_f h0 ?_
      by_cases h8 : k = 8
      · exact br_t h8 (h102 _ (by rw [if_neg h0, if_pos h8]))
      · exact br_f h8 (h102 _ (by rw [if_neg h0, if_neg h8]))
  refine br_t (nI_lt (b := 14) hn (by decide)) ⟨hin, nm_r (by rw [hc]) ?_⟩
  by_cases h8 : k = 8
  · exact br_t h8 (h69 _ (by rw [if_pos h8]))
  · exact br_f h8 (h69 _ (by rw [if_neg h8]))
theorem sm_Xstep {post : Int32 → SX → Prop} {k a b wc : Int32} {K T O c : Nat → Int32} {n : Nat} (hn : n ≤ 14) (hs : ∀ post : Int32 → Prop, post 1 → wpX_isStep post k a b) (hr : sm_ch k = 1 → 3 ≤ sm_c K 0 n → post (-1) (nI n, wc, K, T, O, c)) (hg : (sm_ch k = 0 ∨ sm_c K 0 n < 3) → wX_step_28 post k a b (nI n) wc K T O c) (hb : sm_c K 0 n ≤ 3) : wpX_step post (nI n, wc, K, T, O, c) k a b := by
  unfold wpX_step
  dsimp only
  refine hs _ ?_
  refine br_f (by decide) ?_
  refine sm_xch (fun e => ?_) (fun e => br_t rfl (hg (Or.inl e)))
  refine br_f (by decide) ⟨n + 1, sm_xcs hn n 0 0 (Nat.zero_add n) ?_ (n + 1) (Nat.lt_succ_self n)⟩
  rw [Nat.zero_add]
  exact pk_lt (sm_c K 0 n) 3 (fun hlt => hg (Or.inr hlt)) (fun hge => hr e hge) rfl rfl (by omega) (by omega)
theorem sm_Ystep {post : Int32 → SY → Prop} {k a b : Int32} {K As Bs Cs vs fs : Nat → Int32} {n : Nat} (hn : n ≤ 14) (hs : ∀ (post : Int32 → Prop) (u : SY), post 1 → wpY_good post u k a b) (hr : sm_ch k = 1 → 3 ≤ sm_c K 0 n → post (-1) (nI n, K, As, Bs, Cs, vs, fs)) (hg : (sm_ch k = 0 ∨ sm_c K 0 n < 3) → wY_step_28 post k a b (nI n) K As Bs Cs vs fs) (hb : sm_c K 0 n ≤ 3) : wpY_step post (nI n, K, As, Bs, Cs, vs, fs) k a b := by
  unfold wpY_step
  dsimp only
  refine hs _ _ ?_
  refine br_f (by decide) ?_
  refine sm_ych (fun e => ?_) (fun e => br_t rfl (hg (Or.inl e)))
  refine br_f (by decide) ⟨n + 1, sm_ycs hn n 0 0 (Nat.zero_add n) ?_ (n + 1) (Nat.lt_succ_self n)⟩
  rw [Nat.zero_add]
  exact pk_lt (sm_c K 0 n) 3 (fun hlt => hg (Or.inr hlt)) (fun hge => hr e hge) rfl rfl (by omega) (by omega)
theorem sm_G_s {K T O : Nat → Int32} {n : Nat} {k a b : Int32} (hG : sm_G K T O n) (hn : n < 14) (hok : sm_ok k a b) (hc : sm_c K 0 n + sm_ch k ≤ 3) : sm_G (upd K n k) (upd T n a) (upd O n b) (n + 1) := by
  refine ⟨by omega, fun j hj => ?_, ?_⟩
  · by_cases e : j = n
    · subst e
      rw [pk_us, pk_us, pk_us]
      exact hok
    · rw [pk_un e, pk_un e, pk_un e]
      exact hG.2.1 j (by omega)
  · rw [sm_c_add, Nat.zero_add, sm_c, sm_c, pk_us, Nat.add_zero, sm_c_congr (K' := K) n 0 (fun j _ h2 => pk_un (by omega))]
    exact hc
theorem sm_Y_s {K T O As Bs Cs : Nat → Int32} {n : Nat} {k a b : Int32} (hY : sm_Y K T O As Bs Cs n) : sm_Y (upd K n k) (upd T n a) (upd O n b) (upd As n (if k = 8 then 0 else a)) (upd Bs n (if k = 0 then (b &&& 15) - 3 else if k = 8 then 0 else b)) (upd Cs n (if k = 0 then (b >>> ((4 : Int32) &&& 31)) - 3 else 0)) (n + 1) := by
  intro j hj
  by_cases e : j = n
  · subst e
    rw [pk_us, pk_us, pk_us, pk_us, pk_us, pk_us]
    exact ⟨rfl, rfl, rfl⟩
  · rw [pk_un e, pk_un e, pk_un e, pk_un e, pk_un e, pk_un e]
    exact hY j (by omega)
end
section
/-- the two states hold the same program: valid steps, at most three of them choosing; what else they hold is scratch -/
def i_Rel (k : Nat) (u : SX) (v : SY) : Prop := ∃ (n : Nat) (wc : Int32) (K T O c As Bs Cs vs fs : Nat → Int32), u = (nI n, wc, K, T, O, c) ∧ v = (nI n, K, As, Bs, Cs, vs, fs) ∧ sm_G K T O n ∧ sm_Y K T O As Bs Cs n
theorem i_up {k : Nat} {u : SX} {v : SY} (h : i_Rel k u v) : i_Rel (k + 4) u v := h
theorem i_vc0 : wpX_init (fun u => wpY_init (fun v => i_Rel 0 u v)) :=
  ⟨0, 0, fun _ => 0, fun _ => 0, fun _ => 0, fun _ => 0, fun _ => 0, fun _ => 0, fun _ => 0, fun _ => 0, fun _ => 0, rfl, rfl, ⟨by decide, fun j hj => absurd hj (Nat.not_lt_zero _), Nat.zero_le _⟩, fun j hj => absurd hj (Nat.not_lt_zero _)⟩
theorem i_vc_step {k : Nat} {u : SX} {v : SY} (I : i_Rel k u v) (hk : k + 4 ≤ 2048) (v1 : Int32) (v2 : Int32) (v3 : Int32) : wpX_step (fun r u' => wpY_step (fun r' v' => r' = r ∧ i_Rel (k + 4) u' v') v v1 v2 v3) u v1 v2 v3 := by
  obtain ⟨n, wc, K, T, O, c, As, Bs, Cs, vs, fs, rfl, rfl, hG, hY⟩ := I
  have J : i_Rel (k + 4) (nI n, wc, K, T, O, c) (nI n, K, As, Bs, Cs, vs, fs) := ⟨n, wc, K, T, O, c, As, Bs, Cs, vs, fs, rfl, rfl, hG, hY⟩
  have hn := hG.1
  have hc3 := hG.2.2
  rcases sm_good v1 v2 v3 with ⟨hok, hX, hYg⟩ | ⟨hX, hYg⟩
  · refine sm_Xstep hn hX (fun e1 e2 => ?_) (fun hg => ?_) hc3
    · refine sm_Ystep hn hYg (fun _ _ => ⟨rfl, J⟩) (fun hg => ?_) hc3
      exact absurd hg (by omega)
    · by_cases h14 : n < 14
      · refine sm_X28 h14 ?_
        refine sm_Ystep hn hYg (fun e1 e2 => absurd hg (by omega)) (fun _ => ?_) hc3
        refine sm_Y28 h14 ⟨rfl, n + 1, wc, _, _, _, c, _, _, _, vs, fs, rfl, rfl, sm_G_s hG h14 hok ?_, sm_Y_s hY⟩
        have : sm_ch v1 ≤ 1 := by
          rw [sm_ch]
          by_cases h0 : v1 = 0
          · rw [if_pos h0]; omega
          · rw [if_neg h0]
            by_cases h4 : v1 = 4
            · rw [if_pos h4]; omega
            · rw [if_neg h4]
              by_cases h9 : v1 = 9
              · rw [if_pos h9]; omega
              · rw [if_neg h9]; omega
        omega
      · have hl : ¬ nI n < 14 := nI_nlt (b := 14) (by omega) (by omega)
        refine br_f hl ?_
        refine sm_Ystep hn hYg (fun e1 e2 => absurd hg (by omega)) (fun _ => ?_) hc3
        exact br_f hl ⟨rfl, J⟩
  · unfold wpX_step wpY_step
    dsimp only
    refine hX _ ?_
    refine br_t rfl ?_
    refine hYg _ _ ?_
    exact br_t rfl ⟨rfl, J⟩
theorem i_vc_drop {k : Nat} {u : SX} {v : SY} (I : i_Rel k u v) (hk : k + 4 ≤ 2048) : wpX_drop (fun r u' => wpY_drop (fun r' v' => r' = r ∧ i_Rel (k + 4) u' v') v) u := by
  obtain ⟨n, wc, K, T, O, c, As, Bs, Cs, vs, fs, rfl, rfl, hG, hY⟩ := I
  have hn := hG.1
  cases n with
  | zero => exact br_t rfl (br_t rfl ⟨rfl, 0, wc, K, T, O, c, As, Bs, Cs, vs, fs, rfl, rfl, hG, hY⟩)
  | succ n =>
    have h0 : ¬ nI (n + 1) = 0 := nI_ne0 (by omega) (by omega)
    have hc := hG.2.2
    rw [sm_c_add] at hc
    exact br_f h0 (nm_r (nI_pred n) (br_f h0 (nm_r (nI_pred n) ⟨rfl, n, wc, K, T, O, c, As, Bs, Cs, vs, fs, rfl, rfl, ⟨by omega, fun j hj => hG.2.1 j (by omega), by omega⟩, fun j hj => hY j (by omega)⟩)))
theorem i_vc_length {k : Nat} {u : SX} {v : SY} (I : i_Rel k u v) (hk : k + 4 ≤ 2048) : wpX_length (fun r => wpY_length (fun r' => r' = r ∧ i_Rel (k + 4) u v) v) u := by
  obtain ⟨n, wc, K, T, O, c, As, Bs, Cs, vs, fs, rfl, rfl, hG, hY⟩ := I
  exact ⟨rfl, n, wc, K, T, O, c, As, Bs, Cs, vs, fs, rfl, rfl, hG, hY⟩
theorem i_vc_answers {k : Nat} {u : SX} {v : SY} (I : i_Rel k u v) (hk : k + 4 ≤ 2048) : wpX_answers (fun r u' => wpY_answers (fun r' v' => r' = r ∧ i_Rel (k + 4) u' v') v) u := by
  obtain ⟨n, wc, K, T, O, c, As, Bs, Cs, vs, fs, rfl, rfl, hG, hY⟩ := I
  refine sm_Xanswers hG (fun wc' c' => ?_)
  exact sm_Yanswers hG hY (fun vs' fs' => ⟨rfl, n, wc', K, T, O, c', As, Bs, Cs, vs', fs', rfl, rfl, hG, hY⟩)
theorem i_vc_value {k : Nat} {u : SX} {v : SY} (I : i_Rel k u v) (hk : k + 4 ≤ 2048) (v1 : Int32) (v2 : Int32) : wpX_value (fun r u' => wpY_value (fun r' v' => r' = r ∧ i_Rel (k + 4) u' v') v v1 v2) u v1 v2 := by
  obtain ⟨n, wc, K, T, O, c, As, Bs, Cs, vs, fs, rfl, rfl, hG, hY⟩ := I
  rcases sm_v v2 with hb | ⟨j, hj, rfl⟩
  · unfold wpX_value
    dsimp only
    refine sm_xv0 hb ?_
    refine br_t rfl ?_
    exact sm_Yvalue0 hG hY hb (fun vs' fs' => ⟨rfl, n, wc, K, T, O, c, As, Bs, Cs, vs', fs', rfl, rfl, hG, hY⟩)
  · refine sm_Xvalue hG hj (fun wc' c' => ?_)
    exact sm_Yvalue hG hY hj (fun vs' fs' => ⟨rfl, n, wc', K, T, O, c', As, Bs, Cs, vs', fs', rfl, rfl, hG, hY⟩)
theorem i_vc_countWith {k : Nat} {u : SX} {v : SY} (I : i_Rel k u v) (hk : k + 4 ≤ 2048) (v1 : Int32) (v2 : Int32) : wpX_countWith (fun r u' => wpY_countWith (fun r' v' => r' = r ∧ i_Rel (k + 4) u' v') v v1 v2) u v1 v2 := by
  obtain ⟨n, wc, K, T, O, c, As, Bs, Cs, vs, fs, rfl, rfl, hG, hY⟩ := I
  rcases sm_v v1 with hb | ⟨j, hj, rfl⟩
  · unfold wpX_countWith
    dsimp only
    refine sm_xv0 hb ?_
    refine br_t rfl ?_
    exact sm_Ycount0 hG hY hb (fun vs' fs' => ⟨rfl, n, wc, K, T, O, c, As, Bs, Cs, vs', fs', rfl, rfl, hG, hY⟩)
  · refine sm_Xcount hG hj (fun wc' c' => ?_)
    exact sm_Ycount hG hY hj (fun vs' fs' => ⟨rfl, n, wc', K, T, O, c', As, Bs, Cs, vs', fs', rfl, rfl, hG, hY⟩)
theorem i_vc_firstWith {k : Nat} {u : SX} {v : SY} (I : i_Rel k u v) (hk : k + 4 ≤ 2048) (v1 : Int32) (v2 : Int32) : wpX_firstWith (fun r u' => wpY_firstWith (fun r' v' => r' = r ∧ i_Rel (k + 4) u' v') v v1 v2) u v1 v2 := by
  obtain ⟨n, wc, K, T, O, c, As, Bs, Cs, vs, fs, rfl, rfl, hG, hY⟩ := I
  rcases sm_v v1 with hb | ⟨j, hj, rfl⟩
  · unfold wpX_firstWith
    dsimp only
    refine sm_xv0 hb ?_
    refine br_t rfl ?_
    exact sm_Yfirst0 hG hY hb (fun vs' fs' => ⟨rfl, n, wc, K, T, O, c, As, Bs, Cs, vs', fs', rfl, rfl, hG, hY⟩)
  · refine sm_Xfirst hG hj (fun wc' c' => ?_)
    exact sm_Yfirst hG hY hj (fun vs' fs' => ⟨rfl, n, wc', K, T, O, c', As, Bs, Cs, vs', fs', rfl, rfl, hG, hY⟩)
theorem i_vc_extreme {k : Nat} {u : SX} {v : SY} (I : i_Rel k u v) (hk : k + 4 ≤ 2048) (v1 : Int32) (v2 : Int32) : wpX_extreme (fun r u' => wpY_extreme (fun r' v' => r' = r ∧ i_Rel (k + 4) u' v') v v1 v2) u v1 v2 := by
  obtain ⟨n, wc, K, T, O, c, As, Bs, Cs, vs, fs, rfl, rfl, hG, hY⟩ := I
  have hJ : ((v1 < 0 ∨ 4 ≤ v1) ∨ (¬ v2 = 0 ∧ ¬ v2 = 1)) → wpY_extreme (fun r' v' => r' = (-1000000000) ∧ i_Rel (k + 4) (nI n, wc, K, T, O, c) v') (nI n, K, As, Bs, Cs, vs, fs) v1 v2 := fun hb =>
    sm_Yextreme0 hG hY hb (fun vs' fs' => ⟨rfl, n, wc, K, T, O, c, As, Bs, Cs, vs', fs', rfl, rfl, hG, hY⟩)
  rcases sm_v v1 with hb | ⟨j, hj, rfl⟩
  · unfold wpX_extreme
    dsimp only
    refine sm_xv0 hb ?_
    refine br_t rfl ?_
    exact hJ (Or.inl hb)
  · rcases pk_ix v2 (n := 2) (by decide) with h | h | ⟨q, hq, rfl⟩
    · unfold wpX_extreme
      dsimp only
      refine sm_xv1 hj ?_
      refine br_f (by decide) (br_t h ?_)
      exact hJ (Or.inr ⟨fun z => absurd h (by rw [z]; decide), fun z => absurd h (by rw [z]; decide)⟩)
    · have h2 : (2 : Int32) ≤ v2 := h
      have h0 : ¬ v2 < 0 := Int32.not_lt.mpr (Int32.le_trans (by decide) h2)
      obtain ⟨q, hq, rfl⟩ := nI_of h0
      have hq2 : 2 ≤ q := (nI_leI (a := 2) (by decide) hq).mp h2
      unfold wpX_extreme
      dsimp only
      refine sm_xv1 hj ?_
      refine br_f (by decide) (br_f h0 (br_f (nI_ge (a := 1) (by omega) hq) ?_))
      exact hJ (Or.inr ⟨nI_ne0 (by omega) hq, fun z => by have := (nI_eq (b := 1) hq (by decide)).mp z; omega⟩)
    · have hq01 : nI q = 0 ∨ nI q = 1 := by
        have : q = 0 ∨ q = 1 := by omega
        rcases this with rfl | rfl
        · exact Or.inl rfl
        · exact Or.inr rfl
      refine sm_Xextreme hG hj hq01 (fun wc' c' => ?_)
      exact sm_Yextreme hG hY hj hq01 (fun vs' fs' => ⟨rfl, n, wc', K, T, O, c', As, Bs, Cs, vs', fs', rfl, rfl, hG, hY⟩)
theorem i_vc_ways {k : Nat} {u : SX} {v : SY} (I : i_Rel k u v) (hk : k + 4 ≤ 2048) (v1 : Int32) : wpX_ways (fun r u' => wpY_ways (fun r' v' => r' = r ∧ i_Rel (k + 4) u' v') v v1) u v1 := by
  obtain ⟨n, wc, K, T, O, c, As, Bs, Cs, vs, fs, rfl, rfl, hG, hY⟩ := I
  have J : i_Rel (k + 4) (nI n, wc, K, T, O, c) (nI n, K, As, Bs, Cs, vs, fs) := ⟨n, wc, K, T, O, c, As, Bs, Cs, vs, fs, rfl, rfl, hG, hY⟩
  have hn := hG.1
  by_cases h0 : v1 < 0
  · exact br_t h0 (br_t h0 ⟨rfl, J⟩)
  · obtain ⟨j, hj, rfl⟩ := nI_of h0
    by_cases hle : j ≤ n
    · refine sm_Xways hG hle (fun wc' c' => ?_)
      exact sm_Yways hG hY hle (fun vs' fs' => ⟨rfl, n, wc', K, T, O, c', As, Bs, Cs, vs', fs', rfl, rfl, hG, hY⟩)
    · have hl : ¬ nI j ≤ nI n := nI_ge (by omega) hj
      exact br_f h0 (br_f hl (br_f h0 (br_f hl ⟨rfl, J⟩)))
end
