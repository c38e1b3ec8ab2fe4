section
/-! pure rows to paste: stores, nI and lN arithmetic, masks, shifts, narrowing, branches by naturals (pk_le, pk_lt, pk_eq), loops (lp1 .. lp16: the measure of the state; rp1 ..: recursion), negatives. Take what you need -/
theorem pk_us {f : Nat → Int32} {k : Nat} {x : Int32} : upd f k x k = x := if_pos rfl
theorem pk_un {f : Nat → Int32} {k j : Nat} {x : Int32} (h : j ≠ k) : upd f k x j = f j := if_neg h
theorem pk_sub {a b : Nat} (h : b ≤ a) : nI a - nI b = nI (a - b) := by
  obtain ⟨c, rfl⟩ : ∃ c, a = c + b := ⟨a - b, by omega⟩
  rw [← nI_add, Int32.add_sub_cancel, Nat.add_sub_cancel]
theorem pk_m1 (n : Nat) : nI (n + 1) + (-1) = nI n := by
  rw [← nI_1, Int32.add_assoc, show (1 : Int32) + (-1) = 0 from rfl, Int32.add_zero]
theorem pk_mul (a b : Nat) : nI a * nI b = nI (a * b) := (Int32.ofNat_mul a b).symm
theorem pk_div {a d : Nat} (ha : a < 2 ^ 31) (h0 : 0 < d) (hd : d < 2 ^ 31) : nI a / nI d = nI (a / d) := by
  apply Int32.toInt_inj.mp
  rw [lg_idiv_nonneg (by rw [nI_toInt ha]; omega) (by rw [nI_toInt hd]; omega), nI_toInt ha, nI_toInt hd, nI_toInt (Nat.lt_of_le_of_lt (Nat.div_le_self a d) ha)]
  first | rfl | exact (Int.natCast_ediv _ _).symm
theorem pk_rem {a d : Nat} (ha : a < 2 ^ 31) (h0 : 0 < d) (hd : d < 2 ^ 31) : nI a - nI a / nI d * nI d = nI (a % d) := by
  rw [pk_div ha h0 hd, pk_mul, pk_sub (Nat.div_mul_le_self a d)]
  exact congrArg nI (by have := Nat.div_add_mod' a d; omega)
theorem pk_sub_toInt {a b : Nat} (ha : a < 2 ^ 30) (hb : b < 2 ^ 30) : (nI a - nI b).toInt = (a : Int) - b := by
  rw [Int32.toInt_sub, nI_toInt (by omega), nI_toInt (by omega)]
  exact Int.bmod_eq_of_le (by omega) (by omega)
theorem pk_sneg {a b : Nat} (hb : b < 2 ^ 30) (h : a < b) : nI a - nI b < 0 := by
  rw [Int32.lt_iff_toInt_lt, pk_sub_toInt (by omega) hb, show (0 : Int32).toInt = 0 from by decide]
  omega
theorem pk_ix (x : Int32) {n : Nat} (hn : n < 2 ^ 31) : x < 0 ∨ nI n ≤ x ∨ ∃ j : Nat, j < n ∧ x = nI j := by
  by_cases h : x < 0
  · exact Or.inl h
  · obtain ⟨j, hj, rfl⟩ := nI_of h
    by_cases h2 : j < n
    · exact Or.inr (Or.inr ⟨j, h2, rfl⟩)
    · exact Or.inr (Or.inl (nI_le (by omega) hj))
theorem pk_le {x y : Int32} {A B : Prop} (a b : Nat) (f : a ≤ b → A) (g : b < a → B) (hx : x = nI a := by rfl) (hy : y = nI b := by rfl) (ha : a < 2 ^ 31 := by omega) (hb : b < 2 ^ 31 := by omega) : (x ≤ y → A) ∧ (¬ x ≤ y → B) := by
  subst hx hy
  rw [nI_leI ha hb]
  exact ⟨f, fun z => g (by omega)⟩
theorem pk_lt {x y : Int32} {A B : Prop} (a b : Nat) (f : a < b → A) (g : b ≤ a → B) (hx : x = nI a := by rfl) (hy : y = nI b := by rfl) (ha : a < 2 ^ 31 := by omega) (hb : b < 2 ^ 31 := by omega) : (x < y → A) ∧ (¬ x < y → B) := by
  subst hx hy
  rw [nI_ltI ha hb]
  exact ⟨f, fun z => g (by omega)⟩
theorem pk_eq {x y : Int32} {A B : Prop} (a b : Nat) (f : a = b → A) (g : a ≠ b → B) (hx : x = nI a := by rfl) (hy : y = nI b := by rfl) (ha : a < 2 ^ 31 := by omega) (hb : b < 2 ^ 31 := by omega) : (x = y → A) ∧ (¬ x = y → B) := by
  subst hx hy
  rw [nI_eq ha hb]
  exact ⟨f, g⟩
theorem pk_in {x : Int32} (n N : Nat) (h : n < N) (hx : x = nI n := by rfl) (hN : N < 2 ^ 31 := by omega) : vp_in x N := by
  subst hx
  exact vp_in_nI h hN
theorem pk_cl {x : Int32} (n : Nat) (hx : x = nI n := by rfl) (h : n < 2 ^ 31 := by omega) : x.toNatClampNeg = n := by
  subst hx
  exact nI_clamp h
theorem pk_tn {n : Nat} (h : n < 2 ^ 32) : (nI n).toBitVec.toNat = n := Nat.mod_eq_of_lt h
theorem pk_and (x : Int32) {m : Int32} (k : Nat) (hm : m.toBitVec.toNat = 2 ^ k - 1) : x &&& m = nI (x.toBitVec.toNat % 2 ^ k) := by
  apply Int32.toBitVec_inj.mp
  apply BitVec.eq_of_toNat_eq
  rw [Int32.toBitVec_and, BitVec.toNat_and, hm, Nat.and_two_pow_sub_one_eq_mod]
  show _ = (BitVec.ofNat 32 _).toNat
  rw [BitVec.toNat_ofNat]
  exact (Nat.mod_eq_of_lt (Nat.lt_of_le_of_lt (Nat.mod_le _ _) x.toBitVec.isLt)).symm
theorem pk_andN {n : Nat} (h : n < 2 ^ 32) {m : Int32} (k : Nat) (hm : m.toBitVec.toNat = 2 ^ k - 1) : nI n &&& m = nI (n % 2 ^ k) := by
  rw [pk_and _ k hm, pk_tn h]
theorem pk_andE (x : Int32) {m : Int32} (k : Nat) (hm : m.toBitVec.toNat = 2 ^ k - 1) : ∃ j : Nat, j < 2 ^ k ∧ x &&& m = nI j := ⟨_, Nat.mod_lt _ (Nat.two_pow_pos k), pk_and x k hm⟩
theorem pk_andIn (x : Int32) {m : Int32} (k : Nat) (hm : m.toBitVec.toNat = 2 ^ k - 1) (hk : k ≤ 30) : vp_in (x &&& m) (2 ^ k) := by
  obtain ⟨j, hj, e⟩ := pk_andE x k hm
  rw [e]
  exact vp_in_nI hj (Nat.lt_of_le_of_lt (Nat.pow_le_pow_right (by decide) hk) (by decide))
theorem pk_shl (a s : Int32) (k : Nat) (hs : (s.toBitVec.smod 32).toNat = k) : (a <<< s).toBitVec.toNat = a.toBitVec.toNat * 2 ^ k % 2 ^ 32 := by
  show (a.toBitVec <<< (s.toBitVec.smod 32).toNat).toNat = _
  rw [hs, BitVec.toNat_shiftLeft, Nat.shiftLeft_eq]
theorem pk_shlN {n : Nat} (s : Int32) (k : Nat) (hs : (s.toBitVec.smod 32).toNat = k) (h : n * 2 ^ k < 2 ^ 32) : nI n <<< s = nI (n * 2 ^ k) := by
  apply Int32.toBitVec_inj.mp
  apply BitVec.eq_of_toNat_eq
  have hn : n < 2 ^ 32 := Nat.lt_of_le_of_lt (Nat.le_mul_of_pos_right n (Nat.two_pow_pos k)) h
  rw [pk_shl _ _ k hs, pk_tn hn, pk_tn h, Nat.mod_eq_of_lt h]
theorem pk_shr (a s : Int32) (k : Nat) (hs : (s.toBitVec.smod 32).toNat = k) : (a >>> s).toInt = a.toInt >>> k := by
  show (a.toBitVec.sshiftRight (s.toBitVec.smod 32).toNat).toInt = _
  rw [hs, BitVec.toInt_sshiftRight]
  rfl
theorem pk_shrN {n : Nat} (h : n < 2 ^ 31) (s : Int32) (k : Nat) (hs : (s.toBitVec.smod 32).toNat = k) : nI n >>> s = nI (n / 2 ^ k) := by
  apply Int32.toInt_inj.mp
  have h2 : n / 2 ^ k ≤ n := Nat.div_le_self _ _
  rw [pk_shr _ _ k hs, nI_toInt h, nI_toInt (by omega), Int.shiftRight_eq_div_pow]
  rfl
theorem pk_ushr (x s : Int32) (k : Nat) (hs : ((s.toUInt32 &&& Int32.toUInt32 31).toBitVec % 32).toNat = k) : (x.toUInt32 >>> (s.toUInt32 &&& Int32.toUInt32 31)).toInt32.toBitVec.toNat = x.toBitVec.toNat / 2 ^ k := by
  have e : (x.toUInt32 >>> (s.toUInt32 &&& Int32.toUInt32 31)).toInt32.toBitVec = x.toBitVec >>> k := by
    rw [← hs]
    exact UInt32.toBitVec_shiftRight _ _
  rw [e, BitVec.toNat_ushiftRight, Nat.shiftRight_eq_div_pow]
theorem pk_ushrN {n : Nat} (hn : n < 2 ^ 32) (s : Int32) (k : Nat) (hs : ((s.toUInt32 &&& Int32.toUInt32 31).toBitVec % 32).toNat = k) : ((nI n).toUInt32 >>> (s.toUInt32 &&& Int32.toUInt32 31)).toInt32 = nI (n / 2 ^ k) := by
  apply Int32.toBitVec_inj.mp
  apply BitVec.eq_of_toNat_eq
  rw [pk_ushr _ s k hs, pk_tn hn, pk_tn (Nat.lt_of_le_of_lt (Nat.div_le_self _ _) hn)]
theorem pk_loop {σ : Type} (W : Nat → Nat → σ → Prop) (I : Nat → σ → Prop) (e i0 : Nat) (s : σ) (hi : i0 ≤ e) (h0 : I i0 s) (hx : ∀ n s, I e s → W (n + 1) e s)
    (hs : ∀ n i s, i < e → I i s → (∀ s', I (i + 1) s' → W n (i + 1) s') → W (n + 1) i s) : ∃ n, W n i0 s :=
  ⟨e + 1, loop_i W I e hx hs (e + 1) i0 s hi (by omega) h0⟩
theorem pk_loopD {σ : Type} (W : Nat → Nat → σ → Prop) (I : Nat → σ → Prop) (hx : ∀ n s, I 0 s → W (n + 1) 0 s)
    (hs : ∀ n i s, I (i + 1) s → (∀ s', I i s' → W n i s') → W (n + 1) (i + 1) s) : ∀ (e : Nat) (s : σ), I e s → W (e + 1) e s := by
  intro e
  induction e with
  | zero => exact fun s h => hx 0 s h
  | succ e ih => exact fun s h => hs (e + 1) e s h (fun s' h' => ih s' h')
end
section
/-! the pure picture: ways, decisions, codes -/
def sm_lf {α : Type} (f : Nat → Option α) : Nat → Nat → List α
  | _, 0 => []
  | c, m + 1 => match f c with
    | none => sm_lf f (c + 1) m
    | some w => w :: sm_lf f (c + 1) m
theorem sm_lf_0 {α : Type} {f : Nat → Option α} {c : Nat} : sm_lf f c 0 = [] := by rw [sm_lf]
theorem sm_lf_n {α : Type} {f : Nat → Option α} {c m : Nat} (h : f c = none) : sm_lf f c (m + 1) = sm_lf f (c + 1) m := by
  rw [sm_lf, h]
theorem sm_lf_s {α : Type} {f : Nat → Option α} {c m : Nat} {w : α} (h : f c = some w) : sm_lf f c (m + 1) = w :: sm_lf f (c + 1) m := by
  rw [sm_lf, h]
theorem sm_lf_add {α : Type} (f : Nat → Option α) : ∀ a b c : Nat, sm_lf f c (a + b) = sm_lf f c a ++ sm_lf f (c + a) b := by
  intro a
  induction a with
  | zero => intro b c; rw [sm_lf_0, Nat.zero_add, Nat.add_zero]; rfl
  | succ a ih =>
    intro b c
    rw [show a + 1 + b = (a + b) + 1 from by omega, show c + (a + 1) = (c + 1) + a from by omega]
    cases h : f c with
    | none => rw [sm_lf_n h, sm_lf_n h, ih]
    | some w => rw [sm_lf_s h, sm_lf_s h, ih]; rfl
theorem sm_lf_len {α : Type} (f : Nat → Option α) : ∀ m c : Nat, (sm_lf f c m).length ≤ m := by
  intro m
  induction m with
  | zero => intro c; rw [sm_lf_0]; exact Nat.le_refl _
  | succ m ih =>
    intro c
    have h1 := ih (c + 1)
    cases h : f c with
    | none => rw [sm_lf_n h]; omega
    | some w => rw [sm_lf_s h, List.length_cons]; omega
theorem sm_lf_congr {α : Type} {f g : Nat → Option α} : ∀ m c c' : Nat, (∀ d, d < m → f (c + d) = g (c' + d)) → sm_lf f c m = sm_lf g c' m := by
  intro m
  induction m with
  | zero => intro c c' _; rw [sm_lf_0, sm_lf_0]
  | succ m ih =>
    intro c c' h
    have h0 := h 0 (by omega)
    rw [Nat.add_zero, Nat.add_zero] at h0
    have h1 : sm_lf f (c + 1) m = sm_lf g (c' + 1) m := ih _ _ (fun d hd => by
      have := h (d + 1) (by omega)
      rw [show c + 1 + d = c + (d + 1) from by omega, show c' + 1 + d = c' + (d + 1) from by omega]
      exact this)
    cases e : f c with
    | none => rw [sm_lf_n e, sm_lf_n (h0.symm.trans e), h1]
    | some w => rw [sm_lf_s e, sm_lf_s (h0.symm.trans e), h1]
theorem sm_lf_none {α : Type} {f : Nat → Option α} : ∀ m c : Nat, (∀ d, d < m → f (c + d) = none) → sm_lf f c m = [] := by
  intro m
  induction m with
  | zero => intro c _; rw [sm_lf_0]
  | succ m ih =>
    intro c h
    have h0 := h 0 (by omega)
    rw [Nat.add_zero] at h0
    rw [sm_lf_n h0]
    exact ih _ (fun d hd => by
      have := h (d + 1) (by omega)
      rw [show c + 1 + d = c + (d + 1) from by omega]
      exact this)
theorem sm_lf_nil {α : Type} {f : Nat → Option α} : ∀ m c : Nat, sm_lf f c m = [] → ∀ d, d < m → f (c + d) = none := by
  intro m
  induction m with
  | zero => intro c _ d hd; exact absurd hd (Nat.not_lt_zero _)
  | succ m ih =>
    intro c h d hd
    cases e : f c with
    | some w => rw [sm_lf_s e] at h; exact absurd h (by simp)
    | none =>
      rw [sm_lf_n e] at h
      cases d with
      | zero => exact e
      | succ d =>
        have := ih _ h d (by omega)
        rw [show c + 1 + d = c + (d + 1) from by omega] at this
        exact this
theorem sm_lf_tot {α : Type} {f : Nat → Option α} {g : Nat → α} : ∀ m c : Nat, (∀ d, d < m → f (c + d) = some (g (c + d))) → (sm_lf f c m).length = m ∧ ∀ d, d < m → (sm_lf f c m)[d]? = some (g (c + d)) := by
  intro m
  induction m with
  | zero => intro c _; rw [sm_lf_0]; exact ⟨rfl, fun d hd => absurd hd (Nat.not_lt_zero _)⟩
  | succ m ih =>
    intro c h
    have h0 := h 0 (by omega)
    rw [Nat.add_zero] at h0
    have ⟨i1, i2⟩ := ih (c + 1) (fun d hd => by
      have := h (d + 1) (by omega)
      rw [show c + 1 + d = c + (d + 1) from by omega]
      exact this)
    rw [sm_lf_s h0]
    refine ⟨by rw [List.length_cons, i1], fun d hd => ?_⟩
    cases d with
    | zero => rfl
    | succ d =>
      rw [List.getElem?_cons_succ, i2 d (by omega), show c + 1 + d = c + (d + 1) from by omega]

/-! one step -/
def sm_t (k x y : Int32) : Bool := if k = 5 then decide (x < y) else if k = 6 then decide (x = y) else !decide (x = y)
def sm_op (k a b : Int32) (w : Nat → Int32) (d : Nat) : Option (Nat → Int32) :=
  if k = 0 then some (upd w a.toNatClampNeg ((b &&& 15) - 3 + nI d))
  else if k = 1 then some (upd w a.toNatClampNeg b)
  else if k = 2 then some (upd w a.toNatClampNeg (w a.toNatClampNeg + w b.toNatClampNeg))
  else if k = 3 then some (upd w a.toNatClampNeg (w a.toNatClampNeg * w b.toNatClampNeg))
  else if k = 4 then some (if d = 0 then upd w a.toNatClampNeg (w b.toNatClampNeg) else w)
  else if k = 9 then some (if d = 0 then upd w a.toNatClampNeg (w a.toNatClampNeg + 1) else upd w b.toNatClampNeg (w b.toNatClampNeg + 1))
  else if sm_t k (w a.toNatClampNeg) (w b.toNatClampNeg) = true then some w else none
def sm_o (k b : Int32) : Nat :=
  if k = 0 then ((b >>> ((4 : Int32) &&& 31)).toNatClampNeg + 1) - (b &&& 15).toNatClampNeg
  else if k = 4 then 2 else if k = 9 then 2 else 1
def sm_nx (k a b : Int32) (f : Nat → Option (Nat → Int32)) (p : Nat) : Option (Nat → Int32) :=
  if k = 8 then (match sm_lf f 0 p with
    | [] => f p
    | _ :: _ => none)
  else match f (p / sm_o k b) with
    | none => none
    | some w => sm_op k a b w (p % sm_o k b)
def sm_nl (k a b : Int32) (L : List (Nat → Int32)) : List (Nat → Int32) :=
  if k = 8 then L.take 1 else L.flatMap (fun w => sm_lf (sm_op k a b w) 0 (sm_o k b))
def sm_R (K T O : Nat → Int32) : Nat → Nat → Option (Nat → Int32)
  | 0 => fun _ => some (fun _ => 0)
  | j + 1 => sm_nx (K j) (T j) (O j) (sm_R K T O j)
def sm_L (K T O : Nat → Int32) : Nat → List (Nat → Int32)
  | 0 => [fun _ => 0]
  | j + 1 => sm_nl (K j) (T j) (O j) (sm_L K T O j)
/-- the product of the numbers of decisions of m steps from i on -/
def sm_P (K O : Nat → Int32) : Nat → Nat → Nat
  | _, 0 => 1
  | i, m + 1 => sm_o (K i) (O i) * sm_P K O (i + 1) m
theorem sm_P_add (K O : Nat → Int32) : ∀ a b i : Nat, sm_P K O i (a + b) = sm_P K O i a * sm_P K O (i + a) b := by
  intro a
  induction a with
  | zero => intro b i; rw [Nat.zero_add, Nat.add_zero, sm_P, Nat.one_mul]
  | succ a ih =>
    intro b i
    rw [show a + 1 + b = (a + b) + 1 from by omega, sm_P, sm_P, ih, Nat.mul_assoc, show i + 1 + a = i + (a + 1) from by omega]
theorem sm_P_s (K O : Nat → Int32) (j : Nat) : sm_P K O 0 (j + 1) = sm_P K O 0 j * sm_o (K j) (O j) := by
  rw [sm_P_add, Nat.zero_add, sm_P, sm_P, Nat.mul_one]
def sm_ch (k : Int32) : Nat := if k = 0 then 1 else if k = 4 then 1 else if k = 9 then 1 else 0
def sm_c (K : Nat → Int32) : Nat → Nat → Nat
  | _, 0 => 0
  | i, m + 1 => sm_ch (K i) + sm_c K (i + 1) m
theorem sm_c_add (K : Nat → Int32) : ∀ a b i : Nat, sm_c K i (a + b) = sm_c K i a + sm_c K (i + a) b := by
  intro a
  induction a with
  | zero => intro b i; rw [Nat.zero_add, Nat.add_zero, sm_c, Nat.zero_add]
  | succ a ih =>
    intro b i
    rw [show a + 1 + b = (a + b) + 1 from by omega, sm_c, sm_c, ih, show i + 1 + a = i + (a + 1) from by omega, Nat.add_assoc]
theorem sm_c_congr {K K' : Nat → Int32} : ∀ m i : Nat, (∀ j, i ≤ j → j < i + m → K j = K' j) → sm_c K i m = sm_c K' i m := by
  intro m
  induction m with
  | zero => intro i _; rw [sm_c, sm_c]
  | succ m ih =>
    intro i h
    rw [sm_c, sm_c, h i (by omega) (by omega), ih (i + 1) (fun j h1 h2 => h j (by omega) (by omega))]
/-- a valid step -/
def sm_ok (k a b : Int32) : Prop :=
  k = 8 ∨ (k = 0 ∧ ∃ A lo hi : Nat, A < 4 ∧ lo < 13 ∧ hi < 13 ∧ a = nI A ∧ b &&& 15 = nI lo ∧ b >>> ((4 : Int32) &&& 31) = nI hi)
  ∨ (k = 1 ∧ ∃ A : Nat, A < 4 ∧ a = nI A)
  ∨ ((k = 2 ∨ k = 3 ∨ k = 4 ∨ k = 5 ∨ k = 6 ∨ k = 7 ∨ k = 9) ∧ ∃ A B : Nat, A < 4 ∧ B < 4 ∧ a = nI A ∧ b = nI B)
theorem sm_o_0 {b : Int32} {lo hi : Nat} (hl : lo < 13) (hh : hi < 13) (e1 : b &&& 15 = nI lo) (e2 : b >>> ((4 : Int32) &&& 31) = nI hi) : sm_o 0 b = hi + 1 - lo := by
  rw [sm_o, if_pos rfl, e1, e2, nI_clamp (by omega), nI_clamp (by omega)]
theorem sm_o_le {k a b : Int32} (h : sm_ok k a b) : sm_o k b ≤ 13 ^ sm_ch k := by
  rcases h with rfl | ⟨rfl, A, lo, hi, hA, hl, hh, _, e1, e2⟩ | ⟨rfl, _⟩ | ⟨h, _⟩
  · exact Nat.le_of_eq (by rfl)
  · rw [sm_o_0 hl hh e1 e2]; show _ ≤ 13 ^ 1; omega
  · exact Nat.le_of_eq (by rfl)
  · rcases h with rfl | rfl | rfl | rfl | rfl | rfl | rfl
    · exact Nat.le_of_eq (by rfl)
    · exact Nat.le_of_eq (by rfl)
    · show 2 ≤ 13 ^ 1; omega
    · exact Nat.le_of_eq (by rfl)
    · exact Nat.le_of_eq (by rfl)
    · exact Nat.le_of_eq (by rfl)
    · show 2 ≤ 13 ^ 1; omega
theorem sm_P_le {K T O : Nat → Int32} : ∀ m i : Nat, (∀ j, i ≤ j → j < i + m → sm_ok (K j) (T j) (O j)) → sm_P K O i m ≤ 13 ^ sm_c K i m := by
  intro m
  induction m with
  | zero => intro i _; rw [sm_P, sm_c]; exact Nat.le_refl _
  | succ m ih =>
    intro i h
    rw [sm_P, sm_c, Nat.pow_add]
    exact Nat.mul_le_mul (sm_o_le (h i (by omega) (by omega))) (ih (i + 1) (fun j h1 h2 => h j (by omega) (by omega)))
/-- every stretch of a program with at most three choosing steps has at most 2197 codes -/
theorem sm_P_b {K T O : Nat → Int32} {n : Nat} (h : ∀ j, j < n → sm_ok (K j) (T j) (O j)) (hc : sm_c K 0 n ≤ 3) (i m : Nat) (hm : i + m ≤ n) : sm_P K O i m ≤ 2197 := by
  have h1 : sm_P K O i m ≤ 13 ^ sm_c K i m := sm_P_le m i (fun j _ h2 => h j (by omega))
  have h2 : sm_c K 0 n = sm_c K 0 i + (sm_c K i m + sm_c K (i + m) (n - i - m)) := by
    rw [← sm_c_add, show m + (n - i - m) = n - i from by omega]
    have := sm_c_add K i (n - i) 0
    rw [show i + (n - i) = n from by omega, Nat.zero_add] at this
    exact this
  have h3 : 13 ^ sm_c K i m ≤ 13 ^ 3 := Nat.pow_le_pow_right (by omega) (by omega)
  exact Nat.le_trans h1 h3

/-! the list of the ways is the list over the codes -/
theorem sm_once {f : Nat → Option (Nat → Int32)} {k a b : Int32} (hk : k = 8) : ∀ m c : Nat, (sm_lf f 0 c = [] → sm_lf (sm_nx k a b f) c m = (sm_lf f c m).take 1) ∧ (sm_lf f 0 c ≠ [] → sm_lf (sm_nx k a b f) c m = []) := by
  intro m
  induction m with
  | zero => intro c; rw [sm_lf_0, sm_lf_0]; exact ⟨fun _ => rfl, fun _ => rfl⟩
  | succ m ih =>
    intro c
    have hs : sm_lf f 0 (c + 1) = sm_lf f 0 c ++ sm_lf f c 1 := by
      rw [sm_lf_add, Nat.zero_add]
    constructor
    · intro h
      have hn : sm_nx k a b f c = f c := by rw [sm_nx, if_pos hk, h]
      rw [h] at hs
      cases e : f c with
      | none =>
        rw [sm_lf_n (hn.trans e), sm_lf_n e]
        exact (ih (c + 1)).1 (by rw [hs, sm_lf_n e, sm_lf_0]; rfl)
      | some w =>
        rw [sm_lf_s (hn.trans e), sm_lf_s e]
        rw [(ih (c + 1)).2 (by rw [hs, sm_lf_s e]; simp)]
        rfl
    · intro h
      have hn : sm_nx k a b f c = none := by
        rw [sm_nx, if_pos hk]
        cases e : sm_lf f 0 c with
        | nil => exact absurd e h
        | cons w t => rfl
      rw [sm_lf_n hn]
      exact (ih (c + 1)).2 (by rw [hs]; intro z; exact h (List.append_eq_nil_iff.mp z).1)
theorem sm_dm {k m d : Nat} (hd : d < m) : (k * m + d) / m = k ∧ (k * m + d) % m = d := by
  constructor
  · rw [Nat.mul_comm, Nat.mul_add_div (by omega), Nat.div_eq_of_lt hd, Nat.add_zero]
  · rw [Nat.mul_comm, Nat.mul_add_mod, Nat.mod_eq_of_lt hd]
theorem sm_flat {f : Nat → Option (Nat → Int32)} {k a b : Int32} (hk : ¬ k = 8) : ∀ m c : Nat, sm_lf (sm_nx k a b f) (c * sm_o k b) (m * sm_o k b) = (sm_lf f c m).flatMap (fun w => sm_lf (sm_op k a b w) 0 (sm_o k b)) := by
  intro m
  induction m with
  | zero => intro c; rw [Nat.zero_mul, sm_lf_0, sm_lf_0]; rfl
  | succ m ih =>
    intro c
    have hb : ∀ d, d < sm_o k b → sm_nx k a b f (c * sm_o k b + d) = (match f c with
        | none => none
        | some w => sm_op k a b w d) := fun d hd => by
      rw [sm_nx, if_neg hk, (sm_dm hd).1, (sm_dm hd).2]
    rw [show (m + 1) * sm_o k b = sm_o k b + m * sm_o k b from by rw [Nat.succ_mul, Nat.add_comm], sm_lf_add, show c * sm_o k b + sm_o k b = (c + 1) * sm_o k b from by rw [Nat.succ_mul], ih]
    cases e : f c with
    | none =>
      rw [e] at hb
      rw [sm_lf_n e, sm_lf_none _ _ hb]
      rfl
    | some w =>
      rw [e] at hb
      rw [sm_lf_s e, List.flatMap_cons, sm_lf_congr (g := sm_op k a b w) (sm_o k b) (c * sm_o k b) 0 (fun d hd => by rw [hb d hd, Nat.zero_add])]
theorem sm_L_R (K T O : Nat → Int32) : ∀ j : Nat, sm_L K T O j = sm_lf (sm_R K T O j) 0 (sm_P K O 0 j) := by
  intro j
  induction j with
  | zero => rfl
  | succ j ih =>
    rw [sm_P_s, sm_L, sm_nl, sm_R]
    by_cases h : K j = 8
    · rw [if_pos h, ih, show sm_o (K j) (O j) = 1 from by rw [h]; rfl, Nat.mul_one]
      exact ((sm_once h _ 0).1 sm_lf_0).symm
    · rw [if_neg h, ih, ← sm_flat h _ 0, Nat.zero_mul]
theorem sm_L_len (K T O : Nat → Int32) (j : Nat) : (sm_L K T O j).length ≤ sm_P K O 0 j := by
  rw [sm_L_R]; exact sm_lf_len _ _ _
end
