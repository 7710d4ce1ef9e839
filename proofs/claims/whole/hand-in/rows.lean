section
/-! pure rows to paste: stores, nI and lN arithmetic, masks, shifts, narrowing, branches by naturals (pk_le, pk_lt, pk_eq), loops (lp1 .. lp16: the measure of the state; rp1 ..: recursion), negatives. Take what you need -/
theorem pk_us {f : Nat → Int32} {k : Nat} {x : Int32} : upd f k x k = x := if_pos rfl
theorem pk_un {f : Nat → Int32} {k j : Nat} {x : Int32} (h : j ≠ k) : upd f k x j = f j := if_neg h
theorem pk_uLs {f : Nat → Int64} {k : Nat} {x : Int64} : vp_updL f k x k = x := if_pos rfl
theorem pk_uLn {f : Nat → Int64} {k j : Nat} {x : Int64} (h : j ≠ k) : vp_updL f k x j = f j := if_neg h
theorem pk_sub {a b : Nat} (h : b ≤ a) : nI a - nI b = nI (a - b) := by
  obtain ⟨c, rfl⟩ : ∃ c, a = c + b := ⟨a - b, by omega⟩
  rw [← nI_add, Int32.add_sub_cancel, Nat.add_sub_cancel]
theorem pk_m1 (n : Nat) : nI (n + 1) + (-1) = nI n := by
  rw [← nI_1, Int32.add_assoc, show (1 : Int32) + (-1) = 0 from rfl, Int32.add_zero]
theorem pk_mul (a b : Nat) : nI a * nI b = nI (a * b) := (Int32.ofNat_mul a b).symm
theorem pk_div {a d : Nat} (ha : a < 2 ^ 31) (h0 : 0 < d) (hd : d < 2 ^ 31) : nI a / nI d = nI (a / d) := by
  apply Int32.toInt_inj.mp
  rw [lg_idiv_nonneg (by rw [nI_toInt ha]; omega) (by rw [nI_toInt hd]; omega), nI_toInt ha, nI_toInt hd, nI_toInt (Nat.lt_of_le_of_lt (Nat.div_le_self a d) ha)]
  first | rfl | exact (Int.natCast_ediv _ _).symm
theorem pk_rem {a d : Nat} (ha : a < 2 ^ 31) (h0 : 0 < d) (hd : d < 2 ^ 31) : nI a - nI a / nI d * nI d = nI (a % d) := by
  rw [pk_div ha h0 hd, pk_mul, pk_sub (Nat.div_mul_le_self a d)]
  exact congrArg nI (by have := Nat.div_add_mod' a d; omega)
theorem pk_sub_toInt {a b : Nat} (ha : a < 2 ^ 30) (hb : b < 2 ^ 30) : (nI a - nI b).toInt = (a : Int) - b := by
  rw [Int32.toInt_sub, nI_toInt (by omega), nI_toInt (by omega)]
  exact Int.bmod_eq_of_le (by omega) (by omega)
theorem pk_sneg {a b : Nat} (hb : b < 2 ^ 30) (h : a < b) : nI a - nI b < 0 := by
  rw [Int32.lt_iff_toInt_lt, pk_sub_toInt (by omega) hb, show (0 : Int32).toInt = 0 from by decide]
  omega
theorem pk_ix (x : Int32) {n : Nat} (hn : n < 2 ^ 31) : x < 0 ∨ nI n ≤ x ∨ ∃ j : Nat, j < n ∧ x = nI j := by
  by_cases h : x < 0
  · exact Or.inl h
  · obtain ⟨j, hj, rfl⟩ := nI_of h
    by_cases h2 : j < n
    · exact Or.inr (Or.inr ⟨j, h2, rfl⟩)
    · exact Or.inr (Or.inl (nI_le (by omega) hj))
theorem pk_le {x y : Int32} {A B : Prop} (a b : Nat) (f : a ≤ b → A) (g : b < a → B) (hx : x = nI a := by rfl) (hy : y = nI b := by rfl) (ha : a < 2 ^ 31 := by omega) (hb : b < 2 ^ 31 := by omega) : (x ≤ y → A) ∧ (¬ x ≤ y → B) := by
  subst hx hy
  rw [nI_leI ha hb]
  exact ⟨f, fun z => g (by omega)⟩
theorem pk_lt {x y : Int32} {A B : Prop} (a b : Nat) (f : a < b → A) (g : b ≤ a → B) (hx : x = nI a := by rfl) (hy : y = nI b := by rfl) (ha : a < 2 ^ 31 := by omega) (hb : b < 2 ^ 31 := by omega) : (x < y → A) ∧ (¬ x < y → B) := by
  subst hx hy
  rw [nI_ltI ha hb]
  exact ⟨f, fun z => g (by omega)⟩
theorem pk_eq {x y : Int32} {A B : Prop} (a b : Nat) (f : a = b → A) (g : a ≠ b → B) (hx : x = nI a := by rfl) (hy : y = nI b := by rfl) (ha : a < 2 ^ 31 := by omega) (hb : b < 2 ^ 31 := by omega) : (x = y → A) ∧ (¬ x = y → B) := by
  subst hx hy
  rw [nI_eq ha hb]
  exact ⟨f, g⟩
theorem pk_in {x : Int32} (n N : Nat) (h : n < N) (hx : x = nI n := by rfl) (hN : N < 2 ^ 31 := by omega) : vp_in x N := by
  subst hx
  exact vp_in_nI h hN
theorem pk_cl {x : Int32} (n : Nat) (hx : x = nI n := by rfl) (h : n < 2 ^ 31 := by omega) : x.toNatClampNeg = n := by
  subst hx
  exact nI_clamp h
theorem pk_tn {n : Nat} (h : n < 2 ^ 32) : (nI n).toBitVec.toNat = n := Nat.mod_eq_of_lt h
theorem pk_and (x : Int32) {m : Int32} (k : Nat) (hm : m.toBitVec.toNat = 2 ^ k - 1) : x &&& m = nI (x.toBitVec.toNat % 2 ^ k) := by
  apply Int32.toBitVec_inj.mp
  apply BitVec.eq_of_toNat_eq
  rw [Int32.toBitVec_and, BitVec.toNat_and, hm, Nat.and_two_pow_sub_one_eq_mod]
  show _ = (BitVec.ofNat 32 _).toNat
  rw [BitVec.toNat_ofNat]
  exact (Nat.mod_eq_of_lt (Nat.lt_of_le_of_lt (Nat.mod_le _ _) x.toBitVec.isLt)).symm
theorem pk_andN {n : Nat} (h : n < 2 ^ 32) {m : Int32} (k : Nat) (hm : m.toBitVec.toNat = 2 ^ k - 1) : nI n &&& m = nI (n % 2 ^ k) := by
  rw [pk_and _ k hm, pk_tn h]
theorem pk_andE (x : Int32) {m : Int32} (k : Nat) (hm : m.toBitVec.toNat = 2 ^ k - 1) : ∃ j : Nat, j < 2 ^ k ∧ x &&& m = nI j := ⟨_, Nat.mod_lt _ (Nat.two_pow_pos k), pk_and x k hm⟩
theorem pk_andIn (x : Int32) {m : Int32} (k : Nat) (hm : m.toBitVec.toNat = 2 ^ k - 1) (hk : k ≤ 30) : vp_in (x &&& m) (2 ^ k) := by
  obtain ⟨j, hj, e⟩ := pk_andE x k hm
  rw [e]
  exact vp_in_nI hj (Nat.lt_of_le_of_lt (Nat.pow_le_pow_right (by decide) hk) (by decide))
theorem pk_shl (a s : Int32) (k : Nat) (hs : (s.toBitVec.smod 32).toNat = k) : (a <<< s).toBitVec.toNat = a.toBitVec.toNat * 2 ^ k % 2 ^ 32 := by
  show (a.toBitVec <<< (s.toBitVec.smod 32).toNat).toNat = _
  rw [hs, BitVec.toNat_shiftLeft, Nat.shiftLeft_eq]
theorem pk_shlN {n : Nat} (s : Int32) (k : Nat) (hs : (s.toBitVec.smod 32).toNat = k) (h : n * 2 ^ k < 2 ^ 32) : nI n <<< s = nI (n * 2 ^ k) := by
  apply Int32.toBitVec_inj.mp
  apply BitVec.eq_of_toNat_eq
  have hn : n < 2 ^ 32 := Nat.lt_of_le_of_lt (Nat.le_mul_of_pos_right n (Nat.two_pow_pos k)) h
  rw [pk_shl _ _ k hs, pk_tn hn, pk_tn h, Nat.mod_eq_of_lt h]
theorem pk_shr (a s : Int32) (k : Nat) (hs : (s.toBitVec.smod 32).toNat = k) : (a >>> s).toInt = a.toInt >>> k := by
  show (a.toBitVec.sshiftRight (s.toBitVec.smod 32).toNat).toInt = _
  rw [hs, BitVec.toInt_sshiftRight]
  rfl
theorem pk_shrN {n : Nat} (h : n < 2 ^ 31) (s : Int32) (k : Nat) (hs : (s.toBitVec.smod 32).toNat = k) : nI n >>> s = nI (n / 2 ^ k) := by
  apply Int32.toInt_inj.mp
  have h2 : n / 2 ^ k ≤ n := Nat.div_le_self _ _
  rw [pk_shr _ _ k hs, nI_toInt h, nI_toInt (by omega), Int.shiftRight_eq_div_pow]
  rfl
theorem pk_ushr (x s : Int32) (k : Nat) (hs : ((s.toUInt32 &&& Int32.toUInt32 31).toBitVec % 32).toNat = k) : (x.toUInt32 >>> (s.toUInt32 &&& Int32.toUInt32 31)).toInt32.toBitVec.toNat = x.toBitVec.toNat / 2 ^ k := by
  have e : (x.toUInt32 >>> (s.toUInt32 &&& Int32.toUInt32 31)).toInt32.toBitVec = x.toBitVec >>> k := by
    rw [← hs]
    exact UInt32.toBitVec_shiftRight _ _
  rw [e, BitVec.toNat_ushiftRight, Nat.shiftRight_eq_div_pow]
theorem pk_ushrN {n : Nat} (hn : n < 2 ^ 32) (s : Int32) (k : Nat) (hs : ((s.toUInt32 &&& Int32.toUInt32 31).toBitVec % 32).toNat = k) : ((nI n).toUInt32 >>> (s.toUInt32 &&& Int32.toUInt32 31)).toInt32 = nI (n / 2 ^ k) := by
  apply Int32.toBitVec_inj.mp
  apply BitVec.eq_of_toNat_eq
  rw [pk_ushr _ s k hs, pk_tn hn, pk_tn (Nat.lt_of_le_of_lt (Nat.div_le_self _ _) hn)]
theorem pk_nb (z : Int32) : narrow .byte (.int z.toInt8.toInt32) = .int z.toInt8.toInt32 := congrArg Value.int (by simp)
theorem pk_ns (z : Int32) : narrow .short (.int z.toInt16.toInt32) = .int z.toInt16.toInt32 := congrArg Value.int (by simp)
theorem pk_fb (r : Int32) : fits .byte (.int r.toInt8.toInt32) = true := by
  have ⟨a, b⟩ := lg_i2b_range r
  have h1 : (-128 : Int32).toInt = -128 := by decide
  have h2 : (127 : Int32).toInt = 127 := by decide
  simp only [fits, Bool.and_eq_true, decide_eq_true_eq, Int32.le_iff_toInt_le, h1, h2]
  omega
theorem pk_fs (r : Int32) : fits .short (.int r.toInt16.toInt32) = true := by
  have ⟨a, b⟩ := lg_i2s_range r
  have h1 : (-32768 : Int32).toInt = -32768 := by decide
  have h2 : (32767 : Int32).toInt = 32767 := by decide
  simp only [fits, Bool.and_eq_true, decide_eq_true_eq, Int32.le_iff_toInt_le, h1, h2]
  omega
theorem pk_charN {q : Nat} (hq : q < 65536) : narrow .char (.int (nI q)) = .int (nI q) ∧ fits .char (.int (nI q)) = true := by
  constructor
  · have e : (nI q).toUInt32.toUInt16.toUInt32.toInt32 = nI q := by
      apply Int32.toBitVec_inj.mp
      apply BitVec.eq_of_toNat_eq
      show (nI q).toUInt32.toUInt16.toUInt32.toNat = q % 2 ^ 32
      rw [UInt16.toNat_toUInt32, UInt32.toNat_toUInt16, show (nI q).toUInt32.toNat = q % 2 ^ 32 from rfl]
      omega
    exact congrArg Value.int e
  · have a : (0 : Int32) ≤ nI q := nI_pos' (by omega)
    have b : nI q ≤ 65535 := nI_le (b := 65535) (by omega) (by decide)
    show (decide ((0 : Int32) ≤ nI q) && decide (nI q ≤ 65535)) = true
    rw [decide_eq_true a, decide_eq_true b]
    rfl
theorem pk_char (x : Int32) : (x.toUInt32 % 65536).toInt32 = nI (x.toBitVec.toNat % 65536) := by
  apply Int32.toBitVec_inj.mp
  apply BitVec.eq_of_toNat_eq
  rw [pk_tn (by omega)]
  show (x.toUInt32 % 65536).toNat = _
  rw [UInt32.toNat_mod]
  rfl
theorem pk_nc (x : Int32) : narrow .char (.int (x.toUInt32 % 65536).toInt32) = .int (x.toUInt32 % 65536).toInt32 := by
  rw [pk_char]
  exact (pk_charN (Nat.mod_lt _ (by decide))).1
theorem pk_fc (x : Int32) : fits .char (.int (x.toUInt32 % 65536).toInt32) = true := by
  rw [pk_char]
  exact (pk_charN (Nat.mod_lt _ (by decide))).2
theorem pk_vb (z : Int32) : vp_nar .byte z.toInt8.toInt32 = z.toInt8.toInt32 := by rw [vp_nar_byte]; simp
theorem pk_vs (z : Int32) : vp_nar .short z.toInt16.toInt32 = z.toInt16.toInt32 := by rw [vp_nar_short]; simp
theorem pk_vc (z : Int32) : vp_nar .char (z.toUInt32 % 65536).toInt32 = (z.toUInt32 % 65536).toInt32 := Value.int.inj (pk_nc z)
theorem pk_lT {n : Nat} (h : n < 2 ^ 63) : (lN n).toInt = (n : Int) := lg_ofNat_toInt h
theorem pk_lLT {a b : Nat} (ha : a < 2 ^ 63) (hb : b < 2 ^ 63) : lN a < lN b ↔ a < b := by
  rw [Int64.lt_iff_toInt_lt, pk_lT ha, pk_lT hb]; omega
theorem pk_lLE {a b : Nat} (ha : a < 2 ^ 63) (hb : b < 2 ^ 63) : lN a ≤ lN b ↔ a ≤ b := by
  rw [Int64.le_iff_toInt_le, pk_lT ha, pk_lT hb]; omega
theorem pk_lEQ {a b : Nat} (ha : a < 2 ^ 63) (hb : b < 2 ^ 63) : lN a = lN b ↔ a = b := by
  rw [← Int64.toInt_inj, pk_lT ha, pk_lT hb]; omega
theorem pk_lOf {x : Int64} (h : ¬ x < 0) : ∃ k : Nat, k < 2 ^ 63 ∧ x = lN k := by
  rw [Int64.lt_iff_toInt_lt] at h
  have h0 : (0 : Int64).toInt = 0 := by decide
  have hx := Int64.toInt_lt x
  refine ⟨x.toInt.toNat, by omega, Int64.toInt_inj.mp ?_⟩
  rw [pk_lT (by omega)]
  omega
theorem pk_lDiv {a b : Nat} (ha : a < 2 ^ 63) (h0 : 0 < b) (hb : b < 2 ^ 63) : lN a / lN b = lN (a / b) := by
  apply Int64.toInt_inj.mp
  rw [lg_ldiv_nonneg (by rw [pk_lT ha]; omega) (by rw [pk_lT hb]; omega), pk_lT ha, pk_lT hb, pk_lT (Nat.lt_of_le_of_lt (Nat.div_le_self a b) ha)]
  rfl
theorem pk_lRem {a b : Nat} (ha : a < 2 ^ 63) (h0 : 0 < b) (hb : b < 2 ^ 63) : lN a - lN a / lN b * lN b = lN (a % b) := by
  rw [pk_lDiv ha h0 hb, lN_mul, lN_sub (Nat.div_mul_le_self a b)]
  exact congrArg lN (by have := Nat.div_add_mod' a b; omega)
theorem pk_loop {σ : Type} (W : Nat → Nat → σ → Prop) (I : Nat → σ → Prop) (e i0 : Nat) (s : σ) (hi : i0 ≤ e) (h0 : I i0 s) (hx : ∀ n s, I e s → W (n + 1) e s)
    (hs : ∀ n i s, i < e → I i s → (∀ s', I (i + 1) s' → W n (i + 1) s') → W (n + 1) i s) : ∃ n, W n i0 s :=
  ⟨e + 1, loop_i W I e hx hs (e + 1) i0 s hi (by omega) h0⟩
theorem pk_loopD {σ : Type} (W : Nat → Nat → σ → Prop) (I : Nat → σ → Prop) (hx : ∀ n s, I 0 s → W (n + 1) 0 s)
    (hs : ∀ n i s, I (i + 1) s → (∀ s', I i s' → W n i s') → W (n + 1) (i + 1) s) : ∀ (e : Nat) (s : σ), I e s → W (e + 1) e s := by
  intro e
  induction e with
  | zero => exact fun s h => hx 0 s h
  | succ e ih => exact fun s h => hs (e + 1) e s h (fun s' h' => ih s' h')
theorem lp1 {A1 : Type} (W : Nat → A1 → Prop) (I : A1 → Prop) (μ : A1 → Nat) (hs : ∀ (n : Nat) (a1 : A1), I a1 → (∀ (b1 : A1), I b1 → μ b1 < μ a1 → W n b1) → W (n + 1) a1) (a1 : A1) (h : I a1) : ∃ n, W n a1 :=
  loop_m (σ := A1) (fun n s => W n s) (fun s => I s) (fun s => μ s) (fun n s hI hk => hs n s hI (fun b1 h9 hm => hk b1 h9 hm)) a1 h
theorem lp2 {A1 A2 : Type} (W : Nat → A1 → A2 → Prop) (I : A1 → A2 → Prop) (μ : A1 → A2 → Nat) (hs : ∀ (n : Nat) (a1 : A1) (a2 : A2), I a1 a2 → (∀ (b1 : A1) (b2 : A2), I b1 b2 → μ b1 b2 < μ a1 a2 → W n b1 b2) → W (n + 1) a1 a2) (a1 : A1) (a2 : A2) (h : I a1 a2) : ∃ n, W n a1 a2 :=
  loop_m (σ := A1 × A2) (fun n s => W n s.1 s.2) (fun s => I s.1 s.2) (fun s => μ s.1 s.2) (fun n s hI hk => hs n s.1 s.2 hI (fun b1 b2 h9 hm => hk (b1, b2) h9 hm)) (a1, a2) h
theorem lp3 {A1 A2 A3 : Type} (W : Nat → A1 → A2 → A3 → Prop) (I : A1 → A2 → A3 → Prop) (μ : A1 → A2 → A3 → Nat) (hs : ∀ (n : Nat) (a1 : A1) (a2 : A2) (a3 : A3), I a1 a2 a3 → (∀ (b1 : A1) (b2 : A2) (b3 : A3), I b1 b2 b3 → μ b1 b2 b3 < μ a1 a2 a3 → W n b1 b2 b3) → W (n + 1) a1 a2 a3) (a1 : A1) (a2 : A2) (a3 : A3) (h : I a1 a2 a3) : ∃ n, W n a1 a2 a3 :=
  loop_m (σ := A1 × A2 × A3) (fun n s => W n s.1 s.2.1 s.2.2) (fun s => I s.1 s.2.1 s.2.2) (fun s => μ s.1 s.2.1 s.2.2) (fun n s hI hk => hs n s.1 s.2.1 s.2.2 hI (fun b1 b2 b3 h9 hm => hk (b1, b2, b3) h9 hm)) (a1, a2, a3) h
theorem lp4 {A1 A2 A3 A4 : Type} (W : Nat → A1 → A2 → A3 → A4 → Prop) (I : A1 → A2 → A3 → A4 → Prop) (μ : A1 → A2 → A3 → A4 → Nat) (hs : ∀ (n : Nat) (a1 : A1) (a2 : A2) (a3 : A3) (a4 : A4), I a1 a2 a3 a4 → (∀ (b1 : A1) (b2 : A2) (b3 : A3) (b4 : A4), I b1 b2 b3 b4 → μ b1 b2 b3 b4 < μ a1 a2 a3 a4 → W n b1 b2 b3 b4) → W (n + 1) a1 a2 a3 a4) (a1 : A1) (a2 : A2) (a3 : A3) (a4 : A4) (h : I a1 a2 a3 a4) : ∃ n, W n a1 a2 a3 a4 :=
  loop_m (σ := A1 × A2 × A3 × A4) (fun n s => W n s.1 s.2.1 s.2.2.1 s.2.2.2) (fun s => I s.1 s.2.1 s.2.2.1 s.2.2.2) (fun s => μ s.1 s.2.1 s.2.2.1 s.2.2.2) (fun n s hI hk => hs n s.1 s.2.1 s.2.2.1 s.2.2.2 hI (fun b1 b2 b3 b4 h9 hm => hk (b1, b2, b3, b4) h9 hm)) (a1, a2, a3, a4) h
theorem lp5 {A1 A2 A3 A4 A5 : Type} (W : Nat → A1 → A2 → A3 → A4 → A5 → Prop) (I : A1 → A2 → A3 → A4 → A5 → Prop) (μ : A1 → A2 → A3 → A4 → A5 → Nat) (hs : ∀ (n : Nat) (a1 : A1) (a2 : A2) (a3 : A3) (a4 : A4) (a5 : A5), I a1 a2 a3 a4 a5 → (∀ (b1 : A1) (b2 : A2) (b3 : A3) (b4 : A4) (b5 : A5), I b1 b2 b3 b4 b5 → μ b1 b2 b3 b4 b5 < μ a1 a2 a3 a4 a5 → W n b1 b2 b3 b4 b5) → W (n + 1) a1 a2 a3 a4 a5) (a1 : A1) (a2 : A2) (a3 : A3) (a4 : A4) (a5 : A5) (h : I a1 a2 a3 a4 a5) : ∃ n, W n a1 a2 a3 a4 a5 :=
  loop_m (σ := A1 × A2 × A3 × A4 × A5) (fun n s => W n s.1 s.2.1 s.2.2.1 s.2.2.2.1 s.2.2.2.2) (fun s => I s.1 s.2.1 s.2.2.1 s.2.2.2.1 s.2.2.2.2) (fun s => μ s.1 s.2.1 s.2.2.1 s.2.2.2.1 s.2.2.2.2) (fun n s hI hk => hs n s.1 s.2.1 s.2.2.1 s.2.2.2.1 s.2.2.2.2 hI (fun b1 b2 b3 b4 b5 h9 hm => hk (b1, b2, b3, b4, b5) h9 hm)) (a1, a2, a3, a4, a5) h
theorem lp6 {A1 A2 A3 A4 A5 A6 : Type} (W : Nat → A1 → A2 → A3 → A4 → A5 → A6 → Prop) (I : A1 → A2 → A3 → A4 → A5 → A6 → Prop) (μ : A1 → A2 → A3 → A4 → A5 → A6 → Nat) (hs : ∀ (n : Nat) (a1 : A1) (a2 : A2) (a3 : A3) (a4 : A4) (a5 : A5) (a6 : A6), I a1 a2 a3 a4 a5 a6 → (∀ (b1 : A1) (b2 : A2) (b3 : A3) (b4 : A4) (b5 : A5) (b6 : A6), I b1 b2 b3 b4 b5 b6 → μ b1 b2 b3 b4 b5 b6 < μ a1 a2 a3 a4 a5 a6 → W n b1 b2 b3 b4 b5 b6) → W (n + 1) a1 a2 a3 a4 a5 a6) (a1 : A1) (a2 : A2) (a3 : A3) (a4 : A4) (a5 : A5) (a6 : A6) (h : I a1 a2 a3 a4 a5 a6) : ∃ n, W n a1 a2 a3 a4 a5 a6 :=
  loop_m (σ := A1 × A2 × A3 × A4 × A5 × A6) (fun n s => W n s.1 s.2.1 s.2.2.1 s.2.2.2.1 s.2.2.2.2.1 s.2.2.2.2.2) (fun s => I s.1 s.2.1 s.2.2.1 s.2.2.2.1 s.2.2.2.2.1 s.2.2.2.2.2) (fun s => μ s.1 s.2.1 s.2.2.1 s.2.2.2.1 s.2.2.2.2.1 s.2.2.2.2.2) (fun n s hI hk => hs n s.1 s.2.1 s.2.2.1 s.2.2.2.1 s.2.2.2.2.1 s.2.2.2.2.2 hI (fun b1 b2 b3 b4 b5 b6 h9 hm => hk (b1, b2, b3, b4, b5, b6) h9 hm)) (a1, a2, a3, a4, a5, a6) h
theorem lp7 {A1 A2 A3 A4 A5 A6 A7 : Type} (W : Nat → A1 → A2 → A3 → A4 → A5 → A6 → A7 → Prop) (I : A1 → A2 → A3 → A4 → A5 → A6 → A7 → Prop) (μ : A1 → A2 → A3 → A4 → A5 → A6 → A7 → Nat) (hs : ∀ (n : Nat) (a1 : A1) (a2 : A2) (a3 : A3) (a4 : A4) (a5 : A5) (a6 : A6) (a7 : A7), I a1 a2 a3 a4 a5 a6 a7 → (∀ (b1 : A1) (b2 : A2) (b3 : A3) (b4 : A4) (b5 : A5) (b6 : A6) (b7 : A7), I b1 b2 b3 b4 b5 b6 b7 → μ b1 b2 b3 b4 b5 b6 b7 < μ a1 a2 a3 a4 a5 a6 a7 → W n b1 b2 b3 b4 b5 b6 b7) → W (n + 1) a1 a2 a3 a4 a5 a6 a7) (a1 : A1) (a2 : A2) (a3 : A3) (a4 : A4) (a5 : A5) (a6 : A6) (a7 : A7) (h : I a1 a2 a3 a4 a5 a6 a7) : ∃ n, W n a1 a2 a3 a4 a5 a6 a7 :=
  loop_m (σ := A1 × A2 × A3 × A4 × A5 × A6 × A7) (fun n s => W n s.1 s.2.1 s.2.2.1 s.2.2.2.1 s.2.2.2.2.1 s.2.2.2.2.2.1 s.2.2.2.2.2.2) (fun s => I s.1 s.2.1 s.2.2.1 s.2.2.2.1 s.2.2.2.2.1 s.2.2.2.2.2.1 s.2.2.2.2.2.2) (fun s => μ s.1 s.2.1 s.2.2.1 s.2.2.2.1 s.2.2.2.2.1 s.2.2.2.2.2.1 s.2.2.2.2.2.2) (fun n s hI hk => hs n s.1 s.2.1 s.2.2.1 s.2.2.2.1 s.2.2.2.2.1 s.2.2.2.2.2.1 s.2.2.2.2.2.2 hI (fun b1 b2 b3 b4 b5 b6 b7 h9 hm => hk (b1, b2, b3, b4, b5, b6, b7) h9 hm)) (a1, a2, a3, a4, a5, a6, a7) h
theorem lp8 {A1 A2 A3 A4 A5 A6 A7 A8 : Type} (W : Nat → A1 → A2 → A3 → A4 → A5 → A6 → A7 → A8 → Prop) (I : A1 → A2 → A3 → A4 → A5 → A6 → A7 → A8 → Prop) (μ : A1 → A2 → A3 → A4 → A5 → A6 → A7 → A8 → Nat) (hs : ∀ (n : Nat) (a1 : A1) (a2 : A2) (a3 : A3) (a4 : A4) (a5 : A5) (a6 : A6) (a7 : A7) (a8 : A8), I a1 a2 a3 a4 a5 a6 a7 a8 → (∀ (b1 : A1) (b2 : A2) (b3 : A3) (b4 : A4) (b5 : A5) (b6 : A6) (b7 : A7) (b8 : A8), I b1 b2 b3 b4 b5 b6 b7 b8 → μ b1 b2 b3 b4 b5 b6 b7 b8 < μ a1 a2 a3 a4 a5 a6 a7 a8 → W n b1 b2 b3 b4 b5 b6 b7 b8) → W (n + 1) a1 a2 a3 a4 a5 a6 a7 a8) (a1 : A1) (a2 : A2) (a3 : A3) (a4 : A4) (a5 : A5) (a6 : A6) (a7 : A7) (a8 : A8) (h : I a1 a2 a3 a4 a5 a6 a7 a8) : ∃ n, W n a1 a2 a3 a4 a5 a6 a7 a8 :=
  loop_m (σ := A1 × A2 × A3 × A4 × A5 × A6 × A7 × A8) (fun n s => W n s.1 s.2.1 s.2.2.1 s.2.2.2.1 s.2.2.2.2.1 s.2.2.2.2.2.1 s.2.2.2.2.2.2.1 s.2.2.2.2.2.2.2) (fun s => I s.1 s.2.1 s.2.2.1 s.2.2.2.1 s.2.2.2.2.1 s.2.2.2.2.2.1 s.2.2.2.2.2.2.1 s.2.2.2.2.2.2.2) (fun s => μ s.1 s.2.1 s.2.2.1 s.2.2.2.1 s.2.2.2.2.1 s.2.2.2.2.2.1 s.2.2.2.2.2.2.1 s.2.2.2.2.2.2.2) (fun n s hI hk => hs n s.1 s.2.1 s.2.2.1 s.2.2.2.1 s.2.2.2.2.1 s.2.2.2.2.2.1 s.2.2.2.2.2.2.1 s.2.2.2.2.2.2.2 hI (fun b1 b2 b3 b4 b5 b6 b7 b8 h9 hm => hk (b1, b2, b3, b4, b5, b6, b7, b8) h9 hm)) (a1, a2, a3, a4, a5, a6, a7, a8) h
theorem lp9 {A1 A2 A3 A4 A5 A6 A7 A8 A9 : Type} (W : Nat → A1 → A2 → A3 → A4 → A5 → A6 → A7 → A8 → A9 → Prop) (I : A1 → A2 → A3 → A4 → A5 → A6 → A7 → A8 → A9 → Prop) (μ : A1 → A2 → A3 → A4 → A5 → A6 → A7 → A8 → A9 → Nat) (hs : ∀ (n : Nat) (a1 : A1) (a2 : A2) (a3 : A3) (a4 : A4) (a5 : A5) (a6 : A6) (a7 : A7) (a8 : A8) (a9 : A9), I a1 a2 a3 a4 a5 a6 a7 a8 a9 → (∀ (b1 : A1) (b2 : A2) (b3 : A3) (b4 : A4) (b5 : A5) (b6 : A6) (b7 : A7) (b8 : A8) (b9 : A9), I b1 b2 b3 b4 b5 b6 b7 b8 b9 → μ b1 b2 b3 b4 b5 b6 b7 b8 b9 < μ a1 a2 a3 a4 a5 a6 a7 a8 a9 → W n b1 b2 b3 b4 b5 b6 b7 b8 b9) → W (n + 1) a1 a2 a3 a4 a5 a6 a7 a8 a9) (a1 : A1) (a2 : A2) (a3 : A3) (a4 : A4) (a5 : A5) (a6 : A6) (a7 : A7) (a8 : A8) (a9 : A9) (h : I a1 a2 a3 a4 a5 a6 a7 a8 a9) : ∃ n, W n a1 a2 a3 a4 a5 a6 a7 a8 a9 :=
  loop_m (σ := A1 × A2 × A3 × A4 × A5 × A6 × A7 × A8 × A9) (fun n s => W n s.1 s.2.1 s.2.2.1 s.2.2.2.1 s.2.2.2.2.1 s.2.2.2.2.2.1 s.2.2.2.2.2.2.1 s.2.2.2.2.2.2.2.1 s.2.2.2.2.2.2.2.2) (fun s => I s.1 s.2.1 s.2.2.1 s.2.2.2.1 s.2.2.2.2.1 s.2.2.2.2.2.1 s.2.2.2.2.2.2.1 s.2.2.2.2.2.2.2.1 s.2.2.2.2.2.2.2.2) (fun s => μ s.1 s.2.1 s.2.2.1 s.2.2.2.1 s.2.2.2.2.1 s.2.2.2.2.2.1 s.2.2.2.2.2.2.1 s.2.2.2.2.2.2.2.1 s.2.2.2.2.2.2.2.2) (fun n s hI hk => hs n s.1 s.2.1 s.2.2.1 s.2.2.2.1 s.2.2.2.2.1 s.2.2.2.2.2.1 s.2.2.2.2.2.2.1 s.2.2.2.2.2.2.2.1 s.2.2.2.2.2.2.2.2 hI (fun b1 b2 b3 b4 b5 b6 b7 b8 b9 h9 hm => hk (b1, b2, b3, b4, b5, b6, b7, b8, b9) h9 hm)) (a1, a2, a3, a4, a5, a6, a7, a8, a9) h
theorem lp10 {A1 A2 A3 A4 A5 A6 A7 A8 A9 A10 : Type} (W : Nat → A1 → A2 → A3 → A4 → A5 → A6 → A7 → A8 → A9 → A10 → Prop) (I : A1 → A2 → A3 → A4 → A5 → A6 → A7 → A8 → A9 → A10 → Prop) (μ : A1 → A2 → A3 → A4 → A5 → A6 → A7 → A8 → A9 → A10 → Nat) (hs : ∀ (n : Nat) (a1 : A1) (a2 : A2) (a3 : A3) (a4 : A4) (a5 : A5) (a6 : A6) (a7 : A7) (a8 : A8) (a9 : A9) (a10 : A10), I a1 a2 a3 a4 a5 a6 a7 a8 a9 a10 → (∀ (b1 : A1) (b2 : A2) (b3 : A3) (b4 : A4) (b5 : A5) (b6 : A6) (b7 : A7) (b8 : A8) (b9 : A9) (b10 : A10), I b1 b2 b3 b4 b5 b6 b7 b8 b9 b10 → μ b1 b2 b3 b4 b5 b6 b7 b8 b9 b10 < μ a1 a2 a3 a4 a5 a6 a7 a8 a9 a10 → W n b1 b2 b3 b4 b5 b6 b7 b8 b9 b10) → W (n + 1) a1 a2 a3 a4 a5 a6 a7 a8 a9 a10) (a1 : A1) (a2 : A2) (a3 : A3) (a4 : A4) (a5 : A5) (a6 : A6) (a7 : A7) (a8 : A8) (a9 : A9) (a10 : A10) (h : I a1 a2 a3 a4 a5 a6 a7 a8 a9 a10) : ∃ n, W n a1 a2 a3 a4 a5 a6 a7 a8 a9 a10 :=
  loop_m (σ := A1 × A2 × A3 × A4 × A5 × A6 × A7 × A8 × A9 × A10) (fun n s => W n s.1 s.2.1 s.2.2.1 s.2.2.2.1 s.2.2.2.2.1 s.2.2.2.2.2.1 s.2.2.2.2.2.2.1 s.2.2.2.2.2.2.2.1 s.2.2.2.2.2.2.2.2.1 s.2.2.2.2.2.2.2.2.2) (fun s => I s.1 s.2.1 s.2.2.1 s.2.2.2.1 s.2.2.2.2.1 s.2.2.2.2.2.1 s.2.2.2.2.2.2.1 s.2.2.2.2.2.2.2.1 s.2.2.2.2.2.2.2.2.1 s.2.2.2.2.2.2.2.2.2) (fun s => μ s.1 s.2.1 s.2.2.1 s.2.2.2.1 s.2.2.2.2.1 s.2.2.2.2.2.1 s.2.2.2.2.2.2.1 s.2.2.2.2.2.2.2.1 s.2.2.2.2.2.2.2.2.1 s.2.2.2.2.2.2.2.2.2) (fun n s hI hk => hs n s.1 s.2.1 s.2.2.1 s.2.2.2.1 s.2.2.2.2.1 s.2.2.2.2.2.1 s.2.2.2.2.2.2.1 s.2.2.2.2.2.2.2.1 s.2.2.2.2.2.2.2.2.1 s.2.2.2.2.2.2.2.2.2 hI (fun b1 b2 b3 b4 b5 b6 b7 b8 b9 b10 h9 hm => hk (b1, b2, b3, b4, b5, b6, b7, b8, b9, b10) h9 hm)) (a1, a2, a3, a4, a5, a6, a7, a8, a9, a10) h
theorem lp11 {A1 A2 A3 A4 A5 A6 A7 A8 A9 A10 A11 : Type} (W : Nat → A1 → A2 → A3 → A4 → A5 → A6 → A7 → A8 → A9 → A10 → A11 → Prop) (I : A1 → A2 → A3 → A4 → A5 → A6 → A7 → A8 → A9 → A10 → A11 → Prop) (μ : A1 → A2 → A3 → A4 → A5 → A6 → A7 → A8 → A9 → A10 → A11 → Nat) (hs : ∀ (n : Nat) (a1 : A1) (a2 : A2) (a3 : A3) (a4 : A4) (a5 : A5) (a6 : A6) (a7 : A7) (a8 : A8) (a9 : A9) (a10 : A10) (a11 : A11), I a1 a2 a3 a4 a5 a6 a7 a8 a9 a10 a11 → (∀ (b1 : A1) (b2 : A2) (b3 : A3) (b4 : A4) (b5 : A5) (b6 : A6) (b7 : A7) (b8 : A8) (b9 : A9) (b10 : A10) (b11 : A11), I b1 b2 b3 b4 b5 b6 b7 b8 b9 b10 b11 → μ b1 b2 b3 b4 b5 b6 b7 b8 b9 b10 b11 < μ a1 a2 a3 a4 a5 a6 a7 a8 a9 a10 a11 → W n b1 b2 b3 b4 b5 b6 b7 b8 b9 b10 b11) → W (n + 1) a1 a2 a3 a4 a5 a6 a7 a8 a9 a10 a11) (a1 : A1) (a2 : A2) (a3 : A3) (a4 : A4) (a5 : A5) (a6 : A6) (a7 : A7) (a8 : A8) (a9 : A9) (a10 : A10) (a11 : A11) (h : I a1 a2 a3 a4 a5 a6 a7 a8 a9 a10 a11) : ∃ n, W n a1 a2 a3 a4 a5 a6 a7 a8 a9 a10 a11 :=
  loop_m (σ := A1 × A2 × A3 × A4 × A5 × A6 × A7 × A8 × A9 × A10 × A11) (fun n s => W n s.1 s.2.1 s.2.2.1 s.2.2.2.1 s.2.2.2.2.1 s.2.2.2.2.2.1 s.2.2.2.2.2.2.1 s.2.2.2.2.2.2.2.1 s.2.2.2.2.2.2.2.2.1 s.2.2.2.2.2.2.2.2.2.1 s.2.2.2.2.2.2.2.2.2.2) (fun s => I s.1 s.2.1 s.2.2.1 s.2.2.2.1 s.2.2.2.2.1 s.2.2.2.2.2.1 s.2.2.2.2.2.2.1 s.2.2.2.2.2.2.2.1 s.2.2.2.2.2.2.2.2.1 s.2.2.2.2.2.2.2.2.2.1 s.2.2.2.2.2.2.2.2.2.2) (fun s => μ s.1 s.2.1 s.2.2.1 s.2.2.2.1 s.2.2.2.2.1 s.2.2.2.2.2.1 s.2.2.2.2.2.2.1 s.2.2.2.2.2.2.2.1 s.2.2.2.2.2.2.2.2.1 s.2.2.2.2.2.2.2.2.2.1 s.2.2.2.2.2.2.2.2.2.2) (fun n s hI hk => hs n s.1 s.2.1 s.2.2.1 s.2.2.2.1 s.2.2.2.2.1 s.2.2.2.2.2.1 s.2.2.2.2.2.2.1 s.2.2.2.2.2.2.2.1 s.2.2.2.2.2.2.2.2.1 s.2.2.2.2.2.2.2.2.2.1 s.2.2.2.2.2.2.2.2.2.2 hI (fun b1 b2 b3 b4 b5 b6 b7 b8 b9 b10 b11 h9 hm => hk (b1, b2, b3, b4, b5, b6, b7, b8, b9, b10, b11) h9 hm)) (a1, a2, a3, a4, a5, a6, a7, a8, a9, a10, a11) h
theorem lp12 {A1 A2 A3 A4 A5 A6 A7 A8 A9 A10 A11 A12 : Type} (W : Nat → A1 → A2 → A3 → A4 → A5 → A6 → A7 → A8 → A9 → A10 → A11 → A12 → Prop) (I : A1 → A2 → A3 → A4 → A5 → A6 → A7 → A8 → A9 → A10 → A11 → A12 → Prop) (μ : A1 → A2 → A3 → A4 → A5 → A6 → A7 → A8 → A9 → A10 → A11 → A12 → Nat) (hs : ∀ (n : Nat) (a1 : A1) (a2 : A2) (a3 : A3) (a4 : A4) (a5 : A5) (a6 : A6) (a7 : A7) (a8 : A8) (a9 : A9) (a10 : A10) (a11 : A11) (a12 : A12), I a1 a2 a3 a4 a5 a6 a7 a8 a9 a10 a11 a12 → (∀ (b1 : A1) (b2 : A2) (b3 : A3) (b4 : A4) (b5 : A5) (b6 : A6) (b7 : A7) (b8 : A8) (b9 : A9) (b10 : A10) (b11 : A11) (b12 : A12), I b1 b2 b3 b4 b5 b6 b7 b8 b9 b10 b11 b12 → μ b1 b2 b3 b4 b5 b6 b7 b8 b9 b10 b11 b12 < μ a1 a2 a3 a4 a5 a6 a7 a8 a9 a10 a11 a12 → W n b1 b2 b3 b4 b5 b6 b7 b8 b9 b10 b11 b12) → W (n + 1) a1 a2 a3 a4 a5 a6 a7 a8 a9 a10 a11 a12) (a1 : A1) (a2 : A2) (a3 : A3) (a4 : A4) (a5 : A5) (a6 : A6) (a7 : A7) (a8 : A8) (a9 : A9) (a10 : A10) (a11 : A11) (a12 : A12) (h : I a1 a2 a3 a4 a5 a6 a7 a8 a9 a10 a11 a12) : ∃ n, W n a1 a2 a3 a4 a5 a6 a7 a8 a9 a10 a11 a12 :=
  loop_m (σ := A1 × A2 × A3 × A4 × A5 × A6 × A7 × A8 × A9 × A10 × A11 × A12) (fun n s => W n s.1 s.2.1 s.2.2.1 s.2.2.2.1 s.2.2.2.2.1 s.2.2.2.2.2.1 s.2.2.2.2.2.2.1 s.2.2.2.2.2.2.2.1 s.2.2.2.2.2.2.2.2.1 s.2.2.2.2.2.2.2.2.2.1 s.2.2.2.2.2.2.2.2.2.2.1 s.2.2.2.2.2.2.2.2.2.2.2) (fun s => I s.1 s.2.1 s.2.2.1 s.2.2.2.1 s.2.2.2.2.1 s.2.2.2.2.2.1 s.2.2.2.2.2.2.1 s.2.2.2.2.2.2.2.1 s.2.2.2.2.2.2.2.2.1 s.2.2.2.2.2.2.2.2.2.1 s.2.2.2.2.2.2.2.2.2.2.1 s.2.2.2.2.2.2.2.2.2.2.2) (fun s => μ s.1 s.2.1 s.2.2.1 s.2.2.2.1 s.2.2.2.2.1 s.2.2.2.2.2.1 s.2.2.2.2.2.2.1 s.2.2.2.2.2.2.2.1 s.2.2.2.2.2.2.2.2.1 s.2.2.2.2.2.2.2.2.2.1 s.2.2.2.2.2.2.2.2.2.2.1 s.2.2.2.2.2.2.2.2.2.2.2) (fun n s hI hk => hs n s.1 s.2.1 s.2.2.1 s.2.2.2.1 s.2.2.2.2.1 s.2.2.2.2.2.1 s.2.2.2.2.2.2.1 s.2.2.2.2.2.2.2.1 s.2.2.2.2.2.2.2.2.1 s.2.2.2.2.2.2.2.2.2.1 s.2.2.2.2.2.2.2.2.2.2.1 s.2.2.2.2.2.2.2.2.2.2.2 hI (fun b1 b2 b3 b4 b5 b6 b7 b8 b9 b10 b11 b12 h9 hm => hk (b1, b2, b3, b4, b5, b6, b7, b8, b9, b10, b11, b12) h9 hm)) (a1, a2, a3, a4, a5, a6, a7, a8, a9, a10, a11, a12) h
theorem lp13 {A1 A2 A3 A4 A5 A6 A7 A8 A9 A10 A11 A12 A13 : Type} (W : Nat → A1 → A2 → A3 → A4 → A5 → A6 → A7 → A8 → A9 → A10 → A11 → A12 → A13 → Prop) (I : A1 → A2 → A3 → A4 → A5 → A6 → A7 → A8 → A9 → A10 → A11 → A12 → A13 → Prop) (μ : A1 → A2 → A3 → A4 → A5 → A6 → A7 → A8 → A9 → A10 → A11 → A12 → A13 → Nat) (hs : ∀ (n : Nat) (a1 : A1) (a2 : A2) (a3 : A3) (a4 : A4) (a5 : A5) (a6 : A6) (a7 : A7) (a8 : A8) (a9 : A9) (a10 : A10) (a11 : A11) (a12 : A12) (a13 : A13), I a1 a2 a3 a4 a5 a6 a7 a8 a9 a10 a11 a12 a13 → (∀ (b1 : A1) (b2 : A2) (b3 : A3) (b4 : A4) (b5 : A5) (b6 : A6) (b7 : A7) (b8 : A8) (b9 : A9) (b10 : A10) (b11 : A11) (b12 : A12) (b13 : A13), I b1 b2 b3 b4 b5 b6 b7 b8 b9 b10 b11 b12 b13 → μ b1 b2 b3 b4 b5 b6 b7 b8 b9 b10 b11 b12 b13 < μ a1 a2 a3 a4 a5 a6 a7 a8 a9 a10 a11 a12 a13 → W n b1 b2 b3 b4 b5 b6 b7 b8 b9 b10 b11 b12 b13) → W (n + 1) a1 a2 a3 a4 a5 a6 a7 a8 a9 a10 a11 a12 a13) (a1 : A1) (a2 : A2) (a3 : A3) (a4 : A4) (a5 : A5) (a6 : A6) (a7 : A7) (a8 : A8) (a9 : A9) (a10 : A10) (a11 : A11) (a12 : A12) (a13 : A13) (h : I a1 a2 a3 a4 a5 a6 a7 a8 a9 a10 a11 a12 a13) : ∃ n, W n a1 a2 a3 a4 a5 a6 a7 a8 a9 a10 a11 a12 a13 :=
  loop_m (σ := A1 × A2 × A3 × A4 × A5 × A6 × A7 × A8 × A9 × A10 × A11 × A12 × A13) (fun n s => W n s.1 s.2.1 s.2.2.1 s.2.2.2.1 s.2.2.2.2.1 s.2.2.2.2.2.1 s.2.2.2.2.2.2.1 s.2.2.2.2.2.2.2.1 s.2.2.2.2.2.2.2.2.1 s.2.2.2.2.2.2.2.2.2.1 s.2.2.2.2.2.2.2.2.2.2.1 s.2.2.2.2.2.2.2.2.2.2.2.1 s.2.2.2.2.2.2.2.2.2.2.2.2) (fun s => I s.1 s.2.1 s.2.2.1 s.2.2.2.1 s.2.2.2.2.1 s.2.2.2.2.2.1 s.2.2.2.2.2.2.1 s.2.2.2.2.2.2.2.1 s.2.2.2.2.2.2.2.2.1 s.2.2.2.2.2.2.2.2.2.1 s.2.2.2.2.2.2.2.2.2.2.1 s.2.2.2.2.2.2.2.2.2.2.2.1 s.2.2.2.2.2.2.2.2.2.2.2.2) (fun s => μ s.1 s.2.1 s.2.2.1 s.2.2.2.1 s.2.2.2.2.1 s.2.2.2.2.2.1 s.2.2.2.2.2.2.1 s.2.2.2.2.2.2.2.1 s.2.2.2.2.2.2.2.2.1 s.2.2.2.2.2.2.2.2.2.1 s.2.2.2.2.2.2.2.2.2.2.1 s.2.2.2.2.2.2.2.2.2.2.2.1 s.2.2.2.2.2.2.2.2.2.2.2.2) (fun n s hI hk => hs n s.1 s.2.1 s.2.2.1 s.2.2.2.1 s.2.2.2.2.1 s.2.2.2.2.2.1 s.2.2.2.2.2.2.1 s.2.2.2.2.2.2.2.1 s.2.2.2.2.2.2.2.2.1 s.2.2.2.2.2.2.2.2.2.1 s.2.2.2.2.2.2.2.2.2.2.1 s.2.2.2.2.2.2.2.2.2.2.2.1 s.2.2.2.2.2.2.2.2.2.2.2.2 hI (fun b1 b2 b3 b4 b5 b6 b7 b8 b9 b10 b11 b12 b13 h9 hm => hk (b1, b2, b3, b4, b5, b6, b7, b8, b9, b10, b11, b12, b13) h9 hm)) (a1, a2, a3, a4, a5, a6, a7, a8, a9, a10, a11, a12, a13) h
theorem lp14 {A1 A2 A3 A4 A5 A6 A7 A8 A9 A10 A11 A12 A13 A14 : Type} (W : Nat → A1 → A2 → A3 → A4 → A5 → A6 → A7 → A8 → A9 → A10 → A11 → A12 → A13 → A14 → Prop) (I : A1 → A2 → A3 → A4 → A5 → A6 → A7 → A8 → A9 → A10 → A11 → A12 → A13 → A14 → Prop) (μ : A1 → A2 → A3 → A4 → A5 → A6 → A7 → A8 → A9 → A10 → A11 → A12 → A13 → A14 → Nat) (hs : ∀ (n : Nat) (a1 : A1) (a2 : A2) (a3 : A3) (a4 : A4) (a5 : A5) (a6 : A6) (a7 : A7) (a8 : A8) (a9 : A9) (a10 : A10) (a11 : A11) (a12 : A12) (a13 : A13) (a14 : A14), I a1 a2 a3 a4 a5 a6 a7 a8 a9 a10 a11 a12 a13 a14 → (∀ (b1 : A1) (b2 : A2) (b3 : A3) (b4 : A4) (b5 : A5) (b6 : A6) (b7 : A7) (b8 : A8) (b9 : A9) (b10 : A10) (b11 : A11) (b12 : A12) (b13 : A13) (b14 : A14), I b1 b2 b3 b4 b5 b6 b7 b8 b9 b10 b11 b12 b13 b14 → μ b1 b2 b3 b4 b5 b6 b7 b8 b9 b10 b11 b12 b13 b14 < μ a1 a2 a3 a4 a5 a6 a7 a8 a9 a10 a11 a12 a13 a14 → W n b1 b2 b3 b4 b5 b6 b7 b8 b9 b10 b11 b12 b13 b14) → W (n + 1) a1 a2 a3 a4 a5 a6 a7 a8 a9 a10 a11 a12 a13 a14) (a1 : A1) (a2 : A2) (a3 : A3) (a4 : A4) (a5 : A5) (a6 : A6) (a7 : A7) (a8 : A8) (a9 : A9) (a10 : A10) (a11 : A11) (a12 : A12) (a13 : A13) (a14 : A14) (h : I a1 a2 a3 a4 a5 a6 a7 a8 a9 a10 a11 a12 a13 a14) : ∃ n, W n a1 a2 a3 a4 a5 a6 a7 a8 a9 a10 a11 a12 a13 a14 :=
  loop_m (σ := A1 × A2 × A3 × A4 × A5 × A6 × A7 × A8 × A9 × A10 × A11 × A12 × A13 × A14) (fun n s => W n s.1 s.2.1 s.2.2.1 s.2.2.2.1 s.2.2.2.2.1 s.2.2.2.2.2.1 s.2.2.2.2.2.2.1 s.2.2.2.2.2.2.2.1 s.2.2.2.2.2.2.2.2.1 s.2.2.2.2.2.2.2.2.2.1 s.2.2.2.2.2.2.2.2.2.2.1 s.2.2.2.2.2.2.2.2.2.2.2.1 s.2.2.2.2.2.2.2.2.2.2.2.2.1 s.2.2.2.2.2.2.2.2.2.2.2.2.2) (fun s => I s.1 s.2.1 s.2.2.1 s.2.2.2.1 s.2.2.2.2.1 s.2.2.2.2.2.1 s.2.2.2.2.2.2.1 s.2.2.2.2.2.2.2.1 s.2.2.2.2.2.2.2.2.1 s.2.2.2.2.2.2.2.2.2.1 s.2.2.2.2.2.2.2.2.2.2.1 s.2.2.2.2.2.2.2.2.2.2.2.1 s.2.2.2.2.2.2.2.2.2.2.2.2.1 s.2.2.2.2.2.2.2.2.2.2.2.2.2) (fun s => μ s.1 s.2.1 s.2.2.1 s.2.2.2.1 s.2.2.2.2.1 s.2.2.2.2.2.1 s.2.2.2.2.2.2.1 s.2.2.2.2.2.2.2.1 s.2.2.2.2.2.2.2.2.1 s.2.2.2.2.2.2.2.2.2.1 s.2.2.2.2.2.2.2.2.2.2.1 s.2.2.2.2.2.2.2.2.2.2.2.1 s.2.2.2.2.2.2.2.2.2.2.2.2.1 s.2.2.2.2.2.2.2.2.2.2.2.2.2) (fun n s hI hk => hs n s.1 s.2.1 s.2.2.1 s.2.2.2.1 s.2.2.2.2.1 s.2.2.2.2.2.1 s.2.2.2.2.2.2.1 s.2.2.2.2.2.2.2.1 s.2.2.2.2.2.2.2.2.1 s.2.2.2.2.2.2.2.2.2.1 s.2.2.2.2.2.2.2.2.2.2.1 s.2.2.2.2.2.2.2.2.2.2.2.1 s.2.2.2.2.2.2.2.2.2.2.2.2.1 s.2.2.2.2.2.2.2.2.2.2.2.2.2 hI (fun b1 b2 b3 b4 b5 b6 b7 b8 b9 b10 b11 b12 b13 b14 h9 hm => hk (b1, b2, b3, b4, b5, b6, b7, b8, b9, b10, b11, b12, b13, b14) h9 hm)) (a1, a2, a3, a4, a5, a6, a7, a8, a9, a10, a11, a12, a13, a14) h
theorem lp15 {A1 A2 A3 A4 A5 A6 A7 A8 A9 A10 A11 A12 A13 A14 A15 : Type} (W : Nat → A1 → A2 → A3 → A4 → A5 → A6 → A7 → A8 → A9 → A10 → A11 → A12 → A13 → A14 → A15 → Prop) (I : A1 → A2 → A3 → A4 → A5 → A6 → A7 → A8 → A9 → A10 → A11 → A12 → A13 → A14 → A15 → Prop) (μ : A1 → A2 → A3 → A4 → A5 → A6 → A7 → A8 → A9 → A10 → A11 → A12 → A13 → A14 → A15 → Nat) (hs : ∀ (n : Nat) (a1 : A1) (a2 : A2) (a3 : A3) (a4 : A4) (a5 : A5) (a6 : A6) (a7 : A7) (a8 : A8) (a9 : A9) (a10 : A10) (a11 : A11) (a12 : A12) (a13 : A13) (a14 : A14) (a15 : A15), I a1 a2 a3 a4 a5 a6 a7 a8 a9 a10 a11 a12 a13 a14 a15 → (∀ (b1 : A1) (b2 : A2) (b3 : A3) (b4 : A4) (b5 : A5) (b6 : A6) (b7 : A7) (b8 : A8) (b9 : A9) (b10 : A10) (b11 : A11) (b12 : A12) (b13 : A13) (b14 : A14) (b15 : A15), I b1 b2 b3 b4 b5 b6 b7 b8 b9 b10 b11 b12 b13 b14 b15 → μ b1 b2 b3 b4 b5 b6 b7 b8 b9 b10 b11 b12 b13 b14 b15 < μ a1 a2 a3 a4 a5 a6 a7 a8 a9 a10 a11 a12 a13 a14 a15 → W n b1 b2 b3 b4 b5 b6 b7 b8 b9 b10 b11 b12 b13 b14 b15) → W (n + 1) a1 a2 a3 a4 a5 a6 a7 a8 a9 a10 a11 a12 a13 a14 a15) (a1 : A1) (a2 : A2) (a3 : A3) (a4 : A4) (a5 : A5) (a6 : A6) (a7 : A7) (a8 : A8) (a9 : A9) (a10 : A10) (a11 : A11) (a12 : A12) (a13 : A13) (a14 : A14) (a15 : A15) (h : I a1 a2 a3 a4 a5 a6 a7 a8 a9 a10 a11 a12 a13 a14 a15) : ∃ n, W n a1 a2 a3 a4 a5 a6 a7 a8 a9 a10 a11 a12 a13 a14 a15 :=
  loop_m (σ := A1 × A2 × A3 × A4 × A5 × A6 × A7 × A8 × A9 × A10 × A11 × A12 × A13 × A14 × A15) (fun n s => W n s.1 s.2.1 s.2.2.1 s.2.2.2.1 s.2.2.2.2.1 s.2.2.2.2.2.1 s.2.2.2.2.2.2.1 s.2.2.2.2.2.2.2.1 s.2.2.2.2.2.2.2.2.1 s.2.2.2.2.2.2.2.2.2.1 s.2.2.2.2.2.2.2.2.2.2.1 s.2.2.2.2.2.2.2.2.2.2.2.1 s.2.2.2.2.2.2.2.2.2.2.2.2.1 s.2.2.2.2.2.2.2.2.2.2.2.2.2.1 s.2.2.2.2.2.2.2.2.2.2.2.2.2.2) (fun s => I s.1 s.2.1 s.2.2.1 s.2.2.2.1 s.2.2.2.2.1 s.2.2.2.2.2.1 s.2.2.2.2.2.2.1 s.2.2.2.2.2.2.2.1 s.2.2.2.2.2.2.2.2.1 s.2.2.2.2.2.2.2.2.2.1 s.2.2.2.2.2.2.2.2.2.2.1 s.2.2.2.2.2.2.2.2.2.2.2.1 s.2.2.2.2.2.2.2.2.2.2.2.2.1 s.2.2.2.2.2.2.2.2.2.2.2.2.2.1 s.2.2.2.2.2.2.2.2.2.2.2.2.2.2) (fun s => μ s.1 s.2.1 s.2.2.1 s.2.2.2.1 s.2.2.2.2.1 s.2.2.2.2.2.1 s.2.2.2.2.2.2.1 s.2.2.2.2.2.2.2.1 s.2.2.2.2.2.2.2.2.1 s.2.2.2.2.2.2.2.2.2.1 s.2.2.2.2.2.2.2.2.2.2.1 s.2.2.2.2.2.2.2.2.2.2.2.1 s.2.2.2.2.2.2.2.2.2.2.2.2.1 s.2.2.2.2.2.2.2.2.2.2.2.2.2.1 s.2.2.2.2.2.2.2.2.2.2.2.2.2.2) (fun n s hI hk => hs n s.1 s.2.1 s.2.2.1 s.2.2.2.1 s.2.2.2.2.1 s.2.2.2.2.2.1 s.2.2.2.2.2.2.1 s.2.2.2.2.2.2.2.1 s.2.2.2.2.2.2.2.2.1 s.2.2.2.2.2.2.2.2.2.1 s.2.2.2.2.2.2.2.2.2.2.1 s.2.2.2.2.2.2.2.2.2.2.2.1 s.2.2.2.2.2.2.2.2.2.2.2.2.1 s.2.2.2.2.2.2.2.2.2.2.2.2.2.1 s.2.2.2.2.2.2.2.2.2.2.2.2.2.2 hI (fun b1 b2 b3 b4 b5 b6 b7 b8 b9 b10 b11 b12 b13 b14 b15 h9 hm => hk (b1, b2, b3, b4, b5, b6, b7, b8, b9, b10, b11, b12, b13, b14, b15) h9 hm)) (a1, a2, a3, a4, a5, a6, a7, a8, a9, a10, a11, a12, a13, a14, a15) h
theorem lp16 {A1 A2 A3 A4 A5 A6 A7 A8 A9 A10 A11 A12 A13 A14 A15 A16 : Type} (W : Nat → A1 → A2 → A3 → A4 → A5 → A6 → A7 → A8 → A9 → A10 → A11 → A12 → A13 → A14 → A15 → A16 → Prop) (I : A1 → A2 → A3 → A4 → A5 → A6 → A7 → A8 → A9 → A10 → A11 → A12 → A13 → A14 → A15 → A16 → Prop) (μ : A1 → A2 → A3 → A4 → A5 → A6 → A7 → A8 → A9 → A10 → A11 → A12 → A13 → A14 → A15 → A16 → Nat) (hs : ∀ (n : Nat) (a1 : A1) (a2 : A2) (a3 : A3) (a4 : A4) (a5 : A5) (a6 : A6) (a7 : A7) (a8 : A8) (a9 : A9) (a10 : A10) (a11 : A11) (a12 : A12) (a13 : A13) (a14 : A14) (a15 : A15) (a16 : A16), I a1 a2 a3 a4 a5 a6 a7 a8 a9 a10 a11 a12 a13 a14 a15 a16 → (∀ (b1 : A1) (b2 : A2) (b3 : A3) (b4 : A4) (b5 : A5) (b6 : A6) (b7 : A7) (b8 : A8) (b9 : A9) (b10 : A10) (b11 : A11) (b12 : A12) (b13 : A13) (b14 : A14) (b15 : A15) (b16 : A16), I b1 b2 b3 b4 b5 b6 b7 b8 b9 b10 b11 b12 b13 b14 b15 b16 → μ b1 b2 b3 b4 b5 b6 b7 b8 b9 b10 b11 b12 b13 b14 b15 b16 < μ a1 a2 a3 a4 a5 a6 a7 a8 a9 a10 a11 a12 a13 a14 a15 a16 → W n b1 b2 b3 b4 b5 b6 b7 b8 b9 b10 b11 b12 b13 b14 b15 b16) → W (n + 1) a1 a2 a3 a4 a5 a6 a7 a8 a9 a10 a11 a12 a13 a14 a15 a16) (a1 : A1) (a2 : A2) (a3 : A3) (a4 : A4) (a5 : A5) (a6 : A6) (a7 : A7) (a8 : A8) (a9 : A9) (a10 : A10) (a11 : A11) (a12 : A12) (a13 : A13) (a14 : A14) (a15 : A15) (a16 : A16) (h : I a1 a2 a3 a4 a5 a6 a7 a8 a9 a10 a11 a12 a13 a14 a15 a16) : ∃ n, W n a1 a2 a3 a4 a5 a6 a7 a8 a9 a10 a11 a12 a13 a14 a15 a16 :=
  loop_m (σ := A1 × A2 × A3 × A4 × A5 × A6 × A7 × A8 × A9 × A10 × A11 × A12 × A13 × A14 × A15 × A16) (fun n s => W n s.1 s.2.1 s.2.2.1 s.2.2.2.1 s.2.2.2.2.1 s.2.2.2.2.2.1 s.2.2.2.2.2.2.1 s.2.2.2.2.2.2.2.1 s.2.2.2.2.2.2.2.2.1 s.2.2.2.2.2.2.2.2.2.1 s.2.2.2.2.2.2.2.2.2.2.1 s.2.2.2.2.2.2.2.2.2.2.2.1 s.2.2.2.2.2.2.2.2.2.2.2.2.1 s.2.2.2.2.2.2.2.2.2.2.2.2.2.1 s.2.2.2.2.2.2.2.2.2.2.2.2.2.2.1 s.2.2.2.2.2.2.2.2.2.2.2.2.2.2.2) (fun s => I s.1 s.2.1 s.2.2.1 s.2.2.2.1 s.2.2.2.2.1 s.2.2.2.2.2.1 s.2.2.2.2.2.2.1 s.2.2.2.2.2.2.2.1 s.2.2.2.2.2.2.2.2.1 s.2.2.2.2.2.2.2.2.2.1 s.2.2.2.2.2.2.2.2.2.2.1 s.2.2.2.2.2.2.2.2.2.2.2.1 s.2.2.2.2.2.2.2.2.2.2.2.2.1 s.2.2.2.2.2.2.2.2.2.2.2.2.2.1 s.2.2.2.2.2.2.2.2.2.2.2.2.2.2.1 s.2.2.2.2.2.2.2.2.2.2.2.2.2.2.2) (fun s => μ s.1 s.2.1 s.2.2.1 s.2.2.2.1 s.2.2.2.2.1 s.2.2.2.2.2.1 s.2.2.2.2.2.2.1 s.2.2.2.2.2.2.2.1 s.2.2.2.2.2.2.2.2.1 s.2.2.2.2.2.2.2.2.2.1 s.2.2.2.2.2.2.2.2.2.2.1 s.2.2.2.2.2.2.2.2.2.2.2.1 s.2.2.2.2.2.2.2.2.2.2.2.2.1 s.2.2.2.2.2.2.2.2.2.2.2.2.2.1 s.2.2.2.2.2.2.2.2.2.2.2.2.2.2.1 s.2.2.2.2.2.2.2.2.2.2.2.2.2.2.2) (fun n s hI hk => hs n s.1 s.2.1 s.2.2.1 s.2.2.2.1 s.2.2.2.2.1 s.2.2.2.2.2.1 s.2.2.2.2.2.2.1 s.2.2.2.2.2.2.2.1 s.2.2.2.2.2.2.2.2.1 s.2.2.2.2.2.2.2.2.2.1 s.2.2.2.2.2.2.2.2.2.2.1 s.2.2.2.2.2.2.2.2.2.2.2.1 s.2.2.2.2.2.2.2.2.2.2.2.2.1 s.2.2.2.2.2.2.2.2.2.2.2.2.2.1 s.2.2.2.2.2.2.2.2.2.2.2.2.2.2.1 s.2.2.2.2.2.2.2.2.2.2.2.2.2.2.2 hI (fun b1 b2 b3 b4 b5 b6 b7 b8 b9 b10 b11 b12 b13 b14 b15 b16 h9 hm => hk (b1, b2, b3, b4, b5, b6, b7, b8, b9, b10, b11, b12, b13, b14, b15, b16) h9 hm)) (a1, a2, a3, a4, a5, a6, a7, a8, a9, a10, a11, a12, a13, a14, a15, a16) h
theorem pk_least (P : Nat → Prop) (h : ∃ k, P k) : ∃ k, P k ∧ ∀ j, j < k → ¬ P j := by
  obtain ⟨k, hk⟩ := h
  induction k using Nat.strongRecOn with
  | ind k ih =>
    by_cases e : ∃ j, j < k ∧ P j
    · obtain ⟨j, hj, pj⟩ := e
      exact ih j hj pj
    · exact ⟨k, hk, fun j hj pj => e ⟨j, hj, pj⟩⟩
theorem ek_if {c d A B : Prop} (e : c ↔ d) (f : d → A) (g : ¬ d → B) : (c → A) ∧ (¬ c → B) :=
  ⟨fun z => f (e.mp z), fun z => g (fun y => z (e.mpr y))⟩
theorem ek_v {α : Sort _} {P : α → Prop} {a b : α} (e : a = b) (h : P b) : P a := e ▸ h
theorem pk_mu {x : Int32} {L : Nat} (h0 : ¬ x < 0) (h : ¬ nI L ≤ x) (hL : L < 2 ^ 31) : ∃ j : Nat, j < L ∧ x = nI j ∧ x + 1 = nI (j + 1) ∧ x.toNatClampNeg = j ∧ L - (x + 1).toNatClampNeg < L - x.toNatClampNeg := by
  obtain ⟨j, hj, rfl⟩ := nI_of h0
  have hl : j < L := Nat.not_le.mp fun q => h (nI_le q hj)
  refine ⟨j, hl, rfl, nI_1 j, nI_clamp hj, ?_⟩
  rw [nI_1, nI_clamp (by omega), nI_clamp hj]
  omega
end
section
-- OUTCOMES, pure. A program P: P 0 op, P 1 number or function, P 2, P 3, P 4 the parts (nodes), P 5 sizes, P 6 0 the width.
abbrev ou_us (P : Nat → Nat → Nat) (u : Nat) : Prop := u < 120 ∧ u % 24 < P 5 (u / 24)
abbrev ou_uc (P : Nat → Nat → Nat) (c : Nat) : Prop := ou_us P (c / 6) ∧ c % 6 < P 6 0
abbrev ou_O : Type := Nat × Nat × Int64
def ou_lf (t : Nat) : Bool := t == 1 || t == 2 || t == 10 || t == 11 || t == 12 || t == 24
def ou_lv (P : Nat → Nat → Nat) (c : Nat) : ou_O :=
  if P 0 (c / 6) = 1 then (1, 1, lN (P 1 (c / 6))) else
  if P 0 (c / 6) = 2 then (1, 1, lN (c % 6)) else
  if P 0 (c / 6) = 10 then (1, 3, 0) else
  if P 0 (c / 6) = 11 then (1, 2, 1) else
  if P 0 (c / 6) = 12 then (1, 2, 0) else (1, 3, lN (c + 1))
def ou_jn (v : Int64) : Nat := v.toInt.toNat - 1
def ou_an (v : Int64) : Nat := v.toInt.toNat
def ou_ps (P : Nat → Nat → Nat) (k c : Nat) : Nat := P k (c / 6) * 6 + c % 6
def ou_cf (P : Nat → Nat → Nat) (f x : Nat) : Nat := (f * 24 + P 5 f - 1) * 6 + x
def ou_ar (t : Nat) (x y : Int64) : ou_O :=
  if y = 0 ∧ (t = 17 ∨ t = 18) then (3, 0, 0) else
  if t = 14 then (1, 1, x + y) else
  if t = 15 then (1, 1, x - y) else
  if t = 16 then (1, 1, x * y) else
  if t = 17 then (1, 1, x / y) else
  if t = 18 then (1, 1, x - x / y * y) else
  if t = 19 then (1, 2, if x < y then 1 else 0) else (1, 2, if x = y then 1 else 0)
def ou_md (P : Nat → Nat → Nat) (c : Nat) (o : ou_O) : Nat × Nat × ou_O :=
  if P 0 (c / 6) = 6 then (if o.1 = 1 then (0, 0, o) else (1, ou_ps P 3 c, o)) else
  if o.1 ≠ 1 then (0, 0, o) else
  if P 0 (c / 6) = 21 then (if o.2.2 = 0 then (0, 0, o) else (1, ou_ps P 3 c, o)) else
  if P 0 (c / 6) = 22 then (if o.2.2 = 0 then (1, ou_ps P 3 c, o) else (0, 0, o)) else
  if P 0 (c / 6) = 3 then (if o.2.2 = 0 then (1, ou_ps P 4 c, o) else (1, ou_ps P 3 c, o)) else
  if P 0 (c / 6) = 28 then (0, 0, (1, 1, -o.2.2)) else
  if P 0 (c / 6) = 23 ∨ P 0 (c / 6) = 9 then (0, 0, (1, 2, if o.2.2 = 0 then 1 else 0)) else
  if P 0 (c / 6) = 7 then (if o.2.2 = 0 then (0, 0, (5, 0, 0)) else (1, ou_ps P 2 (ou_jn o.2.2), o)) else
  if P 0 (c / 6) = 8 then (if o.2.2 = 0 then (0, 0, (5, 0, 0)) else (1, ou_ps P 3 (ou_jn o.2.2), o)) else
  if P 0 (c / 6) = 13 then (if o.2.2 < 0 ∨ lN (P 6 0) ≤ o.2.2 then (0, 0, (4, 0, 0)) else (1, ou_cf P (P 1 (c / 6)) (ou_an o.2.2), o)) else
  (2, ou_ps P 3 c, o)
def ou_go (E : Nat → Option ou_O) (m : Nat × Nat × ou_O) (t : Nat) (o : ou_O) : Option ou_O :=
  if m.1 = 0 then some m.2.2 else
  if m.1 = 1 then E m.2.1 else
  (E m.2.1).bind (fun o2 => if o2.1 = 1 then some (ou_ar t o.2.2 o2.2.2) else some o2)
def ou_rl (P : Nat → Nat → Nat) (E : Nat → Option ou_O) (c : Nat) : Option ou_O :=
  if ou_lf (P 0 (c / 6)) = true then some (ou_lv P c) else
  (E (ou_ps P 2 c)).bind (fun o => ou_go E (ou_md P c o) (P 0 (c / 6)) o)
def ou_ev (P : Nat → Nat → Nat) : Nat → Nat → Option ou_O
  | 0 => fun _ => none
  | k + 1 => fun c => if ou_uc P c then ou_rl P (ou_ev P k) c else none
theorem ou_ev1 (P : Nat → Nat → Nat) (k c : Nat) : ou_ev P (k + 1) c = if ou_uc P c then ou_rl P (ou_ev P k) c else none := rfl
def ou_le (E F : Nat → Option ou_O) : Prop := ∀ c o, E c = some o → F c = some o
theorem ou_bi {α β : Type} {x : Option α} {f : α → Option β} {r : β} (h : x.bind f = some r) : ∃ a, x = some a ∧ f a = some r := by
  cases x with
  | none => simp at h
  | some a => exact ⟨a, rfl, h⟩
theorem ou_go_mono {E F : Nat → Option ou_O} {m : Nat × Nat × ou_O} {t : Nat} {o r : ou_O} (h : ou_le E F) (hg : ou_go E m t o = some r) : ou_go F m t o = some r := by
  unfold ou_go at *
  by_cases h0 : m.1 = 0
  · rw [if_pos h0] at *; exact hg
  · rw [if_neg h0] at *
    by_cases h1 : m.1 = 1
    · rw [if_pos h1] at *; exact h _ _ hg
    · rw [if_neg h1] at *
      obtain ⟨a, ha, hr⟩ := ou_bi hg
      rw [h _ _ ha]; exact hr
theorem ou_rl_mono {P : Nat → Nat → Nat} {E F : Nat → Option ou_O} {c : Nat} {r : ou_O} (h : ou_le E F) (hr : ou_rl P E c = some r) : ou_rl P F c = some r := by
  unfold ou_rl at *
  by_cases hl : ou_lf (P 0 (c / 6)) = true
  · rw [if_pos hl] at *; exact hr
  · rw [if_neg hl] at *
    obtain ⟨a, ha, hg⟩ := ou_bi hr
    rw [h _ _ ha]; exact ou_go_mono h hg
theorem ou_ev_s (P : Nat → Nat → Nat) (k : Nat) : ou_le (ou_ev P k) (ou_ev P (k + 1)) := by
  induction k with
  | zero => intro c o h; simp [ou_ev] at h
  | succ k ih =>
    intro c o h
    rw [ou_ev1] at h ⊢
    by_cases hu : ou_uc P c
    · rw [if_pos hu] at h ⊢; exact ou_rl_mono ih h
    · rw [if_neg hu] at h; exact absurd h (by simp)
theorem ou_ev_m (P : Nat → Nat → Nat) {k l : Nat} (h : k ≤ l) : ou_le (ou_ev P k) (ou_ev P l) := by
  induction h with
  | refl => exact fun _ _ h => h
  | step _ ih => exact fun c o h => ou_ev_s P _ c o (ih c o h)
def ou_V (P : Nat → Nat → Nat) (c : Nat) (o : ou_O) : Prop := ∃ k, ou_ev P k c = some o
theorem ou_V_det {P : Nat → Nat → Nat} {c : Nat} {o p : ou_O} (h : ou_V P c o) (g : ou_V P c p) : o = p := by
  obtain ⟨k, hk⟩ := h
  obtain ⟨l, hl⟩ := g
  have a := ou_ev_m P (Nat.le_max_left k l) c o hk
  have b := ou_ev_m P (Nat.le_max_right k l) c p hl
  rw [a] at b
  exact Option.some.inj b
theorem ou_V_us {P : Nat → Nat → Nat} {c : Nat} {o : ou_O} (h : ou_V P c o) : ou_uc P c := by
  obtain ⟨k, hk⟩ := h
  cases k with
  | zero => simp [ou_ev] at hk
  | succ k =>
    rw [ou_ev1] at hk
    by_cases hu : ou_uc P c
    · exact hu
    · rw [if_neg hu] at hk; exact absurd hk (by simp)
theorem ou_rl_ct {P : Nat → Nat → Nat} {T : Nat → Option ou_O} {c : Nat} {r : ou_O} (hT : ∀ c o, T c = some o → ou_V P c o) (hr : ou_rl P T c = some r) : ∃ k, ou_rl P (ou_ev P k) c = some r := by
  unfold ou_rl at *
  by_cases hl : ou_lf (P 0 (c / 6)) = true
  · rw [if_pos hl] at hr; exact ⟨0, by rw [if_pos hl]; exact hr⟩
  · rw [if_neg hl] at hr
    obtain ⟨a, ha, hg⟩ := ou_bi hr
    obtain ⟨k, hk⟩ := hT _ _ ha
    unfold ou_go at hg
    by_cases h0 : (ou_md P c a).1 = 0
    · rw [if_pos h0] at hg
      refine ⟨k, ?_⟩
      rw [if_neg hl, hk]
      show ou_go _ _ _ a = some r
      unfold ou_go
      rw [if_pos h0]; exact hg
    · rw [if_neg h0] at hg
      by_cases h1 : (ou_md P c a).1 = 1
      · rw [if_pos h1] at hg
        obtain ⟨l, hl2⟩ := hT _ _ hg
        refine ⟨max k l, ?_⟩
        rw [if_neg hl, ou_ev_m P (Nat.le_max_left k l) _ _ hk]
        show ou_go _ _ _ a = some r
        unfold ou_go
        rw [if_neg h0, if_pos h1]; exact ou_ev_m P (Nat.le_max_right k l) _ _ hl2
      · rw [if_neg h1] at hg
        obtain ⟨b, hb, hr2⟩ := ou_bi hg
        obtain ⟨l, hl2⟩ := hT _ _ hb
        refine ⟨max k l, ?_⟩
        rw [if_neg hl, ou_ev_m P (Nat.le_max_left k l) _ _ hk]
        show ou_go _ _ _ a = some r
        unfold ou_go
        rw [if_neg h0, if_neg h1, ou_ev_m P (Nat.le_max_right k l) _ _ hl2]; exact hr2
theorem ou_snd {P : Nat → Nat → Nat} {T : Nat → Option ou_O} {c : Nat} {r : ou_O} (hT : ∀ c o, T c = some o → ou_V P c o) (hu : ou_uc P c) (hr : ou_rl P T c = some r) : ou_V P c r := by
  obtain ⟨k, hk⟩ := ou_rl_ct hT hr
  exact ⟨k + 1, by rw [ou_ev1, if_pos hu]; exact hk⟩
theorem ou_full {P : Nat → Nat → Nat} {T : Nat → Option ou_O} (hT : ∀ c o, T c = some o → ou_V P c o) (hc : ∀ c, ou_uc P c → T c = none → ou_rl P T c = none) : ∀ c o, ou_V P c o → T c = some o := by
  have key : ∀ k, ou_le (ou_ev P k) T := by
    intro k
    induction k with
    | zero => intro c o h; simp [ou_ev] at h
    | succ k ih =>
      intro c o h
      have hv : ou_V P c o := ⟨k + 1, h⟩
      have hu := ou_V_us hv
      rw [ou_ev1, if_pos hu] at h
      have h2 := ou_rl_mono ih h
      cases hh : T c with
      | none => rw [hc c hu hh] at h2; exact absurd h2 (by simp)
      | some o2 => rw [ou_V_det hv (hT c o2 hh)]
  intro c o h
  obtain ⟨k, hk⟩ := h
  exact key k c o hk
noncomputable def ou_E (P : Nat → Nat → Nat) (c : Nat) : Option ou_O :=
  @dite _ (∃ o, ou_V P c o) (Classical.propDecidable _) (fun h => some h.choose) (fun _ => none)
theorem ou_E_s {P : Nat → Nat → Nat} {c : Nat} {o : ou_O} : ou_E P c = some o ↔ ou_V P c o := by
  unfold ou_E
  by_cases h : ∃ o, ou_V P c o
  · rw [dif_pos h]
    constructor
    · intro e; rw [← Option.some.inj e]; exact h.choose_spec
    · intro g; rw [ou_V_det h.choose_spec g]
  · rw [dif_neg h]
    constructor
    · intro e; exact absurd e (by simp)
    · intro g; exact absurd ⟨o, g⟩ h
end
section
-- KINDS and what an outcome is like
def pg_n (t : Nat) : Nat := if t = 3 then 3 else if t = 1 ∨ t = 2 ∨ t = 10 ∨ t = 11 ∨ t = 12 then 0 else if t = 7 ∨ t = 8 ∨ t = 9 ∨ t = 13 ∨ t = 23 ∨ t = 28 then 1 else 2
def pg_op (t : Nat) : Prop := 1 ≤ t ∧ t ≤ 28 ∧ t ≠ 4 ∧ t ≠ 5 ∧ t ≠ 25 ∧ t ≠ 26 ∧ t ≠ 27
def pg_nd (P : Nat → Nat → Nat) (u : Nat) : Prop :=
  pg_op (P 0 u) ∧ (P 0 u = 1 → P 1 u < 1000000000) ∧ (P 0 u = 13 → P 1 u < 5 ∧ 0 < P 5 (P 1 u)) ∧
  (∀ j, j < pg_n (P 0 u) → P (2 + j) u < u ∧ P (2 + j) u / 24 = u / 24)
def pg_ok (P : Nat → Nat → Nat) : Prop := 2 ≤ P 6 0 ∧ P 6 0 ≤ 6 ∧ (∀ f, P 5 f ≤ 24) ∧ ∀ u, ou_us P u → pg_nd P u
def ki_f (t kc ka kb : Nat) : Nat :=
  if t = 13 then kc else if t = 3 then kb else if t = 6 then ka else
  if t = 10 ∨ t = 24 ∨ t = 8 then 3 else
  if t = 11 ∨ t = 12 ∨ (19 ≤ t ∧ t ≤ 23) ∨ t = 9 then 2 else 1
def ki_m (t ka kb kc : Nat) : Prop :=
  if t = 7 ∨ t = 8 ∨ t = 9 then ka = 3 else
  if t = 23 then ka = 2 else
  if t = 28 ∨ t = 13 then ka = 1 else
  if t = 3 then ka = 2 ∧ kb = kc else
  if t = 6 then ka = kb else
  if t = 20 then ka = kb ∧ ka ≠ 3 else
  if t = 24 then ka = 1 ∧ kb = 3 else
  if t = 21 ∨ t = 22 then ka = 2 ∧ kb = 2 else
  if 14 ≤ t ∧ t ≤ 19 then ka = 1 ∧ kb = 1 else True
def ty_ok (P : Nat → Nat → Nat) (kc K : Nat → Nat) : Prop :=
  (∀ u, ou_us P u → K u = ki_f (P 0 u) (kc (P 1 u)) (K (P 2 u)) (K (P 3 u)) ∧ ki_m (P 0 u) (K (P 2 u)) (K (P 3 u)) (K (P 4 u))) ∧
  (∀ f, f < 5 → 0 < P 5 f → K (f * 24 + P 5 f - 1) = kc f)
def ty_o (P : Nat → Nat → Nat) (K : Nat → Nat) (c : Nat) (o : ou_O) : Prop :=
  (o.1 = 1 ∧ o.2.1 = K (c / 6) ∧ (o.2.1 = 2 → o.2.2 = 0 ∨ o.2.2 = 1) ∧
    (o.2.1 = 3 → o.2.2 = 0 ∨ ∃ j, j < 720 ∧ ou_uc P j ∧ P 0 (j / 6) = 24 ∧ o.2.2 = lN (j + 1))) ∨
  ((o.1 = 3 ∨ o.1 = 4 ∨ o.1 = 5) ∧ o.2 = (0, 0))
theorem ty_cp {P : Nat → Nat → Nat} {K : Nat → Nat} {c d : Nat} {o : ou_O} (h : ty_o P K d o) (e : K (d / 6) = K (c / 6)) : ty_o P K c o := by
  unfold ty_o at *; rw [← e]; exact h
theorem ty_er {P : Nat → Nat → Nat} {K : Nat → Nat} {c d : Nat} {o : ou_O} (h : ty_o P K d o) (hn : ¬ o.1 = 1) : ty_o P K c o := by
  rcases h with h | h
  · exact absurd h.1 hn
  · exact Or.inr h
theorem ou_ps_d (P : Nat → Nat → Nat) (k c : Nat) : ou_ps P k c / 6 = P k (c / 6) := by
  unfold ou_ps; omega
theorem ou_ps_m (P : Nat → Nat → Nat) (k c : Nat) : ou_ps P k c % 6 = c % 6 := by
  unfold ou_ps; omega
theorem ou_jn_e {j : Nat} (h : j < 720) : ou_jn (lN (j + 1)) = j := by
  unfold ou_jn; rw [lN_toInt (by omega)]; omega
theorem ou_arg {v : Int64} {w : Nat} (hw : w < 2 ^ 31) (h : ¬ (v < 0 ∨ lN w ≤ v)) : ∃ x, x < w ∧ v = lN x ∧ ou_an v = x := by
  have h0 : ¬ v < 0 := fun q => h (Or.inl q)
  obtain ⟨k, hk, rfl⟩ := pk_lOf h0
  have h1 : ¬ lN w ≤ lN k := fun q => h (Or.inr q)
  rw [pk_lLE (by omega) hk] at h1
  refine ⟨k, by omega, rfl, ?_⟩
  unfold ou_an; rw [pk_lT hk]; omega
theorem ou_cf_d {P : Nat → Nat → Nat} {f x : Nat} (hx : x < 6) : ou_cf P f x / 6 = f * 24 + P 5 f - 1 := by
  unfold ou_cf; omega
theorem ou_cf_m {P : Nat → Nat → Nat} {f x : Nat} (hx : x < 6) : ou_cf P f x % 6 = x := by
  unfold ou_cf; omega
theorem pg_pu {P : Nat → Nat → Nat} {u p : Nat} (hu : ou_us P u) (h : p < u) (hd : p / 24 = u / 24) : ou_us P p := by
  obtain ⟨h1, h2⟩ := hu
  refine ⟨by omega, ?_⟩
  rw [hd]; omega
theorem pg_ru {P : Nat → Nat → Nat} (hP : pg_ok P) {f : Nat} (hf : f < 5) (hs : 0 < P 5 f) : ou_us P (f * 24 + P 5 f - 1) := by
  have := hP.2.2.1 f
  have e : (f * 24 + P 5 f - 1) / 24 = f := by omega
  refine ⟨by omega, ?_⟩
  rw [e]; omega
theorem pg_cs {t : Nat} (h : pg_op t) : t = 1 ∨ t = 2 ∨ t = 3 ∨ t = 6 ∨ t = 7 ∨ t = 8 ∨ t = 9 ∨ t = 10 ∨ t = 11 ∨ t = 12 ∨ t = 13 ∨ (14 ≤ t ∧ t ≤ 20) ∨ t = 21 ∨ t = 22 ∨ t = 23 ∨ t = 24 ∨ t = 28 := by
  unfold pg_op at h; omega
theorem ty_ar {P : Nat → Nat → Nat} {K : Nat → Nat} {c : Nat} {x y : Int64} {t : Nat} (h1 : 14 ≤ t) (h2 : t ≤ 20) (hk : K (c / 6) = if 19 ≤ t then 2 else 1) : ty_o P K c (ou_ar t x y) := by
  unfold ou_ar
  split
  · exact Or.inr ⟨Or.inl rfl, rfl⟩
  · rename_i hz
    have h : t = 14 ∨ t = 15 ∨ t = 16 ∨ t = 17 ∨ t = 18 ∨ t = 19 ∨ t = 20 := by omega
    rcases h with h | h | h | h | h | h | h <;> subst h <;> simp at hk <;> simp [ty_o, hk]
    · by_cases hq : x < y
      · simp [hq]
      · exact Or.inl (Int64.not_lt.mp hq)
    · by_cases hq : x = y
      · simp [hq]
      · simp [hq]
theorem ty_lf {P : Nat → Nat → Nat} {K : Nat → Nat} {c : Nat} {kc : Nat} {ka kb : Nat} (hc : c < 720) (hu : ou_uc P c) (ht : ou_lf (P 0 (c / 6)) = true) (hk : K (c / 6) = ki_f (P 0 (c / 6)) kc ka kb) : ty_o P K c (ou_lv P c) := by
  have h : P 0 (c / 6) = 1 ∨ P 0 (c / 6) = 2 ∨ P 0 (c / 6) = 10 ∨ P 0 (c / 6) = 11 ∨ P 0 (c / 6) = 12 ∨ P 0 (c / 6) = 24 := by
    simp [ou_lf] at ht; omega
  rcases h with h | h | h | h | h | h <;> rw [h] at hk <;> simp [ki_f] at hk <;> simp [ou_lv, h, ty_o, hk]
  exact Or.inr ⟨c, hc, hu, h, rfl⟩
theorem ou_uc_lt {P : Nat → Nat → Nat} {c : Nat} (h : ou_uc P c) : c < 720 := by
  have := h.1.1; omega
theorem ty_ev {P : Nat → Nat → Nat} {kc K : Nat → Nat} (hP : pg_ok P) (hK : ty_ok P kc K) : ∀ k c o, ou_ev P k c = some o → ty_o P K c o := by
  intro k
  induction k with
  | zero => intro c o h; simp [ou_ev] at h
  | succ k ih =>
    intro c o h
    have hu := ou_V_us (P := P) (c := c) (o := o) ⟨k + 1, h⟩
    rw [ou_ev1, if_pos hu] at h
    obtain ⟨hKu, hm⟩ := hK.1 _ hu.1
    obtain ⟨ho, _, hcl, hpt⟩ := hP.2.2.2 _ hu.1
    unfold ou_rl at h
    by_cases hl : ou_lf (P 0 (c / 6)) = true
    · rw [if_pos hl] at h
      rw [← Option.some.inj h]
      exact ty_lf (ou_uc_lt hu) hu hl hKu
    · rw [if_neg hl] at h
      obtain ⟨a, ha, hg⟩ := ou_bi h
      have ta := ih _ _ ha
      have d2 := ou_ps_d P 2 c
      have d3 := ou_ps_d P 3 c
      have d4 := ou_ps_d P 4 c
      have tE : ∀ d r, ou_ev P k d = some r → K (d / 6) = K (c / 6) → ty_o P K c r := fun d r hd e => ty_cp (ih d r hd) e
      clear ha h
      generalize hE : ou_ev P k = E at *
      by_cases h6 : P 0 (c / 6) = 6
      · rw [h6] at hKu hm
        simp [ki_f] at hKu
        simp [ki_m] at hm
        by_cases h1 : a.1 = 1
        · simp [ou_md, h6, h1, ou_go] at hg
          subst hg
          exact ty_cp ta (by rw [d2, hKu])
        · simp [ou_md, h6, h1, ou_go] at hg
          exact tE _ _ hg (by rw [d3, hKu, hm])
      · by_cases h1 : ¬ a.1 = 1
        · simp [ou_md, h6, h1, ou_go] at hg
          subst hg
          exact ty_er ta h1
        · have h1 : a.1 = 1 := Classical.not_not.mp h1
          obtain ⟨_, hta, htb, htl⟩ : a.1 = 1 ∧ a.2.1 = K (P 2 (c / 6)) ∧ (a.2.1 = 2 → a.2.2 = 0 ∨ a.2.2 = 1) ∧
              (a.2.1 = 3 → a.2.2 = 0 ∨ ∃ j, j < 720 ∧ ou_uc P j ∧ P 0 (j / 6) = 24 ∧ a.2.2 = lN (j + 1)) := by
            rcases ta with ta | ta
            · rw [d2] at ta; exact ta
            · have := ta.1; omega
          rcases pg_cs ho with t | t | t | t | t | t | t | t | t | t | t | t | t | t | t | t | t
          · exact absurd (by rw [t]; rfl) hl
          · exact absurd (by rw [t]; rfl) hl
          · -- if
            rw [t] at hKu hm
            simp [ki_f] at hKu
            simp [ki_m] at hm
            by_cases hv : a.2.2 = 0
            · simp [ou_md, t, h1, hv, ou_go] at hg
              exact tE _ _ hg (by rw [d4, hKu, hm.2])
            · simp [ou_md, t, h1, hv, ou_go] at hg
              exact tE _ _ hg (by rw [d3, hKu])
          · exact absurd t h6
          · -- hd
            rw [t] at hKu hm
            simp [ki_f] at hKu
            simp [ki_m] at hm
            by_cases hv : a.2.2 = 0
            · simp [ou_md, t, h1, hv, ou_go] at hg
              subst hg
              exact Or.inr ⟨Or.inr (Or.inr rfl), rfl⟩
            · rcases htl (by rw [hta, hm]) with q | ⟨j, hj, hju, hj24, hjv⟩
              · exact absurd q hv
              · have hmj := (hK.1 _ hju.1).2
                rw [hj24] at hmj
                simp [ki_m] at hmj
                simp [ou_md, t, h1, hv, ou_go] at hg
                rw [hjv, ou_jn_e hj] at hg
                exact tE _ _ hg (by rw [ou_ps_d, hKu, hmj.1])
          · -- tl
            rw [t] at hKu hm
            simp [ki_f] at hKu
            simp [ki_m] at hm
            by_cases hv : a.2.2 = 0
            · simp [ou_md, t, h1, hv, ou_go] at hg
              subst hg
              exact Or.inr ⟨Or.inr (Or.inr rfl), rfl⟩
            · rcases htl (by rw [hta, hm]) with q | ⟨j, hj, hju, hj24, hjv⟩
              · exact absurd q hv
              · have hmj := (hK.1 _ hju.1).2
                rw [hj24] at hmj
                simp [ki_m] at hmj
                simp [ou_md, t, h1, hv, ou_go] at hg
                rw [hjv, ou_jn_e hj] at hg
                exact tE _ _ hg (by rw [ou_ps_d, hKu, hmj.2])
          · -- nul
            rw [t] at hKu
            simp [ki_f] at hKu
            by_cases hv : a.2.2 = 0
            · simp [ou_md, t, h1, hv, ou_go] at hg
              subst hg; simp [ty_o, hKu]
            · simp [ou_md, t, h1, hv, ou_go] at hg
              subst hg; simp [ty_o, hKu]
          · exact absurd (by rw [t]; rfl) hl
          · exact absurd (by rw [t]; rfl) hl
          · exact absurd (by rw [t]; rfl) hl
          · -- call
            rw [t] at hKu
            simp [ki_f] at hKu
            obtain ⟨hf, hs⟩ := hcl t
            by_cases hv : a.2.2 < 0 ∨ lN (P 6 0) ≤ a.2.2
            · simp only [ou_md, t, h1, ou_go] at hg
              rw [if_pos hv] at hg
              simp at hg
              subst hg
              exact Or.inr ⟨Or.inr (Or.inl rfl), rfl⟩
            · simp only [ou_md, t, h1, ou_go] at hg
              rw [if_neg hv] at hg
              simp at hg
              have hw := hP.2.1
              obtain ⟨x, hx, _, hxn⟩ := ou_arg (by omega) hv
              rw [hxn] at hg
              exact tE _ _ hg (by rw [ou_cf_d (by omega), hK.2 _ hf hs, hKu])
          · -- two sides
            have hmd : ou_md P c a = (2, ou_ps P 3 c, a) := by
              unfold ou_md
              rw [if_neg (by omega), if_neg (by simp [h1]), if_neg (by omega), if_neg (by omega), if_neg (by omega), if_neg (by omega), if_neg (by omega), if_neg (by omega), if_neg (by omega), if_neg (by omega)]
            rw [hmd] at hg
            simp only [ou_go] at hg
            rw [if_neg (by omega), if_neg (by omega)] at hg
            obtain ⟨b, hb, hr⟩ := ou_bi hg
            by_cases hb1 : b.1 = 1
            · rw [if_pos hb1] at hr
              rw [← Option.some.inj hr]
              refine ty_ar t.1 t.2 ?_
              rw [hKu]
              unfold ki_f
              by_cases h19 : 19 ≤ P 0 (c / 6)
              · rw [if_pos h19, if_neg (by omega), if_neg (by omega), if_neg (by omega), if_neg (by omega), if_pos (by omega)]
              · rw [if_neg h19, if_neg (by omega), if_neg (by omega), if_neg (by omega), if_neg (by omega), if_neg (by omega)]
            · rw [if_neg hb1] at hr
              rw [← Option.some.inj hr]
              exact ty_er (ih _ _ hb) hb1
          · -- and
            rw [t] at hKu hm
            simp [ki_f] at hKu
            simp [ki_m] at hm
            by_cases hv : a.2.2 = 0
            · simp [ou_md, t, h1, hv, ou_go] at hg
              subst hg
              exact ty_cp ta (by rw [d2, hKu, hm.1])
            · simp [ou_md, t, h1, hv, ou_go] at hg
              exact tE _ _ hg (by rw [d3, hKu, hm.2])
          · -- or
            rw [t] at hKu hm
            simp [ki_f] at hKu
            simp [ki_m] at hm
            by_cases hv : a.2.2 = 0
            · simp [ou_md, t, h1, hv, ou_go] at hg
              exact tE _ _ hg (by rw [d3, hKu, hm.2])
            · simp [ou_md, t, h1, hv, ou_go] at hg
              subst hg
              exact ty_cp ta (by rw [d2, hKu, hm.1])
          · -- not
            rw [t] at hKu
            simp [ki_f] at hKu
            by_cases hv : a.2.2 = 0
            · simp [ou_md, t, h1, hv, ou_go] at hg
              subst hg; simp [ty_o, hKu]
            · simp [ou_md, t, h1, hv, ou_go] at hg
              subst hg; simp [ty_o, hKu]
          · exact absurd (by rw [t]; rfl) hl
          · -- neg
            rw [t] at hKu
            simp [ki_f] at hKu
            simp [ou_md, t, h1, ou_go] at hg
            subst hg; simp [ty_o, hKu]
end
section
-- KINDS of nodes, choices, what unload leaves, counting
def ki_n (P : Nat → Nat → Nat) (kc : Nat → Nat) : Nat → Nat → Nat
  | 0 => fun _ => 0
  | n + 1 => fun u => ki_f (P 0 u) (kc (P 1 u)) (ki_n P kc n (P 2 u)) (ki_n P kc n (P 3 u))
def ki_k (P : Nat → Nat → Nat) (kc : Nat → Nat) (u : Nat) : Nat := ki_n P kc (u + 1) u
theorem ki_fc {t x a b a2 b2 : Nat} (h6 : t = 6 → a = a2) (h3 : t = 3 → b = b2) : ki_f t x a b = ki_f t x a2 b2 := by
  by_cases e3 : t = 3
  · subst e3; simp [ki_f, h3 rfl]
  · by_cases e6 : t = 6
    · subst e6; simp [ki_f, h6 rfl]
    · simp [ki_f, e3, e6]
def ki_cl (P : Nat → Nat → Nat) (S : Nat → Prop) : Prop := ∀ u, S u → ∀ j, j < pg_n (P 0 u) → P (2 + j) u < u ∧ S (P (2 + j) u)
theorem ki_p2 {P : Nat → Nat → Nat} {S : Nat → Prop} (h : ki_cl P S) {u : Nat} (hu : S u) (hn : 0 < pg_n (P 0 u)) : P 2 u < u ∧ S (P 2 u) := h u hu 0 hn
theorem ki_p3 {P : Nat → Nat → Nat} {S : Nat → Prop} (h : ki_cl P S) {u : Nat} (hu : S u) (hn : 1 < pg_n (P 0 u)) : P 3 u < u ∧ S (P 3 u) := h u hu 1 hn
theorem ki_p4 {P : Nat → Nat → Nat} {S : Nat → Prop} (h : ki_cl P S) {u : Nat} (hu : S u) (hn : 2 < pg_n (P 0 u)) : P 4 u < u ∧ S (P 4 u) := h u hu 2 hn
theorem ki_st {P : Nat → Nat → Nat} {kc : Nat → Nat} {S : Nat → Prop} (h : ki_cl P S) : ∀ u, S u → ∀ n m, u < n → u < m → ki_n P kc n u = ki_n P kc m u := by
  intro u
  induction u using Nat.strongRecOn with
  | ind u ih =>
    intro hu n m hn hm
    obtain ⟨n, rfl⟩ : ∃ k, n = k + 1 := ⟨n - 1, by omega⟩
    obtain ⟨m, rfl⟩ : ∃ k, m = k + 1 := ⟨m - 1, by omega⟩
    show ki_f _ _ _ _ = ki_f _ _ _ _
    apply ki_fc
    · intro h6
      have hp := ki_p2 h hu (by rw [h6]; decide)
      exact ih _ hp.1 hp.2 _ _ (by omega) (by omega)
    · intro h3
      have hp := ki_p3 h hu (by rw [h3]; decide)
      exact ih _ hp.1 hp.2 _ _ (by omega) (by omega)
theorem ki_e {P : Nat → Nat → Nat} {kc : Nat → Nat} {S : Nat → Prop} (h : ki_cl P S) {u : Nat} (hu : S u) : ki_k P kc u = ki_f (P 0 u) (kc (P 1 u)) (ki_k P kc (P 2 u)) (ki_k P kc (P 3 u)) := by
  show ki_f _ _ _ _ = ki_f _ _ _ _
  apply ki_fc
  · intro h6
    have hp := ki_p2 h hu (by rw [h6]; decide)
    exact ki_st h _ hp.2 _ _ (by omega) (by omega)
  · intro h3
    have hp := ki_p3 h hu (by rw [h3]; decide)
    exact ki_st h _ hp.2 _ _ (by omega) (by omega)
theorem ki_u {P : Nat → Nat → Nat} {kc : Nat → Nat} {S : Nat → Prop} (h : ki_cl P S) {K : Nat → Nat} : ∀ u, S u → (∀ v, v ≤ u → S v → K v = ki_f (P 0 v) (kc (P 1 v)) (K (P 2 v)) (K (P 3 v))) → K u = ki_k P kc u := by
  intro u
  induction u using Nat.strongRecOn with
  | ind u ih =>
    intro hu hK
    rw [hK u (Nat.le_refl _) hu, ki_e h hu]
    apply ki_fc
    · intro h6
      have hp := ki_p2 h hu (by rw [h6]; decide)
      exact ih _ hp.1 hp.2 (fun v hv => hK v (by omega))
    · intro h3
      have hp := ki_p3 h hu (by rw [h3]; decide)
      exact ih _ hp.1 hp.2 (fun v hv => hK v (by omega))
theorem ki_ag {P Q : Nat → Nat → Nat} {kc : Nat → Nat} {S : Nat → Prop} (h : ki_cl P S) (g : ki_cl Q S) (e : ∀ u, S u → P 0 u = Q 0 u ∧ P 1 u = Q 1 u ∧ (0 < pg_n (P 0 u) → P 2 u = Q 2 u) ∧ (1 < pg_n (P 0 u) → P 3 u = Q 3 u)) : ∀ u, S u → ki_k P kc u = ki_k Q kc u := by
  intro u
  induction u using Nat.strongRecOn with
  | ind u ih =>
    intro hu
    obtain ⟨e0, e1, e2, e3⟩ := e u hu
    rw [ki_e h hu, ki_e g hu, ← e0, ← e1]
    apply ki_fc
    · intro h6
      have hn : 0 < pg_n (P 0 u) := by rw [h6]; decide
      have hp := ki_p2 h hu hn
      rw [← e2 hn]; exact ih _ hp.1 hp.2
    · intro h3
      have hn : 1 < pg_n (P 0 u) := by rw [h3]; decide
      have hp := ki_p3 h hu hn
      rw [← e3 hn]; exact ih _ hp.1 hp.2
theorem pg_cl {P : Nat → Nat → Nat} (hP : pg_ok P) : ki_cl P (fun u => ou_us P u) := by
  intro u hu j hj
  obtain ⟨_, _, _, h⟩ := hP.2.2.2 u hu
  exact ⟨(h j hj).1, pg_pu hu (h j hj).1 (h j hj).2⟩
def ki_ok (P : Nat → Nat → Nat) (kc : Nat → Nat) : Prop :=
  (∀ u, ou_us P u → ki_m (P 0 u) (ki_k P kc (P 2 u)) (ki_k P kc (P 3 u)) (ki_k P kc (P 4 u))) ∧
  (∀ f, f < 5 → 0 < P 5 f → ki_k P kc (f * 24 + P 5 f - 1) = kc f)
theorem ki_ty {P : Nat → Nat → Nat} {kc : Nat → Nat} (hP : pg_ok P) (h : ki_ok P kc) : ty_ok P kc (ki_k P kc) :=
  ⟨fun u hu => ⟨ki_e (pg_cl hP) hu, h.1 u hu⟩, h.2⟩
-- choices
def ki_c (c f : Nat) : Nat := c / 3 ^ f % 3 + 1
theorem ki_c_r (c f : Nat) : 1 ≤ ki_c c f ∧ ki_c c f ≤ 3 := by
  unfold ki_c; omega
def ki_r (V : Nat → Prop) (n f r : Nat) : Prop :=
  (r = 0 ∧ ∀ c, c < n → ¬ V c) ∨
  (∃ c, c < n ∧ V c ∧ ki_c c f = r ∧ ∀ d, d < n → V d → ki_c d f = r) ∨
  (r = 1 ∧ ∃ c, c < n ∧ V c ∧ ∃ d, d < n ∧ V d ∧ ki_c c f ≠ ki_c d f)
theorem ki_r_u {V : Nat → Prop} {n f r s : Nat} (h : ki_r V n f r) (g : ki_r V n f s) : r = s := by
  rcases h with ⟨h, h2⟩ | ⟨c, hc, vc, ec, ac⟩ | ⟨h, c, hc, vc, d, hd, vd, ne⟩ <;>
  rcases g with ⟨g, g2⟩ | ⟨c2, hc2, vc2, ec2, ac2⟩ | ⟨g, c2, hc2, vc2, d2, hd2, vd2, ne2⟩
  · rw [h, g]
  · exact absurd vc2 (h2 _ hc2)
  · exact absurd vc2 (h2 _ hc2)
  · exact absurd vc (g2 _ hc)
  · rw [← ec2]; exact (ac _ hc2 vc2).symm
  · exact absurd (by rw [ac _ hc2 vc2, ac _ hd2 vd2]) ne2
  · exact absurd vc (g2 _ hc)
  · exact absurd (by rw [ac2 _ hc vc, ac2 _ hd vd]) ne
  · rw [h, g]
theorem ki_r_0 (V : Nat → Prop) (f : Nat) : ki_r V 0 f 0 := Or.inl ⟨rfl, fun c h => absurd h (Nat.not_lt_zero c)⟩
theorem ki_r_n {V : Nat → Prop} {n f r : Nat} (h : ki_r V n f r) (hv : ¬ V n) : ki_r V (n + 1) f r := by
  rcases h with ⟨h, h2⟩ | ⟨c, hc, vc, ec, ac⟩ | ⟨h, c, hc, vc, d, hd, vd, ne⟩
  · refine Or.inl ⟨h, fun c hc => ?_⟩
    by_cases e : c = n
    · rw [e]; exact hv
    · exact h2 c (by omega)
  · refine Or.inr (Or.inl ⟨c, by omega, vc, ec, fun d hd vd => ?_⟩)
    by_cases e : d = n
    · rw [e] at vd; exact absurd vd hv
    · exact ac d (by omega) vd
  · exact Or.inr (Or.inr ⟨h, c, by omega, vc, d, by omega, vd, ne⟩)
theorem ki_r_y {V : Nat → Prop} {n f r : Nat} (h : ki_r V n f r) (hv : V n) : ki_r V (n + 1) f (if r = 0 ∨ r = ki_c n f then ki_c n f else 1) := by
  have hcn := ki_c_r n f
  rcases h with ⟨h, h2⟩ | ⟨c, hc, vc, ec, ac⟩ | ⟨h, c, hc, vc, d, hd, vd, ne⟩
  · rw [if_pos (Or.inl h)]
    refine Or.inr (Or.inl ⟨n, by omega, hv, rfl, fun d hd vd => ?_⟩)
    by_cases e : d = n
    · rw [e]
    · exact absurd vd (h2 d (by omega))
  · have hcc := ki_c_r c f
    by_cases e : r = ki_c n f
    · rw [if_pos (Or.inr e)]
      refine Or.inr (Or.inl ⟨n, by omega, hv, rfl, fun d hd vd => ?_⟩)
      by_cases e2 : d = n
      · rw [e2]
      · rw [← e]; exact ac d (by omega) vd
    · rw [if_neg (by omega)]
      exact Or.inr (Or.inr ⟨rfl, c, by omega, vc, n, by omega, hv, by omega⟩)
  · have : (if r = 0 ∨ r = ki_c n f then ki_c n f else 1) = 1 := by
      split
      · omega
      · rfl
    rw [this]
    exact Or.inr (Or.inr ⟨rfl, c, by omega, vc, d, by omega, vd, ne⟩)
-- counting
def ct_n (p : Nat → Bool) : Nat → Nat
  | 0 => 0
  | n + 1 => ct_n p n + (if p n = true then 1 else 0)
theorem ct_le (p : Nat → Bool) (n : Nat) : ct_n p n ≤ n := by
  induction n with
  | zero => exact Nat.le_refl _
  | succ n ih => simp only [ct_n]; split <;> omega
theorem ct_mono {p q : Nat → Bool} (n : Nat) (h : ∀ i, i < n → p i = true → q i = true) : ct_n p n ≤ ct_n q n := by
  induction n with
  | zero => exact Nat.le_refl _
  | succ n ih =>
    have := ih (fun i hi => h i (by omega))
    simp only [ct_n]
    by_cases hp : p n = true
    · rw [if_pos hp, if_pos (h n (by omega) hp)]; omega
    · rw [if_neg hp]; split <;> omega
theorem ct_lt {p q : Nat → Bool} (n : Nat) (h : ∀ i, i < n → p i = true → q i = true) {j : Nat} (hj : j < n) (hp : p j = false) (hq : q j = true) : ct_n p n < ct_n q n := by
  induction n with
  | zero => omega
  | succ n ih =>
    simp only [ct_n]
    by_cases e : j = n
    · subst e
      have := ct_mono j (fun i hi => h i (by omega))
      rw [if_pos hq, if_neg (by rw [hp]; decide)]; omega
    · have := ih (fun i hi => h i (by omega)) (by omega)
      by_cases hp : p n = true
      · rw [if_pos hp, if_pos (h n (by omega) hp)]; omega
      · rw [if_neg hp]; split <;> omega
theorem ct_0 {p : Nat → Bool} {n : Nat} (h : ct_n p n = 0) : ∀ i, i < n → p i = false := by
  induction n with
  | zero => intro i hi; omega
  | succ n ih =>
    simp only [ct_n] at h
    intro i hi
    by_cases e : i = n
    · subst e
      cases hp : p i with
      | false => rfl
      | true => rw [if_pos hp] at h; omega
    · exact ih (by omega) i (by omega)
end
section
-- where a rule looks, and what unload leaves
theorem ou_md_in {P : Nat → Nat → Nat} {kc K : Nat → Nat} {S : Nat → Prop} {c : Nat} {a : ou_O} (hP : pg_ok P) (hK : ty_ok P kc K)
    (hS : ∀ u, ou_us P u → S u → (∀ j, j < pg_n (P 0 u) → S (P (2 + j) u)) ∧ (P 0 u = 13 → S (P 1 u * 24 + P 5 (P 1 u) - 1)))
    (hu : ou_uc P c) (hs : S (c / 6)) (hl : ¬ ou_lf (P 0 (c / 6)) = true) (ta : ty_o P K (ou_ps P 2 c) a)
    (la : ∀ j, j < 720 → a.1 = 1 → a.2.1 = 3 → a.2.2 = lN (j + 1) → S (j / 6)) :
    ((ou_md P c a).1 = 0 ∧ ((ou_md P c a).2.2 = a ∨ (ou_md P c a).2.2.2.1 ≠ 3)) ∨
    ((ou_md P c a).1 ≠ 0 ∧ ou_uc P (ou_md P c a).2.1 ∧ S ((ou_md P c a).2.1 / 6)) := by
  obtain ⟨hKu, hm⟩ := hK.1 _ hu.1
  obtain ⟨ho, _, hcl, hpt⟩ := hP.2.2.2 _ hu.1
  have hw := hP.2.1
  have hSu := hS _ hu.1 hs
  have use : ∀ k j d, k = 2 + j → ou_uc P d → S (d / 6) → j < pg_n (P 0 (d / 6)) → ou_uc P (ou_ps P k d) ∧ S (ou_ps P k d / 6) := by
    intro k j d hk hd sd hj
    obtain ⟨_, _, _, hp⟩ := hP.2.2.2 _ hd.1
    rw [ou_uc, ou_ps_d, ou_ps_m, hk]
    exact ⟨⟨pg_pu hd.1 (hp j hj).1 (hp j hj).2, hd.2⟩, (hS _ hd.1 sd).1 j hj⟩
  have one : ∀ m : Nat × Nat × ou_O, ou_md P c a = m → m.1 ≠ 0 → ou_uc P m.2.1 ∧ S (m.2.1 / 6) → ((ou_md P c a).1 = 0 ∧ ((ou_md P c a).2.2 = a ∨ (ou_md P c a).2.2.2.1 ≠ 3)) ∨ ((ou_md P c a).1 ≠ 0 ∧ ou_uc P (ou_md P c a).2.1 ∧ S ((ou_md P c a).2.1 / 6)) := by
    intro m e h1 h2; rw [e]; exact Or.inr ⟨h1, h2⟩
  have zer : ∀ m : Nat × Nat × ou_O, ou_md P c a = m → m.1 = 0 → (m.2.2 = a ∨ m.2.2.2.1 ≠ 3) → ((ou_md P c a).1 = 0 ∧ ((ou_md P c a).2.2 = a ∨ (ou_md P c a).2.2.2.1 ≠ 3)) ∨ ((ou_md P c a).1 ≠ 0 ∧ ou_uc P (ou_md P c a).2.1 ∧ S ((ou_md P c a).2.1 / 6)) := by
    intro m e h1 h2; rw [e]; exact Or.inl ⟨h1, h2⟩
  by_cases h6 : P 0 (c / 6) = 6
  · by_cases h1 : a.1 = 1
    · exact zer (0, 0, a) (by simp [ou_md, h6, h1]) rfl (Or.inl rfl)
    · exact one (1, ou_ps P 3 c, a) (by simp [ou_md, h6, h1]) (by simp) (use 3 1 c rfl hu hs (by rw [h6]; decide))
  · by_cases h1 : ¬ a.1 = 1
    · exact zer (0, 0, a) (by simp [ou_md, h6, h1]) rfl (Or.inl rfl)
    · have h1 : a.1 = 1 := Classical.not_not.mp h1
      obtain ⟨_, hta, htb, htl⟩ : a.1 = 1 ∧ a.2.1 = K (P 2 (c / 6)) ∧ (a.2.1 = 2 → a.2.2 = 0 ∨ a.2.2 = 1) ∧
          (a.2.1 = 3 → a.2.2 = 0 ∨ ∃ j, j < 720 ∧ ou_uc P j ∧ P 0 (j / 6) = 24 ∧ a.2.2 = lN (j + 1)) := by
        rcases ta with ta | ta
        · rw [ou_ps_d] at ta; exact ta
        · have := ta.1; omega
      rcases pg_cs ho with t | t | t | t | t | t | t | t | t | t | t | t | t | t | t | t | t
      · exact absurd (by rw [t]; rfl) hl
      · exact absurd (by rw [t]; rfl) hl
      · by_cases hv : a.2.2 = 0
        · exact one (1, ou_ps P 4 c, a) (by simp [ou_md, t, h1, hv]) (by simp) (use 4 2 c rfl hu hs (by rw [t]; decide))
        · exact one (1, ou_ps P 3 c, a) (by simp [ou_md, t, h1, hv]) (by simp) (use 3 1 c rfl hu hs (by rw [t]; decide))
      · exact absurd t h6
      · by_cases hv : a.2.2 = 0
        · exact zer (0, 0, (5, 0, 0)) (by simp [ou_md, t, h1, hv]) rfl (Or.inr (by simp))
        · rw [t] at hm
          simp [ki_m] at hm
          rcases htl (by rw [hta, hm]) with q | ⟨j, hj, hju, hj24, hjv⟩
          · exact absurd q hv
          · exact one (1, ou_ps P 2 j, a) (by simp [ou_md, t, h1, hv]; rw [hjv, ou_jn_e hj]) (by simp) (use 2 0 j rfl hju (la j hj h1 (by rw [hta, hm]) hjv) (by rw [hj24]; decide))
      · by_cases hv : a.2.2 = 0
        · exact zer (0, 0, (5, 0, 0)) (by simp [ou_md, t, h1, hv]) rfl (Or.inr (by simp))
        · rw [t] at hm
          simp [ki_m] at hm
          rcases htl (by rw [hta, hm]) with q | ⟨j, hj, hju, hj24, hjv⟩
          · exact absurd q hv
          · exact one (1, ou_ps P 3 j, a) (by simp [ou_md, t, h1, hv]; rw [hjv, ou_jn_e hj]) (by simp) (use 3 1 j rfl hju (la j hj h1 (by rw [hta, hm]) hjv) (by rw [hj24]; decide))
      · exact zer (0, 0, (1, 2, if a.2.2 = 0 then 1 else 0)) (by simp [ou_md, t, h1]) rfl (Or.inr (by simp))
      · exact absurd (by rw [t]; rfl) hl
      · exact absurd (by rw [t]; rfl) hl
      · exact absurd (by rw [t]; rfl) hl
      · by_cases hv : a.2.2 < 0 ∨ lN (P 6 0) ≤ a.2.2
        · exact zer (0, 0, (4, 0, 0)) (by unfold ou_md; simp only [t, h1]; rw [if_pos hv]; simp) rfl (Or.inr (by simp))
        · obtain ⟨x, hx, _, hxn⟩ := ou_arg (by omega) hv
          obtain ⟨hf, hsz⟩ := hcl t
          refine one (1, ou_cf P (P 1 (c / 6)) x, a) (by unfold ou_md; simp only [t, h1]; rw [if_neg hv, hxn]; simp) (by simp) ?_
          dsimp only
          rw [ou_uc, ou_cf_d (by omega), ou_cf_m (by omega)]
          exact ⟨⟨pg_ru hP hf hsz, hx⟩, hSu.2 t⟩
      · refine one (2, ou_ps P 3 c, a) ?_ (by simp) (use 3 1 c rfl hu hs ?_)
        · unfold ou_md
          rw [if_neg (by omega), if_neg (by simp [h1]), if_neg (by omega), if_neg (by omega), if_neg (by omega), if_neg (by omega), if_neg (by omega), if_neg (by omega), if_neg (by omega), if_neg (by omega)]
        · unfold pg_n
          rw [if_neg (by omega), if_neg (by omega), if_neg (by omega)]; decide
      · by_cases hv : a.2.2 = 0
        · exact zer (0, 0, a) (by simp [ou_md, t, h1, hv]) rfl (Or.inl rfl)
        · exact one (1, ou_ps P 3 c, a) (by simp [ou_md, t, h1, hv]) (by simp) (use 3 1 c rfl hu hs (by rw [t]; decide))
      · by_cases hv : a.2.2 = 0
        · exact one (1, ou_ps P 3 c, a) (by simp [ou_md, t, h1, hv]) (by simp) (use 3 1 c rfl hu hs (by rw [t]; decide))
        · exact zer (0, 0, a) (by simp [ou_md, t, h1, hv]) rfl (Or.inl rfl)
      · exact zer (0, 0, (1, 2, if a.2.2 = 0 then 1 else 0)) (by simp [ou_md, t, h1]) rfl (Or.inr (by simp))
      · exact absurd (by rw [t]; rfl) hl
      · exact zer (0, 0, (1, 1, -a.2.2)) (by simp [ou_md, t, h1]) rfl (Or.inr (by simp))
-- unload
def un_P (P : Nat → Nat → Nat) (f : Nat) : Nat → Nat → Nat := fun k g => if k = 5 ∧ g = f then 0 else P k g
theorem un_k {P : Nat → Nat → Nat} {f k : Nat} (h : k ≠ 5) : un_P P f k = P k := by
  funext g; unfold un_P; rw [if_neg (fun q => h q.1)]
theorem un_o {P : Nat → Nat → Nat} {f g : Nat} (h : g ≠ f) : un_P P f 5 g = P 5 g := by
  unfold un_P; rw [if_neg (fun q => h q.2)]
theorem un_f {P : Nat → Nat → Nat} {f : Nat} : un_P P f 5 f = 0 := by
  unfold un_P; rw [if_pos ⟨rfl, rfl⟩]
theorem un_us {P : Nat → Nat → Nat} {f u : Nat} : ou_us (un_P P f) u ↔ ou_us P u ∧ u / 24 ≠ f := by
  constructor
  · intro h
    by_cases e : u / 24 = f
    · have := h.2; rw [e, un_f] at this; omega
    · have h2 := h.2; rw [un_o e] at h2; exact ⟨⟨h.1, h2⟩, e⟩
  · intro h; exact ⟨h.1.1, by rw [un_o h.2]; exact h.1.2⟩
theorem un_uc {P : Nat → Nat → Nat} {f c : Nat} : ou_uc (un_P P f) c ↔ ou_uc P c ∧ c / 6 / 24 ≠ f := by
  unfold ou_uc; rw [un_us, un_k (by decide)]
  constructor
  · intro h; exact ⟨⟨h.1.1, h.2⟩, h.1.2⟩
  · intro h; exact ⟨⟨h.1.1, h.2⟩, h.1.2⟩
theorem un_ps {P : Nat → Nat → Nat} {f k c : Nat} (h : k ≠ 5) : ou_ps (un_P P f) k c = ou_ps P k c := by
  unfold ou_ps; rw [un_k h]
theorem un_md {P : Nat → Nat → Nat} {f c : Nat} {a : ou_O} (h : P 0 (c / 6) = 13 → P 1 (c / 6) ≠ f) : ou_md (un_P P f) c a = ou_md P c a := by
  unfold ou_md
  rw [un_k (f := f) (k := 0) (by decide), un_k (f := f) (k := 1) (by decide), un_k (f := f) (k := 6) (by decide), un_ps (by decide), un_ps (by decide), un_ps (by decide), un_ps (by decide)]
  by_cases h13 : P 0 (c / 6) = 13
  · have e : ∀ x, ou_cf (un_P P f) (P 1 (c / 6)) x = ou_cf P (P 1 (c / 6)) x := by
      intro x; unfold ou_cf; rw [un_o (h h13)]
    rw [e]
  · simp only [if_neg h13]
theorem un_lv {P : Nat → Nat → Nat} {f c : Nat} : ou_lv (un_P P f) c = ou_lv P c := by
  unfold ou_lv; rw [un_k (f := f) (k := 0) (by decide), un_k (f := f) (k := 1) (by decide)]
theorem un_ev {P : Nat → Nat → Nat} {kc K : Nat → Nat} {f : Nat} (hP : pg_ok P) (hK : ty_ok P kc K)
    (hc : ∀ u, ou_us P u → u / 24 ≠ f → P 0 u = 13 → P 1 u ≠ f) :
    ∀ k c, c / 6 / 24 ≠ f → ou_ev (un_P P f) k c = ou_ev P k c ∧
      (∀ o, ou_ev P k c = some o → ∀ j, j < 720 → o.1 = 1 → o.2.1 = 3 → o.2.2 = lN (j + 1) → j / 6 / 24 ≠ f) := by
  intro k
  induction k with
  | zero => intro c _; exact ⟨rfl, fun o h => by simp [ou_ev] at h⟩
  | succ k ih =>
    intro c hcf
    by_cases hu : ou_uc P c
    · have hS : ∀ u, ou_us P u → u / 24 ≠ f → (∀ j, j < pg_n (P 0 u) → P (2 + j) u / 24 ≠ f) ∧ (P 0 u = 13 → (P 1 u * 24 + P 5 (P 1 u) - 1) / 24 ≠ f) := by
        intro u hu2 hf
        obtain ⟨_, _, hcl, hpt⟩ := hP.2.2.2 _ hu2
        refine ⟨fun j hj => by rw [(hpt j hj).2]; exact hf, fun h13 => ?_⟩
        have h1 := hc u hu2 hf h13
        have h2 := hcl h13
        have h3 := hP.2.2.1 (P 1 u)
        omega
      have hu' : ou_uc (un_P P f) c := un_uc.mpr ⟨hu, hcf⟩
      rw [ou_ev1, ou_ev1, if_pos hu, if_pos hu']
      unfold ou_rl
      rw [un_k (f := f) (k := 0) (by decide)]
      by_cases hl : ou_lf (P 0 (c / 6)) = true
      · rw [if_pos hl, if_pos hl, un_lv]
        refine ⟨rfl, fun o ho j hj h1 h3 hv => ?_⟩
        have ho := Option.some.inj ho
        have h : P 0 (c / 6) = 1 ∨ P 0 (c / 6) = 2 ∨ P 0 (c / 6) = 10 ∨ P 0 (c / 6) = 11 ∨ P 0 (c / 6) = 12 ∨ P 0 (c / 6) = 24 := by
          simp [ou_lf] at hl; omega
        subst ho
        have hc7 := ou_uc_lt hu
        rcases h with h | h | h | h | h | h <;> simp [ou_lv, h] at h3 hv
        · have e : lN 0 = lN (j + 1) := hv
          rw [lN_eq (by omega) (by omega)] at e; omega
        · rw [lN_eq (by omega) (by omega)] at hv
          have : c = j := by omega
          rw [← this]; exact hcf
      · rw [if_neg hl, if_neg hl, un_ps (by decide)]
        have hpf : ou_ps P 2 c / 6 / 24 ≠ f := by
          rw [ou_ps_d]
          have hn : 0 < pg_n (P 0 (c / 6)) := by
            have ho := (hP.2.2.2 _ hu.1).1
            unfold pg_n
            split
            · omega
            · split
              · rename_i h; exact absurd (by rcases h with h | h | h | h | h <;> rw [h] <;> rfl) hl
              · split <;> omega
          exact (hS _ hu.1 hcf).1 0 hn
        obtain ⟨ea, la⟩ := ih _ hpf
        rw [ea]
        cases ha : ou_ev P k (ou_ps P 2 c) with
        | none => exact ⟨rfl, fun o ho => by simp at ho⟩
        | some a =>
          have ta := ty_ev hP hK _ _ _ ha
          have lla := la a ha
          simp only [Option.bind_some]
          rw [un_md (hc _ hu.1 hcf)]
          rcases ou_md_in (S := fun u => u / 24 ≠ f) hP hK hS hu hcf hl ta lla with ⟨h0, h00⟩ | ⟨h1, hud, hd⟩
          · unfold ou_go
            rw [if_pos h0, if_pos h0]
            refine ⟨rfl, fun o ho j hj g1 g3 gv => ?_⟩
            have ho := Option.some.inj ho
            rcases h00 with q | q
            · rw [q] at ho; subst ho; exact lla j hj g1 g3 gv
            · rw [ho] at q; exact absurd g3 q
          · obtain ⟨eb, lb⟩ := ih _ hd
            unfold ou_go
            rw [if_neg h1, if_neg h1, eb]
            by_cases hm1 : (ou_md P c a).1 = 1
            · rw [if_pos hm1]
              exact ⟨rfl, lb⟩
            · rw [if_neg hm1]
              refine ⟨rfl, fun o ho j hj g1 g3 gv => ?_⟩
              obtain ⟨b, hb, hr⟩ := ou_bi ho
              by_cases hb1 : b.1 = 1
              · rw [if_pos hb1] at hr
                have hr := Option.some.inj hr
                have : o.2.1 ≠ 3 := by
                  rw [← hr]; unfold ou_ar
                  repeat' split
                  all_goals simp
                exact absurd g3 this
              · rw [if_neg hb1] at hr
                have hr := Option.some.inj hr
                rw [hr] at hb1; exact absurd g1 hb1
    · have hu' : ¬ ou_uc (un_P P f) c := fun q => hu (un_uc.mp q).1
      rw [ou_ev1, ou_ev1, if_neg hu, if_neg hu']
      exact ⟨rfl, fun o h => by simp at h⟩
theorem un_V {P : Nat → Nat → Nat} {kc K : Nat → Nat} {f : Nat} (hP : pg_ok P) (hK : ty_ok P kc K)
    (hc : ∀ u, ou_us P u → u / 24 ≠ f → P 0 u = 13 → P 1 u ≠ f) {c : Nat} (hcf : c / 6 / 24 ≠ f) (o : ou_O) : ou_V (un_P P f) c o ↔ ou_V P c o := by
  constructor
  · intro ⟨k, h⟩; exact ⟨k, by rw [← (un_ev hP hK hc k c hcf).1]; exact h⟩
  · intro ⟨k, h⟩; exact ⟨k, by rw [(un_ev hP hK hc k c hcf).1]; exact h⟩
theorem un_ok {P : Nat → Nat → Nat} {f : Nat} (hP : pg_ok P) (hc : ∀ u, ou_us P u → u / 24 ≠ f → P 0 u = 13 → P 1 u ≠ f) : pg_ok (un_P P f) := by
  refine ⟨?_, ?_, ?_, ?_⟩
  · rw [un_k (by decide)]; exact hP.1
  · rw [un_k (by decide)]; exact hP.2.1
  · intro g
    by_cases e : g = f
    · rw [e, un_f]; omega
    · rw [un_o e]; exact hP.2.2.1 g
  · intro u hu
    obtain ⟨hu, hf⟩ := un_us.mp hu
    obtain ⟨h1, h2, h3, h4⟩ := hP.2.2.2 u hu
    unfold pg_nd
    rw [un_k (f := f) (k := 0) (by decide), un_k (f := f) (k := 1) (by decide)]
    refine ⟨h1, h2, fun q => ?_, fun j hj => ?_⟩
    · rw [un_o (hc u hu hf q)]; exact h3 q
    · have hj3 : j < 3 := by
        have : pg_n (P 0 u) ≤ 3 := by unfold pg_n; repeat' split
                                      all_goals omega
        omega
      rw [un_k (by omega)]; exact h4 j hj
end
section
-- RANGES OF TOKENS: nesting, levels, where a range is cut
def rg_c (g : Nat → Int) : Nat → Int
  | 0 => 0
  | i + 1 => rg_c g i + g i
def rg_d (tk : Nat → Nat) (i : Nat) : Int := if tk i = 26 then 1 else if tk i = 27 then -1 else 0
def rg_t (tk : Nat → Nat) (i : Nat) : Int := if tk i = 3 then 1 else if tk i = 4 then -1 else 0
def rg_e (tk : Nat → Nat) (i : Nat) : Int := if tk i = 3 ∨ tk i = 6 then 1 else if tk i = 5 then -1 else 0
def rg_D (tk : Nat → Nat) (i : Nat) : Int := rg_c (rg_d tk) i
def rg_T (tk : Nat → Nat) (i : Nat) : Int := rg_c (rg_t tk) i
def rg_E (tk : Nat → Nat) (i : Nat) : Int := rg_c (rg_e tk) i
theorem rg_D_o {tk : Nat → Nat} {i : Nat} (h : tk i = 26) : rg_D tk (i + 1) = rg_D tk i + 1 := by
  show rg_c _ i + rg_d tk i = _; unfold rg_d; rw [if_pos h]; rfl
theorem rg_D_c {tk : Nat → Nat} {i : Nat} (h : tk i = 27) : rg_D tk (i + 1) = rg_D tk i - 1 := by
  show rg_c _ i + rg_d tk i = _; unfold rg_d; rw [if_neg (by omega), if_pos h]; rfl
theorem rg_D_n {tk : Nat → Nat} {i : Nat} (h : tk i ≠ 26) (g : tk i ≠ 27) : rg_D tk (i + 1) = rg_D tk i := by
  show rg_c _ i + rg_d tk i = _; unfold rg_d; rw [if_neg h, if_neg g, Int.add_zero]; rfl
theorem rg_T_o {tk : Nat → Nat} {i : Nat} (h : tk i = 3) : rg_T tk (i + 1) = rg_T tk i + 1 := by
  show rg_c _ i + rg_t tk i = _; unfold rg_t; rw [if_pos h]; rfl
theorem rg_T_c {tk : Nat → Nat} {i : Nat} (h : tk i = 4) : rg_T tk (i + 1) = rg_T tk i - 1 := by
  show rg_c _ i + rg_t tk i = _; unfold rg_t; rw [if_neg (by omega), if_pos h]; rfl
theorem rg_T_n {tk : Nat → Nat} {i : Nat} (h : tk i ≠ 3) (g : tk i ≠ 4) : rg_T tk (i + 1) = rg_T tk i := by
  show rg_c _ i + rg_t tk i = _; unfold rg_t; rw [if_neg h, if_neg g, Int.add_zero]; rfl
theorem rg_E_o {tk : Nat → Nat} {i : Nat} (h : tk i = 3 ∨ tk i = 6) : rg_E tk (i + 1) = rg_E tk i + 1 := by
  show rg_c _ i + rg_e tk i = _; unfold rg_e; rw [if_pos h]; rfl
theorem rg_E_c {tk : Nat → Nat} {i : Nat} (h : tk i = 5) : rg_E tk (i + 1) = rg_E tk i - 1 := by
  show rg_c _ i + rg_e tk i = _; unfold rg_e; rw [if_neg (by omega), if_pos h]; rfl
theorem rg_E_n {tk : Nat → Nat} {i : Nat} (h : tk i ≠ 3) (h6 : tk i ≠ 6) (g : tk i ≠ 5) : rg_E tk (i + 1) = rg_E tk i := by
  show rg_c _ i + rg_e tk i = _; unfold rg_e; rw [if_neg (by omega), if_neg g, Int.add_zero]; rfl
def rg_N (C : Nat → Int) (lo hi : Nat) : Prop := C hi = C lo ∧ ∀ i, lo ≤ i → i ≤ hi → C lo ≤ C i
theorem rg_Nc {C : Nat → Int} {a b c : Nat} (h : rg_N C a b) (g : rg_N C b c) : rg_N C a c := by
  refine ⟨by rw [g.1, h.1], fun i h1 h2 => ?_⟩
  by_cases e : i ≤ b
  · exact h.2 i h1 e
  · have := g.2 i (by omega) h2
    have := h.1
    omega
theorem rg_N1 {C : Nat → Int} {a : Nat} (h : C (a + 1) = C a) : rg_N C a (a + 1) := by
  refine ⟨h, fun i h1 h2 => ?_⟩
  have : i = a ∨ i = a + 1 := by omega
  rcases this with e | e
  · rw [e]; exact Int.le_refl _
  · rw [e, h]; exact Int.le_refl _
theorem rg_Nw {C : Nat → Int} {a b : Nat} (h : C (a + 1) = C a + 1) (g : rg_N C (a + 1) b) (e : C (b + 1) = C b - 1) : rg_N C a (b + 1) := by
  have g1 := g.1
  refine ⟨by omega, fun i h1 h2 => ?_⟩
  by_cases e1 : i = a
  · rw [e1]; exact Int.le_refl _
  · by_cases e2 : i = b + 1
    · rw [e2]; omega
    · have := g.2 i (by omega) (by omega)
      omega
abbrev rg_en (b : Nat) : Prop := b = 27 ∨ b = 1 ∨ b = 2 ∨ b = 10 ∨ b = 11 ∨ b = 12
abbrev rg_s (t : Nat) : Prop := t = 1 ∨ t = 2 ∨ t = 10 ∨ t = 11 ∨ t = 12 ∨ t = 15 ∨ t = 23 ∨ t = 26 ∨ t = 7 ∨ t = 8 ∨ t = 9 ∨ t = 13 ∨ t = 3 ∨ t = 6
def rg_w (t b : Nat) : Nat :=
  if t = 24 then 1 else if t = 22 then 2 else if t = 21 then 3 else if t = 19 ∨ t = 20 then 4 else
  if t = 14 ∨ (t = 15 ∧ rg_en b) then 5 else if 16 ≤ t ∧ t ≤ 18 then 6 else 9
theorem rg_ws {t b : Nat} (h : rg_s t) (g : ¬ rg_en b) : rg_w t b = 9 := by
  unfold rg_w
  rw [if_neg (by omega), if_neg (by omega), if_neg (by omega), if_neg (by omega), if_neg (by omega), if_neg (by omega)]
def rg_z (tk : Nat → Nat) (lo i : Nat) : Prop := rg_D tk (i + 1) = rg_D tk lo ∧ tk i ≠ 27
def rg_C (tk : Nat → Nat) (lo hi p W : Nat) : Prop :=
  lo ≤ p ∧ p < hi ∧ (∀ i, lo ≤ i → i ≤ hi → rg_D tk lo ≤ rg_D tk i) ∧ (p = lo → W = 9) ∧
  (p ≠ lo → rg_z tk lo p ∧ rg_w (tk p) (tk (p - 1)) = W ∧ 1 ≤ W ∧ W ≤ 6) ∧
  (∀ i, lo < i → i < p → rg_z tk lo i → W ≤ rg_w (tk i) (tk (i - 1)) ∧ rg_w (tk i) (tk (i - 1)) ≠ 1) ∧
  (∀ i, p < i → i < hi → rg_z tk lo i → W ≠ 1 → (W < rg_w (tk i) (tk (i - 1)) ∨ rg_w (tk i) (tk (i - 1)) = 9) ∧ rg_w (tk i) (tk (i - 1)) ≠ 1)
def rg_L (tk : Nat → Nat) (l lo hi : Nat) : Prop := 2 ≤ l → tk lo ≠ 3 ∧ tk lo ≠ 6 ∧ ∀ i, lo < i → i < hi → rg_z tk lo i → l ≤ rg_w (tk i) (tk (i - 1))
theorem rg_Lm {tk : Nat → Nat} {l m lo hi : Nat} (h : rg_L tk l lo hi) (e : m ≤ l) : rg_L tk m lo hi := by
  intro h2
  obtain ⟨a, b, c⟩ := h (by omega)
  exact ⟨a, b, fun i h1 h2 h3 => Nat.le_trans e (c i h1 h2 h3)⟩
def rg_o (tk : Nat → Nat) (l h : Nat) : Prop :=
  l < h ∧ rg_N (rg_D tk) l h ∧ rg_N (rg_T tk) l h ∧ rg_N (rg_E tk) l h ∧ rg_s (tk l) ∧ rg_en (tk (h - 1))
-- a leaf
theorem rg_leaf {tk : Nat → Nat} {l : Nat} (h : tk l = 1 ∨ tk l = 2 ∨ tk l = 10 ∨ tk l = 11 ∨ tk l = 12) : rg_C tk l (l + 1) l 9 ∧ rg_o tk l (l + 1) ∧ rg_L tk 7 l (l + 1) := by
  have d := rg_D_n (tk := tk) (i := l) (by omega) (by omega)
  have nd := rg_N1 d
  refine ⟨⟨Nat.le_refl _, by omega, nd.2, fun _ => rfl, fun q => absurd rfl q, fun i _ _ => by omega, fun i _ _ => by omega⟩,
    ⟨by omega, nd, rg_N1 (rg_T_n (by omega) (by omega)), rg_N1 (rg_E_n (by omega) (by omega) (by omega)), by omega, ?_⟩, fun _ => ⟨by omega, by omega, fun i _ _ => by omega⟩⟩
  rw [Nat.add_sub_cancel]; omega
-- in brackets
theorem rg_wrap {tk : Nat → Nat} {l h : Nat} (ho : tk l = 26) (hr : rg_o tk (l + 1) h) (hc : tk h = 27) : rg_C tk l (h + 1) l 9 ∧ rg_o tk l (h + 1) ∧ rg_L tk 7 l (h + 1) := by
  obtain ⟨hl, hD, hT, hE, hs, he⟩ := hr
  have d0 := rg_D_o ho
  have d1 := rg_D_c hc
  have nd := rg_Nw d0 hD d1
  have nz : ∀ i, l < i → i < h + 1 → ¬ rg_z tk l i := by
    intro i h1 h2 ⟨z, z2⟩
    by_cases e : i = h
    · rw [e] at z2; exact z2 hc
    · have := hD.2 (i + 1) (by omega) (by omega)
      omega
  refine ⟨⟨Nat.le_refl _, by omega, nd.2, fun _ => rfl, fun q => absurd rfl q, fun i _ _ => by omega, fun i h1 h2 h3 => absurd h3 (nz i h1 h2)⟩,
    ⟨by omega, nd, ?_, ?_, by omega, ?_⟩, fun _ => ⟨by omega, by omega, fun i h1 h2 h3 => absurd h3 (nz i h1 h2)⟩⟩
  · exact rg_Nc (rg_N1 (rg_T_n (by omega) (by omega))) (rg_Nc hT (rg_N1 (rg_T_n (by omega) (by omega))))
  · exact rg_Nc (rg_N1 (rg_E_n (by omega) (by omega) (by omega))) (rg_Nc hE (rg_N1 (rg_E_n (by omega) (by omega) (by omega))))
  · rw [Nat.add_sub_cancel]; omega
-- hd, tl, nul, a call
theorem rg_call {tk : Nat → Nat} {l h : Nat} (ht : tk l = 7 ∨ tk l = 8 ∨ tk l = 9 ∨ tk l = 13) (ho : tk (l + 1) = 26) (hr : rg_o tk (l + 2) h) (hc : tk h = 27) : rg_C tk l (h + 1) l 9 ∧ rg_o tk l (h + 1) ∧ rg_L tk 7 l (h + 1) := by
  obtain ⟨hw1, hw2, hw3⟩ := rg_wrap ho hr hc
  obtain ⟨hl, hD, hT, hE, hs, he⟩ := hw2
  obtain ⟨_, hD0, _, _, _, _⟩ := hr
  have d := rg_D_n (tk := tk) (i := l) (by omega) (by omega)
  have dd := rg_D_o ho
  have nd := rg_Nc (rg_N1 d) hD
  have nz : ∀ i, l < i → i < h + 1 → ¬ rg_z tk l i := by
    intro i h1 h2 ⟨z, z2⟩
    by_cases e : i = h
    · rw [e] at z2; exact z2 hc
    · by_cases e2 : i = l + 1
      · rw [e2] at z; omega
      · have := hD0.2 (i + 1) (by omega) (by omega)
        have e3 : rg_D tk (l + 2) = rg_D tk (l + 1 + 1) := rfl
        omega
  refine ⟨⟨Nat.le_refl _, by omega, nd.2, fun _ => rfl, fun q => absurd rfl q, fun i _ _ => by omega, fun i h1 h2 h3 => absurd h3 (nz i h1 h2)⟩,
    ⟨by omega, nd, ?_, ?_, by omega, he⟩, fun _ => ⟨by omega, by omega, fun i h1 h2 h3 => absurd h3 (nz i h1 h2)⟩⟩
  · exact rg_Nc (rg_N1 (rg_T_n (by omega) (by omega))) hT
  · exact rg_Nc (rg_N1 (rg_E_n (by omega) (by omega) (by omega))) hE
-- a sign before
theorem rg_unary {tk : Nat → Nat} {l h : Nat} (ht : tk l = 15 ∨ tk l = 23) (hr : rg_o tk (l + 1) h) (hL : rg_L tk 7 (l + 1) h) : rg_C tk l h l 9 ∧ rg_o tk l h ∧ rg_L tk 7 l h := by
  obtain ⟨hl, hD, hT, hE, hs, he⟩ := hr
  obtain ⟨_, _, hw⟩ := hL (by omega)
  have d := rg_D_n (tk := tk) (i := l) (by omega) (by omega)
  have nd := rg_Nc (rg_N1 d) hD
  have wz : ∀ i, l < i → i < h → rg_z tk l i → 7 ≤ rg_w (tk i) (tk (i - 1)) := by
    intro i h1 h2 h3
    by_cases e : i = l + 1
    · rw [e, Nat.add_sub_cancel, rg_ws hs (by omega)]; decide
    · exact hw i (by omega) h2 ⟨by rw [h3.1, d], h3.2⟩
  have w9 : ∀ t b, 7 ≤ rg_w t b → rg_w t b = 9 := by
    intro t b
    unfold rg_w
    repeat' split
    all_goals omega
  refine ⟨⟨Nat.le_refl _, by omega, nd.2, fun _ => rfl, fun q => absurd rfl q, fun i _ _ => by omega, fun i h1 h2 h3 _ => ?_⟩,
    ⟨by omega, nd, ?_, ?_, by omega, he⟩, fun _ => ⟨by omega, by omega, wz⟩⟩
  · have := w9 _ _ (wz i h1 h2 h3)
    omega
  · exact rg_Nc (rg_N1 (rg_T_n (by omega) (by omega))) hT
  · exact rg_Nc (rg_N1 (rg_E_n (by omega) (by omega) (by omega))) hE
-- two sides
theorem rg_bin {tk : Nat → Nat} {l p h W : Nat} (ht : 14 ≤ tk p ∧ tk p ≤ 22) (hW : rg_w (tk p) (tk (p - 1)) = W) (h2 : 2 ≤ W) (h6 : W ≤ 6)
    (hl : rg_o tk l p) (hLl : rg_L tk W l p) (hr : rg_o tk (p + 1) h) (hLr : rg_L tk (W + 1) (p + 1) h) : rg_C tk l h p W ∧ rg_o tk l h ∧ rg_L tk W l h := by
  obtain ⟨hl0, hlD, hlT, hlE, hls, hle⟩ := hl
  obtain ⟨hr0, hrD, hrT, hrE, hrs, hre⟩ := hr
  obtain ⟨n3, n6, hlw⟩ := hLl h2
  obtain ⟨_, _, hrw⟩ := hLr (by omega)
  have d := rg_D_n (tk := tk) (i := p) (by omega) (by omega)
  have nd := rg_Nc hlD (rg_Nc (rg_N1 d) hrD)
  have e1 := hlD.1
  have wr : ∀ i, p < i → i < h → rg_z tk l i → W < rg_w (tk i) (tk (i - 1)) := by
    intro i h1 h3 h4
    by_cases e : i = p + 1
    · rw [e, Nat.add_sub_cancel, rg_ws hrs (by omega)]; omega
    · exact hrw i (by omega) h3 ⟨by rw [h4.1, d, e1], h4.2⟩
  refine ⟨⟨by omega, by omega, nd.2, by omega, fun _ => ⟨⟨by omega, by omega⟩, hW, by omega, h6⟩, fun i h1 h3 h4 => ?_, fun i h1 h3 h4 _ => ?_⟩,
    ⟨by omega, nd, ?_, ?_, hls, hre⟩, fun _ => ⟨n3, n6, fun i h1 h3 h4 => ?_⟩⟩
  · have := hlw i h1 h3 h4; omega
  · have := wr i h1 h3 h4; omega
  · exact rg_Nc hlT (rg_Nc (rg_N1 (rg_T_n (by omega) (by omega))) hrT)
  · exact rg_Nc hlE (rg_Nc (rg_N1 (rg_E_n (by omega) (by omega) (by omega))) hrE)
  · by_cases e : i < p
    · exact hlw i h1 e h4
    · by_cases e2 : i = p
      · rw [e2, hW]; omega
      · have := wr i (by omega) h3 h4; omega
theorem rg_cons {tk : Nat → Nat} {l p h : Nat} (ht : tk p = 24) (hl : rg_o tk l p) (hLl : rg_L tk 2 l p) (hr : rg_o tk (p + 1) h) : rg_C tk l h p 1 ∧ rg_o tk l h := by
  obtain ⟨hl0, hlD, hlT, hlE, hls, hle⟩ := hl
  obtain ⟨hr0, hrD, hrT, hrE, hrs, hre⟩ := hr
  obtain ⟨n3, n6, hlw⟩ := hLl (by omega)
  have d := rg_D_n (tk := tk) (i := p) (by omega) (by omega)
  have nd := rg_Nc hlD (rg_Nc (rg_N1 d) hrD)
  have e1 := hlD.1
  refine ⟨⟨by omega, by omega, nd.2, by omega, fun _ => ⟨⟨by omega, by omega⟩, by rw [ht]; rfl, by omega, by omega⟩, fun i h1 h3 h4 => ?_, fun i h1 h3 h4 q => absurd rfl q⟩,
    ⟨by omega, nd, ?_, ?_, hls, hre⟩⟩
  · have := hlw i h1 h3 h4; omega
  · exact rg_Nc hlT (rg_Nc (rg_N1 (rg_T_n (by omega) (by omega))) hrT)
  · exact rg_Nc hlE (rg_Nc (rg_N1 (rg_E_n (by omega) (by omega) (by omega))) hrE)
-- if and try
theorem rg_if {tk : Nat → Nat} {l p q h : Nat} (ht : tk l = 3) (h1 : rg_o tk (l + 1) p) (hp : tk p = 4) (h2 : rg_o tk (p + 1) q) (hq : tk q = 5) (h3 : rg_o tk (q + 1) h) : rg_o tk l h := by
  obtain ⟨a0, aD, aT, aE, as, ae⟩ := h1
  obtain ⟨b0, bD, bT, bE, bs, be⟩ := h2
  obtain ⟨c0, cD, cT, cE, cs, ce⟩ := h3
  refine ⟨by omega, ?_, ?_, ?_, by omega, ce⟩
  · exact rg_Nc (rg_N1 (rg_D_n (by omega) (by omega))) (rg_Nc aD (rg_Nc (rg_N1 (rg_D_n (by omega) (by omega))) (rg_Nc bD (rg_Nc (rg_N1 (rg_D_n (by omega) (by omega))) cD))))
  · exact rg_Nc (rg_Nw (rg_T_o ht) aT (rg_T_c hp)) (rg_Nc bT (rg_Nc (rg_N1 (rg_T_n (by omega) (by omega))) cT))
  · refine rg_Nc (rg_Nw (rg_E_o (Or.inl ht)) (rg_Nc aE (rg_Nc (rg_N1 (rg_E_n (by omega) (by omega) (by omega))) bE)) (rg_E_c hq)) cE
theorem rg_try {tk : Nat → Nat} {l q h : Nat} (ht : tk l = 6) (h2 : rg_o tk (l + 1) q) (hq : tk q = 5) (h3 : rg_o tk (q + 1) h) : rg_o tk l h := by
  obtain ⟨b0, bD, bT, bE, bs, be⟩ := h2
  obtain ⟨c0, cD, cT, cE, cs, ce⟩ := h3
  refine ⟨by omega, ?_, ?_, ?_, by omega, ce⟩
  · exact rg_Nc (rg_N1 (rg_D_n (by omega) (by omega))) (rg_Nc bD (rg_Nc (rg_N1 (rg_D_n (by omega) (by omega))) cD))
  · exact rg_Nc (rg_N1 (rg_T_n (by omega) (by omega))) (rg_Nc bT (rg_Nc (rg_N1 (rg_T_n (by omega) (by omega))) cT))
  · exact rg_Nc (rg_Nw (rg_E_o (Or.inr ht)) bE (rg_E_c hq)) cE
end
section
-- NODES of the text as ranges: Q 0 op, Q 1 number, Q 2 .. Q 4 parts, Q 7, Q 8 the range without brackets, Q 9 the token, Q 10 the first node below, Q 11 depth
def nd_W (tk : Nat → Nat) (Q : Nat → Nat → Nat) (l h u : Nat) : Prop :=
  ∃ b, Q 7 u = l + b ∧ h = Q 8 u + b ∧ ∀ i, i < b → tk (l + i) = 26 ∧ tk (h - 1 - i) = 27 ∧ rg_C tk (l + i) (h - i) (l + i) 9
def nd_k (tk : Nat → Nat) (Q : Nat → Nat → Nat) (t l h p a b c : Nat) : Prop :=
  ((t = 1 ∨ t = 2 ∨ t = 10 ∨ t = 11 ∨ t = 12) ∧ tk p = t ∧ p = l ∧ h = l + 1) ∨
  (((14 ≤ t ∧ t ≤ 22) ∨ t = 24) ∧ tk p = t ∧ l < p ∧ p < h ∧ tk l ≠ 3 ∧ tk l ≠ 6 ∧ (∃ W, rg_C tk l h p W) ∧ nd_W tk Q l p a ∧ nd_W tk Q (p + 1) h b) ∨
  (((t = 28 ∧ tk p = 15) ∨ (t = 23 ∧ tk p = 23)) ∧ p = l ∧ rg_C tk l h l 9 ∧ nd_W tk Q (l + 1) h a) ∨
  ((t = 7 ∨ t = 8 ∨ t = 9 ∨ t = 13) ∧ tk p = t ∧ p = l ∧ rg_C tk l h l 9 ∧ l + 3 < h ∧ tk (l + 1) = 26 ∧ tk (h - 1) = 27 ∧ nd_W tk Q (l + 2) (h - 1) a) ∨
  (t = 3 ∧ tk p = 3 ∧ p = l ∧ ∃ p1 p2, l < p1 ∧ p1 < p2 ∧ p2 < h ∧ tk p1 = 4 ∧ rg_N (rg_T tk) (l + 1) p1 ∧ tk p2 = 5 ∧ rg_N (rg_E tk) (p1 + 1) p2 ∧ nd_W tk Q (l + 1) p1 a ∧ nd_W tk Q (p1 + 1) p2 b ∧ nd_W tk Q (p2 + 1) h c) ∨
  (t = 6 ∧ tk p = 6 ∧ p = l ∧ ∃ p2, l < p2 ∧ p2 < h ∧ tk p2 = 5 ∧ rg_N (rg_E tk) (l + 1) p2 ∧ nd_W tk Q (l + 1) p2 a ∧ nd_W tk Q (p2 + 1) h b)
def nd_m (a b : Nat) : Nat := if a < b then b else a
def nd_t (Q : Nat → Nat → Nat) (u : Nat) : Prop :=
  (pg_n (Q 0 u) = 0 → Q 10 u = u ∧ Q 11 u = 1) ∧
  (pg_n (Q 0 u) = 1 → Q 2 u + 1 = u ∧ Q 10 u = Q 10 (Q 2 u) ∧ Q 11 u = nd_m 0 (Q 11 (Q 2 u)) + 1) ∧
  (pg_n (Q 0 u) = 2 → Q 3 u + 1 = u ∧ Q 2 u + 1 = Q 10 (Q 3 u) ∧ Q 10 u = Q 10 (Q 2 u) ∧ Q 11 u = nd_m (nd_m 0 (Q 11 (Q 2 u))) (Q 11 (Q 3 u)) + 1) ∧
  (pg_n (Q 0 u) = 3 → Q 4 u + 1 = u ∧ Q 3 u + 1 = Q 10 (Q 4 u) ∧ Q 2 u + 1 = Q 10 (Q 3 u) ∧ Q 10 u = Q 10 (Q 2 u) ∧ Q 11 u = nd_m (nd_m (nd_m 0 (Q 11 (Q 2 u))) (Q 11 (Q 3 u))) (Q 11 (Q 4 u)) + 1)
def nd_ok (tk tn : Nat → Nat) (Q : Nat → Nat → Nat) (u : Nat) : Prop :=
  nd_k tk Q (Q 0 u) (Q 7 u) (Q 8 u) (Q 9 u) (Q 2 u) (Q 3 u) (Q 4 u) ∧ nd_t Q u ∧ Q 1 u = tn (Q 9 u) ∧ Q 10 u ≤ u ∧
  (0 < pg_n (Q 0 u) → Q 2 u < u ∧ Q 10 (Q 2 u) ≤ Q 2 u) ∧ (1 < pg_n (Q 0 u) → Q 3 u < u ∧ Q 10 (Q 3 u) ≤ Q 3 u) ∧ (2 < pg_n (Q 0 u) → Q 4 u < u ∧ Q 10 (Q 4 u) ≤ Q 4 u) ∧
  (pg_n (Q 0 u) ≤ 0 → Q 2 u = u) ∧ (pg_n (Q 0 u) ≤ 1 → Q 3 u = u) ∧ (pg_n (Q 0 u) ≤ 2 → Q 4 u = u)
theorem nd_n0 {t : Nat} (h : t = 1 ∨ t = 2 ∨ t = 10 ∨ t = 11 ∨ t = 12) : pg_n t = 0 := by
  unfold pg_n; rw [if_neg (by omega), if_pos h]
theorem nd_n1 {t : Nat} (h : t = 7 ∨ t = 8 ∨ t = 9 ∨ t = 13 ∨ t = 23 ∨ t = 28) : pg_n t = 1 := by
  unfold pg_n; rw [if_neg (by omega), if_neg (by omega), if_pos h]
theorem nd_n2 {t : Nat} (h : (14 ≤ t ∧ t ≤ 22) ∨ t = 24 ∨ t = 6) : pg_n t = 2 := by
  unfold pg_n; rw [if_neg (by omega), if_neg (by omega), if_neg (by omega)]
theorem nd_Wc {tk : Nat → Nat} {Q R : Nat → Nat → Nat} {l h v : Nat} (e : ∀ k, R k v = Q k v) (g : nd_W tk Q l h v) : nd_W tk R l h v := by
  unfold nd_W at *; rw [e, e]; exact g
theorem nd_kc {tk : Nat → Nat} {Q R : Nat → Nat → Nat} {t l h p a b c : Nat} (ea : 0 < pg_n t → ∀ k, R k a = Q k a) (eb : 1 < pg_n t → ∀ k, R k b = Q k b) (ec : 2 < pg_n t → ∀ k, R k c = Q k c)
    (g : nd_k tk Q t l h p a b c) : nd_k tk R t l h p a b c := by
  rcases g with g | ⟨g1, g2, g3, g4, g5, g6, g7, g8, g9⟩ | ⟨g1, g2, g3, g4⟩ | ⟨g1, g2, g3, g4, g5, g5a, g5b, g6⟩ | ⟨g1, g2, g3, p1, p2, g4, g5, g6, g7, g8, g9, g10, g11, g12, g13⟩ | ⟨g1, g2, g3, p2, g4, g5, g6, g7, g8, g9⟩
  · exact Or.inl g
  · have n := nd_n2 (t := t) (by omega)
    exact Or.inr (Or.inl ⟨g1, g2, g3, g4, g5, g6, g7, nd_Wc (ea (by omega)) g8, nd_Wc (eb (by omega)) g9⟩)
  · have n := nd_n1 (t := t) (by omega)
    exact Or.inr (Or.inr (Or.inl ⟨g1, g2, g3, nd_Wc (ea (by omega)) g4⟩))
  · have n := nd_n1 (t := t) (by omega)
    exact Or.inr (Or.inr (Or.inr (Or.inl ⟨g1, g2, g3, g4, g5, g5a, g5b, nd_Wc (ea (by omega)) g6⟩)))
  · have n : pg_n t = 3 := by rw [g1]; rfl
    exact Or.inr (Or.inr (Or.inr (Or.inr (Or.inl ⟨g1, g2, g3, p1, p2, g4, g5, g6, g7, g8, g9, g10, nd_Wc (ea (by omega)) g11, nd_Wc (eb (by omega)) g12, nd_Wc (ec (by omega)) g13⟩))))
  · have n := nd_n2 (t := t) (by omega)
    exact Or.inr (Or.inr (Or.inr (Or.inr (Or.inr ⟨g1, g2, g3, p2, g4, g5, g6, g7, nd_Wc (ea (by omega)) g8, nd_Wc (eb (by omega)) g9⟩))))
theorem nd_okc {tk tn : Nat → Nat} {Q R : Nat → Nat → Nat} {u v : Nat} (e : ∀ k w, w < u → R k w = Q k w) (hv : v < u) (g : nd_ok tk tn Q v) : nd_ok tk tn R v := by
  obtain ⟨g1, g2, g3, g4, g5, g6, g7, g8, g9, g10⟩ := g
  have e0 : ∀ k, R k v = Q k v := fun k => e k v hv
  have ea : 0 < pg_n (Q 0 v) → ∀ k, R k (Q 2 v) = Q k (Q 2 v) := fun n k => e k _ (by have := g5 n; omega)
  have eb : 1 < pg_n (Q 0 v) → ∀ k, R k (Q 3 v) = Q k (Q 3 v) := fun n k => e k _ (by have := g6 n; omega)
  have ec : 2 < pg_n (Q 0 v) → ∀ k, R k (Q 4 v) = Q k (Q 4 v) := fun n k => e k _ (by have := g7 n; omega)
  unfold nd_ok
  simp only [e0]
  refine ⟨nd_kc ea eb ec g1, ?_, g3, g4, fun n => by rw [ea n]; exact g5 n, fun n => by rw [eb n]; exact g6 n, fun n => by rw [ec n]; exact g7 n, g8, g9, g10⟩
  obtain ⟨t0, t1, t2, t3⟩ := g2
  unfold nd_t
  simp only [e0]
  refine ⟨t0, fun n => ?_, fun n => ?_, fun n => ?_⟩
  · rw [ea (by omega), ea (by omega)]; exact t1 n
  · rw [ea (by omega), ea (by omega), eb (by omega), eb (by omega)]; exact t2 n
  · rw [ea (by omega), ea (by omega), eb (by omega), eb (by omega), ec (by omega), ec (by omega)]; exact t3 n
def nd_U (Q : Nat → Nat → Nat) (u : Nat) (w : Nat → Nat) : Nat → Nat → Nat := fun k v => if v = u then w k else Q k v
theorem nd_Us {Q : Nat → Nat → Nat} {u k : Nat} {w : Nat → Nat} : nd_U Q u w k u = w k := if_pos rfl
theorem nd_Un {Q : Nat → Nat → Nat} {u k v : Nat} {w : Nat → Nat} (h : v ≠ u) : nd_U Q u w k v = Q k v := if_neg h
def nd_w (t n a b c l h p s d : Nat) : Nat → Nat := fun k =>
  if k = 0 then t else if k = 1 then n else if k = 2 then a else if k = 3 then b else if k = 4 then c else
  if k = 7 then l else if k = 8 then h else if k = 9 then p else if k = 10 then s else d
theorem nd_add {tk tn : Nat → Nat} {Q : Nat → Nat → Nat} {u t a b c l h p s d : Nat} (hk : nd_k tk Q t l h p a b c) (hs : s ≤ u)
    (h0 : pg_n t = 0 → a = u ∧ b = u ∧ c = u ∧ s = u ∧ d = 1)
    (h1 : pg_n t = 1 → a + 1 = u ∧ Q 10 a ≤ a ∧ b = u ∧ c = u ∧ s = Q 10 a ∧ d = nd_m 0 (Q 11 a) + 1)
    (h2 : pg_n t = 2 → b + 1 = u ∧ a + 1 = Q 10 b ∧ Q 10 b ≤ b ∧ Q 10 a ≤ a ∧ c = u ∧ s = Q 10 a ∧ d = nd_m (nd_m 0 (Q 11 a)) (Q 11 b) + 1)
    (h3 : pg_n t = 3 → c + 1 = u ∧ b + 1 = Q 10 c ∧ Q 10 c ≤ c ∧ a + 1 = Q 10 b ∧ Q 10 b ≤ b ∧ Q 10 a ≤ a ∧ s = Q 10 a ∧ d = nd_m (nd_m (nd_m 0 (Q 11 a)) (Q 11 b)) (Q 11 c) + 1) :
    nd_ok tk tn (nd_U Q u (nd_w t (tn p) a b c l h p s d)) u := by
  have n3 : pg_n t ≤ 3 := by unfold pg_n; repeat' split
                             all_goals omega
  have la : 0 < pg_n t → a < u ∧ Q 10 a ≤ a := by
    intro n
    have : pg_n t = 1 ∨ pg_n t = 2 ∨ pg_n t = 3 := by omega
    rcases this with q | q | q
    · have := h1 q; omega
    · have := h2 q; omega
    · have := h3 q; omega
  have lb : 1 < pg_n t → b < u ∧ Q 10 b ≤ b := by
    intro n
    have : pg_n t = 2 ∨ pg_n t = 3 := by omega
    rcases this with q | q
    · have := h2 q; omega
    · have := h3 q; omega
  have lc : 2 < pg_n t → c < u ∧ Q 10 c ≤ c := by
    intro n
    have := h3 (by omega); omega
  have ea : 0 < pg_n t → ∀ k, nd_U Q u (nd_w t (tn p) a b c l h p s d) k a = Q k a := fun n k => nd_Un (by have := la n; omega)
  have eb : 1 < pg_n t → ∀ k, nd_U Q u (nd_w t (tn p) a b c l h p s d) k b = Q k b := fun n k => nd_Un (by have := lb n; omega)
  have ec : 2 < pg_n t → ∀ k, nd_U Q u (nd_w t (tn p) a b c l h p s d) k c = Q k c := fun n k => nd_Un (by have := lc n; omega)
  unfold nd_ok nd_t
  simp only [nd_Us]
  refine ⟨nd_kc ea eb ec hk, ⟨?_, ?_, ?_, ?_⟩, rfl, hs, fun n => ⟨(la n).1, by show nd_U Q u (nd_w t (tn p) a b c l h p s d) 10 a ≤ a; rw [ea n]; exact (la n).2⟩, fun n => ⟨(lb n).1, by show nd_U Q u (nd_w t (tn p) a b c l h p s d) 10 b ≤ b; rw [eb n]; exact (lb n).2⟩, fun n => ⟨(lc n).1, by show nd_U Q u (nd_w t (tn p) a b c l h p s d) 10 c ≤ c; rw [ec n]; exact (lc n).2⟩, ?_, ?_, ?_⟩
  · intro n; have := h0 n; exact ⟨this.2.2.2.1, this.2.2.2.2⟩
  · intro n
    have n' : pg_n t = 1 := n
    have := h1 n'
    refine ⟨this.1, ?_, ?_⟩
    · show s = nd_U Q u (nd_w t (tn p) a b c l h p s d) 10 a
      rw [ea (by omega)]; exact this.2.2.2.2.1
    · show d = nd_m 0 (nd_U Q u (nd_w t (tn p) a b c l h p s d) 11 a) + 1
      rw [ea (by omega)]; exact this.2.2.2.2.2
  · intro n
    have n' : pg_n t = 2 := n
    have := h2 n'
    refine ⟨this.1, ?_, ?_, ?_⟩
    · show a + 1 = nd_U Q u (nd_w t (tn p) a b c l h p s d) 10 b
      rw [eb (by omega)]; exact this.2.1
    · show s = nd_U Q u (nd_w t (tn p) a b c l h p s d) 10 a
      rw [ea (by omega)]; exact this.2.2.2.2.2.1
    · show d = nd_m (nd_m 0 (nd_U Q u (nd_w t (tn p) a b c l h p s d) 11 a)) (nd_U Q u (nd_w t (tn p) a b c l h p s d) 11 b) + 1
      rw [ea (by omega), eb (by omega)]; exact this.2.2.2.2.2.2
  · intro n
    have n' : pg_n t = 3 := n
    have := h3 n'
    refine ⟨this.1, ?_, ?_, ?_, ?_⟩
    · show b + 1 = nd_U Q u (nd_w t (tn p) a b c l h p s d) 10 c
      rw [ec (by omega)]; exact this.2.1
    · show a + 1 = nd_U Q u (nd_w t (tn p) a b c l h p s d) 10 b
      rw [eb (by omega)]; exact this.2.2.2.1
    · show s = nd_U Q u (nd_w t (tn p) a b c l h p s d) 10 a
      rw [ea (by omega)]; exact this.2.2.2.2.2.2.1
    · show d = nd_m (nd_m (nd_m 0 (nd_U Q u (nd_w t (tn p) a b c l h p s d) 11 a)) (nd_U Q u (nd_w t (tn p) a b c l h p s d) 11 b)) (nd_U Q u (nd_w t (tn p) a b c l h p s d) 11 c) + 1
      rw [ea (by omega), eb (by omega), ec (by omega)]; exact this.2.2.2.2.2.2.2
  · intro n
    have n' : pg_n t = 0 := by have : pg_n t ≤ 0 := n; omega
    exact (h0 n').1
  · intro n
    have n0 : pg_n t ≤ 1 := n
    have n' : pg_n t = 0 ∨ pg_n t = 1 := by omega
    rcases n' with q | q
    · exact (h0 q).2.1
    · exact (h1 q).2.2.1
  · intro n
    have n0 : pg_n t ≤ 2 := n
    have n' : pg_n t = 0 ∨ pg_n t = 1 ∨ pg_n t = 2 := by omega
    rcases n' with q | q | q
    · exact (h0 q).2.2.1
    · exact (h1 q).2.2.2.1
    · exact (h2 q).2.2.2.2.1
theorem nd_W0 {tk : Nat → Nat} {Q : Nat → Nat → Nat} {u t n a b c l h p s d : Nat} : nd_W tk (nd_U Q u (nd_w t n a b c l h p s d)) l h u := by
  refine ⟨0, ?_, ?_, fun i hi => absurd hi (Nat.not_lt_zero i)⟩
  · rw [nd_Us]; rfl
  · rw [nd_Us]; rfl
theorem nd_Ww {tk : Nat → Nat} {Q : Nat → Nat → Nat} {u l h : Nat} (g : nd_W tk Q (l + 1) h u) (ho : tk l = 26) (h27 : tk h = 27) (hc : rg_C tk l (h + 1) l 9) : nd_W tk Q l (h + 1) u := by
  obtain ⟨b, g1, g2, g3⟩ := g
  refine ⟨b + 1, by omega, by omega, fun i hi => ?_⟩
  by_cases e : i = 0
  · subst e
    refine ⟨ho, ?_, hc⟩
    rw [Nat.add_sub_cancel]; exact h27
  · have := g3 (i - 1) (by omega)
    have e1 : l + 1 + (i - 1) = l + i := by omega
    have e2 : h - (i - 1) = h + 1 - i := by omega
    have e3 : h - 1 - (i - 1) = h + 1 - 1 - i := by omega
    rw [e1, e2, e3] at this
    exact this
end
section
-- FRAMES: (code, start, token, next); codes as tokens', and 30 body, 31 then-part, 32 else-part, 33 rescue-part, 28 negate
abbrev fr_F : Type := Nat × Nat × Nat × Nat
def fr_l (c : Nat) : Nat :=
  if c = 28 ∨ c = 23 then 7 else if 16 ≤ c ∧ c ≤ 18 then 6 else if c = 14 ∨ c = 15 then 5 else if c = 19 ∨ c = 20 then 4 else
  if c = 21 then 3 else if c = 22 then 2 else if c = 24 ∨ c = 32 ∨ c = 33 then 1 else 0
def fr_n (c : Nat) : Nat := if fr_l c = 7 then 7 else if 2 ≤ fr_l c then fr_l c + 1 else 1
def fr_g (c : Nat) : Nat := if c = 26 ∨ c = 7 ∨ c = 8 ∨ c = 9 ∨ c = 13 then 7 else if 2 ≤ fr_l c then fr_l c else 1
def fr_p (c : Nat) : Nat := if c = 32 then 3 else if c = 33 then 6 else c
def fr_o (tk : Nat → Nat) (Q : Nat → Nat → Nat) (l h u : Nat) : Prop := nd_W tk Q l h u ∧ rg_o tk l h
def fr_h (tk : Nat → Nat) (Q : Nat → Nat → Nat) (c st p nx : Nat) (held : List Nat) : Prop :=
  (c = 30 ∧ held = [] ∧ nx = p + 1) ∨
  ((c = 26 ∨ c = 3 ∨ c = 6) ∧ tk p = c ∧ held = [] ∧ st = p ∧ nx = p + 1) ∨
  (((c = 28 ∧ tk p = 15) ∨ (c = 23 ∧ tk p = 23)) ∧ held = [] ∧ st = p ∧ nx = p + 1) ∨
  ((c = 7 ∨ c = 8 ∨ c = 9 ∨ c = 13) ∧ tk p = c ∧ tk (p + 1) = 26 ∧ held = [] ∧ st = p ∧ nx = p + 2) ∨
  (c = 31 ∧ tk p = 3 ∧ st = p ∧ ∃ a p1, held = [a] ∧ fr_o tk Q (p + 1) p1 a ∧ tk p1 = 4 ∧ nx = p1 + 1) ∨
  (c = 32 ∧ tk p = 3 ∧ st = p ∧ ∃ a b p1 p2, held = [b, a] ∧ fr_o tk Q (p + 1) p1 a ∧ tk p1 = 4 ∧ fr_o tk Q (p1 + 1) p2 b ∧ tk p2 = 5 ∧ nx = p2 + 1) ∨
  (c = 33 ∧ tk p = 6 ∧ st = p ∧ ∃ a p2, held = [a] ∧ fr_o tk Q (p + 1) p2 a ∧ tk p2 = 5 ∧ nx = p2 + 1) ∨
  (c = 24 ∧ tk p = 24 ∧ ∃ a, held = [a] ∧ fr_o tk Q st p a ∧ rg_L tk 2 st p ∧ nx = p + 1) ∨
  ((14 ≤ c ∧ c ≤ 22) ∧ tk p = c ∧ rg_w (tk p) (tk (p - 1)) = fr_l c ∧ ∃ a, held = [a] ∧ fr_o tk Q st p a ∧ rg_L tk (fr_l c) st p ∧ nx = p + 1)
def fr_b (c : Nat) : List fr_F → Prop
  | [] => c = 30
  | g :: _ => fr_n g.1 ≤ fr_g c ∧ c ≠ 30
def fr_S (tk : Nat → Nat) (Q : Nat → Nat → Nat) : List fr_F → List Nat → Nat → Prop
  | [], ops, _ => ops = []
  | f :: fs, ops, at0 => at0 = f.2.2.2 ∧ fr_b f.1 fs ∧ ∃ held rest, ops = held ++ rest ∧ fr_h tk Q f.1 f.2.1 f.2.2.1 f.2.2.2 held ∧ fr_S tk Q fs rest f.2.1
def fr_t (Q : Nat → Nat → Nat) (F : Nat) : List Nat → Nat → Prop
  | [], e => e = F
  | u :: r, e => u + 1 = e ∧ Q 10 u ≤ u ∧ fr_t Q F r (Q 10 u)
theorem fr_t_lt {Q : Nat → Nat → Nat} {F : Nat} : ∀ (l : List Nat) (e : Nat), fr_t Q F l e → F ≤ e ∧ ∀ o, o ∈ l → o < e ∧ F ≤ o := by
  intro l
  induction l with
  | nil => intro e h; exact ⟨by have : e = F := h; omega, fun o ho => by simp at ho⟩
  | cons u r ih =>
    intro e h
    obtain ⟨h1, h2, h3⟩ := h
    obtain ⟨i1, i2⟩ := ih _ h3
    refine ⟨by omega, fun o ho => ?_⟩
    rcases List.mem_cons.mp ho with q | q
    · rw [q]; omega
    · have := i2 o q; omega
theorem fr_t_c {Q R : Nat → Nat → Nat} {F u : Nat} (e : ∀ k w, w < u → R k w = Q k w) : ∀ (l : List Nat) (n : Nat), n ≤ u → fr_t Q F l n → fr_t R F l n := by
  intro l
  induction l with
  | nil => intro n _ h; exact h
  | cons v r ih =>
    intro n hn h
    obtain ⟨h1, h2, h3⟩ := h
    unfold fr_t
    rw [e 10 v (by omega)]
    exact ⟨h1, h2, ih _ (by omega) h3⟩
theorem fr_oc {tk : Nat → Nat} {Q R : Nat → Nat → Nat} {l h v : Nat} (e : ∀ k, R k v = Q k v) (g : fr_o tk Q l h v) : fr_o tk R l h v := ⟨nd_Wc e g.1, g.2⟩
theorem fr_hc {tk : Nat → Nat} {Q R : Nat → Nat → Nat} {c st p nx : Nat} {held : List Nat} (e : ∀ o, o ∈ held → ∀ k, R k o = Q k o) (g : fr_h tk Q c st p nx held) : fr_h tk R c st p nx held := by
  rcases g with g | g | g | g | ⟨g1, g2, g3, a, p1, g4, g5, g6, g7⟩ | ⟨g1, g2, g3, a, b, p1, p2, g4, g5, g6, g7, g8, g9⟩ | ⟨g1, g2, g3, a, p2, g4, g5, g6, g7⟩ | ⟨g1, g2, a, g3, g4, g5, g6⟩ | ⟨g1, g2, g3, a, g4, g5, g6, g7⟩
  · exact Or.inl g
  · exact Or.inr (Or.inl g)
  · exact Or.inr (Or.inr (Or.inl g))
  · exact Or.inr (Or.inr (Or.inr (Or.inl g)))
  · exact Or.inr (Or.inr (Or.inr (Or.inr (Or.inl ⟨g1, g2, g3, a, p1, g4, fr_oc (e a (by rw [g4]; simp)) g5, g6, g7⟩))))
  · exact Or.inr (Or.inr (Or.inr (Or.inr (Or.inr (Or.inl ⟨g1, g2, g3, a, b, p1, p2, g4, fr_oc (e a (by rw [g4]; simp)) g5, g6, fr_oc (e b (by rw [g4]; simp)) g7, g8, g9⟩)))))
  · exact Or.inr (Or.inr (Or.inr (Or.inr (Or.inr (Or.inr (Or.inl ⟨g1, g2, g3, a, p2, g4, fr_oc (e a (by rw [g4]; simp)) g5, g6, g7⟩))))))
  · exact Or.inr (Or.inr (Or.inr (Or.inr (Or.inr (Or.inr (Or.inr (Or.inl ⟨g1, g2, a, g3, fr_oc (e a (by rw [g3]; simp)) g4, g5, g6⟩)))))))
  · exact Or.inr (Or.inr (Or.inr (Or.inr (Or.inr (Or.inr (Or.inr (Or.inr ⟨g1, g2, g3, a, g4, fr_oc (e a (by rw [g4]; simp)) g5, g6, g7⟩)))))))
theorem fr_Sc {tk : Nat → Nat} {Q R : Nat → Nat → Nat} : ∀ (fs : List fr_F) (ops : List Nat) (n : Nat), (∀ o, o ∈ ops → ∀ k, R k o = Q k o) → fr_S tk Q fs ops n → fr_S tk R fs ops n := by
  intro fs
  induction fs with
  | nil => intro ops n _ h; exact h
  | cons f fs ih =>
    intro ops n e h
    obtain ⟨h1, h2, held, rest, h3, h4, h5⟩ := h
    refine ⟨h1, h2, held, rest, h3, fr_hc (fun o ho => e o (by rw [h3]; exact List.mem_append.mpr (Or.inl ho))) h4, ih _ _ (fun o ho => e o (by rw [h3]; exact List.mem_append.mpr (Or.inr ho))) h5⟩
theorem fr_lb {c : Nat} (h : 14 ≤ c ∧ c ≤ 22) : 2 ≤ fr_l c ∧ fr_l c ≤ 6 := by
  unfold fr_l
  rw [if_neg (by omega)]
  repeat' split
  all_goals omega
-- what a reduced frame gives
def fr_G (tk tn : Nat → Nat) (R : Nat → Nat → Nat) (F c st t u : Nat) (fs : List fr_F) (rest : List Nat) : Prop :=
  nd_ok tk tn R u ∧ fr_o tk R st t u ∧ rg_L tk (fr_g c) st t ∧ fr_S tk R fs rest st ∧ fr_t R F (u :: rest) (u + 1) ∧ fr_b c fs
theorem fr_Gi {tk tn : Nat → Nat} {Q : Nat → Nat → Nat} {F c st t u op a b d p s dp : Nat} {fs : List fr_F} {rest : List Nat}
    (hn : nd_ok tk tn (nd_U Q u (nd_w op (tn p) a b d st t p s dp)) u) (ho : rg_o tk st t) (hL : rg_L tk (fr_g c) st t) (hS : fr_S tk Q fs rest st)
    (hs : s ≤ u) (hr : fr_t Q F rest s) (hb : fr_b c fs) : fr_G tk tn (nd_U Q u (nd_w op (tn p) a b d st t p s dp)) F c st t u fs rest := by
  have e : ∀ k w, w < u → nd_U Q u (nd_w op (tn p) a b d st t p s dp) k w = Q k w := fun k w hw => nd_Un (by omega)
  refine ⟨hn, ⟨nd_W0, ho⟩, hL, fr_Sc _ _ _ (fun o h k => e k o (by have := (fr_t_lt _ _ hr).2 o h; omega)) hS, ⟨rfl, ?_, ?_⟩, hb⟩
  · rw [nd_Us]; exact hs
  · rw [nd_Us]; exact fr_t_c e _ _ hs hr
theorem fr_red {tk tn : Nat → Nat} {Q : Nat → Nat → Nat} {F c st p nx u v t at0 : Nat} {fs : List fr_F} {ops : List Nat}
    (hS : fr_S tk Q ((c, st, p, nx) :: fs) ops at0) (hv : fr_o tk Q at0 t v) (hL : rg_L tk (fr_n c) at0 t) (hl : 1 ≤ fr_l c) (ht : fr_t Q F (v :: ops) u) :
    (fr_l c = 7 ∧ fr_G tk tn (nd_U Q u (nd_w c (tn p) v u u st t p (Q 10 v) (nd_m 0 (Q 11 v) + 1))) F c st t u fs ops) ∨
    (fr_l c ≠ 7 ∧ c ≠ 32 ∧ ∃ a rest, ops = a :: rest ∧ fr_G tk tn (nd_U Q u (nd_w (fr_p c) (tn p) a v u st t p (Q 10 a) (nd_m (nd_m 0 (Q 11 a)) (Q 11 v) + 1))) F c st t u fs rest) ∨
    (c = 32 ∧ ∃ a b rest, ops = b :: a :: rest ∧ fr_G tk tn (nd_U Q u (nd_w 3 (tn p) a b v st t p (Q 10 a) (nd_m (nd_m (nd_m 0 (Q 11 a)) (Q 11 b)) (Q 11 v) + 1))) F c st t u fs rest) := by
  obtain ⟨h1, h2, held, rest, h3, h4, h5⟩ := hS
  dsimp only at h1 h2 h4 h5
  obtain ⟨hvW, hvo⟩ := hv
  obtain ⟨t1, t2, t3⟩ := ht
  have z : ∀ x, c = x → fr_l x = 0 → False := by
    intro x e q; rw [e, q] at hl; omega
  rcases h4 with g | g | g | g | ⟨g1, g2, g3, a, p1, g4, g5, g6, g7⟩ | ⟨g1, g2, g3, a, b, p1, p2, g4, g5, g6, g7, g8, g9⟩ | ⟨g1, g2, g3, a, p2, g4, g5, g6, g7⟩ | ⟨g1, g2, a, g3, g4, g5, g6⟩ | ⟨g1, g2, g3, a, g4, g5, g6, g7⟩
  · exact (z 30 g.1 rfl).elim
  · rcases g.1 with q | q | q
    · exact (z _ q rfl).elim
    · exact (z _ q rfl).elim
    · exact (z _ q rfl).elim
  · -- unary
    obtain ⟨g1, g2, g3, g4⟩ := g
    have l7 : fr_l c = 7 := by unfold fr_l; rw [if_pos (by omega)]
    have n7 : fr_n c = 7 := by unfold fr_n; rw [if_pos l7]
    have k7 : fr_g c = 7 := by unfold fr_g; rw [if_neg (by omega), l7, if_pos (by omega)]
    subst h1
    rw [g4] at hvW hvo hL
    rw [n7] at hL
    obtain ⟨r1, r2, r3⟩ := rg_unary (by omega) hvo hL
    rw [g2] at h3
    rw [List.nil_append] at h3
    subst h3
    subst g3
    refine Or.inl ⟨l7, fr_Gi (nd_add (Or.inr (Or.inr (Or.inl ⟨g1, rfl, r1, hvW⟩))) (by omega) ?_ ?_ ?_ ?_) r2 (by rw [k7]; exact r3) h5 (by omega) t3 h2⟩
    · intro q; rw [nd_n1 (by omega)] at q; omega
    · intro _; exact ⟨t1, t2, rfl, rfl, rfl, rfl⟩
    · intro q; rw [nd_n1 (by omega)] at q; omega
    · intro q; rw [nd_n1 (by omega)] at q; omega
  · rcases g.1 with q | q | q | q
    · exact (z _ q rfl).elim
    · exact (z _ q rfl).elim
    · exact (z _ q rfl).elim
    · exact (z _ q rfl).elim
  · exact (z _ g1 rfl).elim
  · -- else-part
    subst h1
    rw [g9] at hvW hvo
    rw [g4] at h3
    subst g1
    subst g3
    have r := rg_if g2 g5.2 g6 g7.2 g8 hvo
    have e5 := g5.2.1
    have e7 := g7.2.1
    have ev := hvo.1
    rw [h3] at t3
    obtain ⟨b1, b2, a1, a2, a3⟩ := t3
    refine Or.inr (Or.inr ⟨rfl, a, b, rest, h3, fr_Gi (nd_add (Or.inr (Or.inr (Or.inr (Or.inr (Or.inl ⟨rfl, g2, rfl, p1, p2, by omega, by omega, by omega, g6, g5.2.2.2.1, g8, g7.2.2.2.2.1, g5.1, g7.1, hvW⟩))))) (by omega) ?_ ?_ ?_ ?_) r (fun q => absurd q (by decide)) h5 (by omega) a3 h2⟩)
    · intro q; exact absurd q (by decide)
    · intro q; exact absurd q (by decide)
    · intro q; exact absurd q (by decide)
    · intro _; exact ⟨t1, b1, t2, a1, b2, a2, rfl, rfl⟩
  · -- rescue-part
    subst h1
    rw [g7] at hvW hvo
    rw [g4] at h3
    subst g1
    subst g3
    have r := rg_try g2 g5.2 g6 hvo
    have e5 := g5.2.1
    have ev := hvo.1
    rw [h3] at t3
    obtain ⟨a1, a2, a3⟩ := t3
    refine Or.inr (Or.inl ⟨by decide, by decide, a, rest, h3, fr_Gi (nd_add (Or.inr (Or.inr (Or.inr (Or.inr (Or.inr ⟨rfl, g2, rfl, p2, by omega, by omega, g6, g5.2.2.2.2.1, g5.1, hvW⟩))))) (by omega) ?_ ?_ ?_ ?_) r (fun q => absurd q (by decide)) h5 (by omega) a3 h2⟩)
    · intro q; exact absurd q (by decide)
    · intro q; exact absurd q (by decide)
    · intro _; exact ⟨t1, a1, t2, a2, rfl, rfl, rfl⟩
    · intro q; exact absurd q (by decide)
  · -- a ':'
    subst h1
    rw [g6] at hvW hvo
    rw [g3] at h3
    subst g1
    obtain ⟨r1, r2⟩ := rg_cons g2 g4.2 g5 hvo
    have e5 := g4.2.1
    have ev := hvo.1
    obtain ⟨q1, q2, _⟩ := g5 (by omega)
    rw [h3] at t3
    obtain ⟨a1, a2, a3⟩ := t3
    refine Or.inr (Or.inl ⟨by decide, by decide, a, rest, h3, fr_Gi (nd_add (Or.inr (Or.inl ⟨Or.inr rfl, g2, by omega, by omega, q1, q2, ⟨1, r1⟩, g4.1, hvW⟩)) (by omega) ?_ ?_ ?_ ?_) r2 (fun q => absurd q (by decide)) h5 (by omega) a3 h2⟩)
    · intro q; exact absurd q (by decide)
    · intro q; exact absurd q (by decide)
    · intro _; exact ⟨t1, a1, t2, a2, rfl, rfl, rfl⟩
    · intro q; exact absurd q (by decide)
  · -- two sides
    subst h1
    rw [g7] at hvW hvo hL
    rw [g4] at h3
    have lb := fr_lb g1
    have fn : fr_n c = fr_l c + 1 := by unfold fr_n; rw [if_neg (by omega), if_pos (by omega)]
    have fg : fr_g c = fr_l c := by unfold fr_g; rw [if_neg (by omega), if_pos (by omega)]
    have fp : fr_p c = c := by unfold fr_p; rw [if_neg (by omega), if_neg (by omega)]
    rw [fn] at hL
    obtain ⟨r1, r2, r3⟩ := rg_bin (by omega) g3 lb.1 lb.2 g5.2 g6 hvo hL
    have e5 := g5.2.1
    have ev := hvo.1
    obtain ⟨q1, q2, _⟩ := g6 (by omega)
    rw [h3] at t3
    obtain ⟨a1, a2, a3⟩ := t3
    have n2 : pg_n c = 2 := nd_n2 (by omega)
    refine Or.inr (Or.inl ⟨by omega, by omega, a, rest, h3, ?_⟩)
    rw [fp]
    refine fr_Gi (nd_add (Or.inr (Or.inl ⟨Or.inl g1, g2, by omega, by omega, q1, q2, ⟨_, r1⟩, g5.1, hvW⟩)) (by omega) ?_ ?_ ?_ ?_) r2 (by rw [fg]; exact r3) h5 (by omega) a3 h2
    · intro q; omega
    · intro q; omega
    · intro _; exact ⟨t1, a1, t2, a2, rfl, rfl, rfl⟩
    · intro q; omega
end
section
-- BREADTH FIRST: the reference's node j stands for the node g j
theorem bf_cc {h g : Nat → Int} : ∀ n, (∀ i, i < n → h i = g i) → rg_c h n = rg_c g n := by
  intro n
  induction n with
  | zero => intro _; rfl
  | succ n ih => intro e; show rg_c h n + h n = rg_c g n + g n; rw [ih (fun i hi => e i (by omega)), e n (by omega)]
def bf_p (S : Nat → Int) (g : Nat → Nat) (j : Nat) : Int := S (g j + 1) - S (g j)
def bf_w (S : Nat → Int) (Q : Nat → Nat → Nat) (g : Nat → Nat) (j : Nat) : Int := S (g j + 1) - S (Q 10 (g j))
def bf_B (Q : Nat → Nat → Nat) (F E k N : Nat) (g : Nat → Nat) : Prop :=
  ∀ S : Nat → Int, (rg_c (bf_p S g) k - rg_c (bf_p S g) F) + (rg_c (bf_w S Q g) N - rg_c (bf_w S Q g) k) = S E - S F
def bf_g (g : Nat → Nat) (N : Nat) (Q : Nat → Nat → Nat) (u : Nat) : Nat → Nat := fun i => if N ≤ i then Q (2 + (i - N)) u else g i
theorem bf_gl {g : Nat → Nat} {N u i : Nat} {Q : Nat → Nat → Nat} (h : i < N) : bf_g g N Q u i = g i := if_neg (by omega)
theorem bf_g0 {g : Nat → Nat} {N u : Nat} {Q : Nat → Nat → Nat} : bf_g g N Q u N = Q 2 u := by
  unfold bf_g; rw [if_pos (Nat.le_refl _), Nat.sub_self]
theorem bf_g1 {g : Nat → Nat} {N u : Nat} {Q : Nat → Nat → Nat} : bf_g g N Q u (N + 1) = Q 3 u := by
  unfold bf_g; rw [if_pos (by omega), Nat.add_sub_cancel_left]
theorem bf_g2 {g : Nat → Nat} {N u : Nat} {Q : Nat → Nat → Nat} : bf_g g N Q u (N + 2) = Q 4 u := by
  unfold bf_g; rw [if_pos (by omega), Nat.add_sub_cancel_left]
theorem bf_s1 (h : Nat → Int) (n : Nat) : rg_c h (n + 1) = rg_c h n + h n := rfl
theorem bf_0 {Q : Nat → Nat → Nat} {F E : Nat} {g : Nat → Nat} (h1 : g F + 1 = E) (h2 : Q 10 (g F) = F) : bf_B Q F E F (F + 1) g := by
  intro S
  rw [bf_s1]
  have : bf_w S Q g F = S E - S F := by unfold bf_w; rw [h1, h2]
  omega
theorem bf_st {Q : Nat → Nat → Nat} {F E k N : Nat} {g : Nat → Nat} (hB : bf_B Q F E k N g) (hF : F ≤ k) (hk : k < N) (ht : nd_t Q (g k)) (hn : pg_n (Q 0 (g k)) ≤ 3) :
    bf_B Q F E (k + 1) (N + pg_n (Q 0 (g k))) (bf_g g N Q (g k)) := by
  intro S
  have b := hB S
  have c1 : rg_c (bf_p S (bf_g g N Q (g k))) k = rg_c (bf_p S g) k := bf_cc k (fun i hi => by unfold bf_p; rw [bf_gl (by omega)])
  have c2 : rg_c (bf_p S (bf_g g N Q (g k))) F = rg_c (bf_p S g) F := bf_cc F (fun i hi => by unfold bf_p; rw [bf_gl (by omega)])
  have c3 : rg_c (bf_w S Q (bf_g g N Q (g k))) N = rg_c (bf_w S Q g) N := bf_cc N (fun i hi => by unfold bf_w; rw [bf_gl (by omega)])
  have c4 : rg_c (bf_w S Q (bf_g g N Q (g k))) k = rg_c (bf_w S Q g) k := bf_cc k (fun i hi => by unfold bf_w; rw [bf_gl (by omega)])
  have c5 : bf_p S (bf_g g N Q (g k)) k = S (g k + 1) - S (g k) := by unfold bf_p; rw [bf_gl hk]
  have c6 : bf_w S Q (bf_g g N Q (g k)) k = S (g k + 1) - S (Q 10 (g k)) := by unfold bf_w; rw [bf_gl hk]
  have w0 : bf_w S Q (bf_g g N Q (g k)) N = S (Q 2 (g k) + 1) - S (Q 10 (Q 2 (g k))) := by unfold bf_w; rw [bf_g0]
  have w1 : bf_w S Q (bf_g g N Q (g k)) (N + 1) = S (Q 3 (g k) + 1) - S (Q 10 (Q 3 (g k))) := by unfold bf_w; rw [bf_g1]
  have w2 : bf_w S Q (bf_g g N Q (g k)) (N + 2) = S (Q 4 (g k) + 1) - S (Q 10 (Q 4 (g k))) := by unfold bf_w; rw [bf_g2]
  obtain ⟨t0, t1, t2, t3⟩ := ht
  have hc : pg_n (Q 0 (g k)) = 0 ∨ pg_n (Q 0 (g k)) = 1 ∨ pg_n (Q 0 (g k)) = 2 ∨ pg_n (Q 0 (g k)) = 3 := by omega
  rcases hc with e | e | e | e
  · obtain ⟨x1, _⟩ := t0 e
    have e0 : N + pg_n (Q 0 (g k)) = N := by omega
    rw [e0, bf_s1, bf_s1, c1, c2, c3, c4, c5, c6]
    have : S (Q 10 (g k)) = S (g k) := by rw [x1]
    omega
  · obtain ⟨x1, x2, _⟩ := t1 e
    rw [e, bf_s1, bf_s1, bf_s1, c1, c2, c3, c4, c5, c6, w0]
    have y1 : S (Q 2 (g k) + 1) = S (g k) := by rw [x1]
    have y2 : S (Q 10 (Q 2 (g k))) = S (Q 10 (g k)) := by rw [x2]
    omega
  · obtain ⟨x1, x2, x3, _⟩ := t2 e
    have e2 : N + 2 = N + 1 + 1 := rfl
    rw [e, e2, bf_s1, bf_s1, bf_s1, bf_s1, c1, c2, c3, c4, c5, c6, w0, w1]
    have y1 : S (Q 3 (g k) + 1) = S (g k) := by rw [x1]
    have y2 : S (Q 2 (g k) + 1) = S (Q 10 (Q 3 (g k))) := by rw [x2]
    have y3 : S (Q 10 (Q 2 (g k))) = S (Q 10 (g k)) := by rw [x3]
    omega
  · obtain ⟨x1, x2, x3, x4, _⟩ := t3 e
    have e2 : N + 3 = N + 1 + 1 + 1 := rfl
    have w2' : bf_w S Q (bf_g g N Q (g k)) (N + 1 + 1) = S (Q 4 (g k) + 1) - S (Q 10 (Q 4 (g k))) := w2
    rw [e, e2, bf_s1, bf_s1, bf_s1, bf_s1, bf_s1, c1, c2, c3, c4, c5, c6, w0, w1, w2']
    have y1 : S (Q 4 (g k) + 1) = S (g k) := by rw [x1]
    have y2 : S (Q 3 (g k) + 1) = S (Q 10 (Q 4 (g k))) := by rw [x2]
    have y3 : S (Q 2 (g k) + 1) = S (Q 10 (Q 3 (g k))) := by rw [x3]
    have y4 : S (Q 10 (Q 2 (g k))) = S (Q 10 (g k)) := by rw [x4]
    omega
-- sums of terms that are at least b
theorem bf_ge {h : Nat → Int} {a : Nat} : ∀ n, (∀ i, a ≤ i → i < a + n → 1 ≤ h i) → (n : Int) ≤ rg_c h (a + n) - rg_c h a := by
  intro n
  induction n with
  | zero => intro _; show ((0 : Nat) : Int) ≤ rg_c h a - rg_c h a; omega
  | succ n ih =>
    intro e
    have := ih (fun i h1 h2 => e i h1 (by omega))
    have h2 := e (a + n) (by omega) (by omega)
    have h3 : rg_c h (a + (n + 1)) = rg_c h (a + n) + h (a + n) := rfl
    omega
theorem bf_pos {h : Nat → Int} {a : Nat} : ∀ n, (∀ i, a ≤ i → i < a + n → 0 ≤ h i) → 0 ≤ rg_c h (a + n) - rg_c h a := by
  intro n
  induction n with
  | zero => intro _; show (0 : Int) ≤ rg_c h a - rg_c h a; omega
  | succ n ih =>
    intro e
    have := ih (fun i h1 h2 => e i h1 (by omega))
    have h2 := e (a + n) (by omega) (by omega)
    have h3 : rg_c h (a + (n + 1)) = rg_c h (a + n) + h (a + n) := rfl
    omega
theorem bf_zero {h : Nat → Int} {a : Nat} : ∀ n, (∀ i, a ≤ i → i < a + n → h i = 0) → rg_c h (a + n) - rg_c h a = 0 := by
  intro n
  induction n with
  | zero => intro _; show rg_c h a - rg_c h a = 0; omega
  | succ n ih =>
    intro e
    have := ih (fun i h1 h2 => e i h1 (by omega))
    have h2 := e (a + n) (by omega) (by omega)
    have h3 : rg_c h (a + (n + 1)) = rg_c h (a + n) + h (a + n) := rfl
    omega
-- how many nodes there may be
theorem bf_bd {Q : Nat → Nat → Nat} {F E k N : Nat} {g : Nat → Nat} (hB : bf_B Q F E k N g) (hF : F ≤ k) (hk : k ≤ N) (hE : F ≤ E) (hg : ∀ j, k ≤ j → j < N → Q 10 (g j) ≤ g j) : N - F ≤ E - F := by
  have b := hB (fun n => (n : Int))
  have p : ((k - F : Nat) : Int) ≤ rg_c (bf_p (fun n => (n : Int)) g) (F + (k - F)) - rg_c (bf_p (fun n => (n : Int)) g) F := by
    refine bf_ge _ (fun i _ _ => ?_)
    show (1 : Int) ≤ ((g i + 1 : Nat) : Int) - ((g i : Nat) : Int)
    omega
  have q : ((N - k : Nat) : Int) ≤ rg_c (bf_w (fun n => (n : Int)) Q g) (k + (N - k)) - rg_c (bf_w (fun n => (n : Int)) Q g) k := by
    refine bf_ge _ (fun i h1 h2 => ?_)
    show (1 : Int) ≤ ((g i + 1 : Nat) : Int) - ((Q 10 (g i) : Nat) : Int)
    have := hg i h1 (by omega)
    omega
  have e1 : F + (k - F) = k := by omega
  have e2 : k + (N - k) = N := by omega
  rw [e1] at p
  rw [e2] at q
  omega
theorem bf_n {Q : Nat → Nat → Nat} {F E N : Nat} {g : Nat → Nat} (hB : bf_B Q F E N N g) (S : Nat → Int) : rg_c (bf_p S g) N - rg_c (bf_p S g) F = S E - S F := by
  have := hB S; omega
theorem bf_N {Q : Nat → Nat → Nat} {F E N : Nat} {g : Nat → Nat} (hB : bf_B Q F E N N g) (hF : F ≤ N) (hE : F ≤ E) : N = E := by
  have b := bf_n hB (fun n => (n : Int))
  have c : rg_c (bf_p (fun n => (n : Int)) g) N = rg_c (fun _ => (1 : Int)) N := bf_cc N (fun i _ => by
    show ((g i + 1 : Nat) : Int) - ((g i : Nat) : Int) = 1
    omega)
  have d : rg_c (bf_p (fun n => (n : Int)) g) F = rg_c (fun _ => (1 : Int)) F := bf_cc F (fun i _ => by
    show ((g i + 1 : Nat) : Int) - ((g i : Nat) : Int) = 1
    omega)
  have one : ∀ n, rg_c (fun _ => (1 : Int)) n = (n : Int) := by
    intro n
    induction n with
    | zero => rfl
    | succ n ih => rw [bf_s1, ih]; omega
  rw [c, d, one, one] at b
  omega
def bf_i (c : Nat) (n : Nat) : Int := if c < n then 1 else 0
theorem bf_ip (c : Nat) (g : Nat → Nat) (j : Nat) : bf_p (bf_i c) g j = if g j = c then 1 else 0 := by
  unfold bf_p bf_i
  by_cases e : g j = c
  · rw [if_pos e, if_pos (by omega), if_neg (by omega)]; rfl
  · rw [if_neg e]
    by_cases h : c < g j
    · rw [if_pos (by omega), if_pos h]; rfl
    · rw [if_neg (by omega), if_neg h]; rfl
theorem bf_sur {Q : Nat → Nat → Nat} {F E N : Nat} {g : Nat → Nat} (hB : bf_B Q F E N N g) (hF : F ≤ N) {c : Nat} (h1 : F ≤ c) (h2 : c < E) : ∃ j, F ≤ j ∧ j < N ∧ g j = c := by
  apply Classical.byContradiction
  intro hn
  have z : rg_c (bf_p (bf_i c) g) (F + (N - F)) - rg_c (bf_p (bf_i c) g) F = 0 := by
    refine bf_zero _ (fun i a b => ?_)
    rw [bf_ip, if_neg (fun q => hn ⟨i, a, by omega, q⟩)]
  have b := bf_n hB (bf_i c)
  have e1 : F + (N - F) = N := by omega
  rw [e1] at z
  have x : bf_i c E = 1 := if_pos h2
  have y : bf_i c F = 0 := if_neg (by omega)
  omega
theorem bf_inj {Q : Nat → Nat → Nat} {F E N : Nat} {g : Nat → Nat} (hB : bf_B Q F E N N g) {i j : Nat} (hi : F ≤ i) (hij : i < j) (hj : j < N) : g i ≠ g j := by
  intro e
  have b := bf_n hB (bf_i (g i))
  have np : ∀ x, 0 ≤ bf_p (bf_i (g i)) g x := by
    intro x; rw [bf_ip]; split <;> decide
  have p1 := bf_pos (h := bf_p (bf_i (g i)) g) (a := F) (i - F) (fun x _ _ => np x)
  have p2 := bf_pos (h := bf_p (bf_i (g i)) g) (a := i + 1) (j - (i + 1)) (fun x _ _ => np x)
  have p3 := bf_pos (h := bf_p (bf_i (g i)) g) (a := j + 1) (N - (j + 1)) (fun x _ _ => np x)
  have e1 : F + (i - F) = i := by omega
  have e2 : i + 1 + (j - (i + 1)) = j := by omega
  have e3 : j + 1 + (N - (j + 1)) = N := by omega
  rw [e1] at p1
  rw [e2] at p2
  rw [e3] at p3
  have s1 := bf_s1 (bf_p (bf_i (g i)) g) i
  have s2 := bf_s1 (bf_p (bf_i (g i)) g) j
  have v1 : bf_p (bf_i (g i)) g i = 1 := by rw [bf_ip, if_pos rfl]
  have v2 : bf_p (bf_i (g i)) g j = 1 := by rw [bf_ip, if_pos e.symm]
  have x : bf_i (g i) E ≤ 1 := by unfold bf_i; split <;> decide
  have y : 0 ≤ bf_i (g i) F := by unfold bf_i; split <;> decide
  omega
-- every name in a range is some node's token
theorem bf_nm {tk tn : Nat → Nat} {Q : Nat → Nat → Nat} {F : Nat} : ∀ u, F ≤ Q 10 u → (∀ v, F ≤ v → v ≤ u → nd_ok tk tn Q v) → F ≤ u → ∀ l h, nd_W tk Q l h u → ∀ i, l ≤ i → i < h → tk i = 13 → ∃ v, Q 10 u ≤ v ∧ v ≤ u ∧ Q 9 v = i := by
  intro u
  induction u using Nat.strongRecOn with
  | ind u ih =>
    intro hFu hok hF l h hW i hl hh hi
    obtain ⟨b, w1, w2, w3⟩ := hW
    obtain ⟨g1, gt, g3, g4, g5, g6, g7, g8, g9, g10⟩ := hok u hF (Nat.le_refl _)
    have core : Q 7 u ≤ i ∧ i < Q 8 u := by
      constructor
      · apply Classical.byContradiction
        intro q
        have := (w3 (i - l) (by omega)).1
        have e : l + (i - l) = i := by omega
        rw [e] at this; omega
      · apply Classical.byContradiction
        intro q
        have := (w3 (h - 1 - i) (by omega)).2.1
        have e : h - 1 - (h - 1 - i) = i := by omega
        rw [e] at this; omega
    have me : Q 9 u = i → ∃ v, Q 10 u ≤ v ∧ v ≤ u ∧ Q 9 v = i := fun q => ⟨u, g4, Nat.le_refl _, q⟩
    have kid : ∀ v, v < u → Q 10 v ≤ v → Q 10 u ≤ Q 10 v → ∀ l h, nd_W tk Q l h v → l ≤ i → i < h → ∃ v, Q 10 u ≤ v ∧ v ≤ u ∧ Q 9 v = i := by
      intro v hv hv1 hv2 l h hw h1 h2
      obtain ⟨x, x1, x2, x3⟩ := ih v hv (by omega) (fun y y1 y2 => hok y y1 (by omega)) (by omega) l h hw i h1 h2 hi
      exact ⟨x, by omega, by omega, x3⟩
    obtain ⟨t0, t1, t2, t3⟩ := gt
    rcases g1 with g | ⟨q1, q2, q3, q4, q5, q6, q7, q8, q9⟩ | ⟨q1, q2, q3, q4⟩ | ⟨q1, q2, q3, q4, q5, q5a, q5b, q6⟩ | ⟨q1, q2, q3, p1, p2, q4, q5, q6, q7, q8, q9, q10, q11, q12, q13⟩ | ⟨q1, q2, q3, p2, q4, q5, q6, q7, q8, q9⟩
    · exact me (by omega)
    · have n := nd_n2 (t := Q 0 u) (by omega)
      have x := t2 n
      have xa := g5 (by omega)
      have xb := g6 (by omega)
      by_cases e : i = Q 9 u
      · exact me e.symm
      · by_cases e2 : i < Q 9 u
        · exact kid _ xa.1 xa.2 (by omega) _ _ q8 core.1 e2
        · exact kid _ xb.1 xb.2 (by omega) _ _ q9 (by omega) core.2
    · have n := nd_n1 (t := Q 0 u) (by omega)
      have x := t1 n
      have xa := g5 (by omega)
      by_cases e : i = Q 9 u
      · exact me e.symm
      · exact kid _ xa.1 xa.2 (by omega) _ _ q4 (by omega) core.2
    · have n := nd_n1 (t := Q 0 u) (by omega)
      have x := t1 n
      have xa := g5 (by omega)
      by_cases e : i = Q 9 u
      · exact me e.symm
      · have e1 : i ≠ Q 7 u + 1 := by intro q; rw [q] at hi; omega
        have e2 : i ≠ Q 8 u - 1 := by intro q; rw [q] at hi; omega
        exact kid _ xa.1 xa.2 (by omega) _ _ q6 (by omega) (by omega)
    · have n : pg_n (Q 0 u) = 3 := by rw [q1]; rfl
      have x := t3 n
      have xa := g5 (by omega)
      have xb := g6 (by omega)
      have xc := g7 (by omega)
      have e1 : i ≠ p1 := by intro q; rw [q] at hi; omega
      have e2 : i ≠ p2 := by intro q; rw [q] at hi; omega
      by_cases e : i = Q 9 u
      · exact me e.symm
      · by_cases e3 : i < p1
        · exact kid _ xa.1 xa.2 (by omega) _ _ q11 (by omega) e3
        · by_cases e4 : i < p2
          · exact kid _ xb.1 xb.2 (by omega) _ _ q12 (by omega) e4
          · exact kid _ xc.1 xc.2 (by omega) _ _ q13 (by omega) core.2
    · have n := nd_n2 (t := Q 0 u) (by omega)
      have x := t2 n
      have xa := g5 (by omega)
      have xb := g6 (by omega)
      have e2 : i ≠ p2 := by intro q; rw [q] at hi; omega
      by_cases e : i = Q 9 u
      · exact me e.symm
      · by_cases e3 : i < p2
        · exact kid _ xa.1 xa.2 (by omega) _ _ q8 (by omega) e3
        · exact kid _ xb.1 xb.2 (by omega) _ _ q9 (by omega) core.2
end
section
-- TOKENS, pure
def tz_dg (c : Nat) : Bool := decide (48 ≤ c) && decide (c ≤ 57)
def tz_sm (c : Nat) : Bool := decide (97 ≤ c) && decide (c ≤ 122)
def tz_e (tx : Nat → Nat) (L : Nat) (q : Nat → Bool) : Nat → Nat → Nat
  | 0, e => e
  | n + 1, e => if e < L ∧ q (tx e) = true then tz_e tx L q n (e + 1) else e
def tz_R (tx : Nat → Nat) (L : Nat) (q : Nat → Bool) (e0 e : Nat) : Prop := e0 ≤ e ∧ (∀ i, e0 ≤ i → i < e → i < L ∧ q (tx i) = true) ∧ ¬ (e < L ∧ q (tx e) = true)
theorem tz_eR (tx : Nat → Nat) (L : Nat) (q : Nat → Bool) : ∀ n e, L < e + n → tz_R tx L q e (tz_e tx L q n e) := by
  intro n
  induction n with
  | zero => intro e h; exact ⟨Nat.le_refl _, fun i h1 h2 => by have : i < e := h2; omega, fun q => by have : e < L := q.1; omega⟩
  | succ n ih =>
    intro e h
    unfold tz_e
    by_cases c : e < L ∧ q (tx e) = true
    · rw [if_pos c]
      obtain ⟨h1, h2, h3⟩ := ih (e + 1) (by omega)
      refine ⟨by omega, fun i a b => ?_, h3⟩
      by_cases x : i = e
      · rw [x]; exact c
      · exact h2 i (by omega) b
    · rw [if_neg c]
      exact ⟨Nat.le_refl _, fun i h1 h2 => by omega, c⟩
def tz_end (tx : Nat → Nat) (L p : Nat) : Nat :=
  if tz_dg (tx p) = true then tz_e tx L tz_dg (L + 1) (p + 1) else if tz_sm (tx p) = true then tz_e tx L tz_sm (L + 1) (p + 1) else p + 1
def tz_n (tx : Nat → Nat) (p : Nat) : Nat → Nat
  | 0 => 0
  | n + 1 => tz_n tx p n * 10 + (tx (p + n) - 48)
theorem tz_nb {tx : Nat → Nat} {p : Nat} : ∀ n, (∀ i, i < n → tz_dg (tx (p + i)) = true) → tz_n tx p n < 10 ^ n := by
  intro n
  induction n with
  | zero => intro _; show 0 < 10 ^ 0; decide
  | succ n ih =>
    intro h
    have a := ih (fun i hi => h i (by omega))
    have b := h n (by omega)
    simp [tz_dg] at b
    show tz_n tx p n * 10 + (tx (p + n) - 48) < 10 ^ (n + 1)
    rw [Nat.pow_succ]
    omega
def tz_w (tx : Nat → Nat) (p : Nat) : Nat → Int32
  | 0 => 0
  | n + 1 => (tz_w tx p n <<< ((8 : Int32) &&& 31)) ||| nI (tx (p + n))
def tz_k (w : Int32) : Nat :=
  if w = 120 then 2 else if w = 26982 then 3 else if w = 1952998766 then 4 else if w = 1701606245 then 5 else if w = 7631481 then 6 else
  if w = 26724 then 7 else if w = 29804 then 8 else if w = 7239020 then 9 else if w = 7235948 then 10 else if w = 7955827 then 11 else if w = 28271 then 12 else 0
def tz_g (c : Nat) : Nat :=
  if c = 43 then 14 else if c = 45 then 15 else if c = 42 then 16 else if c = 47 then 17 else if c = 37 then 18 else if c = 60 then 19 else if c = 61 then 20 else
  if c = 38 then 21 else if c = 124 then 22 else if c = 33 then 23 else if c = 58 then 24 else if c = 59 then 25 else if c = 40 then 26 else if c = 41 then 27 else 0
def tz_kd (tx : Nat → Nat) (L p : Nat) : Nat :=
  if tz_dg (tx p) = true then (if tz_end tx L p - p ≤ 9 then 1 else 0) else
  if tz_sm (tx p) = true then (if tz_end tx L p - p ≤ 4 then tz_k (tz_w tx p (tz_end tx L p - p)) else 0) else
  if 65 ≤ tx p ∧ tx p ≤ 69 then 13 else tz_g (tx p)
def tz_nm (tx : Nat → Nat) (L p : Nat) : Nat :=
  if tz_dg (tx p) = true then tz_n tx p (tz_end tx L p - p) else if 65 ≤ tx p ∧ tx p ≤ 69 then tx p - 65 else 0
theorem tz_el {tx : Nat → Nat} {L p : Nat} (h : p < L) : p < tz_end tx L p ∧ tz_end tx L p ≤ L := by
  have key : ∀ q, p < tz_e tx L q (L + 1) (p + 1) ∧ tz_e tx L q (L + 1) (p + 1) ≤ L := by
    intro q
    obtain ⟨h1, h2, h3⟩ := tz_eR tx L q (L + 1) (p + 1) (by omega)
    refine ⟨by omega, ?_⟩
    apply Classical.byContradiction
    intro c
    have := (h2 (tz_e tx L q (L + 1) (p + 1) - 1) (by omega) (by omega)).1
    omega
  unfold tz_end
  split
  · exact key _
  · split
    · exact key _
    · omega
abbrev tz_T : Type := Nat × Nat × Nat × Nat
def tz_t (tx : Nat → Nat) (L p : Nat) : tz_T := (tz_kd tx L p, tz_nm tx L p, p, tz_end tx L p)
def tz_b (tx : Nat → Nat) (p q : Nat) : Prop := ∀ i, p ≤ i → i < q → tx i = 32
def tz_C (tx : Nat → Nat) (L : Nat) : Nat → List tz_T → Option Nat → Prop
  | p, [], none => tz_b tx p L
  | p, [], some f => p ≤ f ∧ f < L ∧ tz_b tx p f ∧ tx f ≠ 32 ∧ tz_kd tx L f = 0
  | p, t :: l, e => p ≤ t.2.2.1 ∧ t.2.2.1 < L ∧ tz_b tx p t.2.2.1 ∧ tx t.2.2.1 ≠ 32 ∧ t = tz_t tx L t.2.2.1 ∧ t.1 ≠ 0 ∧ tz_C tx L t.2.2.2 l e
theorem tz_Cb {tx : Nat → Nat} {L p : Nat} (hb : tx p = 32) : ∀ (l : List tz_T) (e : Option Nat), tz_C tx L (p + 1) l e → tz_C tx L p l e := by
  have ext : ∀ q, tz_b tx (p + 1) q → tz_b tx p q := by
    intro q h i h1 h2
    by_cases x : i = p
    · rw [x]; exact hb
    · exact h i (by omega) h2
  intro l e h
  cases l with
  | nil =>
    cases e with
    | none => exact ext _ h
    | some f => obtain ⟨h1, h2, h3, h4⟩ := h; exact ⟨by omega, h2, ext _ h3, h4⟩
  | cons t l => obtain ⟨h1, h2, h3, h4⟩ := h; exact ⟨by omega, h2, ext _ h3, h4⟩
theorem tz_ex (tx : Nat → Nat) (L : Nat) : ∀ n p, L ≤ p + n → ∃ l e, tz_C tx L p l e := by
  intro n
  induction n with
  | zero => intro p h; exact ⟨[], none, fun i h1 h2 => by omega⟩
  | succ n ih =>
    intro p h
    by_cases c : L ≤ p
    · exact ⟨[], none, fun i h1 h2 => by omega⟩
    · by_cases hb : tx p = 32
      · obtain ⟨l, e, hl⟩ := ih (p + 1) (by omega)
        exact ⟨l, e, tz_Cb hb l e hl⟩
      · have none' : tz_b tx p p := fun i h1 h2 => by omega
        by_cases hk : tz_kd tx L p = 0
        · exact ⟨[], some p, Nat.le_refl _, by omega, none', hb, hk⟩
        · have := tz_el (tx := tx) (L := L) (p := p) (by omega)
          obtain ⟨l, e, hl⟩ := ih (tz_end tx L p) (by omega)
          exact ⟨tz_t tx L p :: l, e, Nat.le_refl _, (by omega : p < L), none', hb, rfl, hk, hl⟩
theorem tz_len {tx : Nat → Nat} {L : Nat} : ∀ (l : List tz_T) (p : Nat) (e : Option Nat), tz_C tx L p l e → p ≤ L → p + l.length ≤ L := by
  intro l
  induction l with
  | nil => intro p e _ h; exact h
  | cons t l ih =>
    intro p e h hp
    obtain ⟨h1, h2, h3, h4, h5, h6, h7⟩ := h
    have x := tz_el (tx := tx) (L := L) h2
    have y : t.2.2.2 = tz_end tx L t.2.2.1 := by rw [h5]; rfl
    have := ih _ _ h7 (by omega)
    rw [List.length_cons]; omega
end
section
-- THE SYNTAX: what the reference waits for (0 .. 5) and what is opened
def ms_s (w : Nat) (o : List Nat) (t : Nat) : Option (Nat × List Nat) :=
  if w = 0 then (if t = 13 then some (1, o) else none) else
  if w = 1 then (if t = 20 then some (2, o) else none) else
  if w = 5 then (if t = 26 then some (2, 26 :: o) else none) else
  if w = 2 ∨ w = 3 then
    (if t = 1 ∨ t = 2 ∨ t = 10 ∨ t = 11 ∨ t = 12 then some (4, o) else
     if t = 15 ∨ t = 23 then some (3, o) else
     if t = 26 then some (2, 26 :: o) else
     if t = 13 ∨ t = 7 ∨ t = 8 ∨ t = 9 then some (5, o) else
     if w = 2 ∧ (t = 3 ∨ t = 6) then some (2, t :: o) else none) else
  (if 14 ≤ t ∧ t ≤ 22 then some (3, o) else
   if t = 24 then some (2, o) else
   if t = 4 ∧ o.headD 0 = 3 then some (2, 4 :: o.tail) else
   if t = 5 ∧ (o.headD 0 = 4 ∨ o.headD 0 = 6) then some (2, o.tail) else
   if t = 27 ∧ o.headD 0 = 26 then some (4, o.tail) else
   if t = 25 ∧ o = [] then some (0, o) else none)
def ms_f (tk : Nat → Nat) : Nat → Option (Nat × List Nat)
  | 0 => some (0, [])
  | i + 1 => (ms_f tk i).bind (fun s => ms_s s.1 s.2 (tk i))
theorem ms_ln {w t w2 : Nat} {o o2 : List Nat} (h : ms_s w o t = some (w2, o2)) : o2.length ≤ o.length + 1 := by
  have tl : o.tail.length ≤ o.length := by rw [List.length_tail]; omega
  unfold ms_s at h
  repeat' split at h
  all_goals simp at h
  all_goals (obtain ⟨_, rfl⟩ := h; simp; try omega)
theorem ms_fl {tk : Nat → Nat} : ∀ i w o, ms_f tk i = some (w, o) → o.length ≤ i := by
  intro i
  induction i with
  | zero => intro w o h; simp [ms_f] at h; rw [h.2]; simp
  | succ i ih =>
    intro w o h
    obtain ⟨a, ha, hs⟩ := ou_bi h
    have := ih a.1 a.2 ha
    have := ms_ln hs
    omega
-- a stack in an array: the top of the list lies last
def ar_L (a : Nat → Int32) : List Nat → Prop
  | [] => True
  | c :: l => a l.length = nI c ∧ ar_L a l
theorem ar_u {a : Nat → Int32} {k : Nat} {x : Int32} : ∀ l : List Nat, l.length ≤ k → ar_L a l → ar_L (upd a k x) l := by
  intro l
  induction l with
  | nil => intro _ _; trivial
  | cons c l ih =>
    intro h g
    rw [List.length_cons] at h
    refine ⟨?_, ih (by omega) g.2⟩
    rw [pk_un (by omega)]; exact g.1
theorem ar_p {a : Nat → Int32} {c : Nat} {l : List Nat} (g : ar_L a l) : ar_L (upd a l.length (nI c)) (c :: l) := ⟨pk_us, ar_u l (Nat.le_refl _) g⟩
end
section
-- A PASS over the cells: the table T grows by rules until none applies
def ps_s (P : Nat → Nat → Nat) (T : Nat → Option ou_O) : Prop := ∀ c o, T c = some o → ou_V P c o
noncomputable def ps_u (P : Nat → Nat → Nat) (T : Nat → Option ou_O) (c : Nat) : Nat → Option ou_O :=
  fun d => if d = c ∧ T c = none ∧ ou_uc P c then ou_rl P T c else T d
theorem ps_us {P : Nat → Nat → Nat} {T : Nat → Option ou_O} {c : Nat} (h : T c = none) (hu : ou_uc P c) : ps_u P T c c = ou_rl P T c := if_pos ⟨rfl, h, hu⟩
theorem ps_un {P : Nat → Nat → Nat} {T : Nat → Option ou_O} {c d : Nat} (h : d ≠ c) : ps_u P T c d = T d := if_neg (fun q => h q.1)
theorem ps_uk {P : Nat → Nat → Nat} {T : Nat → Option ou_O} {c : Nat} (h : ¬ (T c = none ∧ ou_uc P c)) : ps_u P T c = T := by
  funext d; exact if_neg (fun q => h q.2)
theorem ps_ul {P : Nat → Nat → Nat} {T : Nat → Option ou_O} {c d : Nat} {o : ou_O} (h : T d = some o) : ps_u P T c d = some o := by
  by_cases e : d = c ∧ T c = none ∧ ou_uc P c
  · rw [e.1, e.2.1] at h; exact absurd h (by simp)
  · exact (if_neg e).trans h
theorem ps_uS {P : Nat → Nat → Nat} {T : Nat → Option ou_O} {c : Nat} (h : ps_s P T) : ps_s P (ps_u P T c) := by
  intro d o e
  by_cases q : d = c ∧ T c = none ∧ ou_uc P c
  · have : ps_u P T c d = ou_rl P T c := if_pos q
    rw [this] at e
    rw [q.1]; exact ou_snd h q.2.2 e
  · have : ps_u P T c d = T d := if_neg q
    rw [this] at e; exact h d o e
def ps_I (P : Nat → Nat → Nat) (A : Nat → Option ou_O) (Z : Nat → Prop) (T : Nat → Option ou_O) (s : Prop) : Prop :=
  ps_s P T ∧ ou_le A T ∧ (s → ∃ c, c < 720 ∧ A c = none ∧ T c ≠ none) ∧
  (¬ s → T = A ∧ ∀ c, Z c → ou_uc P c → A c = none → ou_rl P A c = none)
theorem ps_0 {P : Nat → Nat → Nat} {A : Nat → Option ou_O} (h : ps_s P A) : ps_I P A (fun _ => False) A False :=
  ⟨h, fun _ _ q => q, fun q => q.elim, fun _ => ⟨rfl, fun _ q => q.elim⟩⟩
theorem ps_st {P : Nat → Nat → Nat} {A : Nat → Option ou_O} {Z Y : Nat → Prop} {T : Nat → Option ou_O} {s t : Prop} {c : Nat} (h : ps_I P A Z T s) (hc : c < 720)
    (hY : ∀ d, Y d → Z d ∨ d = c) (ht : t ↔ (s ∨ (T c = none ∧ ou_uc P c ∧ ou_rl P T c ≠ none))) : ps_I P A Y (ps_u P T c) t := by
  obtain ⟨h1, h2, h3, h4⟩ := h
  refine ⟨ps_uS h1, fun d o e => ps_ul (h2 d o e), fun q => ?_, fun q => ?_⟩
  · rcases ht.mp q with q | ⟨q1, q2, q3⟩
    · obtain ⟨d, d1, d2, d3⟩ := h3 q
      refine ⟨d, d1, d2, fun e => ?_⟩
      cases x : T d with
      | none => exact d3 x
      | some o => rw [ps_ul x] at e; exact absurd e (by simp)
    · refine ⟨c, hc, ?_, ?_⟩
      · cases x : A c with
        | none => rfl
        | some o => rw [h2 c o x] at q1; exact absurd q1 (by simp)
      · rw [ps_us q1 q2]; exact q3
  · have ns : ¬ s := fun x => q (ht.mpr (Or.inl x))
    obtain ⟨e, h5⟩ := h4 ns
    have nn : ¬ (T c = none ∧ ou_uc P c ∧ ou_rl P T c ≠ none) := fun x => q (ht.mpr (Or.inr x))
    have keep : ps_u P T c = T := by
      funext d
      by_cases z : d = c ∧ T c = none ∧ ou_uc P c
      · have a : ps_u P T c d = ou_rl P T c := if_pos z
        rw [a, z.1, z.2.1]
        exact Classical.byContradiction (fun w => nn ⟨z.2.1, z.2.2, w⟩)
      · exact if_neg z
    rw [keep]
    refine ⟨e, fun d hd hu ha => ?_⟩
    rcases hY d hd with z | z
    · exact h5 d z hu ha
    · rw [z] at hu ha ⊢
      rw [← e] at ha ⊢
      exact Classical.byContradiction (fun w => nn ⟨ha, hu, w⟩)
theorem ps_n {P : Nat → Nat → Nat} {A T : Nat → Option ou_O} {Z : Nat → Prop} {s : Prop} (h : ps_I P A Z T s) (hs : s) : ct_n (fun c => (T c).isNone) 720 < ct_n (fun c => (A c).isNone) 720 := by
  obtain ⟨h1, h2, h3, h4⟩ := h
  obtain ⟨d, d1, d2, d3⟩ := h3 hs
  refine ct_lt 720 (fun i _ hi => ?_) d1 ?_ ?_
  · cases x : A i with
    | none => rfl
    | some o => rw [h2 i o x] at hi; exact absurd hi (by simp)
  · cases x : T d with
    | none => exact absurd x d3
    | some o => rfl
  · show (A d).isNone = true
    rw [d2]; rfl
theorem ps_f {P : Nat → Nat → Nat} {T : Nat → Option ou_O} (h : ps_s P T) (hc : ∀ c, ou_uc P c → T c = none → ou_rl P T c = none) : T = ou_E P := by
  funext c
  cases x : ou_E P c with
  | none =>
    cases y : T c with
    | none => rfl
    | some o => have := ou_E_s.mpr (h c o y); rw [x] at this; exact absurd this (by simp)
  | some o => exact ou_full h hc c o (ou_E_s.mp x)
end
section
theorem bq_1 {A B : Prop} (b : B) : ((1 : Int32) = 0 → A) ∧ (¬ (1 : Int32) = 0 → B) := br_f (by decide) b
-- THE RELATION: a ghost program P (numbered as X numbers), the text, the place, the slots, and the pictures of them on both sides
def xc_t (t : Nat) : Nat :=
  if t = 1 then 1 else if t = 2 then 120 else if t = 3 then 26982 else if t = 4 then 1952998766 else if t = 5 then 1701606245 else
  if t = 6 then 7631481 else if t = 7 then 26724 else if t = 8 then 29804 else if t = 9 then 7239020 else if t = 10 then 7235948 else
  if t = 11 then 7955827 else if t = 12 then 28271 else if t = 13 then 3 else if t = 14 then 43 else if t = 15 then 45 else
  if t = 16 then 42 else if t = 17 then 47 else if t = 18 then 37 else if t = 19 then 60 else if t = 20 then 61 else
  if t = 21 then 38 else if t = 22 then 124 else if t = 23 then 33 else if t = 24 then 58 else if t = 25 then 59 else
  if t = 26 then 40 else if t = 27 then 41 else if t = 28 then 2 else if t = 30 then 4 else if t = 31 then 5 else
  if t = 32 then 6 else if t = 33 then 7 else 0
abbrev rl_V (P : Nat → Nat → Nat) (c : Nat) : Prop := ki_ok P (ki_c c)
def rl_le (P : Nat → Nat → Nat) : Prop := ∀ u, ou_us P u → (P 2 u ≤ u ∧ P 2 u / 24 = u / 24) ∧ (P 3 u ≤ u ∧ P 3 u / 24 = u / 24) ∧ (P 4 u ≤ u ∧ P 4 u / 24 = u / 24)
def rl_G (P : Nat → Nat → Nat) (L : Nat) (tx : Nat → Nat) (sl : Nat → Option (Nat × Nat)) : Prop :=
  pg_ok P ∧ (∃ c, c < 243 ∧ rl_V P c) ∧ L ≤ 200 ∧ (∀ i, i < L → 32 ≤ tx i ∧ tx i ≤ 126) ∧ rl_le P ∧
  (∀ s, s < 3 → ∀ f x, sl s = some (f, x) → f < 5 ∧ 0 < P 5 f ∧ x < P 6 0)
def rl_tX (P : Nat → Nat → Nat) (T : Nat → Option ou_O) (st : Nat → Int32) (re : Nat → Int64) : Prop :=
  ∀ c, ou_uc P c → (T c = none → st c = 2) ∧ (∀ o, T c = some o → st c = nI o.1 ∧ (o.1 = 1 → re c = o.2.2))
def rl_sX (sl : Nat → Option (Nat × Nat)) (sf sa : Nat → Int32) : Prop :=
  ∀ s, s < 3 → (sl s = none → sf s = -1) ∧ (∀ f x, sl s = some (f, x) → sf s = nI f ∧ sa s = nI x)
def rl_nX (P : Nat → Nat → Nat) (no nn pt : Nat → Int32) (u : Nat) : Prop :=
  no u = nI (xc_t (P 0 u)) ∧ nn u = nI (P 1 u) ∧ pt (u * 3) = nI (P 2 u) ∧ pt (u * 3 + 1) = nI (P 3 u) ∧ pt (u * 3 + 2) = nI (P 4 u)
def rl_X (P : Nat → Nat → Nat) (L : Nat) (tx : Nat → Nat) (pl : Int32) (sl : Nat → Option (Nat × Nat)) (u : SX) : Prop := match u with
  | (f_width, f_textLength, f_foundPlace, f_tokenCount, f_frameCount, f_operandCount, f_defCount, f_nodeEnd, a_text, a_tokenCode, a_tokenPlace, a_frameCode, a_framePlace, a_operand, a_defPlace, a_defFirst, a_defEnd, a_nodeOp, a_nodeNumber, a_nodePlace, a_nodeDepth, a_nodeKind, a_part, a_size, a_kindFound, a_choice, a_status, a_result, a_slotFunction, a_slotArgument) => f_width = nI (P 6 0) ∧ f_textLength = nI L ∧ f_foundPlace = pl ∧ (∀ i, i < L → a_text i = nI (tx i)) ∧
      (∀ f, f < 5 → a_size f = nI (P 5 f)) ∧ (∀ u, ou_us P u → rl_nX P a_nodeOp a_nodeNumber a_part u) ∧ (∀ u, u < 120 → a_nodePlace u = 0) ∧
      (∀ f, f < 5 → 0 < P 5 f → ∃ r, a_kindFound f = nI r ∧ ki_r (rl_V P) 243 f r) ∧ rl_tX P (ou_E P) a_status a_result ∧ rl_sX sl a_slotFunction a_slotArgument
def rl_gc (g : Nat → Nat) (q : Nat) : Nat := g (q / 6) * 6 + q % 6
def rl_tY (P : Nat → Nat → Nat) (g : Nat → Nat) (T : Nat → Option ou_O) (st : Nat → Int32) (nu : Nat → Int64) (og : Nat → Int32) : Prop :=
  ∀ d, ou_uc P d → (T (rl_gc g d) = none → st d = 0) ∧ (∀ o, T (rl_gc g d) = some o → st d = nI o.1 ∧ (o.1 = 1 → (o.2.1 ≠ 3 → nu d = o.2.2) ∧
    (o.2.1 = 3 → (o.2.2 = 0 → nu d = 0) ∧ (o.2.2 ≠ 0 → nu d = 1 ∧ ∃ q, ou_uc P q ∧ og d = nI q ∧ rl_gc g q = ou_jn o.2.2))))
def rl_sY (sl : Nat → Option (Nat × Nat)) (sf sa sh : Nat → Int32) : Prop :=
  ∀ s, s < 3 → (sl s = none → sh s = 0) ∧ (∀ f x, sl s = some (f, x) → sh s = 1 ∧ sf s = nI f ∧ sa s = nI x)
def rl_nY (P : Nat → Nat → Nat) (g : Nat → Nat) (no nn na nb nc : Nat → Int32) (r : Nat) : Prop :=
  no r = nI (P 0 (g r)) ∧ nn r = nI (P 1 (g r)) ∧
  (0 < pg_n (P 0 (g r)) → ∃ a, na r = nI a ∧ ou_us P a ∧ g a = P 2 (g r)) ∧
  (1 < pg_n (P 0 (g r)) → ∃ a, nb r = nI a ∧ ou_us P a ∧ g a = P 3 (g r)) ∧
  (2 < pg_n (P 0 (g r)) → ∃ a, nc r = nI a ∧ ou_us P a ∧ g a = P 4 (g r))
def rl_g (P : Nat → Nat → Nat) (g : Nat → Nat) : Prop :=
  (∀ r, ou_us P r → ou_us P (g r) ∧ g r / 24 = r / 24) ∧ (∀ f, f < 5 → 0 < P 5 f → g (f * 24) = f * 24 + P 5 f - 1) ∧
  (∀ r s, ou_us P r → ou_us P s → g r = g s → r = s) ∧ (∀ u, ou_us P u → ∃ r, ou_us P r ∧ g r = u)
def rl_Y (P : Nat → Nat → Nat) (L : Nat) (tx : Nat → Nat) (pl : Int32) (sl : Nat → Option (Nat × Nat)) (g : Nat → Nat) (v : SY) : Prop := match v with
  | (f_width, f_length, f_place, f_toks, f_nodes, f_defs, a_text, a_tok, a_tokNum, a_tokPlace, a_opened, a_nOp, a_nNum, a_nPlace, a_nA, a_nB, a_nC, a_nLo, a_nHi, a_nLevel, a_defName, a_defPlace, a_defRoot, a_loaded, a_count, a_status, a_number, a_origin, a_choice, a_slotF, a_slotX, a_slotHeld) => f_width = nI (P 6 0) ∧ f_length = nI L ∧ f_place = pl ∧ (∀ i, i < L → a_text i = nI (tx i)) ∧
      (∀ f, f < 5 → a_loaded f = if 0 < P 5 f then 1 else 0) ∧ (∀ f, f < 5 → 0 < P 5 f → a_count f = nI (P 5 f)) ∧
      (∀ r, ou_us P r → rl_nY P g a_nOp a_nNum a_nA a_nB a_nC r) ∧ rl_g P g ∧ rl_tY P g (ou_E P) a_status a_number a_origin ∧ rl_sY sl a_slotF a_slotX a_slotHeld
def i_Rel (k : Nat) (u : SX) (v : SY) : Prop := ∃ P L tx pl sl g, rl_G P L tx sl ∧ rl_X P L tx pl sl u ∧ rl_Y P L tx pl sl g v
theorem i_up {k : Nat} {u : SX} {v : SY} (h : i_Rel k u v) : i_Rel (k + 4) u v := h
end
section
-- put, wipe, place, the constructors
theorem sm_ch {c : Nat} (h : c ≤ 126) : vp_nar .char (((nI c).toUInt32 % 65536).toInt32) = nI c := by
  rw [pk_vc, pk_char, pk_tn (by omega), Nat.mod_eq_of_lt (by omega)]
theorem i_vc_put {k : Nat} {u : SX} {v : SY} (I : i_Rel k u v) (hk : k + 4 ≤ 2049) (v1 : Int32) : wpX_put (fun r u' => wpY_put (fun r' v' => r' = r ∧ i_Rel (k + 4) u' v') v v1) u v1 := by
  have I0 := I
  obtain ⟨P, L, tx, pl, sl, g, hG, hX, hY⟩ := I
  obtain ⟨f_width, f_textLength, f_foundPlace, f_tokenCount, f_frameCount, f_operandCount, f_defCount, f_nodeEnd, a_text, a_tokenCode, a_tokenPlace, a_frameCode, a_framePlace, a_operand, a_defPlace, a_defFirst, a_defEnd, a_nodeOp, a_nodeNumber, a_nodePlace, a_nodeDepth, a_nodeKind, a_part, a_size, a_kindFound, a_choice, a_status, a_result, a_slotFunction, a_slotArgument⟩ := u
  obtain ⟨f_width2, f_length2, f_place2, f_toks2, f_nodes2, f_defs2, a_text2, a_tok2, a_tokNum2, a_tokPlace2, a_opened2, a_nOp2, a_nNum2, a_nPlace2, a_nA2, a_nB2, a_nC2, a_nLo2, a_nHi2, a_nLevel2, a_defName2, a_defPlace2, a_defRoot2, a_loaded2, a_count2, a_status2, a_number2, a_origin2, a_choice2, a_slotF2, a_slotX2, a_slotHeld2⟩ := v
  obtain ⟨x1, x2, x3, x4, x5, x6, x7, x8, x9, x10⟩ := hX
  obtain ⟨y1, y2, y3, y4, y5, y6, y7, y8, y9, y10⟩ := hY
  obtain ⟨g1, g2, g3, g4, g5, g6⟩ := hG
  subst x2
  subst y2
  have no : ∀ (hc : nI L = 200 → ¬ (L < 200)), (200 ≤ L ∨ v1 < 32 ∨ ¬ v1 ≤ 126) → (nI L = (200 : Int32) → True) := fun _ _ _ => trivial
  by_cases hL : L < 200
  · have hX1 : ¬ (200 : Int32) ≤ nI L := nI_ge (b := 200) hL (by decide)
    have hY1 : ¬ nI L = (200 : Int32) := fun q => by
      have := (nI_eq (b := 200) (by omega) (by decide)).mp q; omega
    by_cases h1 : v1 < 32
    · exact br_f hX1 (br_t h1 (br_f hY1 (br_t h1 ⟨rfl, I0⟩)))
    · by_cases h2 : v1 ≤ 126
      · obtain ⟨c, hc, rfl⟩ := nI_of2 (M := 126) (n := 126) (by decide) (fun q => h1 (Int32.lt_trans q (by decide))) h2
        have hin : vp_in (nI L) 200 := vp_in_nI hL (by decide)
        have h32 : 32 ≤ c := by
          rcases Nat.lt_or_ge c 32 with q | q
          · exact absurd (nI_lt (b := 32) q (by decide)) h1
          · exact q
        refine br_f hX1 (br_f h1 (br_t h2 ⟨hin, fun A eA B eB => br_f hY1 (br_f h1 (br_t h2 ⟨hin, fun A2 eA2 B2 eB2 => ⟨rfl, ?_⟩⟩))⟩))
        rw [nI_clamp (by omega)] at eA eA2
        rw [nI_1] at eB eB2
        rw [sm_ch hc] at eA2
        subst eA eA2 eB eB2
        have tt : ∀ (a : Nat → Int32), (∀ i, i < L → a i = nI (tx i)) → ∀ i, i < L + 1 → upd a L (nI c) i = nI (if i = L then c else tx i) := by
          intro a ha i hi
          by_cases e : i = L
          · rw [e, pk_us, if_pos rfl]
          · rw [pk_un e, if_neg e]; exact ha i (by omega)
        refine ⟨P, L + 1, fun i => if i = L then c else tx i, pl, sl, g, ⟨g1, g2, by omega, ?_, g5, g6⟩, ⟨x1, rfl, x3, tt _ x4, x5, x6, x7, x8, x9, x10⟩, ⟨y1, rfl, y3, tt _ y4, y5, y6, y7, y8, y9, y10⟩⟩
        intro i hi
        by_cases e : i = L
        · simp only [e, if_true]; exact ⟨h32, hc⟩
        · simp only [e, if_false]; exact g4 i (by omega)
      · exact br_f hX1 (br_f h1 (br_f h2 (br_f hY1 (br_f h1 (br_f h2 ⟨rfl, I0⟩)))))
  · have e : L = 200 := by omega
    subst e
    exact br_t (nI_le (a := 200) (by decide) (by decide)) (br_t rfl ⟨rfl, I0⟩)
theorem i_vc_wipe {k : Nat} {u : SX} {v : SY} (I : i_Rel k u v) (hk : k + 4 ≤ 2049) : wpX_wipe (fun r u' => wpY_wipe (fun r' v' => r' = r ∧ i_Rel (k + 4) u' v') v) u := by
  obtain ⟨P, L, tx, pl, sl, g, hG, hX, hY⟩ := I
  obtain ⟨f_width, f_textLength, f_foundPlace, f_tokenCount, f_frameCount, f_operandCount, f_defCount, f_nodeEnd, a_text, a_tokenCode, a_tokenPlace, a_frameCode, a_framePlace, a_operand, a_defPlace, a_defFirst, a_defEnd, a_nodeOp, a_nodeNumber, a_nodePlace, a_nodeDepth, a_nodeKind, a_part, a_size, a_kindFound, a_choice, a_status, a_result, a_slotFunction, a_slotArgument⟩ := u
  obtain ⟨f_width2, f_length2, f_place2, f_toks2, f_nodes2, f_defs2, a_text2, a_tok2, a_tokNum2, a_tokPlace2, a_opened2, a_nOp2, a_nNum2, a_nPlace2, a_nA2, a_nB2, a_nC2, a_nLo2, a_nHi2, a_nLevel2, a_defName2, a_defPlace2, a_defRoot2, a_loaded2, a_count2, a_status2, a_number2, a_origin2, a_choice2, a_slotF2, a_slotX2, a_slotHeld2⟩ := v
  obtain ⟨x1, x2, x3, x4, x5, x6, x7, x8, x9, x10⟩ := hX
  obtain ⟨y1, y2, y3, y4, y5, y6, y7, y8, y9, y10⟩ := hY
  obtain ⟨g1, g2, g3, g4, g5, g6⟩ := hG
  refine ⟨y2.trans x2.symm, P, 0, tx, pl, sl, g, ⟨g1, g2, by omega, fun i hi => absurd hi (Nat.not_lt_zero i), g5, g6⟩, ⟨x1, rfl, x3, fun i hi => absurd hi (Nat.not_lt_zero i), x5, x6, x7, x8, x9, x10⟩, ⟨y1, rfl, y3, fun i hi => absurd hi (Nat.not_lt_zero i), y5, y6, y7, y8, y9, y10⟩⟩
theorem i_vc_place {k : Nat} {u : SX} {v : SY} (I : i_Rel k u v) (hk : k + 4 ≤ 2049) : wpX_place (fun r => wpY_place (fun r' => r' = r ∧ i_Rel (k + 4) u v) v) u := by
  have I0 := I
  obtain ⟨P, L, tx, pl, sl, g, hG, hX, hY⟩ := I
  obtain ⟨f_width, f_textLength, f_foundPlace, f_tokenCount, f_frameCount, f_operandCount, f_defCount, f_nodeEnd, a_text, a_tokenCode, a_tokenPlace, a_frameCode, a_framePlace, a_operand, a_defPlace, a_defFirst, a_defEnd, a_nodeOp, a_nodeNumber, a_nodePlace, a_nodeDepth, a_nodeKind, a_part, a_size, a_kindFound, a_choice, a_status, a_result, a_slotFunction, a_slotArgument⟩ := u
  obtain ⟨f_width2, f_length2, f_place2, f_toks2, f_nodes2, f_defs2, a_text2, a_tok2, a_tokNum2, a_tokPlace2, a_opened2, a_nOp2, a_nNum2, a_nPlace2, a_nA2, a_nB2, a_nC2, a_nLo2, a_nHi2, a_nLevel2, a_defName2, a_defPlace2, a_defRoot2, a_loaded2, a_count2, a_status2, a_number2, a_origin2, a_choice2, a_slotF2, a_slotX2, a_slotHeld2⟩ := v
  obtain ⟨x1, x2, x3, x4, x5, x6, x7, x8, x9, x10⟩ := hX
  obtain ⟨y1, y2, y3, y4, y5, y6, y7, y8, y9, y10⟩ := hY
  exact ⟨y3.trans x3.symm, I0⟩
end
section
-- slots and cells
def sl_p (sl : Nat → Option (Nat × Nat)) (p : Int32) : Option (Nat × Nat) := if p < 0 ∨ 3 ≤ p then none else sl p.toNatClampNeg
def sl_d (P : Nat → Nat → Nat) (p : Int32) : Option Nat := if p < 0 ∨ 5 ≤ p then none else if P 5 p.toNatClampNeg = 0 then none else some p.toNatClampNeg
def sl_c (P : Nat → Nat → Nat) (p q : Int32) : Option (Nat × Nat) := match sl_d P p with
  | none => none
  | some f => if q < 0 ∨ nI (P 6 0) ≤ q then none else some (f, q.toNatClampNeg)
noncomputable def sl_k (P : Nat → Nat → Nat) (c : Nat) : Int32 := match ou_E P c with
  | none => 2
  | some o => nI o.1
theorem sl_in {p : Int32} {n : Nat} (hn : n < 2 ^ 31) (h : ¬ (p < 0 ∨ nI n ≤ p)) : ∃ j, j < n ∧ p = nI j ∧ p.toNatClampNeg = j := by
  rcases pk_ix p hn with q | q | ⟨j, hj, e⟩
  · exact absurd (Or.inl q) h
  · exact absurd (Or.inr q) h
  · exact ⟨j, hj, e, by rw [e, nI_clamp (by omega)]⟩
theorem sl_p3 {sl : Nat → Option (Nat × Nat)} {p : Int32} (h : ¬ (p < 0 ∨ 3 ≤ p)) : ∃ s, s < 3 ∧ p = nI s ∧ sl_p sl p = sl s := by
  obtain ⟨s, hs, e, e2⟩ := sl_in (n := 3) (by decide) h
  exact ⟨s, hs, e, by unfold sl_p; rw [if_neg h, e2]⟩
theorem sl_ds {P : Nat → Nat → Nat} {p : Int32} {f : Nat} (h : sl_d P p = some f) : f < 5 ∧ p = nI f ∧ 0 < P 5 f := by
  unfold sl_d at h
  by_cases c : p < 0 ∨ 5 ≤ p
  · rw [if_pos c] at h; exact absurd h (by simp)
  · rw [if_neg c] at h
    obtain ⟨s, hs, e, e2⟩ := sl_in (n := 5) (by decide) c
    rw [e2] at h
    by_cases z : P 5 s = 0
    · rw [if_pos z] at h; exact absurd h (by simp)
    · rw [if_neg z] at h
      have := Option.some.inj h
      subst this
      exact ⟨hs, e, by omega⟩
theorem sl_cs {P : Nat → Nat → Nat} {p q : Int32} {f x : Nat} (hw : P 6 0 ≤ 6) (h : sl_c P p q = some (f, x)) : f < 5 ∧ p = nI f ∧ 0 < P 5 f ∧ x < P 6 0 ∧ q = nI x := by
  unfold sl_c at h
  cases hd : sl_d P p with
  | none => rw [hd] at h; exact absurd h (by simp)
  | some f2 =>
    rw [hd] at h
    dsimp only at h
    by_cases c : q < 0 ∨ nI (P 6 0) ≤ q
    · rw [if_pos c] at h; exact absurd h (by simp)
    · rw [if_neg c] at h
      obtain ⟨s, hs, e, e2⟩ := sl_in (n := P 6 0) (by omega) c
      rw [e2] at h
      simp at h
      obtain ⟨rfl, rfl⟩ := h
      obtain ⟨a, b, c⟩ := sl_ds hd
      exact ⟨a, b, c, hs, e⟩
theorem sl_m1 {f : Nat} (h : f < 2 ^ 31) : ¬ nI f = -1 := fun q => by
  have := congrArg Int32.toInt q
  rw [nI_toInt h] at this
  have e : (-1 : Int32).toInt = -1 := by decide
  omega
theorem sl_cfl {P : Nat → Nat → Nat} {f x : Nat} (hP : pg_ok P) (hf : f < 5) (hs : 0 < P 5 f) (hx : x < P 6 0) : ou_uc P (ou_cf P f x) := by
  have := hP.2.1
  exact ⟨by rw [ou_cf_d (by omega)]; exact pg_ru hP hf hs, by rw [ou_cf_m (by omega)]; exact hx⟩
theorem sl_gy {P : Nat → Nat → Nat} {g : Nat → Nat} {f x : Nat} (hP : pg_ok P) (hg : rl_g P g) (hf : f < 5) (hs : 0 < P 5 f) (hx : x < P 6 0) : rl_gc g (f * 144 + x) = ou_cf P f x ∧ ou_uc P (f * 144 + x) := by
  have hw := hP.2.1
  have e1 : (f * 144 + x) / 6 = f * 24 := by omega
  have e2 : (f * 144 + x) % 6 = x := by omega
  have e3 : f * 24 / 24 = f := by omega
  have e4 : f * 24 % 24 = 0 := by omega
  refine ⟨?_, ⟨?_, ?_⟩, ?_⟩
  · unfold rl_gc ou_cf; rw [e1, e2, hg.2.1 f hf hs]
  · rw [e1]; omega
  · rw [e1, e3, e4]; exact hs
  · rw [e2]; exact hx
section
variable {P : Nat → Nat → Nat} {L : Nat} {tx : Nat → Nat} {pl : Int32} {sl : Nat → Option (Nat × Nat)} {g : Nat → Nat} {u : SX} {v : SY}
theorem sl_Xt (hG : rl_G P L tx sl) (hX : rl_X P L tx pl sl u) {p : Int32} {post : Int32 → Prop} (h0 : sl_p sl p = none → post 0) (h1 : ∀ s f x, s < 3 → p = nI s → sl s = some (f, x) → sl_p sl p = some (f, x) → post 1) : wpX_isTaken post u p := by
  obtain ⟨f_width, f_textLength, f_foundPlace, f_tokenCount, f_frameCount, f_operandCount, f_defCount, f_nodeEnd, a_text, a_tokenCode, a_tokenPlace, a_frameCode, a_framePlace, a_operand, a_defPlace, a_defFirst, a_defEnd, a_nodeOp, a_nodeNumber, a_nodePlace, a_nodeDepth, a_nodeKind, a_part, a_size, a_kindFound, a_choice, a_status, a_result, a_slotFunction, a_slotArgument⟩ := u
  obtain ⟨x1, x2, x3, x4, x5, x6, x7, x8, x9, x10⟩ := hX
  by_cases a : p < 0
  · exact br_t a (h0 (if_pos (Or.inl a)))
  · refine br_f a ?_
    by_cases b : 3 ≤ p
    · exact br_t b (h0 (if_pos (Or.inr b)))
    · refine br_f b ?_
      obtain ⟨s, hs, rfl, e⟩ := sl_p3 (sl := sl) (p := p) (fun q => q.elim a b)
      refine ⟨vp_in_nI hs (by decide), ?_⟩
      rw [nI_clamp (by omega)]
      obtain ⟨z0, z1⟩ := x10 s hs
      cases hc : sl s with
      | none => exact br_t (z0 hc) (h0 (e.trans hc))
      | some fx =>
        obtain ⟨f, x⟩ := fx
        have zz := (z1 f x hc).1
        have hf := (hG.2.2.2.2.2 s hs f x hc).1
        exact br_f (by rw [zz]; exact sl_m1 (by omega)) (h1 s f x hs rfl hc (e.trans hc))
theorem sl_Yt (hY : rl_Y P L tx pl sl g v) {p : Int32} {post : Int32 → Prop} (h0 : sl_p sl p = none → post 0) (h1 : ∀ s f x, s < 3 → p = nI s → sl s = some (f, x) → sl_p sl p = some (f, x) → post 1) : wpY_held post v p := by
  obtain ⟨f_width, f_length, f_place, f_toks, f_nodes, f_defs, a_text, a_tok, a_tokNum, a_tokPlace, a_opened, a_nOp, a_nNum, a_nPlace, a_nA, a_nB, a_nC, a_nLo, a_nHi, a_nLevel, a_defName, a_defPlace, a_defRoot, a_loaded, a_count, a_status, a_number, a_origin, a_choice, a_slotF, a_slotX, a_slotHeld⟩ := v
  obtain ⟨y1, y2, y3, y4, y5, y6, y7, y8, y9, y10⟩ := hY
  by_cases a : p < 0
  · exact br_t a (h0 (if_pos (Or.inl a)))
  · refine br_f a ?_
    by_cases b : 3 ≤ p
    · exact br_t b (h0 (if_pos (Or.inr b)))
    · refine br_f b ?_
      obtain ⟨s, hs, rfl, e⟩ := sl_p3 (sl := sl) (p := p) (fun q => q.elim a b)
      refine ⟨vp_in_nI hs (by decide), ?_⟩
      rw [nI_clamp (by omega)]
      obtain ⟨z0, z1⟩ := y10 s hs
      cases hc : sl s with
      | none => exact br_t (z0 hc) (h0 (e.trans hc))
      | some fx =>
        obtain ⟨f, x⟩ := fx
        have zz := (z1 f x hc).1
        exact br_f (by rw [zz]; decide) (h1 s f x hs rfl hc (e.trans hc))
theorem sl_Xd (hG : rl_G P L tx sl) (hX : rl_X P L tx pl sl u) {p : Int32} {post : Int32 → Prop} (h0 : sl_d P p = none → post 0) (h1 : ∀ f, sl_d P p = some f → post 1) : wpX_isDefined post u p := by
  obtain ⟨f_width, f_textLength, f_foundPlace, f_tokenCount, f_frameCount, f_operandCount, f_defCount, f_nodeEnd, a_text, a_tokenCode, a_tokenPlace, a_frameCode, a_framePlace, a_operand, a_defPlace, a_defFirst, a_defEnd, a_nodeOp, a_nodeNumber, a_nodePlace, a_nodeDepth, a_nodeKind, a_part, a_size, a_kindFound, a_choice, a_status, a_result, a_slotFunction, a_slotArgument⟩ := u
  obtain ⟨x1, x2, x3, x4, x5, x6, x7, x8, x9, x10⟩ := hX
  by_cases a : p < 0
  · exact br_t a (h0 (if_pos (Or.inl a)))
  · refine br_f a ?_
    by_cases b : 5 ≤ p
    · exact br_t b (h0 (if_pos (Or.inr b)))
    · refine br_f b ?_
      have nab : ¬ (p < 0 ∨ 5 ≤ p) := fun q => q.elim a b
      obtain ⟨s, hs, e, e2⟩ := sl_in (n := 5) (by decide) nab
      have e3 : sl_d P p = if P 5 s = 0 then none else some s := by unfold sl_d; rw [if_neg nab, e2]
      refine ⟨by rw [e]; exact vp_in_nI hs (by decide), ?_⟩
      rw [e2, x5 s hs]
      have := hG.1.2.2.1 s
      refine pk_le (P 5 s) 0 (fun q => h0 ?_) (fun q => h1 s ?_)
      · rw [e3, if_pos (by omega)]
      · rw [e3, if_neg (by omega)]
theorem sl_Xc (hG : rl_G P L tx sl) (hX : rl_X P L tx pl sl u) {p q : Int32} {post : Int32 → Prop} (h0 : sl_c P p q = none → post 0) (h1 : ∀ f x, sl_c P p q = some (f, x) → post 1) : wpX_isCell post u p q := by
  have hX0 := hX
  obtain ⟨f_width, f_textLength, f_foundPlace, f_tokenCount, f_frameCount, f_operandCount, f_defCount, f_nodeEnd, a_text, a_tokenCode, a_tokenPlace, a_frameCode, a_framePlace, a_operand, a_defPlace, a_defFirst, a_defEnd, a_nodeOp, a_nodeNumber, a_nodePlace, a_nodeDepth, a_nodeKind, a_part, a_size, a_kindFound, a_choice, a_status, a_result, a_slotFunction, a_slotArgument⟩ := u
  obtain ⟨x1, x2, x3, x4, x5, x6, x7, x8, x9, x10⟩ := hX
  unfold wpX_isCell
  refine sl_Xd hG hX0 (fun hd => br_t rfl (h0 ?_)) (fun f hd => bq_1 ?_)
  · unfold sl_c; rw [hd]
  · have e : sl_c P p q = if q < 0 ∨ nI (P 6 0) ≤ q then none else some (f, q.toNatClampNeg) := by unfold sl_c; rw [hd]
    rw [x1]
    by_cases a : q < 0
    · exact br_t a (h0 (by rw [e, if_pos (Or.inl a)]))
    · refine br_f a ?_
      by_cases b : nI (P 6 0) ≤ q
      · exact br_t b (h0 (by rw [e, if_pos (Or.inr b)]))
      · exact br_f b (h1 f q.toNatClampNeg (by rw [e, if_neg (fun z => z.elim a b)]))
theorem sl_Xf (hG : rl_G P L tx sl) (hX : rl_X P L tx pl sl u) {f x : Nat} (hf : f < 5) (hs : 0 < P 5 f) {post : Int32 → Prop} (h : post (nI (ou_cf P f x))) : wpX_cellOf post u (nI f) (nI x) := by
  obtain ⟨f_width, f_textLength, f_foundPlace, f_tokenCount, f_frameCount, f_operandCount, f_defCount, f_nodeEnd, a_text, a_tokenCode, a_tokenPlace, a_frameCode, a_framePlace, a_operand, a_defPlace, a_defFirst, a_defEnd, a_nodeOp, a_nodeNumber, a_nodePlace, a_nodeDepth, a_nodeKind, a_part, a_size, a_kindFound, a_choice, a_status, a_result, a_slotFunction, a_slotArgument⟩ := u
  obtain ⟨x1, x2, x3, x4, x5, x6, x7, x8, x9, x10⟩ := hX
  refine ⟨vp_in_nI hf (by decide), ?_⟩
  rw [nI_clamp (by omega), x5 f hf]
  have e : (nI f * 24 + nI (P 5 f) - 1) * 6 + nI x = nI (ou_cf P f x) := by
    have a : nI f * 24 = nI (f * 24) := pk_mul f 24
    rw [a, nI_add]
    have b : nI (f * 24 + P 5 f) - 1 = nI (f * 24 + P 5 f - 1) := pk_sub (a := f * 24 + P 5 f) (b := 1) (by omega)
    rw [b]
    have c : nI (f * 24 + P 5 f - 1) * 6 = nI ((f * 24 + P 5 f - 1) * 6) := pk_mul _ 6
    rw [c, nI_add]; rfl
  rw [e]; exact h
theorem sl_k2 {c : Nat} (hP : pg_ok P) (hu : ou_uc P c) {st : Nat → Int32} {re : Nat → Int64} (ht : rl_tX P (ou_E P) st re) : st c = sl_k P c := by
  obtain ⟨a, b⟩ := ht c hu
  unfold sl_k
  cases h : ou_E P c with
  | none => exact a h
  | some o => exact (b o h).1
theorem sl_Xl (hG : rl_G P L tx sl) (hX : rl_X P L tx pl sl u) {p q : Int32} {post : Int32 → Prop} (h0 : sl_c P p q = none → post 0) (h1 : ∀ f x, sl_c P p q = some (f, x) → post (sl_k P (ou_cf P f x))) : wpX_look post u p q := by
  have hX0 := hX
  obtain ⟨f_width, f_textLength, f_foundPlace, f_tokenCount, f_frameCount, f_operandCount, f_defCount, f_nodeEnd, a_text, a_tokenCode, a_tokenPlace, a_frameCode, a_framePlace, a_operand, a_defPlace, a_defFirst, a_defEnd, a_nodeOp, a_nodeNumber, a_nodePlace, a_nodeDepth, a_nodeKind, a_part, a_size, a_kindFound, a_choice, a_status, a_result, a_slotFunction, a_slotArgument⟩ := u
  obtain ⟨x1, x2, x3, x4, x5, x6, x7, x8, x9, x10⟩ := hX
  unfold wpX_look
  refine sl_Xc hG hX0 (fun hd => br_t rfl (h0 hd)) (fun f x hd => bq_1 ?_)
  obtain ⟨c1, c2, c3, c4, c5⟩ := sl_cs hG.1.2.1 hd
  rw [c2, c5]
  have hu := sl_cfl hG.1 c1 c3 c4
  have hl := ou_uc_lt hu
  refine sl_Xf hG hX0 c1 c3 ⟨vp_in_nI hl (by decide), ?_⟩
  rw [nI_clamp (by omega), sl_k2 hG.1 hu x9]
  exact h1 f x hd
theorem sl_Yl (hG : rl_G P L tx sl) (hY : rl_Y P L tx pl sl g v) {p q : Int32} {post : Int32 → Prop} (h0 : sl_c P p q = none → post 0) (h1 : ∀ f x, sl_c P p q = some (f, x) → post (sl_k P (ou_cf P f x))) : wpY_look post v p q := by
  obtain ⟨f_width, f_length, f_place, f_toks, f_nodes, f_defs, a_text, a_tok, a_tokNum, a_tokPlace, a_opened, a_nOp, a_nNum, a_nPlace, a_nA, a_nB, a_nC, a_nLo, a_nHi, a_nLevel, a_defName, a_defPlace, a_defRoot, a_loaded, a_count, a_status, a_number, a_origin, a_choice, a_slotF, a_slotX, a_slotHeld⟩ := v
  obtain ⟨y1, y2, y3, y4, y5, y6, y7, y8, y9, y10⟩ := hY
  have no : sl_d P p = none → post 0 := fun hd => h0 (by unfold sl_c; rw [hd])
  by_cases a : p < 0
  · exact br_t a (no (if_pos (Or.inl a)))
  · refine br_f a ?_
    by_cases b : 4 < p
    · exact br_t b (no (if_pos (Or.inr b)))
    · refine br_f b ?_
      have nab : ¬ (p < 0 ∨ 5 ≤ p) := fun q => q.elim a b
      obtain ⟨s, hs, e, e2⟩ := sl_in (n := 5) (by decide) nab
      have e3 : sl_d P p = if P 5 s = 0 then none else some s := by unfold sl_d; rw [if_neg nab, e2]
      refine ⟨by rw [e]; exact vp_in_nI hs (by decide), ?_⟩
      rw [e2, y5 s hs]
      by_cases z : 0 < P 5 s
      · rw [if_pos z]
        refine bq_1 ?_
        have e4 : sl_c P p q = if q < 0 ∨ nI (P 6 0) ≤ q then none else some (s, q.toNatClampNeg) := by unfold sl_c; rw [e3, if_neg (by omega)]
        rw [y1]
        by_cases c : q < 0
        · exact br_t c (h0 (by rw [e4, if_pos (Or.inl c)]))
        · refine br_f c ?_
          by_cases d : nI (P 6 0) ≤ q
          · exact br_f (Int32.not_lt.mpr d) (h0 (by rw [e4, if_pos (Or.inr d)]))
          · have ncd : ¬ (q < 0 ∨ nI (P 6 0) ≤ q) := fun z => z.elim c d
            refine br_t (Int32.not_le.mp d) ?_
            have hw := hG.1.2.1
            obtain ⟨x, hx, ex, ex2⟩ := sl_in (n := P 6 0) (by omega) ncd
            have h1' := h1 s x (by rw [e4, if_neg ncd, ex2])
            have e5 : p * 144 + q = nI (s * 144 + x) := by
              rw [e, ex]
              have : nI s * 144 = nI (s * 144) := pk_mul s 144
              rw [this, nI_add]
            rw [e5]
            obtain ⟨gy, ud⟩ := sl_gy hG.1 y8 hs z hx
            have hl := ou_uc_lt ud
            refine ⟨vp_in_nI hl (by decide), ?_⟩
            rw [nI_clamp (by omega)]
            obtain ⟨t0, t1⟩ := y9 _ ud
            rw [gy] at t0 t1
            unfold sl_k at h1'
            cases hE : ou_E P (ou_cf P s x) with
            | none => rw [hE] at h1'; exact br_t (t0 hE) h1'
            | some o =>
              rw [hE] at h1'
              have w := (t1 o hE).1
              obtain ⟨c0, _, hc0⟩ := hG.2.1
              have ty := ty_ev hG.1 (ki_ty hG.1 hc0)
              obtain ⟨k0, hk0⟩ := ou_E_s.mp hE
              have to := ty _ _ _ hk0
              have ho : 0 < o.1 ∧ o.1 < 6 := by
                rcases to with to | to
                · rw [to.1]; omega
                · have := to.1; omega
              refine br_f (by rw [w]; exact nI_ne0 ho.1 (by omega)) ⟨vp_in_nI hl (by decide), ?_⟩
              rw [w]; exact h1'
      · rw [if_neg z]
        exact br_t rfl (no (by rw [e3, if_pos (by omega)]))
end
end
section
-- the methods of the slots, and look
theorem i_vc_work {k : Nat} {u : SX} {v : SY} (I : i_Rel k u v) (hk : k + 4 ≤ 2049) (v1 : Int32) (v2 : Int32) : wpX_work (fun r => wpY_work (fun r' => r' = r ∧ i_Rel (k + 4) u v) v v1 v2) u v1 v2 := by
  have I0 := I
  obtain ⟨P, L, tx, pl, sl, g, hG, hX, hY⟩ := I
  have hX0 := hX
  have hY0 := hY
  obtain ⟨f_width, f_textLength, f_foundPlace, f_tokenCount, f_frameCount, f_operandCount, f_defCount, f_nodeEnd, a_text, a_tokenCode, a_tokenPlace, a_frameCode, a_framePlace, a_operand, a_defPlace, a_defFirst, a_defEnd, a_nodeOp, a_nodeNumber, a_nodePlace, a_nodeDepth, a_nodeKind, a_part, a_size, a_kindFound, a_choice, a_status, a_result, a_slotFunction, a_slotArgument⟩ := u
  obtain ⟨f_width2, f_length2, f_place2, f_toks2, f_nodes2, f_defs2, a_text2, a_tok2, a_tokNum2, a_tokPlace2, a_opened2, a_nOp2, a_nNum2, a_nPlace2, a_nA2, a_nB2, a_nC2, a_nLo2, a_nHi2, a_nLevel2, a_defName2, a_defPlace2, a_defRoot2, a_loaded2, a_count2, a_status2, a_number2, a_origin2, a_choice2, a_slotF2, a_slotX2, a_slotHeld2⟩ := v
  have yy : ∀ (r : Int32), (sl_p sl v1 = none → r = 0) → (∀ s f x, s < 3 → v1 = nI s → sl s = some (f, x) → sl_p sl v1 = some (f, x) → (v2 < 1 → r = 0) ∧ (¬ v2 < 1 → (60 < v2 → r = 0) ∧ (¬ 60 < v2 → r = 1))) → wpY_work (fun r' => r' = r ∧ i_Rel (k + 4) (f_width, f_textLength, f_foundPlace, f_tokenCount, f_frameCount, f_operandCount, f_defCount, f_nodeEnd, a_text, a_tokenCode, a_tokenPlace, a_frameCode, a_framePlace, a_operand, a_defPlace, a_defFirst, a_defEnd, a_nodeOp, a_nodeNumber, a_nodePlace, a_nodeDepth, a_nodeKind, a_part, a_size, a_kindFound, a_choice, a_status, a_result, a_slotFunction, a_slotArgument) (f_width2, f_length2, f_place2, f_toks2, f_nodes2, f_defs2, a_text2, a_tok2, a_tokNum2, a_tokPlace2, a_opened2, a_nOp2, a_nNum2, a_nPlace2, a_nA2, a_nB2, a_nC2, a_nLo2, a_nHi2, a_nLevel2, a_defName2, a_defPlace2, a_defRoot2, a_loaded2, a_count2, a_status2, a_number2, a_origin2, a_choice2, a_slotF2, a_slotX2, a_slotHeld2)) (f_width2, f_length2, f_place2, f_toks2, f_nodes2, f_defs2, a_text2, a_tok2, a_tokNum2, a_tokPlace2, a_opened2, a_nOp2, a_nNum2, a_nPlace2, a_nA2, a_nB2, a_nC2, a_nLo2, a_nHi2, a_nLevel2, a_defName2, a_defPlace2, a_defRoot2, a_loaded2, a_count2, a_status2, a_number2, a_origin2, a_choice2, a_slotF2, a_slotX2, a_slotHeld2) v1 v2 := by
    intro r a b
    unfold wpY_work
    refine sl_Yt hY0 (fun h => br_t rfl ⟨(a h).symm, I0⟩) (fun s f x h1 h2 h3 h4 => bq_1 ?_)
    obtain ⟨b1, b2⟩ := b s f x h1 h2 h3 h4
    exact br_c (fun c => ⟨(b1 c).symm, I0⟩) (fun c => br_c (fun d => ⟨((b2 c).1 d).symm, I0⟩) (fun d => ⟨((b2 c).2 d).symm, I0⟩))
  unfold wpX_work
  refine sl_Xt hG hX0 (fun h => br_t rfl (yy 0 (fun _ => rfl) (fun s f x h1 h2 h3 h4 => by rw [h] at h4; exact absurd h4 (by simp)))) (fun s f x h1 h2 h3 h4 => bq_1 ?_)
  have n : sl_p sl v1 = none → ∀ r : Int32, r = 0 := fun q => by rw [q] at h4; exact absurd h4 (by simp)
  exact br_c (fun c => yy 0 (fun q => n q _) (fun _ _ _ _ _ _ _ => ⟨fun _ => rfl, fun d => absurd c d⟩))
    (fun c => br_c (fun d => yy 0 (fun q => n q _) (fun _ _ _ _ _ _ _ => ⟨fun e => absurd e c, fun _ => ⟨fun _ => rfl, fun e => absurd d e⟩⟩))
      (fun d => yy 1 (fun q => n q _) (fun _ _ _ _ _ _ _ => ⟨fun e => absurd e c, fun _ => ⟨fun e => absurd e d, fun _ => rfl⟩⟩)))
theorem i_vc_pending {k : Nat} {u : SX} {v : SY} (I : i_Rel k u v) (hk : k + 4 ≤ 2049) (v1 : Int32) : wpX_pending (fun r => wpY_pending (fun r' => r' = r ∧ i_Rel (k + 4) u v) v v1) u v1 := by
  have I0 := I
  obtain ⟨P, L, tx, pl, sl, g, hG, hX, hY⟩ := I
  have hX0 := hX
  have hY0 := hY
  obtain ⟨f_width, f_textLength, f_foundPlace, f_tokenCount, f_frameCount, f_operandCount, f_defCount, f_nodeEnd, a_text, a_tokenCode, a_tokenPlace, a_frameCode, a_framePlace, a_operand, a_defPlace, a_defFirst, a_defEnd, a_nodeOp, a_nodeNumber, a_nodePlace, a_nodeDepth, a_nodeKind, a_part, a_size, a_kindFound, a_choice, a_status, a_result, a_slotFunction, a_slotArgument⟩ := u
  obtain ⟨f_width2, f_length2, f_place2, f_toks2, f_nodes2, f_defs2, a_text2, a_tok2, a_tokNum2, a_tokPlace2, a_opened2, a_nOp2, a_nNum2, a_nPlace2, a_nA2, a_nB2, a_nC2, a_nLo2, a_nHi2, a_nLevel2, a_defName2, a_defPlace2, a_defRoot2, a_loaded2, a_count2, a_status2, a_number2, a_origin2, a_choice2, a_slotF2, a_slotX2, a_slotHeld2⟩ := v
  obtain ⟨x1, x2, x3, x4, x5, x6, x7, x8, x9, x10⟩ := hX
  obtain ⟨y1, y2, y3, y4, y5, y6, y7, y8, y9, y10⟩ := hY
  unfold wpX_pending
  refine sl_Xt hG hX0 (fun h => br_t rfl ?_) (fun s f x h1 h2 h3 h4 => bq_1 ?_)
  · unfold wpY_pending
    refine sl_Yt hY0 (fun _ => br_t rfl ⟨rfl, I0⟩) (fun s f x h1 h2 h3 h4 => ?_)
    rw [h] at h4; exact absurd h4 (by simp)
  · subst h2
    have hin := vp_in_nI h1 (by decide)
    refine ⟨hin, hin, ?_⟩
    unfold wpY_pending
    refine sl_Yt hY0 (fun h => ?_) (fun s2 f2 z2 h12 h22 h32 h42 => bq_1 ⟨hin, hin, ?_, I0⟩)
    · rw [h] at h4; exact absurd h4 (by simp)
    · rw [nI_clamp (by omega), ((x10 s h1).2 f x h3).1, ((x10 s h1).2 f x h3).2, ((y10 s h1).2 f x h3).2.1, ((y10 s h1).2 f x h3).2.2]
theorem sm_sN {sl : Nat → Option (Nat × Nat)} {P : Nat → Nat → Nat} {L : Nat} {tx : Nat → Nat} {s : Nat} (hG : rl_G P L tx sl) : rl_G P L tx (fun i => if i = s then none else sl i) := by
  obtain ⟨g1, g2, g3, g4, g5, g6⟩ := hG
  refine ⟨g1, g2, g3, g4, g5, fun t ht f x e => ?_⟩
  by_cases c : t = s
  · simp only [c, if_true] at e; exact absurd e (by simp)
  · simp only [c, if_false] at e; exact g6 t ht f x e
theorem sm_xN {sl : Nat → Option (Nat × Nat)} {sf sa : Nat → Int32} {s : Nat} (h : rl_sX sl sf sa) : rl_sX (fun i => if i = s then none else sl i) (upd sf s (-1)) sa := by
  intro t ht
  by_cases c : t = s
  · subst c
    refine ⟨fun _ => pk_us, fun f x e => ?_⟩
    simp only [if_true] at e; exact absurd e (by simp)
  · simp only [c, if_false]; rw [pk_un c]; exact h t ht
theorem sm_yN {sl : Nat → Option (Nat × Nat)} {sf sa sh : Nat → Int32} {s : Nat} (h : rl_sY sl sf sa sh) : rl_sY (fun i => if i = s then none else sl i) sf sa (upd sh s (vp_nar .boolean 0)) := by
  intro t ht
  by_cases c : t = s
  · subst c
    refine ⟨fun _ => pk_us.trans (by decide), fun f x e => ?_⟩
    simp only [if_true] at e; exact absurd e (by simp)
  · simp only [c, if_false]; rw [pk_un c]; exact h t ht
theorem i_vc_cancel {k : Nat} {u : SX} {v : SY} (I : i_Rel k u v) (hk : k + 4 ≤ 2049) (v1 : Int32) : wpX_cancel (fun r u' => wpY_cancel (fun r' v' => r' = r ∧ i_Rel (k + 4) u' v') v v1) u v1 := by
  have I0 := I
  obtain ⟨P, L, tx, pl, sl, g, hG, hX, hY⟩ := I
  have hX0 := hX
  have hY0 := hY
  obtain ⟨f_width, f_textLength, f_foundPlace, f_tokenCount, f_frameCount, f_operandCount, f_defCount, f_nodeEnd, a_text, a_tokenCode, a_tokenPlace, a_frameCode, a_framePlace, a_operand, a_defPlace, a_defFirst, a_defEnd, a_nodeOp, a_nodeNumber, a_nodePlace, a_nodeDepth, a_nodeKind, a_part, a_size, a_kindFound, a_choice, a_status, a_result, a_slotFunction, a_slotArgument⟩ := u
  obtain ⟨f_width2, f_length2, f_place2, f_toks2, f_nodes2, f_defs2, a_text2, a_tok2, a_tokNum2, a_tokPlace2, a_opened2, a_nOp2, a_nNum2, a_nPlace2, a_nA2, a_nB2, a_nC2, a_nLo2, a_nHi2, a_nLevel2, a_defName2, a_defPlace2, a_defRoot2, a_loaded2, a_count2, a_status2, a_number2, a_origin2, a_choice2, a_slotF2, a_slotX2, a_slotHeld2⟩ := v
  obtain ⟨x1, x2, x3, x4, x5, x6, x7, x8, x9, x10⟩ := hX
  obtain ⟨y1, y2, y3, y4, y5, y6, y7, y8, y9, y10⟩ := hY
  unfold wpX_cancel
  refine sl_Xt hG hX0 (fun h => br_t rfl ?_) (fun s f x h1 h2 h3 h4 => bq_1 ?_)
  · unfold wpY_cancel
    refine sl_Yt hY0 (fun _ => br_t rfl ⟨rfl, I0⟩) (fun s f x h1 h2 h3 h4 => ?_)
    rw [h] at h4; exact absurd h4 (by simp)
  · subst h2
    have hin := vp_in_nI h1 (by decide)
    refine ⟨hin, fun A eA => ?_⟩
    unfold wpY_cancel
    refine sl_Yt hY0 (fun h => ?_) (fun s2 f2 z2 h12 h22 h32 h42 => bq_1 ⟨hin, fun B eB => ⟨rfl, ?_⟩⟩)
    · rw [h] at h4; exact absurd h4 (by simp)
    · rw [nI_clamp (by omega)] at eA eB
      subst eA eB
      exact ⟨P, L, tx, pl, _, g, sm_sN hG, ⟨x1, x2, x3, x4, x5, x6, x7, x8, x9, sm_xN x10⟩, ⟨y1, y2, y3, y4, y5, y6, y7, y8, y9, sm_yN y10⟩⟩
theorem i_vc_look {k : Nat} {u : SX} {v : SY} (I : i_Rel k u v) (hk : k + 4 ≤ 2049) (v1 : Int32) (v2 : Int32) : wpX_look (fun r => wpY_look (fun r' => r' = r ∧ i_Rel (k + 4) u v) v v1 v2) u v1 v2 := by
  have I0 := I
  obtain ⟨P, L, tx, pl, sl, g, hG, hX, hY⟩ := I
  refine sl_Xl hG hX (fun h => sl_Yl hG hY (fun _ => ⟨rfl, I0⟩) (fun f x h2 => ?_)) (fun f x h => sl_Yl hG hY (fun h2 => ?_) (fun f2 x2 h2 => ?_))
  · rw [h] at h2; exact absurd h2 (by simp)
  · rw [h] at h2; exact absurd h2 (by simp)
  · rw [h] at h2
    have := Option.some.inj h2
    simp at this
    rw [this.1, this.2]; exact ⟨rfl, I0⟩
theorem sl_cn {P : Nat → Nat → Nat} {f x : Nat} (hw : P 6 0 ≤ 6) (hf : f < 5) (hs : 0 < P 5 f) (hx : x < P 6 0) : sl_c P (nI f) (nI x) = some (f, x) := by
  have a : ¬ (nI f < 0 ∨ (5 : Int32) ≤ nI f) := fun q => q.elim (nI_pos (by omega)) (nI_ge (b := 5) hf (by decide))
  have b : ¬ (nI x < 0 ∨ nI (P 6 0) ≤ nI x) := fun q => q.elim (nI_pos (by omega)) (nI_ge hx (by omega))
  have e : sl_d P (nI f) = some f := by unfold sl_d; rw [if_neg a, nI_clamp (by omega), if_neg (by omega)]
  unfold sl_c
  rw [e]
  dsimp only
  rw [if_neg b, nI_clamp (by omega)]
theorem i_vc_answer {k : Nat} {u : SX} {v : SY} (I : i_Rel k u v) (hk : k + 4 ≤ 2049) (v1 : Int32) : wpX_answer (fun r u' => wpY_answer (fun r' v' => r' = r ∧ i_Rel (k + 4) u' v') v v1) u v1 := by
  have I0 := I
  obtain ⟨P, L, tx, pl, sl, g, hG, hX, hY⟩ := I
  have hX0 := hX
  have hY0 := hY
  obtain ⟨f_width, f_textLength, f_foundPlace, f_tokenCount, f_frameCount, f_operandCount, f_defCount, f_nodeEnd, a_text, a_tokenCode, a_tokenPlace, a_frameCode, a_framePlace, a_operand, a_defPlace, a_defFirst, a_defEnd, a_nodeOp, a_nodeNumber, a_nodePlace, a_nodeDepth, a_nodeKind, a_part, a_size, a_kindFound, a_choice, a_status, a_result, a_slotFunction, a_slotArgument⟩ := u
  obtain ⟨f_width2, f_length2, f_place2, f_toks2, f_nodes2, f_defs2, a_text2, a_tok2, a_tokNum2, a_tokPlace2, a_opened2, a_nOp2, a_nNum2, a_nPlace2, a_nA2, a_nB2, a_nC2, a_nLo2, a_nHi2, a_nLevel2, a_defName2, a_defPlace2, a_defRoot2, a_loaded2, a_count2, a_status2, a_number2, a_origin2, a_choice2, a_slotF2, a_slotX2, a_slotHeld2⟩ := v
  obtain ⟨x1, x2, x3, x4, x5, x6, x7, x8, x9, x10⟩ := hX
  obtain ⟨y1, y2, y3, y4, y5, y6, y7, y8, y9, y10⟩ := hY
  unfold wpX_answer
  refine sl_Xt hG hX0 (fun h => br_t rfl ?_) (fun s f x h1 h2 h3 h4 => bq_1 ?_)
  · unfold wpY_answer
    refine sl_Yt hY0 (fun _ => br_t rfl ⟨rfl, I0⟩) (fun s f x h1 h2 h3 h4 => ?_)
    rw [h] at h4; exact absurd h4 (by simp)
  · subst h2
    have hin := vp_in_nI h1 (by decide)
    obtain ⟨f5, fs, fx⟩ := hG.2.2.2.2.2 s h1 f x h3
    have cn := sl_cn hG.1.2.1 f5 fs fx
    refine ⟨hin, hin, ?_⟩
    rw [nI_clamp (by omega), ((x10 s h1).2 f x h3).1, ((x10 s h1).2 f x h3).2]
    refine sl_Xl hG hX0 (fun h => ?_) (fun f2 z2 hc => ⟨hin, fun A eA => ?_⟩)
    · rw [cn] at h; exact absurd h (by simp)
    · rw [cn] at hc
      obtain ⟨rfl, rfl⟩ : f = f2 ∧ x = z2 := by simpa using hc
      subst eA
      unfold wpY_answer
      refine sl_Yt hY0 (fun h => ?_) (fun s2 f2 z2 h12 h22 h32 h42 => bq_1 ⟨hin, fun B eB => ⟨hin, hin, ?_⟩⟩)
      · rw [h] at h4; exact absurd h4 (by simp)
      · rw [nI_clamp (by omega)] at eB ⊢
        subst eB
        rw [((y10 s h1).2 f x h3).2.1, ((y10 s h1).2 f x h3).2.2]
        have hG' := sm_sN (s := s) hG
        have hY' : rl_Y P L tx pl (fun i => if i = s then none else sl i) g (f_width2, f_length2, f_place2, f_toks2, f_nodes2, f_defs2, a_text2, a_tok2, a_tokNum2, a_tokPlace2, a_opened2, a_nOp2, a_nNum2, a_nPlace2, a_nA2, a_nB2, a_nC2, a_nLo2, a_nHi2, a_nLevel2, a_defName2, a_defPlace2, a_defRoot2, a_loaded2, a_count2, a_status2, a_number2, a_origin2, a_choice2, a_slotF2, a_slotX2, upd a_slotHeld2 s (vp_nar .boolean 0)) := ⟨y1, y2, y3, y4, y5, y6, y7, y8, y9, sm_yN y10⟩
        refine sl_Yl hG' hY' (fun h => ?_) (fun f2 z2 hc => ?_)
        · rw [cn] at h; exact absurd h (by simp)
        · rw [cn] at hc
          obtain ⟨rfl, rfl⟩ : f = f2 ∧ x = z2 := by simpa using hc
          refine ⟨rfl, P, L, tx, pl, _, g, hG', ⟨x1, x2, x3, x4, x5, x6, x7, x8, x9, ?_⟩, hY'⟩
          exact sm_xN x10
theorem sm_sA {sl : Nat → Option (Nat × Nat)} {P : Nat → Nat → Nat} {L : Nat} {tx : Nat → Nat} {s f x : Nat} (hG : rl_G P L tx sl) (hf : f < 5) (hs : 0 < P 5 f) (hx : x < P 6 0) : rl_G P L tx (fun i => if i = s then some (f, x) else sl i) := by
  obtain ⟨g1, g2, g3, g4, g5, g6⟩ := hG
  refine ⟨g1, g2, g3, g4, g5, fun t ht f2 x2 e => ?_⟩
  by_cases c : t = s
  · simp only [c, if_true] at e
    obtain ⟨rfl, rfl⟩ : f = f2 ∧ x = x2 := by simpa using e
    exact ⟨hf, hs, hx⟩
  · simp only [c, if_false] at e; exact g6 t ht f2 x2 e
theorem i_vc_ask {k : Nat} {u : SX} {v : SY} (I : i_Rel k u v) (hk : k + 4 ≤ 2049) (v1 : Int32) (v2 : Int32) (v3 : Int32) : wpX_ask (fun r u' => wpY_ask (fun r' v' => r' = r ∧ i_Rel (k + 4) u' v') v v1 v2 v3) u v1 v2 v3 := by
  have I0 := I
  obtain ⟨P, L, tx, pl, sl, g, hG, hX, hY⟩ := I
  have hX0 := hX
  have hY0 := hY
  obtain ⟨f_width, f_textLength, f_foundPlace, f_tokenCount, f_frameCount, f_operandCount, f_defCount, f_nodeEnd, a_text, a_tokenCode, a_tokenPlace, a_frameCode, a_framePlace, a_operand, a_defPlace, a_defFirst, a_defEnd, a_nodeOp, a_nodeNumber, a_nodePlace, a_nodeDepth, a_nodeKind, a_part, a_size, a_kindFound, a_choice, a_status, a_result, a_slotFunction, a_slotArgument⟩ := u
  obtain ⟨f_width2, f_length2, f_place2, f_toks2, f_nodes2, f_defs2, a_text2, a_tok2, a_tokNum2, a_tokPlace2, a_opened2, a_nOp2, a_nNum2, a_nPlace2, a_nA2, a_nB2, a_nC2, a_nLo2, a_nHi2, a_nLevel2, a_defName2, a_defPlace2, a_defRoot2, a_loaded2, a_count2, a_status2, a_number2, a_origin2, a_choice2, a_slotF2, a_slotX2, a_slotHeld2⟩ := v
  obtain ⟨x1, x2, x3, x4, x5, x6, x7, x8, x9, x10⟩ := hX
  obtain ⟨y1, y2, y3, y4, y5, y6, y7, y8, y9, y10⟩ := hY
  by_cases a : v1 < 0
  · exact br_t a (br_t a ⟨rfl, I0⟩)
  · refine br_f a ?_
    by_cases b : 3 ≤ v1
    · exact br_t b (br_f a (br_t b ⟨rfl, I0⟩))
    · refine br_f b ?_
      obtain ⟨s, hs, rfl, e⟩ := sl_p3 (sl := sl) (p := v1) (fun q => q.elim a b)
      have hin := vp_in_nI hs (by decide)
      refine ⟨hin, ?_⟩
      rw [nI_clamp (by omega)]
      cases hc : sl s with
      | some fx =>
        obtain ⟨f, x⟩ := fx
        have hf := (hG.2.2.2.2.2 s hs f x hc).1
        refine br_f (by rw [((x10 s hs).2 f x hc).1]; exact sl_m1 (by omega)) ?_
        refine br_f a (br_f b ⟨hin, ?_⟩)
        rw [nI_clamp (by omega)]
        exact br_f (by rw [((y10 s hs).2 f x hc).1]; decide) ⟨rfl, I0⟩
      | none =>
        refine br_t ((x10 s hs).1 hc) ?_
        have yy : ∀ (r : Int32) (u' : SX), (sl_c P v2 v3 = none → r = 0 ∧ i_Rel (k + 4) u' (f_width2, f_length2, f_place2, f_toks2, f_nodes2, f_defs2, a_text2, a_tok2, a_tokNum2, a_tokPlace2, a_opened2, a_nOp2, a_nNum2, a_nPlace2, a_nA2, a_nB2, a_nC2, a_nLo2, a_nHi2, a_nLevel2, a_defName2, a_defPlace2, a_defRoot2, a_loaded2, a_count2, a_status2, a_number2, a_origin2, a_choice2, a_slotF2, a_slotX2, a_slotHeld2)) → (∀ f x, sl_c P v2 v3 = some (f, x) → r = 1 ∧ i_Rel (k + 4) u' (f_width2, f_length2, f_place2, f_toks2, f_nodes2, f_defs2, a_text2, a_tok2, a_tokNum2, a_tokPlace2, a_opened2, a_nOp2, a_nNum2, a_nPlace2, a_nA2, a_nB2, a_nC2, a_nLo2, a_nHi2, a_nLevel2, a_defName2, a_defPlace2, a_defRoot2, a_loaded2, a_count2, a_status2, a_number2, a_origin2, a_choice2, upd a_slotF2 s v2, upd a_slotX2 s v3, upd a_slotHeld2 s (vp_nar .boolean 1))) → wpY_ask (fun r' v' => r' = r ∧ i_Rel (k + 4) u' v') (f_width2, f_length2, f_place2, f_toks2, f_nodes2, f_defs2, a_text2, a_tok2, a_tokNum2, a_tokPlace2, a_opened2, a_nOp2, a_nNum2, a_nPlace2, a_nA2, a_nB2, a_nC2, a_nLo2, a_nHi2, a_nLevel2, a_defName2, a_defPlace2, a_defRoot2, a_loaded2, a_count2, a_status2, a_number2, a_origin2, a_choice2, a_slotF2, a_slotX2, a_slotHeld2) (nI s) v2 v3 := by
          intro r u' h0 h1
          refine br_f a (br_f b ⟨hin, ?_⟩)
          rw [nI_clamp (by omega)]
          refine br_t ((y10 s hs).1 hc) ?_
          refine sl_Yl hG hY0 (fun h => br_t rfl ⟨(h0 h).1.symm, (h0 h).2⟩) (fun f x h => br_f ?_ ⟨hin, fun A eA => ⟨hin, fun B eB => ⟨hin, fun C eC => ?_⟩⟩⟩)
          · obtain ⟨c1, c2, c3, c4, c5⟩ := sl_cs hG.1.2.1 h
            have hu := sl_cfl hG.1 c1 c3 c4
            unfold sl_k
            cases hE : ou_E P (ou_cf P f x) with
            | none => decide
            | some o =>
              obtain ⟨c0, _, hc0⟩ := hG.2.1
              obtain ⟨k0, hk0⟩ := ou_E_s.mp hE
              have to := ty_ev hG.1 (ki_ty hG.1 hc0) _ _ _ hk0
              have ho : 0 < o.1 ∧ o.1 < 6 := by
                rcases to with to | to
                · rw [to.1]; omega
                · have := to.1; omega
              exact nI_ne0 ho.1 (by omega)
          · subst eA eB eC
            exact ⟨(h1 f x h).1.symm, (h1 f x h).2⟩
        refine sl_Xc hG hX0 (fun h => br_t rfl (yy 0 _ (fun _ => ⟨rfl, I0⟩) (fun f x h2 => ?_))) (fun f x h => bq_1 ⟨hin, fun A eA => ⟨hin, fun B eB => yy 1 _ (fun h2 => ?_) (fun f2 z2 h2 => ⟨rfl, ?_⟩)⟩⟩)
        · rw [h] at h2; exact absurd h2 (by simp)
        · rw [h] at h2; exact absurd h2 (by simp)
        · subst eA eB
          obtain ⟨c1, c2, c3, c4, c5⟩ := sl_cs hG.1.2.1 h
          refine ⟨P, L, tx, pl, _, g, sm_sA (s := s) hG c1 c3 c4, ⟨x1, x2, x3, x4, x5, x6, x7, x8, x9, ?_⟩, ⟨y1, y2, y3, y4, y5, y6, y7, y8, y9, ?_⟩⟩
          · intro t ht
            by_cases c : t = s
            · subst c
              refine ⟨fun q => ?_, fun f2 x2 q => ?_⟩
              · simp only [if_true] at q; exact absurd q (by simp)
              · simp only [if_true] at q
                obtain ⟨rfl, rfl⟩ : f = f2 ∧ x = x2 := by simpa using q
                rw [pk_us, pk_us]; exact ⟨c2, c5⟩
            · simp only [c, if_false]; rw [pk_un c, pk_un c]; exact x10 t ht
          · intro t ht
            by_cases c : t = s
            · subst c
              refine ⟨fun q => ?_, fun f2 x2 q => ?_⟩
              · simp only [if_true] at q; exact absurd q (by simp)
              · simp only [if_true] at q
                obtain ⟨rfl, rfl⟩ : f = f2 ∧ x = x2 := by simpa using q
                rw [pk_us, pk_us, pk_us]; exact ⟨by decide, c2, c5⟩
            · simp only [c, if_false]; rw [pk_un c, pk_un c, pk_un c]; exact y10 t ht
end
section
-- X cuts tokens
def xc_k (k n : Nat) : Nat := if k = 13 then 65 + n else xc_t k
theorem tx_gt {c : Nat} : tz_dg c = true ↔ 48 ≤ c ∧ c ≤ 57 := by simp [tz_dg]
theorem tx_st {c : Nat} : tz_sm c = true ↔ 97 ≤ c ∧ c ≤ 122 := by simp [tz_sm]
theorem tx_Xd {c : Nat} (hc : c ≤ 126) {post : Int32 → Prop} (h1 : tz_dg c = true → post 1) (h0 : ¬ tz_dg c = true → post 0) : wpX_isDigit post (nI c) := by
  refine pk_lt c 48 (fun h => h0 (fun q => by rw [tx_gt] at q; omega)) (fun h => pk_lt 57 c (fun h2 => h0 (fun q => by rw [tx_gt] at q; omega)) (fun h2 => h1 (tx_gt.mpr ⟨h, h2⟩)))
theorem tx_Xs {c : Nat} (hc : c ≤ 126) {post : Int32 → Prop} (h1 : tz_sm c = true → post 1) (h0 : ¬ tz_sm c = true → post 0) : wpX_isSmall post (nI c) := by
  refine pk_lt c 97 (fun h => h0 (fun q => by rw [tx_st] at q; omega)) (fun h => pk_lt 122 c (fun h2 => h0 (fun q => by rw [tx_st] at q; omega)) (fun h2 => h1 (tx_st.mpr ⟨h, h2⟩)))
theorem tx_Yd {c : Nat} (hc : c ≤ 126) {post : Int32 → Prop} (h1 : tz_dg c = true → post 1) (h0 : ¬ tz_dg c = true → post 0) : wpY_digit post (nI c) := by
  refine pk_lt c 48 (fun h => h0 (fun q => by rw [tx_gt] at q; omega)) (fun h => pk_lt 57 c (fun h2 => h0 (fun q => by rw [tx_gt] at q; omega)) (fun h2 => h1 (tx_gt.mpr ⟨h, h2⟩)))
theorem tx_Ys {c : Nat} (hc : c ≤ 126) {post : Int32 → Prop} (h1 : tz_sm c = true → post 1) (h0 : ¬ tz_sm c = true → post 0) : wpY_small post (nI c) := by
  refine pk_lt c 97 (fun h => h0 (fun q => by rw [tx_st] at q; omega)) (fun h => pk_lt 122 c (fun h2 => h0 (fun q => by rw [tx_st] at q; omega)) (fun h2 => h1 (tx_st.mpr ⟨h, h2⟩)))
def tx_P (L : Nat) (tx : Nat → Nat) (a : Nat → Int32) : Prop := L ≤ 200 ∧ ∀ i, i < L → a i = nI (tx i) ∧ 32 ≤ tx i ∧ tx i ≤ 126
section
variable {f_width f_textLength f_foundPlace f_tokenCount f_frameCount f_operandCount f_defCount f_nodeEnd : Int32} {a_text a_tokenCode a_tokenPlace a_frameCode a_framePlace a_operand a_defPlace a_defFirst a_defEnd a_nodeOp a_nodeNumber a_nodePlace a_nodeDepth a_nodeKind a_part a_size a_kindFound a_choice a_status : Nat → Int32} {a_result : Nat → Int64} {a_slotFunction a_slotArgument : Nat → Int32} {L : Nat} {tx : Nat → Nat}
theorem tx_e16 (hT : tx_P L tx a_text) {e0 e : Nat} (hR : tz_R tx L tz_dg e0 e) (he : e ≤ L) (post : Int32 → Prop) (hp : post (nI e)) :
    ∀ d i, i + d = e → e0 ≤ i → ∀ n, d < n → wX_endOfRun_16 post f_width (nI L) f_foundPlace f_tokenCount f_frameCount f_operandCount f_defCount f_nodeEnd a_text a_tokenCode a_tokenPlace a_frameCode a_framePlace a_operand a_defPlace a_defFirst a_defEnd a_nodeOp a_nodeNumber a_nodePlace a_nodeDepth a_nodeKind a_part a_size a_kindFound a_choice a_status a_result a_slotFunction a_slotArgument n (nI i) := by
  obtain ⟨hL, hT⟩ := hT
  obtain ⟨r1, r2, r3⟩ := hR
  intro d
  induction d with
  | zero =>
    intro i hi h0 n hn
    obtain ⟨n, rfl⟩ : ∃ m, n = m + 1 := ⟨n - 1, by omega⟩
    have hie : i = e := by omega
    subst hie
    by_cases hl : L ≤ i
    · exact br_t (nI_le hl (by omega)) hp
    · have hl : i < L := by omega
      refine br_f (nI_ge hl (by omega)) ⟨vp_in_nI (by omega) (by decide), ?_⟩
      rw [nI_clamp (by omega), (hT i hl).1]
      exact tx_Xd (hT i hl).2.2 (fun q => absurd ⟨hl, q⟩ r3) (fun _ => br_t rfl hp)
  | succ d ih =>
    intro i hi h0 n hn
    obtain ⟨n, rfl⟩ : ∃ m, n = m + 1 := ⟨n - 1, by omega⟩
    obtain ⟨hl, hq⟩ := r2 i h0 (by omega)
    refine br_f (nI_ge hl (by omega)) ⟨vp_in_nI (by omega) (by decide), ?_⟩
    rw [nI_clamp (by omega), (hT i hl).1]
    refine tx_Xd (hT i hl).2.2 (fun _ => bq_1 (fun y ey => ?_)) (fun q => absurd hq q)
    rw [ey, nI_1]
    exact ih (i + 1) (by omega) (by omega) n (by omega)
theorem tx_e54 (hT : tx_P L tx a_text) {e0 e : Nat} (hR : tz_R tx L tz_sm e0 e) (he : e ≤ L) (post : Int32 → Prop) (hp : post (nI e)) :
    ∀ d i, i + d = e → e0 ≤ i → ∀ n, d < n → wX_endOfRun_54 post f_width (nI L) f_foundPlace f_tokenCount f_frameCount f_operandCount f_defCount f_nodeEnd a_text a_tokenCode a_tokenPlace a_frameCode a_framePlace a_operand a_defPlace a_defFirst a_defEnd a_nodeOp a_nodeNumber a_nodePlace a_nodeDepth a_nodeKind a_part a_size a_kindFound a_choice a_status a_result a_slotFunction a_slotArgument n (nI i) := by
  obtain ⟨hL, hT⟩ := hT
  obtain ⟨r1, r2, r3⟩ := hR
  intro d
  induction d with
  | zero =>
    intro i hi h0 n hn
    obtain ⟨n, rfl⟩ : ∃ m, n = m + 1 := ⟨n - 1, by omega⟩
    have hie : i = e := by omega
    subst hie
    by_cases hl : L ≤ i
    · exact br_t (nI_le hl (by omega)) hp
    · have hl : i < L := by omega
      refine br_f (nI_ge hl (by omega)) ⟨vp_in_nI (by omega) (by decide), ?_⟩
      rw [nI_clamp (by omega), (hT i hl).1]
      exact tx_Xs (hT i hl).2.2 (fun q => absurd ⟨hl, q⟩ r3) (fun _ => br_t rfl hp)
  | succ d ih =>
    intro i hi h0 n hn
    obtain ⟨n, rfl⟩ : ∃ m, n = m + 1 := ⟨n - 1, by omega⟩
    obtain ⟨hl, hq⟩ := r2 i h0 (by omega)
    refine br_f (nI_ge hl (by omega)) ⟨vp_in_nI (by omega) (by decide), ?_⟩
    rw [nI_clamp (by omega), (hT i hl).1]
    refine tx_Xs (hT i hl).2.2 (fun _ => bq_1 (fun y ey => ?_)) (fun q => absurd hq q)
    rw [ey, nI_1]
    exact ih (i + 1) (by omega) (by omega) n (by omega)
theorem tx_Xe (hT : tx_P L tx a_text) {p : Nat} (hp : p < L) {post : Int32 → Prop} (h : post (nI (tz_end tx L p))) : wpX_endOfRun post (f_width, nI L, f_foundPlace, f_tokenCount, f_frameCount, f_operandCount, f_defCount, f_nodeEnd, a_text, a_tokenCode, a_tokenPlace, a_frameCode, a_framePlace, a_operand, a_defPlace, a_defFirst, a_defEnd, a_nodeOp, a_nodeNumber, a_nodePlace, a_nodeDepth, a_nodeKind, a_part, a_size, a_kindFound, a_choice, a_status, a_result, a_slotFunction, a_slotArgument) (nI p) := by
  have hT0 := hT
  obtain ⟨hL, hT⟩ := hT
  have hin : vp_in (nI p) 200 := vp_in_nI (by omega) (by decide)
  intro y ey
  rw [nI_1] at ey
  subst ey
  refine ⟨hin, ?_⟩
  rw [nI_clamp (by omega), (hT p hp).1]
  refine tx_Xd (hT p hp).2.2 (fun q => bq_1 ?_) (fun q => br_t rfl ⟨hin, ?_⟩)
  · have e : tz_end tx L p = tz_e tx L tz_dg (L + 1) (p + 1) := by unfold tz_end; rw [if_pos q]
    rw [e] at h
    have hR := tz_eR tx L tz_dg (L + 1) (p + 1) (by omega)
    exact ⟨_, tx_e16 hT0 hR (e ▸ (tz_el (tx := tx) hp).2) post h (tz_e tx L tz_dg (L + 1) (p + 1) - (p + 1)) (p + 1) (by have := hR.1; omega) (Nat.le_refl _) _ (Nat.lt_succ_self _)⟩
  · refine tx_Xs (hT p hp).2.2 (fun q2 => bq_1 ?_) (fun q2 => br_t rfl ?_)
    · have e : tz_end tx L p = tz_e tx L tz_sm (L + 1) (p + 1) := by unfold tz_end; rw [if_neg q, if_pos q2]
      rw [e] at h
      have hR := tz_eR tx L tz_sm (L + 1) (p + 1) (by omega)
      exact ⟨_, tx_e54 hT0 hR (e ▸ (tz_el (tx := tx) hp).2) post h (tz_e tx L tz_sm (L + 1) (p + 1) - (p + 1)) (p + 1) (by have := hR.1; omega) (Nat.le_refl _) _ (Nat.lt_succ_self _)⟩
    · have e : tz_end tx L p = p + 1 := by unfold tz_end; rw [if_neg q, if_neg q2]
      rw [e] at h; exact h
theorem tx_Xw (hT : tx_P L tx a_text) {p e : Nat} (hpe : p ≤ e) (he : e ≤ L) (post : Int32 → Prop) (h1 : tz_k (tz_w tx p (e - p)) ≠ 0 → post (tz_w tx p (e - p))) (h0 : tz_k (tz_w tx p (e - p)) = 0 → post 0) :
    ∀ d m, m + d = e - p → ∀ n, d < n → wX_codeOfWord_14 post (nI e) f_width (nI L) f_foundPlace f_tokenCount f_frameCount f_operandCount f_defCount f_nodeEnd a_text a_tokenCode a_tokenPlace a_frameCode a_framePlace a_operand a_defPlace a_defFirst a_defEnd a_nodeOp a_nodeNumber a_nodePlace a_nodeDepth a_nodeKind a_part a_size a_kindFound a_choice a_status a_result a_slotFunction a_slotArgument n (tz_w tx p m) (nI (p + m)) := by
  obtain ⟨hL, hT⟩ := hT
  intro d
  induction d with
  | zero =>
    intro m hm n hn
    obtain ⟨n, rfl⟩ : ∃ k, n = k + 1 := ⟨n - 1, by omega⟩
    have em : m = e - p := by omega
    subst em
    refine br_t (nI_le (by omega) (by omega)) ?_
    generalize tz_w tx p (e - p) = w at *
    refine br_c (fun c1 => h1 (by rw [c1]; decide)) (fun c1 => br_c (fun c2 => h1 (by rw [c2]; decide)) (fun c2 => br_c (fun c3 => h1 (by rw [c3]; decide)) (fun c3 =>
      br_c (fun c4 => h1 (by rw [c4]; decide)) (fun c4 => br_c (fun c5 => h1 (by rw [c5]; decide)) (fun c5 => br_c (fun c6 => h1 (by rw [c6]; decide)) (fun c6 =>
      br_c (fun c7 => h1 (by rw [c7]; decide)) (fun c7 => br_c (fun c8 => h1 (by rw [c8]; decide)) (fun c8 => br_c (fun c9 => h1 (by rw [c9]; decide)) (fun c9 =>
      br_c (fun c10 => h1 (by rw [c10]; decide)) (fun c10 => br_c (fun c11 => h1 (by rw [c11]; decide)) (fun c11 => h0 ?_)))))))))))
    unfold tz_k
    rw [if_neg c1, if_neg c3, if_neg c11, if_neg c10, if_neg c8, if_neg c2, if_neg c5, if_neg c7, if_neg c6, if_neg c9, if_neg c4]
  | succ d ih =>
    intro m hm n hn
    obtain ⟨n, rfl⟩ : ∃ k, n = k + 1 := ⟨n - 1, by omega⟩
    refine br_f (nI_ge (by omega) (by omega)) ⟨vp_in_nI (by omega) (by decide), fun y ey z ez => ?_⟩
    rw [nI_clamp (by omega), (hT (p + m) (by omega)).1] at ey
    rw [nI_1] at ez
    subst ey ez
    exact ih (m + 1) (by omega) n (by omega)
theorem tx_kx {w : Int32} (h : tz_k w ≠ 0) : w = nI (xc_t (tz_k w)) ∧ tz_k w ≤ 12 ∧ 2 ≤ tz_k w := by
  by_cases c0 : w = 120
  · subst c0; decide
  by_cases c1 : w = 26982
  · subst c1; decide
  by_cases c2 : w = 1952998766
  · subst c2; decide
  by_cases c3 : w = 1701606245
  · subst c3; decide
  by_cases c4 : w = 7631481
  · subst c4; decide
  by_cases c5 : w = 26724
  · subst c5; decide
  by_cases c6 : w = 29804
  · subst c6; decide
  by_cases c7 : w = 7239020
  · subst c7; decide
  by_cases c8 : w = 7235948
  · subst c8; decide
  by_cases c9 : w = 7955827
  · subst c9; decide
  by_cases c10 : w = 28271
  · subst c10; decide
  exact absurd (by unfold tz_k; rw [if_neg c0, if_neg c1, if_neg c2, if_neg c3, if_neg c4, if_neg c5, if_neg c6, if_neg c7, if_neg c8, if_neg c9, if_neg c10]) h
theorem tx_gx0 : ∀ c, c < 127 → tz_g c ≠ 0 → c = xc_t (tz_g c) ∧ 14 ≤ tz_g c ∧ tz_g c ≤ 27 := by decide +kernel
theorem tx_gx {c : Nat} (hc : c ≤ 126) (h : tz_g c ≠ 0) : c = xc_t (tz_g c) ∧ 14 ≤ tz_g c ∧ tz_g c ≤ 27 := tx_gx0 c (by omega) h
theorem tx_g27 (c : Nat) : tz_g c ≤ 27 := by
  by_cases h : c ≤ 126
  · by_cases z : tz_g c = 0
    · omega
    · exact (tx_gx h z).2.2
  · have : tz_g c = 0 := by
      unfold tz_g
      rw [if_neg (by omega), if_neg (by omega), if_neg (by omega), if_neg (by omega), if_neg (by omega), if_neg (by omega), if_neg (by omega), if_neg (by omega), if_neg (by omega), if_neg (by omega), if_neg (by omega), if_neg (by omega), if_neg (by omega), if_neg (by omega)]
    omega
theorem tx_X56 {c : Nat} (hc : c ≤ 126) {post : Int32 → Prop} (h1 : tz_g c ≠ 0 → post (nI c)) (h0 : tz_g c = 0 → post 0) : wX_codeOfToken_56 post (nI c) f_width f_textLength f_foundPlace f_tokenCount f_frameCount f_operandCount f_defCount f_nodeEnd a_text a_tokenCode a_tokenPlace a_frameCode a_framePlace a_operand a_defPlace a_defFirst a_defEnd a_nodeOp a_nodeNumber a_nodePlace a_nodeDepth a_nodeKind a_part a_size a_kindFound a_choice a_status a_result a_slotFunction a_slotArgument := by
  refine pk_eq c 33 (fun c1 => h1 (by rw [c1]; decide)) (fun c1 => pk_eq c 37 (fun c2 => h1 (by rw [c2]; decide)) (fun c2 => pk_eq c 38 (fun c3 => h1 (by rw [c3]; decide)) (fun c3 =>
      pk_eq c 40 (fun c4 => h1 (by rw [c4]; decide)) (fun c4 => pk_eq c 41 (fun c5 => h1 (by rw [c5]; decide)) (fun c5 => pk_eq c 42 (fun c6 => h1 (by rw [c6]; decide)) (fun c6 =>
      pk_eq c 43 (fun c7 => h1 (by rw [c7]; decide)) (fun c7 => pk_eq c 45 (fun c8 => h1 (by rw [c8]; decide)) (fun c8 => pk_eq c 47 (fun c9 => h1 (by rw [c9]; decide)) (fun c9 =>
      pk_eq c 58 (fun c10 => h1 (by rw [c10]; decide)) (fun c10 => pk_eq c 59 (fun c11 => h1 (by rw [c11]; decide)) (fun c11 => pk_eq c 60 (fun c12 => h1 (by rw [c12]; decide)) (fun c12 =>
      pk_eq c 61 (fun c13 => h1 (by rw [c13]; decide)) (fun c13 => pk_eq c 124 (fun c14 => h1 (by rw [c14]; decide)) (fun c14 => h0 ?_))))))))))))))
  unfold tz_g
  rw [if_neg c7, if_neg c8, if_neg c6, if_neg c9, if_neg c2, if_neg c12, if_neg c13, if_neg c3, if_neg c14, if_neg c1, if_neg c10, if_neg c11, if_neg c4, if_neg c5]
theorem tx_Xk (hT : tx_P L tx a_text) {p : Nat} (hp : p < L) {post : Int32 → Prop} (h1 : tz_kd tx L p ≠ 0 → post (nI (xc_k (tz_kd tx L p) (tz_nm tx L p)))) (h0 : tz_kd tx L p = 0 → post 0) :
    wpX_codeOfToken post (f_width, nI L, f_foundPlace, f_tokenCount, f_frameCount, f_operandCount, f_defCount, f_nodeEnd, a_text, a_tokenCode, a_tokenPlace, a_frameCode, a_framePlace, a_operand, a_defPlace, a_defFirst, a_defEnd, a_nodeOp, a_nodeNumber, a_nodePlace, a_nodeDepth, a_nodeKind, a_part, a_size, a_kindFound, a_choice, a_status, a_result, a_slotFunction, a_slotArgument) (nI p) (nI (tz_end tx L p)) := by
  have hT0 := hT
  obtain ⟨hL, hT⟩ := hT
  have he := tz_el (tx := tx) hp
  refine ⟨vp_in_nI (by omega) (by decide), fun y ey => ?_⟩
  rw [nI_clamp (by omega), (hT p hp).1] at ey
  subst ey
  refine tx_Xd (hT p hp).2.2 (fun q => bq_1 ?_) (fun q => br_t rfl ?_)
  · have e : nI (tz_end tx L p) - nI p = nI (tz_end tx L p - p) := pk_sub (by omega)
    rw [e]
    refine pk_lt 9 (tz_end tx L p - p) (fun c => h0 ?_) (fun c => ?_)
    · unfold tz_kd; rw [if_pos q, if_neg (by omega)]
    · have k1 : tz_kd tx L p = 1 := by unfold tz_kd; rw [if_pos q, if_pos (by omega)]
      rw [k1] at h1
      exact h1 (by decide)
  · refine tx_Xs (hT p hp).2.2 (fun q2 => bq_1 ?_) (fun q2 => br_t rfl ?_)
    · have e : nI (tz_end tx L p) - nI p = nI (tz_end tx L p - p) := pk_sub (by omega)
      show ((nI (tz_end tx L p) - nI p) ≤ 4 → _) ∧ (¬ (nI (tz_end tx L p) - nI p) ≤ 4 → _)
      rw [e]
      refine pk_le (tz_end tx L p - p) 4 (fun c => ?_) (fun c => h0 ?_)
      · have kk : tz_kd tx L p = tz_k (tz_w tx p (tz_end tx L p - p)) := by unfold tz_kd; rw [if_neg q, if_pos q2, if_pos c]
        rw [kk] at h1 h0
        refine ⟨_, tx_Xw hT0 (by omega) he.2 _ (fun z => ?_) h0 (tz_end tx L p - p) 0 (by omega) _ (Nat.lt_succ_self _)⟩
        have := h1 z
        obtain ⟨w1, w2, w3⟩ := tx_kx z
        unfold xc_k at this
        rw [if_neg (by omega), ← w1] at this
        exact this
      · unfold tz_kd; rw [if_neg q, if_pos q2, if_neg (by omega)]
    · have sg : (¬ (65 ≤ tx p ∧ tx p ≤ 69)) → wX_codeOfToken_56 post (nI (tx p)) f_width (nI L) f_foundPlace f_tokenCount f_frameCount f_operandCount f_defCount f_nodeEnd a_text a_tokenCode a_tokenPlace a_frameCode a_framePlace a_operand a_defPlace a_defFirst a_defEnd a_nodeOp a_nodeNumber a_nodePlace a_nodeDepth a_nodeKind a_part a_size a_kindFound a_choice a_status a_result a_slotFunction a_slotArgument := by
        intro nr
        have kk : tz_kd tx L p = tz_g (tx p) := by unfold tz_kd; rw [if_neg q, if_neg q2, if_neg nr]
        rw [kk] at h1 h0
        refine tx_X56 (hT p hp).2.2 (fun z => ?_) h0
        have := h1 z
        obtain ⟨w1, w2, w3⟩ := tx_gx (hT p hp).2.2 z
        unfold xc_k at this
        rw [if_neg (by omega), ← w1] at this
        exact this
      have hc := (hT p hp).2.2
      refine pk_lt (tx p) 65 (fun c => sg (by omega)) (fun c => pk_le 70 (tx p) (fun c2 => sg (by omega)) (fun c2 => ?_))
      have kk : tz_kd tx L p = 13 := by unfold tz_kd; rw [if_neg q, if_neg q2, if_pos (by omega)]
      have nn : tz_nm tx L p = tx p - 65 := by unfold tz_nm; rw [if_neg q, if_pos (by omega)]
      have := h1 (by rw [kk]; decide)
      unfold xc_k at this
      rw [kk, nn, if_pos rfl, (by omega : 65 + (tx p - 65) = tx p)] at this
      exact this
end
theorem tx_kd27 (tx : Nat → Nat) (L p : Nat) : tz_kd tx L p ≤ 27 := by
  have a : ∀ w, tz_k w ≤ 12 := by intro w; unfold tz_k; repeat' split
                                  all_goals decide
  unfold tz_kd
  repeat' split
  all_goals first
    | decide
    | exact Nat.le_trans (a _) (by decide)
    | exact tx_g27 _
theorem xc_kb : ∀ k, k < 28 → k ≠ 0 → xc_t k ≠ 0 ∧ xc_t k < 2 ^ 31 := by decide
theorem xc_k0 {k n : Nat} (h : k ≠ 0) (hk : k ≤ 27) (hn : n ≤ 1000) : xc_k k n ≠ 0 ∧ xc_k k n < 2 ^ 31 := by
  unfold xc_k
  by_cases e : k = 13
  · rw [if_pos e]; omega
  · rw [if_neg e]; exact xc_kb k (by omega) h
end
section
-- chains of tokens, and X's loop over the text
section
variable {tx : Nat → Nat} {L : Nat}
theorem tz_Cs {p : Nat} : ∀ (l : List tz_T) (e : Option Nat), tz_C tx L p l e → p < L → tx p = 32 → tz_C tx L (p + 1) l e := by
  intro l e h hp hb
  have cut : ∀ q, tz_b tx p q → tz_b tx (p + 1) q := fun q h i h1 h2 => h i (by omega) h2
  cases l with
  | nil =>
    cases e with
    | none => exact cut _ h
    | some f =>
      obtain ⟨h1, h2, h3, h4, h5⟩ := h
      have : p ≠ f := fun q => by rw [q] at hb; exact h4 hb
      exact ⟨by omega, h2, cut _ h3, h4, h5⟩
  | cons t l =>
    obtain ⟨h1, h2, h3, h4, h5⟩ := h
    have : p ≠ t.2.2.1 := fun q => by rw [q] at hb; exact h4 hb
    exact ⟨by omega, h2, cut _ h3, h4, h5⟩
theorem tz_Ch {p : Nat} : ∀ (l : List tz_T) (e : Option Nat), tz_C tx L p l e → p < L → tx p ≠ 32 →
    (∃ r, l = tz_t tx L p :: r ∧ tz_kd tx L p ≠ 0 ∧ tz_C tx L (tz_end tx L p) r e) ∨ (l = [] ∧ e = some p ∧ tz_kd tx L p = 0) := by
  intro l e h hp hb
  cases l with
  | nil =>
    cases e with
    | none => exact absurd (h p (Nat.le_refl _) hp) hb
    | some f =>
      obtain ⟨h1, h2, h3, h4, h5⟩ := h
      have : p = f := by
        rcases Nat.lt_or_ge p f with q | q
        · exact absurd (h3 p (Nat.le_refl _) q) hb
        · omega
      subst this
      exact Or.inr ⟨rfl, rfl, h5⟩
  | cons t l =>
    obtain ⟨h1, h2, h3, h4, h5, h6, h7⟩ := h
    have e1 : p = t.2.2.1 := by
      rcases Nat.lt_or_ge p t.2.2.1 with q | q
      · exact absurd (h3 p (Nat.le_refl _) q) hb
      · omega
    rw [← e1] at h5
    subst h5
    exact Or.inl ⟨l, rfl, h6, h7⟩
theorem tz_Cz {p : Nat} : ∀ (l : List tz_T) (e : Option Nat), tz_C tx L p l e → L ≤ p → l = [] ∧ e = none := by
  intro l e h hp
  cases l with
  | nil =>
    cases e with
    | none => exact ⟨rfl, rfl⟩
    | some f => obtain ⟨h1, h2, _⟩ := h; omega
  | cons t l => obtain ⟨h1, h2, _⟩ := h; omega
theorem tz_Ci : ∀ (l : List tz_T) (p : Nat) (e : Option Nat), tz_C tx L p l e → ∀ (i : Nat) (t : tz_T), l[i]? = some t → p ≤ t.2.2.1 ∧ t.2.2.1 < L ∧ t = tz_t tx L t.2.2.1 ∧ t.1 ≠ 0 := by
  intro l
  induction l with
  | nil => intro p e _ i t h; simp at h
  | cons a l ih =>
    intro p e h i t hi
    obtain ⟨h1, h2, h3, h4, h5, h6, h7⟩ := h
    cases i with
    | zero =>
      simp at hi
      subst hi
      exact ⟨h1, h2, h5, h6⟩
    | succ i =>
      simp at hi
      obtain ⟨q1, q2⟩ := ih _ _ h7 i t hi
      have x := tz_el (tx := tx) h2
      have y : a.2.2.2 = tz_end tx L a.2.2.1 := by rw [h5]; rfl
      exact ⟨by omega, q2⟩
theorem tz_Cm : ∀ (l : List tz_T) (p : Nat) (e : Option Nat), tz_C tx L p l e → ∀ (i j : Nat) (t s : tz_T), i < j → l[i]? = some t → l[j]? = some s → t.2.2.1 < s.2.2.1 := by
  intro l
  induction l with
  | nil => intro p e _ i j t s _ h; simp at h
  | cons a l ih =>
    intro p e h i j t s hij hi hj
    obtain ⟨h1, h2, h3, h4, h5, h6, h7⟩ := h
    obtain ⟨j, rfl⟩ : ∃ k, j = k + 1 := ⟨j - 1, by omega⟩
    simp at hj
    cases i with
    | zero =>
      simp at hi
      subst hi
      have q := (tz_Ci l _ _ h7 j s hj).1
      have x := tz_el (tx := tx) h2
      have y : a.2.2.2 = tz_end tx L a.2.2.1 := by rw [h5]; rfl
      omega
    | succ i =>
      simp at hi
      exact ih _ _ h7 i j t s (by omega) hi hj
end
def tt_k (Tk : List tz_T) (i : Nat) : Nat := (Tk[i]?.getD (0, 0, 0, 0)).1
def tt_n (Tk : List tz_T) (i : Nat) : Nat := (Tk[i]?.getD (0, 0, 0, 0)).2.1
def tt_p (Tk : List tz_T) (i : Nat) : Nat := (Tk[i]?.getD (0, 0, 0, 0)).2.2.1
theorem tt_s {Tk : List tz_T} {i : Nat} {t : tz_T} (h : Tk[i]? = some t) : tt_k Tk i = t.1 ∧ tt_n Tk i = t.2.1 ∧ tt_p Tk i = t.2.2.1 := by
  unfold tt_k tt_n tt_p; rw [h]; exact ⟨rfl, rfl, rfl⟩
theorem tt_d {Tk : List tz_T} {m : Nat} {t : tz_T} {r : List tz_T} (h : Tk.drop m = t :: r) : Tk[m]? = some t ∧ Tk.drop (m + 1) = r ∧ m < Tk.length := by
  have a : (Tk.drop m)[0]? = some t := by rw [h]; rfl
  rw [List.getElem?_drop, Nat.add_zero] at a
  have b : m < Tk.length := by
    rcases Nat.lt_or_ge m Tk.length with q | q
    · exact q
    · rw [List.getElem?_eq_none q] at a; exact absurd a (by simp)
  refine ⟨a, ?_, b⟩
  have c : Tk.drop (m + 1) = (Tk.drop m).drop 1 := by rw [List.drop_drop]
  rw [c, h]; rfl
def tx_TX (Tk : List tz_T) (m : Nat) (tc tp : Nat → Int32) : Prop := ∀ i, i < m → tc i = nI (xc_k (tt_k Tk i) (tt_n Tk i)) ∧ tp i = nI (tt_p Tk i)
theorem tx_TXs {Tk : List tz_T} {m : Nat} {tc tp : Nat → Int32} {t : tz_T} (h : tx_TX Tk m tc tp) (ht : Tk[m]? = some t) : tx_TX Tk (m + 1) (upd tc m (nI (xc_k t.1 t.2.1))) (upd tp m (nI t.2.2.1)) := by
  obtain ⟨a, b, c⟩ := tt_s ht
  intro i hi
  by_cases e : i = m
  · subst e; rw [pk_us, pk_us, a, b, c]; exact ⟨rfl, rfl⟩
  · rw [pk_un e, pk_un e]; exact h i (by omega)
section
variable {f_width f_textLength f_foundPlace f_tokenCount f_frameCount f_operandCount f_defCount f_nodeEnd : Int32} {a_text a_tokenCode a_tokenPlace a_frameCode a_framePlace a_operand a_defPlace a_defFirst a_defEnd a_nodeOp a_nodeNumber a_nodePlace a_nodeDepth a_nodeKind a_part a_size a_kindFound a_choice a_status : Nat → Int32} {a_result : Nat → Int64} {a_slotFunction a_slotArgument : Nat → Int32} {L : Nat} {tx : Nat → Nat}
theorem tx_nm1 (hT : tx_P L tx a_text) {p : Nat} (hp : p < L) (hk : tz_kd tx L p = 13) : tz_nm tx L p < 5 := by
  have hc := (hT.2 p hp).2.2
  unfold tz_kd at hk
  unfold tz_nm
  by_cases q : tz_dg (tx p) = true
  · rw [if_pos q] at hk; split at hk <;> omega
  · rw [if_neg q] at hk ⊢
    by_cases q2 : tz_sm (tx p) = true
    · rw [if_pos q2] at hk
      split at hk
      · have a : ∀ w, tz_k w ≤ 12 := by intro w; unfold tz_k; repeat' split
                                        all_goals decide
        have := a (tz_w tx p (tz_end tx L p - p)); omega
      · omega
    · rw [if_neg q2] at hk
      by_cases q3 : 65 ≤ tx p ∧ tx p ≤ 69
      · rw [if_pos q3]; omega
      · rw [if_neg q3]; omega
theorem tx_X9 (hT : tx_P L tx a_text) {Tk : List tz_T} {e : Option Nat} (hTk : Tk.length ≤ L) (post : Int32 → SX → Prop)
    (h1 : e = none → ∀ tc tp, tx_TX Tk Tk.length tc tp → post 1 (f_width, nI L, f_foundPlace, nI Tk.length, f_frameCount, f_operandCount, f_defCount, f_nodeEnd, a_text, tc, tp, a_frameCode, a_framePlace, a_operand, a_defPlace, a_defFirst, a_defEnd, a_nodeOp, a_nodeNumber, a_nodePlace, a_nodeDepth, a_nodeKind, a_part, a_size, a_kindFound, a_choice, a_status, a_result, a_slotFunction, a_slotArgument))
    (h2 : ∀ f, e = some f → f < L → ∀ m tc tp, post 2 (f_width, nI L, nI f, m, f_frameCount, f_operandCount, f_defCount, f_nodeEnd, a_text, tc, tp, a_frameCode, a_framePlace, a_operand, a_defPlace, a_defFirst, a_defEnd, a_nodeOp, a_nodeNumber, a_nodePlace, a_nodeDepth, a_nodeKind, a_part, a_size, a_kindFound, a_choice, a_status, a_result, a_slotFunction, a_slotArgument)) :
    ∀ d i nx m tc tp, i + d = L → nx ≤ L → tz_C tx L (if i < nx then nx else i) (Tk.drop m) e → m ≤ Tk.length → tx_TX Tk m tc tp → ∀ n, d < n →
      wX_cutTokens_9 post f_width (nI L) f_foundPlace f_frameCount f_operandCount f_defCount f_nodeEnd n (nI nx) (nI i) (nI m) a_text tc tp a_frameCode a_framePlace a_operand a_defPlace a_defFirst a_defEnd a_nodeOp a_nodeNumber a_nodePlace a_nodeDepth a_nodeKind a_part a_size a_kindFound a_choice a_status a_result a_slotFunction a_slotArgument := by
  have hL := hT.1
  intro d
  induction d with
  | zero =>
    intro i nx m tc tp hi hnx hC hm hTX n hn
    obtain ⟨n, rfl⟩ : ∃ k, n = k + 1 := ⟨n - 1, by omega⟩
    have ei : i = L := by omega
    subst ei
    rw [if_neg (by omega)] at hC
    obtain ⟨z1, z2⟩ := tz_Cz _ _ hC (Nat.le_refl _)
    have z3 : m = Tk.length := by
      have := List.drop_eq_nil_iff.mp z1; omega
    subst z3
    exact br_t (nI_le (Nat.le_refl _) (by omega)) (h1 z2 tc tp hTX)
  | succ d ih =>
    intro i nx m tc tp hi hnx hC hm hTX n hn
    obtain ⟨n, rfl⟩ : ∃ k, n = k + 1 := ⟨n - 1, by omega⟩
    have il : i < L := by omega
    refine br_f (nI_ge il (by omega)) ?_
    by_cases c : i < nx
    · rw [if_pos c] at hC
      refine br_t (nI_lt c (by omega)) (fun y ey => ?_)
      rw [ey, nI_1]
      refine ih (i + 1) nx m tc tp (by omega) hnx ?_ hm hTX n (by omega)
      by_cases c2 : i + 1 < nx
      · rw [if_pos c2]; exact hC
      · rw [if_neg c2, (by omega : i + 1 = nx)]; exact hC
    · rw [if_neg c] at hC
      refine br_f (nI_nlt (by omega) (by omega)) ⟨vp_in_nI (by omega) (by decide), ?_⟩
      rw [nI_clamp (by omega), (hT.2 i il).1]
      have c126 := (hT.2 i il).2.2
      refine pk_eq (tx i) 32 (fun b => fun y ey => ?_) (fun b => ?_)
      · rw [ey, nI_1]
        refine ih (i + 1) nx m tc tp (by omega) hnx ?_ hm hTX n (by omega)
        rw [if_neg (by omega)]
        exact tz_Cs _ _ hC il b
      · refine tx_Xe hT il ?_
        have he := tz_el (tx := tx) il
        rcases tz_Ch _ _ hC il b with ⟨r, z1, z2, z3⟩ | ⟨z1, z2, z3⟩
        · obtain ⟨a1, a2, a3⟩ := tt_d z1
          have k27 := tx_kd27 tx L i
          have xk : xc_k (tz_kd tx L i) (tz_nm tx L i) ≠ 0 ∧ xc_k (tz_kd tx L i) (tz_nm tx L i) < 2 ^ 31 := by
            unfold xc_k
            by_cases e13 : tz_kd tx L i = 13
            · rw [if_pos e13]; have := tx_nm1 hT il e13; omega
            · rw [if_neg e13]; exact xc_kb _ (by omega) z2
          refine tx_Xk hT il (fun _ => br_f (nI_ne0 (by omega) xk.2) ⟨vp_in_nI (by omega) (by decide), fun A eA => ⟨vp_in_nI (by omega) (by decide), fun B eB C eC D eD => ?_⟩⟩) (fun q => absurd q z2)
          rw [nI_clamp (by omega)] at eA eB
          rw [nI_1] at eC eD
          subst eA eB eC eD
          refine ih (i + 1) _ (m + 1) _ _ (by omega) he.2 ?_ (by omega) (tx_TXs hTX a1) n (by omega)
          rw [a2]
          by_cases c3 : i + 1 < tz_end tx L i
          · rw [if_pos c3]; exact z3
          · rw [if_neg c3, (by omega : i + 1 = tz_end tx L i)]; exact z3
        · exact tx_Xk hT il (fun q => absurd z3 q) (fun _ => br_t rfl (h2 i z2 il _ _ _))
theorem tx_Xc (hT : tx_P L tx a_text) {Tk : List tz_T} {e : Option Nat} (hC : tz_C tx L 0 Tk e) (post : Int32 → SX → Prop)
    (h1 : e = none → ∀ tc tp, tx_TX Tk Tk.length tc tp → post 1 (f_width, nI L, f_foundPlace, nI Tk.length, f_frameCount, f_operandCount, f_defCount, f_nodeEnd, a_text, tc, tp, a_frameCode, a_framePlace, a_operand, a_defPlace, a_defFirst, a_defEnd, a_nodeOp, a_nodeNumber, a_nodePlace, a_nodeDepth, a_nodeKind, a_part, a_size, a_kindFound, a_choice, a_status, a_result, a_slotFunction, a_slotArgument))
    (h2 : ∀ f, e = some f → f < L → ∀ m tc tp, post 2 (f_width, nI L, nI f, m, f_frameCount, f_operandCount, f_defCount, f_nodeEnd, a_text, tc, tp, a_frameCode, a_framePlace, a_operand, a_defPlace, a_defFirst, a_defEnd, a_nodeOp, a_nodeNumber, a_nodePlace, a_nodeDepth, a_nodeKind, a_part, a_size, a_kindFound, a_choice, a_status, a_result, a_slotFunction, a_slotArgument)) :
    wpX_cutTokens post (f_width, nI L, f_foundPlace, f_tokenCount, f_frameCount, f_operandCount, f_defCount, f_nodeEnd, a_text, a_tokenCode, a_tokenPlace, a_frameCode, a_framePlace, a_operand, a_defPlace, a_defFirst, a_defEnd, a_nodeOp, a_nodeNumber, a_nodePlace, a_nodeDepth, a_nodeKind, a_part, a_size, a_kindFound, a_choice, a_status, a_result, a_slotFunction, a_slotArgument) := by
  have hl := tz_len Tk 0 e hC (Nat.zero_le _)
  exact ⟨L + 1, tx_X9 hT (by omega) post h1 h2 L 0 0 0 a_tokenCode a_tokenPlace (by omega) (by omega) (by rw [if_neg (by omega)]; exact hC) (Nat.zero_le _) (fun i hi => absurd hi (Nat.not_lt_zero i)) _ (Nat.lt_succ_self _)⟩
end
end
section
-- Y scans
theorem sy_e {post : Int32 → Prop} {k : Nat} (j : Nat) (h : post (nI k)) (e : k = j) : post (nI j) := e ▸ h
theorem sy_sign {c : Nat} (hc : c ≤ 126) {post : Int32 → Prop} (h : post (nI (tz_g c))) : wpY_sign post (nI c) := by
  refine pk_eq c 33 (fun c1 => sy_e 23 h (by rw [c1]; rfl)) (fun c1 => pk_eq c 37 (fun c2 => sy_e 18 h (by rw [c2]; rfl)) (fun c2 => pk_eq c 38 (fun c3 => sy_e 21 h (by rw [c3]; rfl)) (fun c3 =>
      pk_eq c 40 (fun c4 => sy_e 26 h (by rw [c4]; rfl)) (fun c4 => pk_eq c 41 (fun c5 => sy_e 27 h (by rw [c5]; rfl)) (fun c5 => pk_eq c 42 (fun c6 => sy_e 16 h (by rw [c6]; rfl)) (fun c6 =>
      pk_eq c 43 (fun c7 => sy_e 14 h (by rw [c7]; rfl)) (fun c7 => pk_eq c 45 (fun c8 => sy_e 15 h (by rw [c8]; rfl)) (fun c8 => pk_eq c 47 (fun c9 => sy_e 17 h (by rw [c9]; rfl)) (fun c9 =>
      pk_eq c 58 (fun c10 => sy_e 24 h (by rw [c10]; rfl)) (fun c10 => pk_eq c 59 (fun c11 => sy_e 25 h (by rw [c11]; rfl)) (fun c11 => pk_eq c 60 (fun c12 => sy_e 19 h (by rw [c12]; rfl)) (fun c12 =>
      pk_eq c 61 (fun c13 => sy_e 20 h (by rw [c13]; rfl)) (fun c13 => pk_eq c 124 (fun c14 => sy_e 22 h (by rw [c14]; rfl)) (fun c14 => sy_e 0 h ?_))))))))))))))
  unfold tz_g
  rw [if_neg c7, if_neg c8, if_neg c6, if_neg c9, if_neg c2, if_neg c12, if_neg c13, if_neg c3, if_neg c14, if_neg c1, if_neg c10, if_neg c11, if_neg c4, if_neg c5]
theorem sy_word {w : Int32} {post : Int32 → Prop} (h : post (nI (tz_k w))) : wpY_word post w := by
  refine br_c (fun c1 => sy_e 2 h (by rw [c1]; rfl)) (fun c1 => br_c (fun c2 => sy_e 3 h (by rw [c2]; rfl)) (fun c2 => br_c (fun c3 => sy_e 4 h (by rw [c3]; rfl)) (fun c3 =>
      br_c (fun c4 => sy_e 5 h (by rw [c4]; rfl)) (fun c4 => br_c (fun c5 => sy_e 6 h (by rw [c5]; rfl)) (fun c5 => br_c (fun c6 => sy_e 7 h (by rw [c6]; rfl)) (fun c6 =>
      br_c (fun c7 => sy_e 8 h (by rw [c7]; rfl)) (fun c7 => br_c (fun c8 => sy_e 9 h (by rw [c8]; rfl)) (fun c8 => br_c (fun c9 => sy_e 10 h (by rw [c9]; rfl)) (fun c9 =>
      br_c (fun c10 => sy_e 11 h (by rw [c10]; rfl)) (fun c10 => br_c (fun c11 => sy_e 12 h (by rw [c11]; rfl)) (fun c11 => sy_e 0 h ?_)))))))))))
  unfold tz_k
  rw [if_neg c1, if_neg c2, if_neg c3, if_neg c4, if_neg c5, if_neg c6, if_neg c7, if_neg c8, if_neg c9, if_neg c10, if_neg c11]
def tx_TY (Tk : List tz_T) (m : Nat) (tc tn tp : Nat → Int32) : Prop := ∀ i, i < m → tc i = nI (tt_k Tk i) ∧ tn i = nI (tt_n Tk i) ∧ tp i = nI (tt_p Tk i)
theorem tx_TYs {Tk : List tz_T} {m : Nat} {tc tn tp : Nat → Int32} {t : tz_T} (h : tx_TY Tk m tc tn tp) (ht : Tk[m]? = some t) : tx_TY Tk (m + 1) (upd tc m (nI t.1)) (upd tn m (nI t.2.1)) (upd tp m (nI t.2.2.1)) := by
  obtain ⟨a, b, c⟩ := tt_s ht
  intro i hi
  by_cases e : i = m
  · subst e; rw [pk_us, pk_us, pk_us, a, b, c]; exact ⟨rfl, rfl, rfl⟩
  · rw [pk_un e, pk_un e, pk_un e]; exact h i (by omega)
section
variable {f_width f_length f_place f_toks f_nodes f_defs : Int32} {a_text a_tok a_tokNum a_tokPlace a_opened a_nOp a_nNum a_nPlace a_nA a_nB a_nC a_nLo a_nHi a_nLevel a_defName a_defPlace a_defRoot a_loaded a_count a_status : Nat → Int32} {a_number : Nat → Int64} {a_origin a_choice a_slotF a_slotX a_slotHeld : Nat → Int32} {L : Nat} {tx : Nat → Nat} {post : Int32 → SY → Prop} {J : Int32 → Int32 → (Nat → Int32) → (Nat → Int32) → (Nat → Int32) → (Nat → Int32) → (Nat → Int32) → (Nat → Int32) → (Nat → Int32) → (Nat → Int32) → (Nat → Int32) → (Nat → Int32) → (Nat → Int32) → (Nat → Int32) → (Nat → Int32) → (Nat → Int32) → (Nat → Int32) → (Nat → Int32) → (Nat → Int32) → (Nat → Int32) → (Nat → Int32) → (Nat → Int32) → (Nat → Int64) → (Nat → Int32) → (Nat → Int32) → (Nat → Int32) → (Nat → Int32) → (Nat → Int32) → Prop}
theorem sy_170 (hT : tx_P L tx a_text) {p e : Nat} (hp : p < e) (he : e ≤ L) (x5 : Int32) (R : wY_scan_245 post J (nI p) (nI e) (nI (if e - p ≤ 4 then tz_k (tz_w tx p (e - p)) else 0)) x5 f_width (nI L) f_place f_toks f_nodes f_defs a_text a_tok a_tokNum a_tokPlace a_opened a_nOp a_nNum a_nPlace a_nA a_nB a_nC a_nLo a_nHi a_nLevel a_defName a_defPlace a_defRoot a_loaded a_count a_status a_number a_origin a_choice a_slotF a_slotX a_slotHeld) :
    ∃ n, wY_scan_170 post J (nI p) (nI e) x5 f_width (nI L) f_place f_toks f_nodes f_defs a_text a_tok a_tokNum a_tokPlace a_opened a_nOp a_nNum a_nPlace a_nA a_nB a_nC a_nLo a_nHi a_nLevel a_defName a_defPlace a_defRoot a_loaded a_count a_status a_number a_origin a_choice a_slotF a_slotX a_slotHeld n 0 (nI p) := by
  obtain ⟨hL, hT⟩ := hT
  have es : nI e - nI p = nI (e - p) := pk_sub (by omega)
  by_cases c : e - p ≤ 4
  · rw [if_pos c] at R
    have key : ∀ d m, m + d = e - p → ∀ n, d < n → wY_scan_170 post J (nI p) (nI e) x5 f_width (nI L) f_place f_toks f_nodes f_defs a_text a_tok a_tokNum a_tokPlace a_opened a_nOp a_nNum a_nPlace a_nA a_nB a_nC a_nLo a_nHi a_nLevel a_defName a_defPlace a_defRoot a_loaded a_count a_status a_number a_origin a_choice a_slotF a_slotX a_slotHeld n (tz_w tx p m) (nI (p + m)) := by
      intro d
      induction d with
      | zero =>
        intro m hm n hn
        obtain ⟨n, rfl⟩ : ∃ k, n = k + 1 := ⟨n - 1, by omega⟩
        have em : m = e - p := by omega
        subst em
        exact br_t (nI_le (by omega) (by omega)) (sy_word R)
      | succ d ih =>
        intro m hm n hn
        obtain ⟨n, rfl⟩ : ∃ k, n = k + 1 := ⟨n - 1, by omega⟩
        refine br_f (nI_ge (by omega) (by omega)) ?_
        rw [es]
        refine br_f (nI_nlt (a := 4) c (by omega)) ⟨vp_in_nI (by omega) (by decide), fun y ey z ez => ?_⟩
        rw [nI_clamp (by omega), (hT (p + m) (by omega)).1] at ey
        rw [nI_1] at ez
        subst ey ez
        exact ih (m + 1) (by omega) n (by omega)
    exact ⟨_, key (e - p) 0 (by omega) _ (Nat.lt_succ_self _)⟩
  · rw [if_neg c] at R
    refine ⟨1, br_f (nI_ge hp (by omega)) ?_⟩
    rw [es]
    exact br_t (nI_lt (a := 4) (by omega) (by omega)) (sy_word R)
theorem sy_138 (hT : tx_P L tx a_text) {p e : Nat} (hp : p < e) (he : e ≤ L) (hR : tz_R tx L tz_sm (p + 1) e) (x5 : Int32) (R : wY_scan_245 post J (nI p) (nI e) (nI (if e - p ≤ 4 then tz_k (tz_w tx p (e - p)) else 0)) x5 f_width (nI L) f_place f_toks f_nodes f_defs a_text a_tok a_tokNum a_tokPlace a_opened a_nOp a_nNum a_nPlace a_nA a_nB a_nC a_nLo a_nHi a_nLevel a_defName a_defPlace a_defRoot a_loaded a_count a_status a_number a_origin a_choice a_slotF a_slotX a_slotHeld) :
    ∃ n, wY_scan_138 post J (nI p) x5 f_width (nI L) f_place f_toks f_nodes f_defs a_text a_tok a_tokNum a_tokPlace a_opened a_nOp a_nNum a_nPlace a_nA a_nB a_nC a_nLo a_nHi a_nLevel a_defName a_defPlace a_defRoot a_loaded a_count a_status a_number a_origin a_choice a_slotF a_slotX a_slotHeld n (nI (p + 1)) := by
  have hT0 := hT
  obtain ⟨hL, hT⟩ := hT
  obtain ⟨r1, r2, r3⟩ := hR
  have key : ∀ d i, i + d = e → p + 1 ≤ i → ∀ n, d < n → wY_scan_138 post J (nI p) x5 f_width (nI L) f_place f_toks f_nodes f_defs a_text a_tok a_tokNum a_tokPlace a_opened a_nOp a_nNum a_nPlace a_nA a_nB a_nC a_nLo a_nHi a_nLevel a_defName a_defPlace a_defRoot a_loaded a_count a_status a_number a_origin a_choice a_slotF a_slotX a_slotHeld n (nI i) := by
    intro d
    induction d with
    | zero =>
      intro i hi h0 n hn
      obtain ⟨n, rfl⟩ : ∃ m, n = m + 1 := ⟨n - 1, by omega⟩
      have hie : i = e := by omega
      subst hie
      by_cases hl : L ≤ i
      · exact br_t (nI_le hl (by omega)) (sy_170 hT0 hp he x5 R)
      · have hl : i < L := by omega
        refine br_f (nI_ge hl (by omega)) ⟨vp_in_nI (by omega) (by decide), ?_⟩
        rw [nI_clamp (by omega), (hT i hl).1]
        exact tx_Ys (hT i hl).2.2 (fun q => absurd ⟨hl, q⟩ r3) (fun _ => br_t rfl (sy_170 hT0 hp he x5 R))
    | succ d ih =>
      intro i hi h0 n hn
      obtain ⟨n, rfl⟩ : ∃ m, n = m + 1 := ⟨n - 1, by omega⟩
      obtain ⟨hl, hq⟩ := r2 i h0 (by omega)
      refine br_f (nI_ge hl (by omega)) ⟨vp_in_nI (by omega) (by decide), ?_⟩
      rw [nI_clamp (by omega), (hT i hl).1]
      refine tx_Ys (hT i hl).2.2 (fun _ => bq_1 (fun y ey => ?_)) (fun q => absurd hq q)
      rw [ey, nI_1]
      exact ih (i + 1) (by omega) (by omega) n (by omega)
  exact ⟨_, key (e - (p + 1)) (p + 1) (by omega) (Nat.le_refl _) _ (Nat.lt_succ_self _)⟩
theorem sy_74 (hT : tx_P L tx a_text) {p e : Nat} (hp : p < e) (he : e ≤ L) (hd : ∀ i, p ≤ i → i < e → tz_dg (tx i) = true)
    (R1 : e - p ≤ 9 → wY_scan_245 post J (nI p) (nI e) 1 (nI (tz_n tx p (e - p))) f_width (nI L) f_place f_toks f_nodes f_defs a_text a_tok a_tokNum a_tokPlace a_opened a_nOp a_nNum a_nPlace a_nA a_nB a_nC a_nLo a_nHi a_nLevel a_defName a_defPlace a_defRoot a_loaded a_count a_status a_number a_origin a_choice a_slotF a_slotX a_slotHeld) (R0 : ¬ e - p ≤ 9 → ∀ x5, wY_scan_245 post J (nI p) (nI e) 0 x5 f_width (nI L) f_place f_toks f_nodes f_defs a_text a_tok a_tokNum a_tokPlace a_opened a_nOp a_nNum a_nPlace a_nA a_nB a_nC a_nLo a_nHi a_nLevel a_defName a_defPlace a_defRoot a_loaded a_count a_status a_number a_origin a_choice a_slotF a_slotX a_slotHeld) :
    wY_scan_74 post J (nI p) (nI e) 0 f_width (nI L) f_place f_toks f_nodes f_defs a_text a_tok a_tokNum a_tokPlace a_opened a_nOp a_nNum a_nPlace a_nA a_nB a_nC a_nLo a_nHi a_nLevel a_defName a_defPlace a_defRoot a_loaded a_count a_status a_number a_origin a_choice a_slotF a_slotX a_slotHeld := by
  obtain ⟨hL, hT⟩ := hT
  have es : nI e - nI p = nI (e - p) := pk_sub (by omega)
  show ((nI e - nI p) ≤ 9 → _) ∧ (¬ (nI e - nI p) ≤ 9 → _)
  rw [es]
  refine pk_le (e - p) 9 (fun c => ?_) (fun c => ?_)
  · have key : ∀ d m, m + d = e - p → ∀ n, d < n → wY_scan_92 post J (nI p) (nI e) 1 f_width (nI L) f_place f_toks f_nodes f_defs a_text a_tok a_tokNum a_tokPlace a_opened a_nOp a_nNum a_nPlace a_nA a_nB a_nC a_nLo a_nHi a_nLevel a_defName a_defPlace a_defRoot a_loaded a_count a_status a_number a_origin a_choice a_slotF a_slotX a_slotHeld n (nI (tz_n tx p m)) (nI (p + m)) := by
      intro d
      induction d with
      | zero =>
        intro m hm n hn
        obtain ⟨n, rfl⟩ : ∃ k, n = k + 1 := ⟨n - 1, by omega⟩
        have em : m = e - p := by omega
        subst em
        exact br_t (nI_le (by omega) (by omega)) (R1 c)
      | succ d ih =>
        intro m hm n hn
        obtain ⟨n, rfl⟩ : ∃ k, n = k + 1 := ⟨n - 1, by omega⟩
        refine br_f (nI_ge (by omega) (by omega)) (br_t rfl ⟨vp_in_nI (by omega) (by decide), fun y ey z ez => ?_⟩)
        rw [nI_clamp (by omega), (hT (p + m) (by omega)).1] at ey
        rw [nI_1] at ez
        have hg := tx_gt.mp (hd (p + m) (by omega) (by omega))
        have ea : nI (tz_n tx p m) * 10 + nI (tx (p + m)) - 48 = nI (tz_n tx p (m + 1)) := by
          have a : nI (tz_n tx p m) * 10 = nI (tz_n tx p m * 10) := pk_mul _ 10
          rw [a, nI_add]
          have b : nI (tz_n tx p m * 10 + tx (p + m)) - 48 = nI (tz_n tx p m * 10 + tx (p + m) - 48) := pk_sub (b := 48) (by omega)
          rw [b]
          have c : tz_n tx p m * 10 + tx (p + m) - 48 = tz_n tx p (m + 1) := by
            show _ = tz_n tx p m * 10 + (tx (p + m) - 48)
            omega
          rw [c]
        rw [ea] at ey
        subst ey ez
        exact ih (m + 1) (by omega) n (by omega)
    exact ⟨_, key (e - p) 0 (by omega) _ (Nat.lt_succ_self _)⟩
  · exact ⟨1, br_f (nI_ge hp (by omega)) (br_f (by decide) (R0 (by omega) _))⟩
theorem sy_48 (hT : tx_P L tx a_text) {p e : Nat} (hp : p < e) (he : e ≤ L) (hR : tz_R tx L tz_dg (p + 1) e) (h0 : tz_dg (tx p) = true)
    (R1 : e - p ≤ 9 → wY_scan_245 post J (nI p) (nI e) 1 (nI (tz_n tx p (e - p))) f_width (nI L) f_place f_toks f_nodes f_defs a_text a_tok a_tokNum a_tokPlace a_opened a_nOp a_nNum a_nPlace a_nA a_nB a_nC a_nLo a_nHi a_nLevel a_defName a_defPlace a_defRoot a_loaded a_count a_status a_number a_origin a_choice a_slotF a_slotX a_slotHeld) (R0 : ¬ e - p ≤ 9 → ∀ x5, wY_scan_245 post J (nI p) (nI e) 0 x5 f_width (nI L) f_place f_toks f_nodes f_defs a_text a_tok a_tokNum a_tokPlace a_opened a_nOp a_nNum a_nPlace a_nA a_nB a_nC a_nLo a_nHi a_nLevel a_defName a_defPlace a_defRoot a_loaded a_count a_status a_number a_origin a_choice a_slotF a_slotX a_slotHeld) :
    ∃ n, wY_scan_48 post J (nI p) 0 f_width (nI L) f_place f_toks f_nodes f_defs a_text a_tok a_tokNum a_tokPlace a_opened a_nOp a_nNum a_nPlace a_nA a_nB a_nC a_nLo a_nHi a_nLevel a_defName a_defPlace a_defRoot a_loaded a_count a_status a_number a_origin a_choice a_slotF a_slotX a_slotHeld n (nI (p + 1)) := by
  have hT0 := hT
  obtain ⟨hL, hT⟩ := hT
  obtain ⟨r1, r2, r3⟩ := hR
  have fin : wY_scan_74 post J (nI p) (nI e) 0 f_width (nI L) f_place f_toks f_nodes f_defs a_text a_tok a_tokNum a_tokPlace a_opened a_nOp a_nNum a_nPlace a_nA a_nB a_nC a_nLo a_nHi a_nLevel a_defName a_defPlace a_defRoot a_loaded a_count a_status a_number a_origin a_choice a_slotF a_slotX a_slotHeld := by
    refine sy_74 hT0 hp he (fun i h1 h2 => ?_) R1 R0
    by_cases q : i = p
    · rw [q]; exact h0
    · exact (r2 i (by omega) h2).2
  have key : ∀ d i, i + d = e → p + 1 ≤ i → ∀ n, d < n → wY_scan_48 post J (nI p) 0 f_width (nI L) f_place f_toks f_nodes f_defs a_text a_tok a_tokNum a_tokPlace a_opened a_nOp a_nNum a_nPlace a_nA a_nB a_nC a_nLo a_nHi a_nLevel a_defName a_defPlace a_defRoot a_loaded a_count a_status a_number a_origin a_choice a_slotF a_slotX a_slotHeld n (nI i) := by
    intro d
    induction d with
    | zero =>
      intro i hi h0 n hn
      obtain ⟨n, rfl⟩ : ∃ m, n = m + 1 := ⟨n - 1, by omega⟩
      have hie : i = e := by omega
      subst hie
      by_cases hl : L ≤ i
      · exact br_t (nI_le hl (by omega)) fin
      · have hl : i < L := by omega
        refine br_f (nI_ge hl (by omega)) ⟨vp_in_nI (by omega) (by decide), ?_⟩
        rw [nI_clamp (by omega), (hT i hl).1]
        exact tx_Yd (hT i hl).2.2 (fun q => absurd ⟨hl, q⟩ r3) (fun _ => br_t rfl fin)
    | succ d ih =>
      intro i hi h0 n hn
      obtain ⟨n, rfl⟩ : ∃ m, n = m + 1 := ⟨n - 1, by omega⟩
      obtain ⟨hl, hq⟩ := r2 i h0 (by omega)
      refine br_f (nI_ge hl (by omega)) ⟨vp_in_nI (by omega) (by decide), ?_⟩
      rw [nI_clamp (by omega), (hT i hl).1]
      refine tx_Yd (hT i hl).2.2 (fun _ => bq_1 (fun y ey => ?_)) (fun q => absurd hq q)
      rw [ey, nI_1]
      exact ih (i + 1) (by omega) (by omega) n (by omega)
  exact ⟨_, key (e - (p + 1)) (p + 1) (by omega) (Nat.le_refl _) _ (Nat.lt_succ_self _)⟩
end
section
variable {f_width f_length f_place f_toks f_nodes f_defs : Int32} {a_text a_tok a_tokNum a_tokPlace a_opened a_nOp a_nNum a_nPlace a_nA a_nB a_nC a_nLo a_nHi a_nLevel a_defName a_defPlace a_defRoot a_loaded a_count a_status : Nat → Int32} {a_number : Nat → Int64} {a_origin a_choice a_slotF a_slotX a_slotHeld : Nat → Int32} {L : Nat} {tx : Nat → Nat} {post : Int32 → SY → Prop}
theorem sy_7 (hT : tx_P L tx a_text) {Tk : List tz_T} {e : Option Nat} (hTk : Tk.length ≤ L)
    (h1 : e = none → ∀ tc tn tp, tx_TY Tk Tk.length tc tn tp → post (-1) (f_width, nI L, f_place, nI Tk.length, f_nodes, f_defs, a_text, tc, tn, tp, a_opened, a_nOp, a_nNum, a_nPlace, a_nA, a_nB, a_nC, a_nLo, a_nHi, a_nLevel, a_defName, a_defPlace, a_defRoot, a_loaded, a_count, a_status, a_number, a_origin, a_choice, a_slotF, a_slotX, a_slotHeld))
    (h2 : ∀ f, e = some f → f < L → ∀ m tc tn tp, post (nI f) (f_width, nI L, f_place, m, f_nodes, f_defs, a_text, tc, tn, tp, a_opened, a_nOp, a_nNum, a_nPlace, a_nA, a_nB, a_nC, a_nLo, a_nHi, a_nLevel, a_defName, a_defPlace, a_defRoot, a_loaded, a_count, a_status, a_number, a_origin, a_choice, a_slotF, a_slotX, a_slotHeld)) :
    ∀ n p m tc tn tp, p ≤ L → L - p < n → tz_C tx L p (Tk.drop m) e → m ≤ Tk.length → tx_TY Tk m tc tn tp →
      wY_scan_7 post f_width (nI L) f_place f_nodes f_defs n (nI p) (nI m) a_text tc tn tp a_opened a_nOp a_nNum a_nPlace a_nA a_nB a_nC a_nLo a_nHi a_nLevel a_defName a_defPlace a_defRoot a_loaded a_count a_status a_number a_origin a_choice a_slotF a_slotX a_slotHeld := by
  have hL := hT.1
  intro n
  induction n with
  | zero => intro p m tc tn tp _ h; omega
  | succ n ih =>
    intro p m tc tn tp hp hn hC hm hTY
    by_cases pl : L ≤ p
    · obtain ⟨z1, z2⟩ := tz_Cz _ _ hC pl
      have z3 : m = Tk.length := by
        have := List.drop_eq_nil_iff.mp z1; omega
      subst z3
      exact br_t (nI_le pl (by omega)) (h1 z2 tc tn tp hTY)
    · have pl : p < L := by omega
      refine br_f (nI_ge pl (by omega)) ⟨vp_in_nI (by omega) (by decide), fun c ec x3 ex3 => ?_⟩
      rw [nI_clamp (by omega), (hT.2 p pl).1] at ec
      rw [nI_1] at ex3
      subst ec ex3
      have c126 := (hT.2 p pl).2.2
      refine pk_eq (tx p) 32 (fun b => fun y ey => ?_) (fun b => ?_)
      · rw [ey, nI_1]
        exact ih (p + 1) m tc tn tp (by omega) (by omega) (tz_Cs _ _ hC pl b) hm hTY
      · have he := tz_el (tx := tx) pl
        have R : ∀ kd nm : Int32, (tz_kd tx L p = 0 → kd = 0) → (tz_kd tx L p ≠ 0 → kd = nI (tz_kd tx L p) ∧ nm = nI (tz_nm tx L p)) →
            wY_scan_245 post (wY_scan_7 post f_width (nI L) f_place f_nodes f_defs n) (nI p) (nI (tz_end tx L p)) kd nm f_width (nI L) f_place (nI m) f_nodes f_defs a_text tc tn tp a_opened a_nOp a_nNum a_nPlace a_nA a_nB a_nC a_nLo a_nHi a_nLevel a_defName a_defPlace a_defRoot a_loaded a_count a_status a_number a_origin a_choice a_slotF a_slotX a_slotHeld := by
          intro kd nm k0 k1
          rcases tz_Ch _ _ hC pl b with ⟨r, z1, z2, z3⟩ | ⟨z1, z2, z3⟩
          · obtain ⟨a1, a2, a3⟩ := tt_d z1
            have k27 := tx_kd27 tx L p
            obtain ⟨rfl, rfl⟩ := k1 z2
            refine br_f (nI_ne0 (by omega) (by omega)) ⟨vp_in_nI (by omega) (by decide), fun A eA => ⟨vp_in_nI (by omega) (by decide), fun B eB => ⟨vp_in_nI (by omega) (by decide), fun C eC D eD => ?_⟩⟩⟩
            rw [nI_clamp (by omega)] at eA eB eC
            rw [nI_1] at eD
            subst eA eB eC eD
            exact ih _ (m + 1) _ _ _ he.2 (by omega) (by rw [a2]; exact z3) (by omega) (tx_TYs hTY a1)
          · rw [k0 z3]
            exact br_t rfl (h2 p z2 pl _ _ _ _)
        refine tx_Yd c126 (fun q => bq_1 ?_) (fun q => br_t rfl (tx_Ys c126 (fun q2 => bq_1 ?_) (fun q2 => br_t rfl ?_)))
        · have ee : tz_end tx L p = tz_e tx L tz_dg (L + 1) (p + 1) := by unfold tz_end; rw [if_pos q]
          have hR := tz_eR tx L tz_dg (L + 1) (p + 1) (by omega)
          rw [← ee] at hR
          have nn : tz_nm tx L p = tz_n tx p (tz_end tx L p - p) := by unfold tz_nm; rw [if_pos q]
          refine sy_48 hT he.1 he.2 hR q (fun c => R _ _ (fun k => ?_) (fun _ => ⟨?_, ?_⟩)) (fun c x5 => R _ _ (fun _ => rfl) (fun k => ?_))
          · unfold tz_kd at k; rw [if_pos q, if_pos c] at k; omega
          · unfold tz_kd; rw [if_pos q, if_pos c]; rfl
          · rw [nn]
          · unfold tz_kd at k; rw [if_pos q, if_neg c] at k; exact absurd rfl k
        · have ee : tz_end tx L p = tz_e tx L tz_sm (L + 1) (p + 1) := by unfold tz_end; rw [if_neg q, if_pos q2]
          have hR := tz_eR tx L tz_sm (L + 1) (p + 1) (by omega)
          rw [← ee] at hR
          have kk : tz_kd tx L p = if tz_end tx L p - p ≤ 4 then tz_k (tz_w tx p (tz_end tx L p - p)) else 0 := by unfold tz_kd; rw [if_neg q, if_pos q2]
          have nn : tz_nm tx L p = 0 := by
            unfold tz_nm; rw [if_neg q, if_neg (by have := tx_st.mp q2; omega)]
          refine sy_138 hT he.1 he.2 hR 0 ?_
          rw [← kk]
          refine R _ _ (fun k => by rw [k]; rfl) (fun _ => ⟨rfl, by rw [nn]; rfl⟩)
        · have ee : tz_end tx L p = p + 1 := by unfold tz_end; rw [if_neg q, if_neg q2]
          rw [ee] at R
          have sg : ¬ (65 ≤ tx p ∧ tx p ≤ 69) → wY_scan_239 post (wY_scan_7 post f_width (nI L) f_place f_nodes f_defs n) (nI p) (nI (tx p)) (nI (p + 1)) 0 f_width (nI L) f_place (nI m) f_nodes f_defs a_text tc tn tp a_opened a_nOp a_nNum a_nPlace a_nA a_nB a_nC a_nLo a_nHi a_nLevel a_defName a_defPlace a_defRoot a_loaded a_count a_status a_number a_origin a_choice a_slotF a_slotX a_slotHeld := by
            intro nr
            have kk : tz_kd tx L p = tz_g (tx p) := by unfold tz_kd; rw [if_neg q, if_neg q2, if_neg nr]
            have nn : tz_nm tx L p = 0 := by unfold tz_nm; rw [if_neg q, if_neg nr]
            refine sy_sign c126 ?_
            rw [← kk]
            exact R _ _ (fun k => by rw [k]; rfl) (fun _ => ⟨rfl, by rw [nn]; rfl⟩)
          refine pk_lt (tx p) 65 (fun c => sg (by omega)) (fun c => pk_lt 69 (tx p) (fun c2 => sg (by omega)) (fun c2 => fun y ey => ?_))
          have e1 : nI (tx p) - 65 = nI (tx p - 65) := pk_sub (b := 65) (by omega)
          rw [ey, e1]
          have kk : tz_kd tx L p = 13 := by unfold tz_kd; rw [if_neg q, if_neg q2, if_pos (by omega)]
          have nn : tz_nm tx L p = tx p - 65 := by unfold tz_nm; rw [if_neg q, if_pos (by omega)]
          exact R 13 _ (fun k => by rw [kk] at k; omega) (fun _ => ⟨by rw [kk]; rfl, by rw [nn]⟩)
theorem sy_scan (hT : tx_P L tx a_text) {Tk : List tz_T} {e : Option Nat} (hC : tz_C tx L 0 Tk e)
    (h1 : e = none → ∀ tc tn tp, tx_TY Tk Tk.length tc tn tp → post (-1) (f_width, nI L, f_place, nI Tk.length, f_nodes, f_defs, a_text, tc, tn, tp, a_opened, a_nOp, a_nNum, a_nPlace, a_nA, a_nB, a_nC, a_nLo, a_nHi, a_nLevel, a_defName, a_defPlace, a_defRoot, a_loaded, a_count, a_status, a_number, a_origin, a_choice, a_slotF, a_slotX, a_slotHeld))
    (h2 : ∀ f, e = some f → f < L → ∀ m tc tn tp, post (nI f) (f_width, nI L, f_place, m, f_nodes, f_defs, a_text, tc, tn, tp, a_opened, a_nOp, a_nNum, a_nPlace, a_nA, a_nB, a_nC, a_nLo, a_nHi, a_nLevel, a_defName, a_defPlace, a_defRoot, a_loaded, a_count, a_status, a_number, a_origin, a_choice, a_slotF, a_slotX, a_slotHeld)) :
    wpY_scan post (f_width, nI L, f_place, f_toks, f_nodes, f_defs, a_text, a_tok, a_tokNum, a_tokPlace, a_opened, a_nOp, a_nNum, a_nPlace, a_nA, a_nB, a_nC, a_nLo, a_nHi, a_nLevel, a_defName, a_defPlace, a_defRoot, a_loaded, a_count, a_status, a_number, a_origin, a_choice, a_slotF, a_slotX, a_slotHeld) := by
  have hl := tz_len Tk 0 e hC (Nat.zero_le _)
  exact ⟨L + 1, sy_7 hT (by omega) h1 h2 (L + 1) 0 0 a_tok a_tokNum a_tokPlace (Nat.zero_le _) (by omega) hC (Nat.zero_le _) (fun i hi => absurd hi (Nat.not_lt_zero i))⟩
end
end
section
-- X adds a node
theorem ad_3 (e i : Nat) : nI e * 3 + nI i = nI (e * 3 + i) := by
  have a : nI e * 3 = nI (e * 3) := pk_mul e 3
  rw [a, nI_add]
theorem ad_t3 : ∀ t, t < 34 → (xc_t t = 3 ↔ t = 13) := by decide
theorem ad_tb : ∀ t, t < 34 → xc_t t < 2 ^ 31 := by decide
def ad_nn (L : Nat) (tx : Nat → Nat) (t p : Nat) : Nat := if t = 13 then tx p - 65 else if tz_dg (tx p) = true then tz_n tx p (tz_end tx L p - p) else 0
section
variable {f_width f_textLength f_foundPlace f_tokenCount f_frameCount f_operandCount f_defCount f_nodeEnd : Int32} {a_text a_tokenCode a_tokenPlace a_frameCode a_framePlace a_operand a_defPlace a_defFirst a_defEnd a_nodeOp a_nodeNumber a_nodePlace a_nodeDepth a_nodeKind a_part a_size a_kindFound a_choice a_status : Nat → Int32} {a_result : Nat → Int64} {a_slotFunction a_slotArgument : Nat → Int32} {L : Nat} {tx : Nat → Nat}
theorem ad_num (hT : tx_P L tx a_text) {p : Nat} (hp : p < L) {post : Int32 → Prop} (h : post (nI (if tz_dg (tx p) = true then tz_n tx p (tz_end tx L p - p) else 0))) : wpX_numberAt post (f_width, nI L, f_foundPlace, f_tokenCount, f_frameCount, f_operandCount, f_defCount, f_nodeEnd, a_text, a_tokenCode, a_tokenPlace, a_frameCode, a_framePlace, a_operand, a_defPlace, a_defFirst, a_defEnd, a_nodeOp, a_nodeNumber, a_nodePlace, a_nodeDepth, a_nodeKind, a_part, a_size, a_kindFound, a_choice, a_status, a_result, a_slotFunction, a_slotArgument) (nI p) := by
  obtain ⟨hL, hT⟩ := hT
  by_cases q : tz_dg (tx p) = true
  · rw [if_pos q] at h
    have he := tz_el (tx := tx) hp
    have ee : tz_end tx L p = tz_e tx L tz_dg (L + 1) (p + 1) := by unfold tz_end; rw [if_pos q]
    have hR := tz_eR tx L tz_dg (L + 1) (p + 1) (by omega)
    rw [← ee] at hR
    obtain ⟨r1, r2, r3⟩ := hR
    generalize tz_end tx L p = e at *
    have key : ∀ d m, m + d = e - p → ∀ n, d < n → wX_numberAt_4 post f_width (nI L) f_foundPlace f_tokenCount f_frameCount f_operandCount f_defCount f_nodeEnd a_text a_tokenCode a_tokenPlace a_frameCode a_framePlace a_operand a_defPlace a_defFirst a_defEnd a_nodeOp a_nodeNumber a_nodePlace a_nodeDepth a_nodeKind a_part a_size a_kindFound a_choice a_status a_result a_slotFunction a_slotArgument n (nI (tz_n tx p m)) (nI (p + m)) := by
      intro d
      induction d with
      | zero =>
        intro m hm n hn
        obtain ⟨n, rfl⟩ : ∃ k, n = k + 1 := ⟨n - 1, by omega⟩
        have em : m = e - p := by omega
        subst em
        have e2 : p + (e - p) = e := by omega
        rw [e2]
        by_cases hl : L ≤ e
        · exact br_t (nI_le hl (by omega)) h
        · have hl : e < L := by omega
          have hin := vp_in_nI (n := e) (N := 200) (by omega) (by decide)
          refine br_f (nI_ge hl (by omega)) ⟨hin, ?_⟩
          rw [nI_clamp (by omega), (hT e hl).1]
          have c126 := (hT e hl).2.2
          refine pk_lt (tx e) 48 (fun _ => h) (fun c => ⟨hin, pk_lt 57 (tx e) (fun _ => h) (fun c2 => absurd ⟨hl, tx_gt.mpr ⟨c, c2⟩⟩ r3)⟩)
      | succ d ih =>
        intro m hm n hn
        obtain ⟨n, rfl⟩ : ∃ k, n = k + 1 := ⟨n - 1, by omega⟩
        have hd : tz_dg (tx (p + m)) = true := by
          by_cases z : m = 0
          · subst z; exact q
          · exact (r2 (p + m) (by omega) (by omega)).2
        have hg := tx_gt.mp hd
        have hl : p + m < L := by omega
        have hin := vp_in_nI (n := p + m) (N := 200) (by omega) (by decide)
        refine br_f (nI_ge hl (by omega)) ⟨hin, ?_⟩
        rw [nI_clamp (by omega), (hT (p + m) hl).1]
        have c126 := (hT (p + m) hl).2.2
        refine br_f (nI_nlt (b := 48) (by omega) (by omega)) ⟨hin, br_f (nI_nlt (a := 57) (by omega) (by omega)) ⟨hin, fun y ey z ez => ?_⟩⟩
        have ea : nI (tz_n tx p m) * 10 + nI (tx (p + m)) - 48 = nI (tz_n tx p (m + 1)) := by
          have a : nI (tz_n tx p m) * 10 = nI (tz_n tx p m * 10) := pk_mul _ 10
          rw [a, nI_add]
          have b : nI (tz_n tx p m * 10 + tx (p + m)) - 48 = nI (tz_n tx p m * 10 + tx (p + m) - 48) := pk_sub (b := 48) (by omega)
          rw [b]
          have c : tz_n tx p m * 10 + tx (p + m) - 48 = tz_n tx p (m + 1) := by
            show _ = tz_n tx p m * 10 + (tx (p + m) - 48)
            omega
          rw [c]
        rw [ea] at ey
        rw [nI_1] at ez
        subst ey ez
        exact ih (m + 1) (by omega) n (by omega)
    exact ⟨_, key (e - p) 0 (by omega) _ (Nat.lt_succ_self _)⟩
  · rw [if_neg q] at h
    have hin := vp_in_nI (n := p) (N := 200) (by omega) (by decide)
    refine ⟨1, br_f (nI_ge hp (by omega)) ⟨hin, ?_⟩⟩
    rw [nI_clamp (by omega), (hT p hp).1]
    have c126 := (hT p hp).2.2
    exact pk_lt (tx p) 48 (fun _ => h) (fun c => ⟨hin, pk_lt 57 (tx p) (fun _ => h) (fun c2 => absurd (tx_gt.mpr ⟨c, c2⟩) q)⟩)
variable {post : SX → Prop} {J : Int32 → Int32 → (Nat → Int32) → (Nat → Int32) → (Nat → Int32) → (Nat → Int32) → (Nat → Int32) → (Nat → Int32) → (Nat → Int32) → (Nat → Int32) → (Nat → Int32) → (Nat → Int32) → (Nat → Int32) → (Nat → Int32) → (Nat → Int32) → (Nat → Int32) → (Nat → Int32) → (Nat → Int32) → (Nat → Int32) → (Nat → Int32) → (Nat → Int32) → (Nat → Int64) → (Nat → Int32) → (Nat → Int32) → Prop} {x1 x2 : Int32}
theorem ad_y {k e dp i v dv : Nat} (hi : i < 3) (hik : i < k) (hk : k ≤ 3) (he : e < 320) (hv : v < 320) (hd : a_nodeDepth v = nI dv) (hdv : dv < 1000) (hdp : dp < 1000)
    (h : J (nI (nd_m dp dv)) (nI (i + 1)) a_text a_tokenCode a_tokenPlace a_frameCode a_framePlace a_operand a_defPlace a_defFirst a_defEnd a_nodeOp a_nodeNumber a_nodePlace a_nodeDepth a_nodeKind (upd a_part (e * 3 + i) (nI v)) a_size a_kindFound a_choice a_status a_result a_slotFunction a_slotArgument) : wX_addNode_61 post J x1 x2 (nI k) (nI e) (nI dp) (nI i) (nI v) f_width f_textLength f_foundPlace f_tokenCount f_frameCount f_operandCount f_defCount f_nodeEnd a_text a_tokenCode a_tokenPlace a_frameCode a_framePlace a_operand a_defPlace a_defFirst a_defEnd a_nodeOp a_nodeNumber a_nodePlace a_nodeDepth a_nodeKind a_part a_size a_kindFound a_choice a_status a_result a_slotFunction a_slotArgument := by
  have hin := vp_in_nI (n := v) (N := 320) hv (by decide)
  refine ⟨by rw [ad_3]; exact vp_in_nI (by omega) (by decide), fun A eA => ?_⟩
  rw [ad_3, nI_clamp (by omega)] at eA
  subst eA
  refine br_f (nI_ge hik (by omega)) ⟨hin, ?_⟩
  rw [nI_clamp (by omega), hd]
  refine pk_le dv dp (fun c => fun y ey => ?_) (fun c => ⟨hin, fun z ez y ey => ?_⟩)
  · rw [ey, nI_1]
    have : nd_m dp dv = dp := if_neg (by omega)
    rw [this] at h; exact h
  · rw [ez, ey, nI_1]
    have : nd_m dp dv = dv := if_pos c
    rw [this] at h; exact h
theorem ad_n {k e dp i : Nat} (hi : i < 3) (hik : k ≤ i) (hk : k ≤ 3) (he : e < 320)
    (h : J (nI dp) (nI (i + 1)) a_text a_tokenCode a_tokenPlace a_frameCode a_framePlace a_operand a_defPlace a_defFirst a_defEnd a_nodeOp a_nodeNumber a_nodePlace a_nodeDepth a_nodeKind (upd a_part (e * 3 + i) (nI e)) a_size a_kindFound a_choice a_status a_result a_slotFunction a_slotArgument) : wX_addNode_61 post J x1 x2 (nI k) (nI e) (nI dp) (nI i) (nI e) f_width f_textLength f_foundPlace f_tokenCount f_frameCount f_operandCount f_defCount f_nodeEnd a_text a_tokenCode a_tokenPlace a_frameCode a_framePlace a_operand a_defPlace a_defFirst a_defEnd a_nodeOp a_nodeNumber a_nodePlace a_nodeDepth a_nodeKind a_part a_size a_kindFound a_choice a_status a_result a_slotFunction a_slotArgument := by
  refine ⟨by rw [ad_3]; exact vp_in_nI (by omega) (by decide), fun A eA => ?_⟩
  rw [ad_3, nI_clamp (by omega)] at eA
  subst eA
  refine br_t (nI_le hik (by omega)) (fun y ey => ?_)
  rw [ey, nI_1]; exact h
theorem ad_i {k e dp i r v dv n : Nat} (hi : i < 3) (hk : k ≤ 3) (he : e < 320) (hr : r + k ≤ 200) (hdp : dp < 1000)
    (c : (i < k → a_operand (r + i) = nI v ∧ v < 320 ∧ a_nodeDepth v = nI dv ∧ dv < 1000) ∧ (¬ i < k → v = e))
    (h : wX_addNode_32 post x1 x2 (nI k) (nI e) f_width f_textLength f_foundPlace f_tokenCount f_frameCount (nI r) f_defCount f_nodeEnd n (nI (if i < k then nd_m dp dv else dp)) (nI (i + 1)) a_text a_tokenCode a_tokenPlace a_frameCode a_framePlace a_operand a_defPlace a_defFirst a_defEnd a_nodeOp a_nodeNumber a_nodePlace a_nodeDepth a_nodeKind (upd a_part (e * 3 + i) (nI v)) a_size a_kindFound a_choice a_status a_result a_slotFunction a_slotArgument) :
    wX_addNode_32 post x1 x2 (nI k) (nI e) f_width f_textLength f_foundPlace f_tokenCount f_frameCount (nI r) f_defCount f_nodeEnd (n + 1) (nI dp) (nI i) a_text a_tokenCode a_tokenPlace a_frameCode a_framePlace a_operand a_defPlace a_defFirst a_defEnd a_nodeOp a_nodeNumber a_nodePlace a_nodeDepth a_nodeKind a_part a_size a_kindFound a_choice a_status a_result a_slotFunction a_slotArgument := by
  refine br_f (nI_ge (b := 3) hi (by decide)) ?_
  by_cases hik : i < k
  · obtain ⟨c1, c2, c3, c4⟩ := c.1 hik
    rw [if_pos hik] at h
    refine br_f (nI_ge hik (by omega)) ⟨by rw [nI_add]; exact vp_in_nI (by omega) (by decide), ?_⟩
    rw [nI_add, nI_clamp (by omega), c1]
    exact ad_y hi hik hk he c2 c3 c4 hdp h
  · rw [if_neg hik] at h
    have ev := c.2 hik
    subst ev
    exact br_t (nI_le (by omega) (by omega)) (ad_n hi (by omega) hk he h)
theorem ad_X (hT : tx_P L tx a_text) {k e r t p v0 v1 v2 d0 d1 d2 : Nat} (hk : k ≤ 3) (he : e < 320) (hr : r + k ≤ 200) (hr2 : r < 200) (ht : t < 34) (hp : p < L) (h65 : t = 13 → 65 ≤ tx p)
    (c0 : (0 < k → a_operand r = nI v0 ∧ v0 < 320 ∧ a_nodeDepth v0 = nI d0 ∧ d0 < 1000) ∧ (¬ 0 < k → v0 = e))
    (c1 : (1 < k → a_operand (r + 1) = nI v1 ∧ v1 < 320 ∧ a_nodeDepth v1 = nI d1 ∧ d1 < 1000) ∧ (¬ 1 < k → v1 = e))
    (c2 : (2 < k → a_operand (r + 2) = nI v2 ∧ v2 < 320 ∧ a_nodeDepth v2 = nI d2 ∧ d2 < 1000) ∧ (¬ 2 < k → v2 = e))
    {D0 D1 D2 : Nat} (e0 : D0 = if 0 < k then nd_m 0 d0 else 0) (e1 : D1 = if 1 < k then nd_m D0 d1 else D0) (e2 : D2 = if 2 < k then nd_m D1 d2 else D1)
    (h : post (f_width, nI L, f_foundPlace, f_tokenCount, f_frameCount, nI (r + 1), f_defCount, nI (e + 1), a_text, a_tokenCode, a_tokenPlace, a_frameCode, a_framePlace, upd a_operand r (nI e), a_defPlace, a_defFirst, a_defEnd, upd a_nodeOp e (nI (xc_t t)), upd a_nodeNumber e (nI (ad_nn L tx t p)), upd a_nodePlace e (nI p), upd a_nodeDepth e (nI (D2 + 1)), a_nodeKind, upd (upd (upd a_part (e * 3 + 0) (nI v0)) (e * 3 + 1) (nI v1)) (e * 3 + 2) (nI v2), a_size, a_kindFound, a_choice, a_status, a_result, a_slotFunction, a_slotArgument)) :
    wpX_addNode post (f_width, nI L, f_foundPlace, f_tokenCount, f_frameCount, nI (r + k), f_defCount, nI e, a_text, a_tokenCode, a_tokenPlace, a_frameCode, a_framePlace, a_operand, a_defPlace, a_defFirst, a_defEnd, a_nodeOp, a_nodeNumber, a_nodePlace, a_nodeDepth, a_nodeKind, a_part, a_size, a_kindFound, a_choice, a_status, a_result, a_slotFunction, a_slotArgument) (nI (xc_t t)) (nI p) (nI k) := by
  have hL := hT.1
  have m1000 : ∀ a b : Nat, a < 1000 → b < 1000 → nd_m a b < 1000 := by
    intro a b ha hb; unfold nd_m; split <;> omega
  have b0 : D0 < 1000 := by
    rw [e0]; split
    · rename_i q; exact m1000 _ _ (by omega) (c0.1 q).2.2.2
    · omega
  have b1 : D1 < 1000 := by
    rw [e1]; split
    · rename_i q; exact m1000 _ _ b0 (c1.1 q).2.2.2
    · exact b0
  have b2 : D2 < 1000 := by
    rw [e2]; split
    · rename_i q; exact m1000 _ _ b1 (c2.1 q).2.2.2
    · exact b1
  intro A eA B eB
  rw [nI_1] at eA
  rw [pk_sub (by omega : k ≤ r + k), Nat.add_sub_cancel] at eB
  subst eA eB
  refine ⟨4, ?_⟩
  refine ad_i (i := 0) (dp := 0) (by omega) hk he hr (by omega) c0 ?_
  rw [← e0]
  refine ad_i (i := 1) (by omega) hk he hr b0 c1 ?_
  rw [← e1]
  refine ad_i (i := 2) (by omega) hk he hr b1 c2 ?_
  rw [← e2]
  have hin := vp_in_nI (n := e) (N := 320) he (by decide)
  have tb := ad_tb t ht
  refine br_t (nI_le (a := 3) (by decide) (by decide)) ⟨hin, fun A eA => ⟨hin, fun B eB => ⟨hin, fun C eC => ?_⟩⟩⟩
  rw [nI_clamp (by omega)] at eA eB eC
  rw [nI_1] at eC
  subst eA eB eC
  have fin : ∀ N, N = ad_nn L tx t p → wX_addNode_165 post (nI e) (nI N) (nI e) f_width (nI L) f_foundPlace f_tokenCount f_frameCount (nI r) f_defCount (nI (e + 1)) a_text a_tokenCode a_tokenPlace a_frameCode a_framePlace a_operand a_defPlace a_defFirst a_defEnd (upd a_nodeOp e (nI (xc_t t))) a_nodeNumber (upd a_nodePlace e (nI p)) (upd a_nodeDepth e (nI (D2 + 1))) a_nodeKind (upd (upd (upd a_part (e * 3 + 0) (nI v0)) (e * 3 + 1) (nI v1)) (e * 3 + 2) (nI v2)) a_size a_kindFound a_choice a_status a_result a_slotFunction a_slotArgument := by
    intro N eN
    refine ⟨hin, fun A eA => ⟨vp_in_nI (by omega) (by decide), fun B eB C eC => ?_⟩⟩
    rw [nI_clamp (by omega)] at eA eB
    rw [nI_1] at eC
    rw [eN] at eA
    subst eA eB eC
    exact h
  refine pk_eq (xc_t t) 3 (fun c => ?_) (fun c => ?_)
  · have t13 := (ad_t3 t ht).mp c
    refine ⟨vp_in_nI (by omega) (by decide), ?_⟩
    rw [nI_clamp (by omega), (hT.2 p hp).1]
    have hs : nI (tx p) - 65 = nI (tx p - 65) := pk_sub (b := 65) (h65 t13)
    rw [hs]
    exact fin _ (by unfold ad_nn; rw [if_pos t13])
  · have t13 : ¬ t = 13 := fun q => c ((ad_t3 t ht).mpr q)
    exact ad_num hT hp (fin _ (by unfold ad_nn; rw [if_neg t13]))
end
end
section
-- pictures of X's parser
def xp_T (L : Nat) (tx : Nat → Nat) (Tk : List tz_T) : Prop :=
  Tk.length ≤ L ∧ L ≤ 200 ∧ ∀ i, i < Tk.length → tt_p Tk i < L ∧ tt_k Tk i = tz_kd tx L (tt_p Tk i) ∧ tt_n Tk i = tz_nm tx L (tt_p Tk i) ∧ tt_k Tk i ≠ 0 ∧ tt_k Tk i ≤ 27
theorem xp_Ti {L : Nat} {tx : Nat → Nat} {Tk : List tz_T} {e : Option Nat} (hC : tz_C tx L 0 Tk e) (hL : L ≤ 200) : xp_T L tx Tk := by
  have hl := tz_len Tk 0 e hC (Nat.zero_le _)
  refine ⟨by omega, hL, fun i hi => ?_⟩
  have hs : Tk[i]? = some Tk[i] := List.getElem?_eq_getElem hi
  obtain ⟨q1, q2, q3, q4⟩ := tz_Ci Tk 0 e hC i _ hs
  obtain ⟨a, b, c⟩ := tt_s hs
  rw [a, b, c]
  have k1 : Tk[i].1 = tz_kd tx L Tk[i].2.2.1 := congrArg Prod.fst q3
  have k2 : Tk[i].2.1 = tz_nm tx L Tk[i].2.2.1 := congrArg (fun t : tz_T => t.2.1) q3
  exact ⟨q2, k1, k2, q4, by rw [k1]; exact tx_kd27 _ _ _⟩
theorem xp_nn {L : Nat} {tx : Nat → Nat} {Tk : List tz_T} (h : xp_T L tx Tk) {i t : Nat} (hi : i < Tk.length) (ht : t = 13 ↔ tt_k Tk i = 13) :
    ad_nn L tx t (tt_p Tk i) = tt_n Tk i ∧ (t = 13 → 65 ≤ tx (tt_p Tk i)) := by
  obtain ⟨_, _, h⟩ := h
  obtain ⟨h1, h2, h3, h4, h5⟩ := h i hi
  rw [h3]
  have k12 : ∀ w, tz_k w ≤ 12 := by
    intro w
    by_cases z : tz_k w = 0
    · omega
    · exact (tx_kx z).2.1
  have isn : tt_k Tk i = 13 → ¬ tz_dg (tx (tt_p Tk i)) = true ∧ 65 ≤ tx (tt_p Tk i) ∧ tx (tt_p Tk i) ≤ 69 := by
    intro q
    rw [h2] at q
    unfold tz_kd at q
    by_cases d : tz_dg (tx (tt_p Tk i)) = true
    · rw [if_pos d] at q; split at q <;> omega
    · rw [if_neg d] at q
      refine ⟨d, ?_⟩
      by_cases s : tz_sm (tx (tt_p Tk i)) = true
      · rw [if_pos s] at q
        split at q
        · have := k12 (tz_w tx (tt_p Tk i) (tz_end tx L (tt_p Tk i) - tt_p Tk i)); omega
        · omega
      · rw [if_neg s] at q
        by_cases r : 65 ≤ tx (tt_p Tk i) ∧ tx (tt_p Tk i) ≤ 69
        · exact r
        · rw [if_neg r] at q
          exfalso
          by_cases b : tx (tt_p Tk i) ≤ 126
          · have := tx_gx b (by omega); omega
          · have z : tz_g (tx (tt_p Tk i)) = 0 := by
              unfold tz_g
              rw [if_neg (by omega), if_neg (by omega), if_neg (by omega), if_neg (by omega), if_neg (by omega), if_neg (by omega), if_neg (by omega), if_neg (by omega), if_neg (by omega), if_neg (by omega), if_neg (by omega), if_neg (by omega), if_neg (by omega), if_neg (by omega)]
            omega
  unfold ad_nn tz_nm
  by_cases q : t = 13
  · obtain ⟨a, b⟩ := isn (ht.mp q)
    rw [if_pos q, if_neg a, if_pos b]
    exact ⟨rfl, fun _ => b.1⟩
  · rw [if_neg q]
    refine ⟨?_, fun z => absurd z q⟩
    by_cases d : tz_dg (tx (tt_p Tk i)) = true
    · rw [if_pos d, if_pos d]
    · rw [if_neg d, if_neg d]
      by_cases r : 65 ≤ tx (tt_p Tk i) ∧ tx (tt_p Tk i) ≤ 69
      · exfalso
        apply q
        rw [ht, h2]
        unfold tz_kd
        rw [if_neg d, if_neg (by rw [tx_st]; omega), if_pos r]
      · rw [if_neg r]
def xp_r (tp : Nat → Nat) (Q : Nat → Nat → Nat) (u : Nat) (no nn np nd pt : Nat → Int32) : Prop :=
  no u = nI (xc_t (Q 0 u)) ∧ nn u = nI (Q 1 u) ∧ np u = nI (tp (Q 9 u)) ∧ nd u = nI (Q 11 u) ∧ pt (u * 3 + 0) = nI (Q 2 u) ∧ pt (u * 3 + 1) = nI (Q 3 u) ∧ pt (u * 3 + 2) = nI (Q 4 u)
def xp_N (Tk : List tz_T) (Q : Nat → Nat → Nat) (e : Nat) (no nn np nd pt : Nat → Int32) : Prop :=
  120 ≤ e ∧ ∀ u, 120 ≤ u → u < e → nd_ok (tt_k Tk) (tt_n Tk) Q u ∧ Q 11 u + 119 ≤ u ∧ Q 9 u < Tk.length ∧ xp_r (tt_p Tk) Q u no nn np nd pt
def xp_K (no0 nn0 np0 pt0 no nn np pt : Nat → Int32) : Prop := (∀ u, u < 120 → no u = no0 u ∧ nn u = nn0 u ∧ np u = np0 u) ∧ ∀ i, i < 360 → pt i = pt0 i
theorem xp_Ns {Tk : List tz_T} {Q : Nat → Nat → Nat} {e t n a b c l h p s d pp : Nat} {no nn np nd pt : Nat → Int32} (H : xp_N Tk Q e no nn np nd pt)
    (ho : nd_ok (tt_k Tk) (tt_n Tk) (nd_U Q e (nd_w t n a b c l h p s d)) e) (hd : d + 119 ≤ e) (hp : p < Tk.length) (hpp : pp = tt_p Tk p) :
    xp_N Tk (nd_U Q e (nd_w t n a b c l h p s d)) (e + 1) (upd no e (nI (xc_t t))) (upd nn e (nI n)) (upd np e (nI pp)) (upd nd e (nI d)) (upd (upd (upd pt (e * 3 + 0) (nI a)) (e * 3 + 1) (nI b)) (e * 3 + 2) (nI c)) := by
  obtain ⟨H0, H⟩ := H
  refine ⟨by omega, fun u h1 h2 => ?_⟩
  by_cases q : u = e
  · subst q
    refine ⟨ho, by rw [nd_Us]; exact hd, by rw [nd_Us]; exact hp, ?_⟩
    unfold xp_r
    simp only [nd_Us]
    rw [pk_us, pk_us, pk_us, pk_us, pk_un (by omega), pk_un (by omega), pk_us, pk_un (by omega), pk_us, pk_us, hpp]
    exact ⟨rfl, rfl, rfl, rfl, rfl, rfl, rfl⟩
  · obtain ⟨g1, g2, g3, g4⟩ := H u h1 (by omega)
    have hu : u < e := by omega
    refine ⟨nd_okc (u := e) (fun k w hw => nd_Un (by omega)) hu g1, by rw [nd_Un q]; exact g2, by rw [nd_Un q]; exact g3, ?_⟩
    unfold xp_r at *
    simp only [nd_Un q]
    rw [pk_un q, pk_un q, pk_un q, pk_un q, pk_un (by omega), pk_un (by omega), pk_un (by omega), pk_un (by omega), pk_un (by omega), pk_un (by omega), pk_un (by omega), pk_un (by omega), pk_un (by omega)]
    exact g4
theorem xp_Ks {no0 nn0 np0 pt0 no nn np pt : Nat → Int32} {e : Nat} {x1 x2 x3 x4 x5 x6 : Int32} (he : 120 ≤ e) (H : xp_K no0 nn0 np0 pt0 no nn np pt) :
    xp_K no0 nn0 np0 pt0 (upd no e x1) (upd nn e x2) (upd np e x3) (upd (upd (upd pt (e * 3 + 0) x4) (e * 3 + 1) x5) (e * 3 + 2) x6) := by
  refine ⟨fun u hu => ?_, fun i hi => ?_⟩
  · rw [pk_un (by omega), pk_un (by omega), pk_un (by omega)]; exact H.1 u hu
  · rw [pk_un (by omega), pk_un (by omega), pk_un (by omega)]; exact H.2 i hi
-- the frames and the operands
def xp_F (Tk : List tz_T) (t : Nat) (fs : List fr_F) (fc fp : Nat → Int32) : Prop :=
  ar_L fc (fs.map (fun f => xc_t f.1)) ∧ ar_L fp (fs.map (fun f => tt_p Tk f.2.2.1)) ∧ ∀ f, f ∈ fs → f.1 < 34 ∧ f.2.2.1 < t
def lv_f (x : Nat) : Nat :=
  if x = 2 then 7 else if x = 6 then 1 else if x = 7 then 1 else if x = 33 then 7 else if x = 37 then 6 else if x = 38 then 3 else if x = 42 then 6 else
  if x = 43 then 5 else if x = 45 then 5 else if x = 47 then 6 else if x = 58 then 1 else if x = 60 then 4 else if x = 61 then 4 else if x = 124 then 2 else 0
theorem lv_x : ∀ c, c < 34 → lv_f (xc_t c) = fr_l c := by decide
theorem lv_X {x : Nat} (hx : x < 2 ^ 31) {post : Int32 → Prop} (h : post (nI (lv_f x))) : wpX_levelOf post (nI x) := by
  refine pk_eq x 2 (fun c1 => sy_e 7 h (by rw [c1]; rfl)) (fun c1 => pk_eq x 6 (fun c2 => sy_e 1 h (by rw [c2]; rfl)) (fun c2 => pk_eq x 7 (fun c3 => sy_e 1 h (by rw [c3]; rfl)) (fun c3 =>
      pk_eq x 33 (fun c4 => sy_e 7 h (by rw [c4]; rfl)) (fun c4 => pk_eq x 37 (fun c5 => sy_e 6 h (by rw [c5]; rfl)) (fun c5 => pk_eq x 38 (fun c6 => sy_e 3 h (by rw [c6]; rfl)) (fun c6 =>
      pk_eq x 42 (fun c7 => sy_e 6 h (by rw [c7]; rfl)) (fun c7 => pk_eq x 43 (fun c8 => sy_e 5 h (by rw [c8]; rfl)) (fun c8 => pk_eq x 45 (fun c9 => sy_e 5 h (by rw [c9]; rfl)) (fun c9 =>
      pk_eq x 47 (fun c10 => sy_e 6 h (by rw [c10]; rfl)) (fun c10 => pk_eq x 58 (fun c11 => sy_e 1 h (by rw [c11]; rfl)) (fun c11 => pk_eq x 60 (fun c12 => sy_e 4 h (by rw [c12]; rfl)) (fun c12 =>
      pk_eq x 61 (fun c13 => sy_e 4 h (by rw [c13]; rfl)) (fun c13 => pk_eq x 124 (fun c14 => sy_e 2 h (by rw [c14]; rfl)) (fun c14 => sy_e 0 h ?_))))))))))))))
  unfold lv_f
  rw [if_neg c1, if_neg c2, if_neg c3, if_neg c4, if_neg c5, if_neg c6, if_neg c7, if_neg c8, if_neg c9, if_neg c10, if_neg c11, if_neg c12, if_neg c13, if_neg c14]
theorem xp_m3 {a b m : Nat} (ha : a ≤ m) (hb : b ≤ m) : nd_m a b ≤ m := by
  unfold nd_m; split <;> assumption
end
section
-- X closes frames
theorem nd_13 {tk : Nat → Nat} {Q : Nat → Nat → Nat} {t l h p a b c : Nat} (g : nd_k tk Q t l h p a b c) : t = 13 ↔ tk p = 13 := by
  rcases g with g | ⟨g1, g2, _⟩ | ⟨g1, _⟩ | ⟨g1, g2, _⟩ | ⟨g1, g2, _⟩ | ⟨g1, g2, _⟩ <;> omega
theorem cl_x6 : ∀ c, c < 34 → (xc_t c = 6 ↔ c = 32) := by decide
theorem cl_x7 : ∀ c, c < 34 → (xc_t c = 7 ↔ c = 33) := by decide
def cl_I (Tk : List tz_T) (F t : Nat) (no0 nn0 np0 pt0 : Nat → Int32) (Q0 Q : Nat → Nat → Nat) (e at0 lev : Nat) (fs : List fr_F) (ops : List Nat) (v : Nat) (no nn np nd pt fc fp op : Nat → Int32) : Prop :=
  fr_S (tt_k Tk) Q fs ops at0 ∧ fr_o (tt_k Tk) Q at0 t v ∧ rg_L (tt_k Tk) lev at0 t ∧ (∀ f, fs.head? = some f → fr_n f.1 ≤ lev) ∧ fr_t Q F (v :: ops) e ∧ 120 ≤ F ∧
  xp_N Tk Q e no nn np nd pt ∧ xp_K no0 nn0 np0 pt0 no nn np pt ∧ xp_F Tk t fs fc fp ∧ ar_L op (v :: ops) ∧ e + fs.length ≤ t + 120 ∧ t ≤ Tk.length ∧ ops.length + 121 ≤ e ∧ (∀ k w, w < F → Q k w = Q0 k w)
theorem cl_dp {Tk : List tz_T} {Q : Nat → Nat → Nat} {e v : Nat} {no nn np nd pt : Nat → Int32} (H : xp_N Tk Q e no nn np nd pt) (h1 : 120 ≤ v) (h2 : v < e) (he : e ≤ 320) : v < 320 ∧ nd v = nI (Q 11 v) ∧ Q 11 v < 1000 ∧ Q 11 v + 120 ≤ e := by
  obtain ⟨_, b, _, r⟩ := H.2 v h1 h2
  exact ⟨by omega, r.2.2.2.1, by omega, by omega⟩
theorem cl_nx {Tk : List tz_T} {F t : Nat} {no0 nn0 np0 pt0 : Nat → Int32} {Q0 Q : Nat → Nat → Nat} {e at0 lev c st p nx : Nat} {fs : List fr_F} {ops rest : List Nat} {v op a b d dp s pp : Nat} {no nn np nd pt fc fp opa : Nat → Int32}
    (I : cl_I Tk F t no0 nn0 np0 pt0 Q0 Q e at0 lev ((c, st, p, nx) :: fs) ops v no nn np nd pt fc fp opa)
    (hG : fr_G (tt_k Tk) (tt_n Tk) (nd_U Q e (nd_w op (tt_n Tk p) a b d st t p s dp)) F c st t e fs rest) (hd : dp + 119 ≤ e) (hl : rest.length ≤ ops.length) (hr : ar_L opa rest) (hpp : pp = tt_p Tk p) :
    cl_I Tk F t no0 nn0 np0 pt0 Q0 (nd_U Q e (nd_w op (tt_n Tk p) a b d st t p s dp)) (e + 1) st (fr_g c) fs rest e (upd no e (nI (xc_t op))) (upd nn e (nI (tt_n Tk p))) (upd np e (nI pp)) (upd nd e (nI dp)) (upd (upd (upd pt (e * 3 + 0) (nI a)) (e * 3 + 1) (nI b)) (e * 3 + 2) (nI d)) fc fp (upd opa rest.length (nI e)) := by
  obtain ⟨i1, i2, i3, i4, i5, i6, i7, i8, i9, i10, i11, i12, i13, i14⟩ := I
  obtain ⟨g1, g2, g3, g4, g5, g6⟩ := hG
  rw [List.length_cons] at i11
  refine ⟨g4, g2, g3, ?_, g5, i6, xp_Ns i7 g1 hd ?_ hpp, xp_Ks i7.1 i8, ⟨i9.1.2, i9.2.1.2, fun f hf => i9.2.2 f (List.mem_cons_of_mem _ hf)⟩, ar_p hr, by omega, i12, by omega, fun k w hw => (nd_Un (by have := (fr_t_lt _ _ i5).1; omega)).trans (i14 k w hw)⟩
  · intro f hf
    cases fs with
    | nil => simp at hf
    | cons q qs =>
      simp at hf
      subst hf
      exact g6.1
  · have := (i9.2.2 (c, st, p, nx) (by simp)).2
    dsimp only at this
    omega
section
variable {f_width f_textLength f_foundPlace f_tokenCount f_frameCount f_operandCount f_defCount f_nodeEnd : Int32} {a_text a_tokenCode a_tokenPlace a_frameCode a_framePlace a_operand a_defPlace a_defFirst a_defEnd a_nodeOp a_nodeNumber a_nodePlace a_nodeDepth a_nodeKind a_part a_size a_kindFound a_choice a_status : Nat → Int32} {a_result : Nat → Int64} {a_slotFunction a_slotArgument : Nat → Int32} {L : Nat} {tx : Nat → Nat} {Tk : List tz_T} {F t : Nat} {no0 nn0 np0 pt0 : Nat → Int32} {Q0 : Nat → Nat → Nat}
theorem cl_7 (hT : tx_P L tx a_text) (hK : xp_T L tx Tk) {level : Nat} (h1 : 1 ≤ level) (h7 : level ≤ 7) {post : SX → Prop} (Z : List fr_F → Prop) (hZ : ∀ f fs, Z (f :: fs) → 1 ≤ fr_l f.1 → Z fs)
    (hp : ∀ Q e at0 lev f fs ops v no nn np nd pt op, cl_I Tk F t no0 nn0 np0 pt0 Q0 Q e at0 lev (f :: fs) ops v no nn np nd pt a_frameCode a_framePlace op → level ≤ lev → fr_l f.1 < level → Z (f :: fs) →
      post (f_width, nI L, f_foundPlace, f_tokenCount, nI (fs.length + 1), nI (ops.length + 1), f_defCount, nI e, a_text, a_tokenCode, a_tokenPlace, a_frameCode, a_framePlace, op, a_defPlace, a_defFirst, a_defEnd, no, nn, np, nd, a_nodeKind, pt, a_size, a_kindFound, a_choice, a_status, a_result, a_slotFunction, a_slotArgument)) :
    ∀ fs1 f Q e at0 lev ops v no nn np nd pt op n, cl_I Tk F t no0 nn0 np0 pt0 Q0 Q e at0 lev (f :: fs1) ops v no nn np nd pt a_frameCode a_framePlace op → level ≤ lev → Z (f :: fs1) → fs1.length < n →
      wX_closeFrames_7 post (nI level) n (nI fs1.length) f_width (nI L) f_foundPlace f_tokenCount (nI (fs1.length + 1)) (nI (ops.length + 1)) f_defCount (nI e) a_text a_tokenCode a_tokenPlace a_frameCode a_framePlace op a_defPlace a_defFirst a_defEnd no nn np nd a_nodeKind pt a_size a_kindFound a_choice a_status a_result a_slotFunction a_slotArgument := by
  have hL := hT.1
  intro fs1
  induction fs1 with
  | nil =>
    intro f Q e at0 lev ops v no nn np nd pt op n I hlev hz hn
    obtain ⟨n, rfl⟩ : ∃ m, n = m + 1 := ⟨n - 1, by omega⟩
    have I0 := I
    obtain ⟨i1, i2, i3, i4, i5, i6, i7, i8, i9, i10, i11, i12, i13, i14⟩ := I
    have c30 : f.1 = 30 := i1.2.1
    have hc : a_frameCode 0 = nI (xc_t f.1) := i9.1.1
    refine br_f (nI_pos (n := 0) (by decide)) ⟨vp_in_nI (n := 0) (by decide) (by decide), fun y ey => ?_⟩
    have ey : y = nI (xc_t f.1) := by rw [ey, ← hc]; rfl
    subst ey
    refine lv_X (ad_tb _ (by omega)) ?_
    rw [lv_x _ (by omega)]
    have z : fr_l f.1 = 0 := by rw [c30]; rfl
    rw [z]
    exact br_f (nI_ge (by omega) (by omega)) (hp Q e at0 lev f [] ops v no nn np nd pt op I0 hlev (by omega) hz)
  | cons f2 fs2 ih =>
    intro f Q e at0 lev ops v no nn np nd pt op n I hlev hz hn
    obtain ⟨n, rfl⟩ : ∃ m, n = m + 1 := ⟨n - 1, by omega⟩
    have I0 := I
    obtain ⟨c, st, p, nx⟩ := f
    obtain ⟨i1, i2, i3, i4, i5, i6, i7, i8, i9, i10, i11, i12, i13, i14⟩ := I
    have hfm := i9.2.2 (c, st, p, nx) (by simp)
    dsimp only at hfm
    have hc : a_frameCode (fs2.length + 1) = nI (xc_t c) := by
      have := i9.1.1
      rw [List.length_map] at this
      exact this
    have hpl : a_framePlace (fs2.length + 1) = nI (tt_p Tk p) := by
      have := i9.2.1.1
      rw [List.length_map] at this
      exact this
    rw [List.length_cons, List.length_cons] at i11
    rw [List.length_cons] at hn
    have Tl := hK.1
    have b200 : fs2.length + 1 < 200 := by omega
    have e320 : e < 320 := by omega
    have e120 := i7.1
    have pL := (hK.2.2 p (by omega)).1
    have hin : vp_in (nI (fs2.length + 1)) 200 := vp_in_nI b200 (by decide)
    have tb := ad_tb c hfm.1
    have x6 := cl_x6 c hfm.1
    have x7 := cl_x7 c hfm.1
    have all : ∀ o, o ∈ v :: ops → 120 ≤ o ∧ o < e := fun o ho => by
      have := (fr_t_lt _ _ i5).2 o ho; omega
    rw [List.length_cons]
    refine br_f (nI_pos (by omega)) ⟨hin, fun y ey => ?_⟩
    rw [nI_clamp (by omega), hc] at ey
    subst ey
    refine lv_X tb ?_
    rw [lv_x c hfm.1]
    have l7 : fr_l c ≤ 7 := by unfold fr_l; repeat' split
                               all_goals omega
    refine pk_le level (fr_l c) (fun hle => ?_) (fun hlt => hp Q e at0 lev (c, st, p, nx) (f2 :: fs2) ops v no nn np nd pt op I0 hlev hlt hz)
    have hzz := hZ _ _ hz (by show 1 ≤ fr_l c; omega)
    have gl : level ≤ fr_g c := by
      unfold fr_g
      split
      · omega
      · split
        · omega
        · have : fr_l c = 1 := by omega
          omega
    have rd := fr_red (tn := tt_n Tk) (u := e) (F := F) i1 i2 (rg_Lm i3 (i4 _ rfl)) (by show 1 ≤ fr_l c; omega) i5
    have nx0 : ∀ Q2 st2 ops2 no2 nn2 np2 nd2 pt2 op2, cl_I Tk F t no0 nn0 np0 pt0 Q0 Q2 (e + 1) st2 (fr_g c) (f2 :: fs2) ops2 e no2 nn2 np2 nd2 pt2 a_frameCode a_framePlace op2 →
        ∀ y, y = nI (fs2.length + 1) + (-1) → wX_closeFrames_7 post (nI level) n y f_width (nI L) f_foundPlace f_tokenCount (nI (fs2.length + 1)) (nI (ops2.length + 1)) f_defCount (nI (e + 1)) a_text a_tokenCode a_tokenPlace a_frameCode a_framePlace op2 a_defPlace a_defFirst a_defEnd no2 nn2 np2 nd2 a_nodeKind pt2 a_size a_kindFound a_choice a_status a_result a_slotFunction a_slotArgument := by
      intro Q2 st2 ops2 no2 nn2 np2 nd2 pt2 op2 I2 y ey
      rw [ey, pk_m1]
      exact ih f2 Q2 (e + 1) st2 (fr_g c) ops2 e no2 nn2 np2 nd2 pt2 op2 n I2 gl hzz (by omega)
    rcases rd with ⟨r7, rG⟩ | ⟨r7, r32, a, rest, ro, rG⟩ | ⟨r32, a, b, rest, ro, rG⟩
    · -- one part
      have n32 : c ≠ 32 := fun q => by rw [q] at r7; exact absurd r7 (by decide)
      have n33 : c ≠ 33 := fun q => by rw [q] at r7; exact absurd r7 (by decide)
      refine br_f (fun q => n32 (x6.mp ((nI_eq (b := 6) (by omega) (by decide)).mp q))) (br_f (fun q => n33 (x7.mp ((nI_eq (b := 7) (by omega) (by decide)).mp q))) ⟨hin, ?_⟩)
      rw [nI_clamp (by omega), hpl, r7]
      refine br_t rfl ?_
      have hv := all v (by simp)
      obtain ⟨q1, q2, q3, q4⟩ := cl_dp i7 hv.1 hv.2 (by omega)
      have k13 := nd_13 rG.1.1
      simp only [nd_Us] at k13
      obtain ⟨w1, w2⟩ := xp_nn hK (i := p) (t := c) (by omega) k13
      have ho : op ops.length = nI v := i10.1
      refine ad_X hT (k := 1) (r := ops.length) (t := c) (v0 := v) (v1 := e) (v2 := e) (d0 := Q 11 v) (d1 := 0) (d2 := 0) (D0 := nd_m 0 (Q 11 v)) (D1 := nd_m 0 (Q 11 v)) (D2 := nd_m 0 (Q 11 v)) (by omega) e320 (by omega) (by omega) hfm.1 pL w2
        ⟨fun _ => ⟨ho, q1, q2, q3⟩, fun q => absurd Nat.one_pos q⟩ ⟨fun q => absurd q (by omega), fun _ => rfl⟩ ⟨fun q => absurd q (by omega), fun _ => rfl⟩ rfl rfl rfl ?_
      rw [w1]
      have m0 : nd_m 0 (Q 11 v) ≤ e - 120 := xp_m3 (by omega) (by omega)
      exact nx0 _ _ _ _ _ _ _ _ _ (cl_nx I0 rG (by omega) (Nat.le_refl _) i10.2 rfl)
    · -- two parts
      have hl2 := congrArg List.length ro
      rw [List.length_cons] at hl2
      have hv := all v (by simp)
      have ha := all a (by rw [ro]; simp)
      obtain ⟨q1, q2, q3, q4⟩ := cl_dp i7 hv.1 hv.2 (by omega)
      obtain ⟨s1, s2, s3, s4⟩ := cl_dp i7 ha.1 ha.2 (by omega)
      have k13 := nd_13 rG.1.1
      simp only [nd_Us] at k13
      have k13 : fr_p c = 13 ↔ tt_k Tk p = 13 := k13
      obtain ⟨w1, w2⟩ := xp_nn hK (i := p) (t := fr_p c) (by omega) k13
      have ho : op ops.length = nI v := i10.1
      have hr := i10.2
      rw [ro] at hr
      have ho1 : op rest.length = nI a := hr.1
      rw [hl2] at ho
      have p34 : fr_p c < 34 := by
        unfold fr_p
        split
        · omega
        · split
          · omega
          · exact hfm.1
      have m0 : nd_m (nd_m 0 (Q 11 a)) (Q 11 v) ≤ e - 120 := xp_m3 (xp_m3 (by omega) (by omega)) (by omega)
      have fin : wpX_addNode (fun u => match u with | (f_width9, f_textLength9, f_foundPlace9, f_tokenCount9, f_frameCount9, f_operandCount9, f_defCount9, f_nodeEnd9, a_text9, a_tokenCode9, a_tokenPlace9, a_frameCode9, a_framePlace9, a_operand9, a_defPlace9, a_defFirst9, a_defEnd9, a_nodeOp9, a_nodeNumber9, a_nodePlace9, a_nodeDepth9, a_nodeKind9, a_part9, a_size9, a_kindFound9, a_choice9, a_status9, a_result9, a_slotFunction9, a_slotArgument9) => ∀ y, y = nI (fs2.length + 1) + (-1) → wX_closeFrames_7 post (nI level) n y f_width9 f_textLength9 f_foundPlace9 f_tokenCount9 f_frameCount9 f_operandCount9 f_defCount9 f_nodeEnd9 a_text9 a_tokenCode9 a_tokenPlace9 a_frameCode9 a_framePlace9 a_operand9 a_defPlace9 a_defFirst9 a_defEnd9 a_nodeOp9 a_nodeNumber9 a_nodePlace9 a_nodeDepth9 a_nodeKind9 a_part9 a_size9 a_kindFound9 a_choice9 a_status9 a_result9 a_slotFunction9 a_slotArgument9) (f_width, nI L, f_foundPlace, f_tokenCount, nI (fs2.length + 1), nI (rest.length + 2), f_defCount, nI e, a_text, a_tokenCode, a_tokenPlace, a_frameCode, a_framePlace, op, a_defPlace, a_defFirst, a_defEnd, no, nn, np, nd, a_nodeKind, pt, a_size, a_kindFound, a_choice, a_status, a_result, a_slotFunction, a_slotArgument) (nI (xc_t (fr_p c))) (nI (tt_p Tk p)) (nI 2) := by
        refine ad_X hT (k := 2) (r := rest.length) (t := fr_p c) (v0 := a) (v1 := v) (v2 := e) (d0 := Q 11 a) (d1 := Q 11 v) (d2 := 0) (D0 := nd_m 0 (Q 11 a)) (D1 := nd_m (nd_m 0 (Q 11 a)) (Q 11 v)) (D2 := nd_m (nd_m 0 (Q 11 a)) (Q 11 v)) (by omega) e320 (by omega) (by omega) p34 pL w2
          ⟨fun _ => ⟨ho1, s1, s2, s3⟩, fun q => absurd Nat.two_pos q⟩ ⟨fun _ => ⟨ho, q1, q2, q3⟩, fun q => absurd Nat.one_lt_two q⟩ ⟨fun q => absurd q (by omega), fun _ => rfl⟩ rfl rfl rfl ?_
        rw [w1]
        exact nx0 _ _ _ _ _ _ _ _ _ (cl_nx I0 rG (by omega) (by omega) hr.2 rfl)
      refine br_f (fun q => r32 (x6.mp ((nI_eq (b := 6) (by omega) (by decide)).mp q))) ?_
      rw [hl2]
      by_cases e33 : c = 33
      · subst e33
        refine br_t rfl ⟨hin, ?_⟩
        rw [nI_clamp (by omega), hpl]
        exact fin
      · have ep : fr_p c = c := by unfold fr_p; rw [if_neg r32, if_neg e33]
        rw [ep] at fin
        refine br_f (fun q => e33 (x7.mp ((nI_eq (b := 7) (by omega) (by decide)).mp q))) ⟨hin, ?_⟩
        rw [nI_clamp (by omega), hpl]
        exact br_f (fun q => r7 ((nI_eq (b := 7) (by omega) (by decide)).mp q)) fin
    · -- three parts
      subst r32
      have hl2 := congrArg List.length ro
      rw [List.length_cons, List.length_cons] at hl2
      have hv := all v (by simp)
      have ha := all a (by rw [ro]; simp)
      have hb := all b (by rw [ro]; simp)
      obtain ⟨q1, q2, q3, q4⟩ := cl_dp i7 hv.1 hv.2 (by omega)
      obtain ⟨s1, s2, s3, s4⟩ := cl_dp i7 ha.1 ha.2 (by omega)
      obtain ⟨t1, t2, t3, t4⟩ := cl_dp i7 hb.1 hb.2 (by omega)
      have k13 := nd_13 rG.1.1
      simp only [nd_Us] at k13
      have k13 : 3 = 13 ↔ tt_k Tk p = 13 := k13
      obtain ⟨w1, w2⟩ := xp_nn hK (i := p) (t := 3) (by omega) k13
      have ho : op ops.length = nI v := i10.1
      have hr := i10.2
      rw [ro] at hr
      have ho1 : op (rest.length + 1) = nI b := hr.1
      have ho2 : op rest.length = nI a := hr.2.1
      rw [hl2] at ho
      have m0 : nd_m (nd_m (nd_m 0 (Q 11 a)) (Q 11 b)) (Q 11 v) ≤ e - 120 := xp_m3 (xp_m3 (xp_m3 (by omega) (by omega)) (by omega)) (by omega)
      refine br_t rfl ⟨hin, ?_⟩
      rw [nI_clamp (by omega), hpl, hl2]
      refine ad_X hT (k := 3) (r := rest.length) (t := 3) (v0 := a) (v1 := b) (v2 := v) (d0 := Q 11 a) (d1 := Q 11 b) (d2 := Q 11 v) (D0 := nd_m 0 (Q 11 a)) (D1 := nd_m (nd_m 0 (Q 11 a)) (Q 11 b)) (D2 := nd_m (nd_m (nd_m 0 (Q 11 a)) (Q 11 b)) (Q 11 v)) (by omega) e320 (by omega) (by omega) (by decide) pL w2
        ⟨fun _ => ⟨ho2, s1, s2, s3⟩, fun q => absurd (by decide) q⟩ ⟨fun _ => ⟨ho1, t1, t2, t3⟩, fun q => absurd (by decide) q⟩ ⟨fun _ => ⟨ho, q1, q2, q3⟩, fun q => absurd (by decide) q⟩ rfl rfl rfl ?_
      rw [w1]
      exact nx0 _ _ _ _ _ _ _ _ _ (cl_nx I0 rG (by omega) (by omega) hr.2.2 rfl)
theorem cl_X (hT : tx_P L tx a_text) (hK : xp_T L tx Tk) {level : Nat} (h1 : 1 ≤ level) (h7 : level ≤ 7) {post : SX → Prop} (Z : List fr_F → Prop) (hZ : ∀ f fs, Z (f :: fs) → 1 ≤ fr_l f.1 → Z fs)
    {fs1 : List fr_F} {f : fr_F} {Q : Nat → Nat → Nat} {e at0 lev : Nat} {ops : List Nat} {v : Nat}
    (I : cl_I Tk F t no0 nn0 np0 pt0 Q0 Q e at0 lev (f :: fs1) ops v a_nodeOp a_nodeNumber a_nodePlace a_nodeDepth a_part a_frameCode a_framePlace a_operand) (hlev : level ≤ lev) (hz : Z (f :: fs1))
    (hp : ∀ Q e at0 lev f fs ops v no nn np nd pt op, cl_I Tk F t no0 nn0 np0 pt0 Q0 Q e at0 lev (f :: fs) ops v no nn np nd pt a_frameCode a_framePlace op → level ≤ lev → fr_l f.1 < level → Z (f :: fs) →
      post (f_width, nI L, f_foundPlace, f_tokenCount, nI (fs.length + 1), nI (ops.length + 1), f_defCount, nI e, a_text, a_tokenCode, a_tokenPlace, a_frameCode, a_framePlace, op, a_defPlace, a_defFirst, a_defEnd, no, nn, np, nd, a_nodeKind, pt, a_size, a_kindFound, a_choice, a_status, a_result, a_slotFunction, a_slotArgument)) :
    wpX_closeFrames post (f_width, nI L, f_foundPlace, f_tokenCount, nI (fs1.length + 1), nI (ops.length + 1), f_defCount, nI e, a_text, a_tokenCode, a_tokenPlace, a_frameCode, a_framePlace, a_operand, a_defPlace, a_defFirst, a_defEnd, a_nodeOp, a_nodeNumber, a_nodePlace, a_nodeDepth, a_nodeKind, a_part, a_size, a_kindFound, a_choice, a_status, a_result, a_slotFunction, a_slotArgument) (nI level) := by
  intro y ey
  have e1 : nI (fs1.length + 1) - 1 = nI fs1.length := nI_pred _
  rw [ey, e1]
  exact ⟨_, cl_7 hT hK h1 h7 Z hZ hp fs1 f Q e at0 lev ops v a_nodeOp a_nodeNumber a_nodePlace a_nodeDepth a_part a_operand (fs1.length + 1) I hlev hz (Nat.lt_succ_self _)⟩
end
end
section
-- the state of X's parser: definitions and pure transitions
def ms_o : List fr_F → List Nat
  | [] => []
  | f :: fs => if f.1 = 26 ∨ f.1 = 7 ∨ f.1 = 8 ∨ f.1 = 9 ∨ f.1 = 13 then 26 :: ms_o fs else if f.1 = 3 then 3 :: ms_o fs else if f.1 = 31 then 4 :: ms_o fs else if f.1 = 6 then 6 :: ms_o fs else ms_o fs
def fr_B (fr : Nat) : List fr_F → Prop
  | [] => True
  | f :: fs => (f.1 = 30 → f.2.2.1 = fr + 1) ∧ fr_B fr fs
abbrev df_D : Type := Nat × Nat × Nat × Nat
def df_C (tk : Nat → Nat) (Q : Nat → Nat → Nat) : List df_D → Nat → Nat → Prop
  | [], t, e => t = 0 ∧ e = 120
  | d :: r, t, e => t = d.2.2.2 + 1 ∧ e = d.2.2.1 ∧ tk d.1 = 13 ∧ tk (d.1 + 1) = 20 ∧ tk d.2.2.2 = 25 ∧ (∀ i, d.1 ≤ i → i < d.2.2.2 → tk i ≠ 25) ∧
      nd_W tk Q (d.1 + 2) d.2.2.2 (d.2.2.1 - 1) ∧ rg_o tk (d.1 + 2) d.2.2.2 ∧ Q 10 (d.2.2.1 - 1) = d.2.1 ∧ d.2.1 < d.2.2.1 ∧ 120 ≤ d.2.1 ∧ df_C tk Q r d.1 d.2.1
theorem df_Cc {tk : Nat → Nat} {Q R : Nat → Nat → Nat} {u : Nat} (e : ∀ k w, w < u → R k w = Q k w) : ∀ (dl : List df_D) (t n : Nat), n ≤ u → df_C tk Q dl t n → df_C tk R dl t n := by
  intro dl
  induction dl with
  | nil => intro t n _ h; exact h
  | cons d r ih =>
    intro t n hn h
    obtain ⟨h1, h2, h3, h4, h5, h6, h7, h8, h9, h10, h11, h12⟩ := h
    refine ⟨h1, h2, h3, h4, h5, h6, nd_Wc (fun k => e k _ (by omega)) h7, h8, ?_, h10, h11, ih _ _ (by omega) h12⟩
    rw [e _ _ (by omega)]; exact h9
def df_A (Tk : List tz_T) (dp df de : Nat → Int32) : List df_D → Prop
  | [] => True
  | d :: r => dp r.length = nI (tt_p Tk d.1) ∧ df r.length = nI d.2.1 ∧ de r.length = nI d.2.2.1 ∧ df_A Tk dp df de r
theorem df_Au {Tk : List tz_T} {dp df de dp2 df2 de2 : Nat → Int32} : ∀ (dl : List df_D), (∀ i, i < dl.length → dp2 i = dp i ∧ df2 i = df i ∧ de2 i = de i) → df_A Tk dp df de dl → df_A Tk dp2 df2 de2 dl := by
  intro dl
  induction dl with
  | nil => intro _ h; exact h
  | cons d r ih =>
    intro e h
    obtain ⟨h1, h2, h3, h4⟩ := h
    rw [List.length_cons] at e
    obtain ⟨e1, e2, e3⟩ := e r.length (by omega)
    exact ⟨e1.trans h1, e2.trans h2, e3.trans h3, ih (fun i hi => e i (by omega)) h4⟩
def pa_w (st : Nat) : Nat := if st = 1 then 0 else if st = 2 then 1 else if st = 3 then 2 else if st = 4 then 3 else if st = 5 then 5 else 4
def pa_o (st : Nat) (fs : List fr_F) : List Nat := if st = 5 then ms_o fs.tail else ms_o fs
def pa_B (Tk : List tz_T) (no0 nn0 np0 pt0 : Nat → Int32) (st t : Nat) (Q : Nat → Nat → Nat) (e : Nat) (fs : List fr_F) (ops : List Nat) (dl : List df_D) (fcn ocn dcn nen : Int32) (dp df de no nn np nd pt : Nat → Int32) : Prop :=
  fcn = nI fs.length ∧ ocn = nI ops.length ∧ dcn = nI dl.length ∧ nen = nI e ∧ xp_N Tk Q e no nn np nd pt ∧ xp_K no0 nn0 np0 pt0 no nn np pt ∧ df_A Tk dp df de dl ∧
  t ≤ Tk.length ∧ e + fs.length ≤ t + 120 ∧ dl.length ≤ t ∧ ms_f (tt_k Tk) t = some (pa_w st, pa_o st fs)
def pa_D (Tk : List tz_T) (t : Nat) (Q : Nat → Nat → Nat) (F fr : Nat) (fs : List fr_F) (dl : List df_D) (dp df : Nat → Int32) : Prop :=
  df_C (tt_k Tk) Q dl fr F ∧ 120 ≤ F ∧ tt_k Tk fr = 13 ∧ tt_k Tk (fr + 1) = 20 ∧ fr_B fr fs ∧ (∀ i, fr ≤ i → i < t → tt_k Tk i ≠ 25) ∧ fr < t ∧ dl.length ≤ fr ∧ dp dl.length = nI (tt_p Tk fr) ∧ df dl.length = nI F
def pa_S (tk : Nat → Nat) (Q : Nat → Nat → Nat) (F st t e : Nat) (fs : List fr_F) (ops : List Nat) : Prop :=
  fr_t Q F ops e ∧ ops.length + 120 ≤ e ∧
  ((st = 3 ∧ fr_S tk Q fs ops t ∧ ∃ f r, fs = f :: r ∧ fr_n f.1 = 1) ∨
   (st = 4 ∧ fr_S tk Q fs ops t ∧ ∃ f r, fs = f :: r) ∨
   (st = 5 ∧ ∃ c r, fs = (c, t - 1, t - 1, t + 1) :: r ∧ 1 ≤ t ∧ (c = 7 ∨ c = 8 ∨ c = 9 ∨ c = 13) ∧ tk (t - 1) = c ∧ fr_S tk Q r ops (t - 1) ∧ ∃ f q, r = f :: q) ∨
   (st = 6 ∧ ∃ v rest at0, ops = v :: rest ∧ fr_S tk Q fs rest at0 ∧ fr_o tk Q at0 t v ∧ rg_L tk 7 at0 t ∧ ∃ f r, fs = f :: r))
def pa_I (Tk : List tz_T) (no0 nn0 np0 pt0 : Nat → Int32) (st t : Nat) (fcn ocn dcn nen : Int32) (fc fp op dp df de no nn np nd pt : Nat → Int32) : Prop :=
  ∃ Q e F fr fs ops dl, pa_B Tk no0 nn0 np0 pt0 st t Q e fs ops dl fcn ocn dcn nen dp df de no nn np nd pt ∧
    ((st = 1 ∧ fs = [] ∧ ops = [] ∧ df_C (tt_k Tk) Q dl t e) ∨
     (st = 2 ∧ fs = [] ∧ ops = [] ∧ t = fr + 1 ∧ tt_k Tk fr = 13 ∧ df_C (tt_k Tk) Q dl fr e ∧ dl.length ≤ fr ∧ dp dl.length = nI (tt_p Tk fr) ∧ df dl.length = nI e) ∨
     (3 ≤ st ∧ st ≤ 6 ∧ pa_D Tk t Q F fr fs dl dp df ∧ xp_F Tk t fs fc fp ∧ ar_L op ops ∧ pa_S (tt_k Tk) Q F st t e fs ops))
theorem pa_ms {tk : Nat → Nat} {t w : Nat} {o : List Nat} (h : ms_f tk t = some (w, o)) : ms_f tk (t + 1) = ms_s w o (tk t) := by
  show (ms_f tk t).bind _ = _
  rw [h]; rfl
theorem pa_n7 (c : Nat) : fr_n c ≤ 7 ∧ 1 ≤ fr_n c := by
  have : fr_l c ≤ 7 := by unfold fr_l; repeat' split
                          all_goals omega
  unfold fr_n
  split
  · omega
  · split <;> omega
theorem xp_Fm {Tk : List tz_T} {t t2 : Nat} {fs : List fr_F} {fc fp : Nat → Int32} (h : xp_F Tk t fs fc fp) (ht : t ≤ t2) : xp_F Tk t2 fs fc fp :=
  ⟨h.1, h.2.1, fun f hf => ⟨(h.2.2 f hf).1, by have := (h.2.2 f hf).2; omega⟩⟩
theorem xp_Fp {Tk : List tz_T} {t : Nat} {fs : List fr_F} {fc fp : Nat → Int32} {c st p nx x y : Nat} (h : xp_F Tk t fs fc fp) (hc : c < 34) (hp : p < t + 1) (hx : x = xc_t c) (hy : y = tt_p Tk p) :
    xp_F Tk (t + 1) ((c, st, p, nx) :: fs) (upd fc fs.length (nI x)) (upd fp fs.length (nI y)) := by
  subst hx hy
  refine ⟨?_, ?_, fun f hf => ?_⟩
  · have := ar_p (c := xc_t c) h.1
    rw [List.length_map] at this
    exact this
  · have := ar_p (c := tt_p Tk p) h.2.1
    rw [List.length_map] at this
    exact this
  · rcases List.mem_cons.mp hf with q | q
    · rw [q]; exact ⟨hc, hp⟩
    · have := h.2.2 f q; exact ⟨this.1, by omega⟩
-- a frame is pushed on states 3 and 4
theorem pa_push {Tk : List tz_T} {no0 nn0 np0 pt0 : Nat → Int32} {st t c nx st2 x : Nat} {fcn ocn dcn nen : Int32} {fc fp op dp df de no nn np nd pt : Nat → Int32} {Q : Nat → Nat → Nat} {e F fr : Nat} {fs : List fr_F} {ops : List Nat} {dl : List df_D}
    (hB : pa_B Tk no0 nn0 np0 pt0 st t Q e fs ops dl fcn ocn dcn nen dp df de no nn np nd pt) (hD : pa_D Tk t Q F fr fs dl dp df) (hF : xp_F Tk t fs fc fp) (ho : ar_L op ops) (ht : fr_t Q F ops e) (hl : ops.length + 120 ≤ e)
    (htT : t < Tk.length) (h25 : tt_k Tk t ≠ 25) (hc : c < 34) (h30 : c ≠ 30) (hs : 3 ≤ st2 ∧ st2 ≤ 5) (hx : x = xc_t c)
    (hm : ms_s (pa_w st) (pa_o st fs) (tt_k Tk t) = some (pa_w st2, pa_o st2 ((c, t, t, nx) :: fs)))
    (hS : pa_S (tt_k Tk) Q F st2 (t + 1) e ((c, t, t, nx) :: fs) ops) :
    pa_I Tk no0 nn0 np0 pt0 st2 (t + 1) (nI (fs.length + 1)) ocn dcn nen (upd fc fs.length (nI x)) (upd fp fs.length (nI (tt_p Tk t))) op dp df de no nn np nd pt := by
  obtain ⟨b1, b2, b3, b4, b5, b6, b7, b8, b9, b10, b11⟩ := hB
  obtain ⟨d1, d2, d3, d4, d5, d6, d7, d8, d9, d10⟩ := hD
  refine ⟨Q, e, F, fr, (c, t, t, nx) :: fs, ops, dl, ⟨rfl, b2, b3, b4, b5, b6, b7, by omega, by rw [List.length_cons]; omega, by omega, ?_⟩, Or.inr (Or.inr ⟨hs.1, by omega, ⟨d1, d2, d3, d4, ⟨fun q => absurd q h30, d5⟩, fun i h1 h2 => ?_, by omega, d8, d9, d10⟩, xp_Fp hF hc (by omega) hx rfl, ho, hS⟩)⟩
  · rw [pa_ms b11]; exact hm
  · by_cases q : i = t
    · rw [q]; exact h25
    · exact d6 i h1 (by omega)
theorem df_Al {tk : Nat → Nat} {Q : Nat → Nat → Nat} : ∀ (dl : List df_D) (t e : Nat), df_C tk Q dl t e → 120 ≤ e ∧ dl.length ≤ t := by
  intro dl
  induction dl with
  | nil => intro t e h; obtain ⟨h1, h2⟩ := h; rw [List.length_nil]; omega
  | cons d r ih =>
    intro t e h
    obtain ⟨h1, h2, h3, h4, h5, h6, h7, h8, h9, h10, h11, h12⟩ := h
    have := ih _ _ h12
    have := h8.1
    rw [List.length_cons]; omega
end
section
-- X begins an operand
theorem xk_i {k n C K : Nat} (hk : k ≤ 27) (hn : k = 13 → n < 5) (h : ∀ j, j < 28 → j ≠ 13 → (xc_t j = C ↔ j = K)) (hK : K ≠ 13) (hC : C < 65 ∨ 70 ≤ C) : xc_k k n = C ↔ k = K := by
  unfold xc_k
  by_cases e : k = 13
  · rw [if_pos e]; have := hn e; omega
  · rw [if_neg e]; exact h k (by omega) e
theorem xk_n : ∀ k, k < 28 → k ≠ 13 → ¬ (65 ≤ xc_t k ∧ xc_t k ≤ 69) := by decide
theorem xk_nm {k n : Nat} (hk : k ≤ 27) (hn : k = 13 → n < 5) : (65 ≤ xc_k k n ∧ xc_k k n ≤ 69) ↔ k = 13 := by
  unfold xc_k
  by_cases e : k = 13
  · rw [if_pos e]; have := hn e; omega
  · rw [if_neg e]; exact ⟨fun q => absurd q (xk_n k (by omega) e), fun q => absurd q e⟩
theorem xk_b {k n : Nat} (hk : k ≤ 27) (hn : k = 13 → n < 5) : xc_k k n < 2 ^ 31 := by
  unfold xc_k
  by_cases e : k = 13
  · rw [if_pos e]; have := hn e; omega
  · rw [if_neg e]; exact ad_tb k (by omega)
theorem xp_n5 {L : Nat} {tx : Nat → Nat} {Tk : List tz_T} {a : Nat → Int32} (hT : tx_P L tx a) (hK : xp_T L tx Tk) {i : Nat} (hi : i < Tk.length) (h : tt_k Tk i = 13) : tt_n Tk i < 5 := by
  obtain ⟨h1, h2, h3, _⟩ := hK.2.2 i hi
  rw [h3]
  rw [h2] at h
  have hc := (hT.2 _ h1).2.2
  have k12 : ∀ w, tz_k w ≤ 12 := by
    intro w
    by_cases z : tz_k w = 0
    · omega
    · exact (tx_kx z).2.1
  unfold tz_kd at h
  unfold tz_nm
  by_cases q : tz_dg (tx (tt_p Tk i)) = true
  · rw [if_pos q] at h; split at h <;> omega
  · rw [if_neg q] at h ⊢
    by_cases q2 : tz_sm (tx (tt_p Tk i)) = true
    · rw [if_pos q2] at h
      split at h
      · have := k12 (tz_w tx (tt_p Tk i) (tz_end tx L (tt_p Tk i) - tt_p Tk i)); omega
      · omega
    · split <;> omega
section
variable {f_width f_textLength f_foundPlace f_tokenCount f_frameCount f_operandCount f_defCount f_nodeEnd : Int32} {a_text a_tokenCode a_tokenPlace a_frameCode a_framePlace a_operand a_defPlace a_defFirst a_defEnd a_nodeOp a_nodeNumber a_nodePlace a_nodeDepth a_nodeKind a_part a_size a_kindFound a_choice a_status : Nat → Int32} {a_result : Nat → Int64} {a_slotFunction a_slotArgument : Nat → Int32}
theorem of_X {m : Nat} (hm : m < 200) {p0 p1 p2 : Int32} {post : Int32 → SX → Prop} (h : post p2 (f_width, f_textLength, f_foundPlace, f_tokenCount, nI (m + 1), f_operandCount, f_defCount, f_nodeEnd, a_text, a_tokenCode, a_tokenPlace, upd a_frameCode m p0, upd a_framePlace m p1, a_operand, a_defPlace, a_defFirst, a_defEnd, a_nodeOp, a_nodeNumber, a_nodePlace, a_nodeDepth, a_nodeKind, a_part, a_size, a_kindFound, a_choice, a_status, a_result, a_slotFunction, a_slotArgument)) : wpX_openFrame post (f_width, f_textLength, f_foundPlace, f_tokenCount, nI m, f_operandCount, f_defCount, f_nodeEnd, a_text, a_tokenCode, a_tokenPlace, a_frameCode, a_framePlace, a_operand, a_defPlace, a_defFirst, a_defEnd, a_nodeOp, a_nodeNumber, a_nodePlace, a_nodeDepth, a_nodeKind, a_part, a_size, a_kindFound, a_choice, a_status, a_result, a_slotFunction, a_slotArgument) p0 p1 p2 := by
  refine ⟨vp_in_nI hm (by decide), fun A eA => ⟨vp_in_nI hm (by decide), fun B eB C eC => ?_⟩⟩
  rw [nI_clamp (by omega)] at eA eB
  rw [nI_1] at eC
  subst eA eB eC
  exact h
theorem su_X {m x : Nat} (hm : m < 200) (hx : x < 2 ^ 31) {y : Int32} {post : Int32 → SX → Prop}
    (h1 : (x = 1 ∨ x = 120 ∨ x = 28271 ∨ x = 7235948 ∨ x = 7955827) → wX_startUnary_140 post (nI x) y f_width f_textLength f_foundPlace f_tokenCount (nI m) f_operandCount f_defCount f_nodeEnd a_text a_tokenCode a_tokenPlace a_frameCode a_framePlace a_operand a_defPlace a_defFirst a_defEnd a_nodeOp a_nodeNumber a_nodePlace a_nodeDepth a_nodeKind a_part a_size a_kindFound a_choice a_status a_result a_slotFunction a_slotArgument)
    (hO : ∀ c s, ((x = 33 ∧ c = 23 ∧ s = 4) ∨ (x = 40 ∧ c = 26 ∧ s = 3) ∨ (x = 45 ∧ c = 28 ∧ s = 4) ∨ ((65 ≤ x ∧ x ≤ 69) ∧ c = 13 ∧ s = 5) ∨ (x = 26724 ∧ c = 7 ∧ s = 5) ∨ (x = 29804 ∧ c = 8 ∧ s = 5) ∨ (x = 7239020 ∧ c = 9 ∧ s = 5)) →
      post (nI s) (f_width, f_textLength, f_foundPlace, f_tokenCount, nI (m + 1), f_operandCount, f_defCount, f_nodeEnd, a_text, a_tokenCode, a_tokenPlace, upd a_frameCode m (nI (xc_t c)), upd a_framePlace m y, a_operand, a_defPlace, a_defFirst, a_defEnd, a_nodeOp, a_nodeNumber, a_nodePlace, a_nodeDepth, a_nodeKind, a_part, a_size, a_kindFound, a_choice, a_status, a_result, a_slotFunction, a_slotArgument))
    (h0 : ¬ (x = 1 ∨ x = 120 ∨ x = 28271 ∨ x = 7235948 ∨ x = 7955827) → ¬ (x = 33 ∨ x = 40 ∨ x = 45 ∨ (65 ≤ x ∧ x ≤ 69) ∨ x = 26724 ∨ x = 29804 ∨ x = 7239020) → post 0 (f_width, f_textLength, f_foundPlace, f_tokenCount, nI m, f_operandCount, f_defCount, f_nodeEnd, a_text, a_tokenCode, a_tokenPlace, a_frameCode, a_framePlace, a_operand, a_defPlace, a_defFirst, a_defEnd, a_nodeOp, a_nodeNumber, a_nodePlace, a_nodeDepth, a_nodeKind, a_part, a_size, a_kindFound, a_choice, a_status, a_result, a_slotFunction, a_slotArgument)) :
    wpX_startUnary post (f_width, f_textLength, f_foundPlace, f_tokenCount, nI m, f_operandCount, f_defCount, f_nodeEnd, a_text, a_tokenCode, a_tokenPlace, a_frameCode, a_framePlace, a_operand, a_defPlace, a_defFirst, a_defEnd, a_nodeOp, a_nodeNumber, a_nodePlace, a_nodeDepth, a_nodeKind, a_part, a_size, a_kindFound, a_choice, a_status, a_result, a_slotFunction, a_slotArgument) (nI x) y := by
  have call : 65 ≤ x ∧ x ≤ 69 → wX_startUnary_182 post y f_width f_textLength f_foundPlace f_tokenCount (nI m) f_operandCount f_defCount f_nodeEnd a_text a_tokenCode a_tokenPlace a_frameCode a_framePlace a_operand a_defPlace a_defFirst a_defEnd a_nodeOp a_nodeNumber a_nodePlace a_nodeDepth a_nodeKind a_part a_size a_kindFound a_choice a_status a_result a_slotFunction a_slotArgument := fun q => of_X hm (hO 13 5 (Or.inr (Or.inr (Or.inr (Or.inl ⟨q, rfl, rfl⟩)))))
  refine pk_eq x 1 (fun c1 => h1 (Or.inl c1)) (fun c1 => pk_eq x 33 (fun c2 => of_X hm (by rw [c2]; exact hO 23 4 (Or.inl ⟨c2, rfl, rfl⟩))) (fun c2 =>
    pk_eq x 40 (fun c3 => of_X hm (by rw [c3]; exact hO 26 3 (Or.inr (Or.inl ⟨c3, rfl, rfl⟩)))) (fun c3 => pk_eq x 45 (fun c4 => of_X hm (hO 28 4 (Or.inr (Or.inr (Or.inl ⟨c4, rfl, rfl⟩))))) (fun c4 =>
    pk_eq x 65 (fun c5 => call (by omega)) (fun c5 => pk_eq x 66 (fun c6 => call (by omega)) (fun c6 => pk_eq x 67 (fun c7 => call (by omega)) (fun c7 => pk_eq x 68 (fun c8 => call (by omega)) (fun c8 => pk_eq x 69 (fun c9 => call (by omega)) (fun c9 =>
    pk_eq x 120 (fun c10 => h1 (by omega)) (fun c10 => pk_eq x 26724 (fun c11 => of_X hm (by rw [c11]; exact hO 7 5 (Or.inr (Or.inr (Or.inr (Or.inr (Or.inl ⟨c11, rfl, rfl⟩)))))))
    (fun c11 => pk_eq x 28271 (fun c12 => h1 (by omega)) (fun c12 => pk_eq x 29804 (fun c13 => of_X hm (by rw [c13]; exact hO 8 5 (Or.inr (Or.inr (Or.inr (Or.inr (Or.inr (Or.inl ⟨c13, rfl, rfl⟩))))))))
    (fun c13 => pk_eq x 7235948 (fun c14 => h1 (by omega)) (fun c14 => pk_eq x 7239020 (fun c15 => of_X hm (by rw [c15]; exact hO 9 5 (Or.inr (Or.inr (Or.inr (Or.inr (Or.inr (Or.inr ⟨c15, rfl, rfl⟩))))))))
    (fun c15 => pk_eq x 7955827 (fun c16 => h1 (by omega)) (fun c16 => h0 (by omega) (by omega)))))))))))))))))
variable {L : Nat} {tx : Nat → Nat} {Tk : List tz_T} {no0 nn0 np0 pt0 : Nat → Int32} {st t : Nat} {fcn ocn dcn nen : Int32} {fc fp op dp df de no nn np nd pt : Nat → Int32} {Q : Nat → Nat → Nat} {e F fr : Nat} {fs : List fr_F} {ops : List Nat} {dl : List df_D} {post : Int32 → SX → Prop}
theorem su_S (hT : tx_P L tx a_text) (hK : xp_T L tx Tk) (htT : t < Tk.length) (hst : st = 3 ∨ st = 4)
    (hB : pa_B Tk no0 nn0 np0 pt0 st t Q e fs ops dl fcn ocn dcn nen dp df de no nn np nd pt) (hD : pa_D Tk t Q F fr fs dl dp df) (hF : xp_F Tk t fs fc fp) (ho : ar_L op ops)
    (ht : fr_t Q F ops e) (hl : ops.length + 120 ≤ e) (hS : fr_S (tt_k Tk) Q fs ops t) {f : fr_F} {r : List fr_F} (hfs : fs = f :: r) (hif : st = 3 → tt_k Tk t ≠ 3 ∧ tt_k Tk t ≠ 6)
    (hk : ∀ st2 fcn ocn dcn nen fc fp op dp df de no nn np nd pt, 1 ≤ st2 → st2 ≤ 6 → pa_I Tk no0 nn0 np0 pt0 st2 (t + 1) fcn ocn dcn nen fc fp op dp df de no nn np nd pt → post (nI st2) (f_width, nI L, f_foundPlace, f_tokenCount, fcn, ocn, dcn, nen, a_text, a_tokenCode, a_tokenPlace, fc, fp, op, dp, df, de, no, nn, np, nd, a_nodeKind, pt, a_size, a_kindFound, a_choice, a_status, a_result, a_slotFunction, a_slotArgument))
    (hs : ms_f (tt_k Tk) (t + 1) = none → ∀ fcn ocn dcn nen fc fp op dp df de no nn np nd pt, xp_K no0 nn0 np0 pt0 no nn np pt → post 0 (f_width, nI L, f_foundPlace, f_tokenCount, fcn, ocn, dcn, nen, a_text, a_tokenCode, a_tokenPlace, fc, fp, op, dp, df, de, no, nn, np, nd, a_nodeKind, pt, a_size, a_kindFound, a_choice, a_status, a_result, a_slotFunction, a_slotArgument)) :
    wpX_startUnary post (f_width, nI L, f_foundPlace, f_tokenCount, fcn, ocn, dcn, nen, a_text, a_tokenCode, a_tokenPlace, fc, fp, op, dp, df, de, no, nn, np, nd, a_nodeKind, pt, a_size, a_kindFound, a_choice, a_status, a_result, a_slotFunction, a_slotArgument) (nI (xc_k (tt_k Tk t) (tt_n Tk t))) (nI (tt_p Tk t)) := by
  have hL := hT.1
  have hB0 := hB
  obtain ⟨b1, b2, b3, b4, b5, b6, b7, b8, b9, b10, b11⟩ := hB
  subst b1 b2 b3 b4
  obtain ⟨tpL, _, _, k0, k27⟩ := hK.2.2 t htT
  have n5 : tt_k Tk t = 13 → tt_n Tk t < 5 := xp_n5 hT hK htT
  have Tl := hK.1
  have e120 := b5.1
  have m200 : fs.length < 200 := by omega
  have msE := pa_ms b11
  have w23 : pa_w st = 2 ∧ pa_o st fs = ms_o fs ∨ pa_w st = 3 ∧ pa_o st fs = ms_o fs := by
    rcases hst with q | q <;> subst q
    · exact Or.inl ⟨rfl, rfl⟩
    · exact Or.inr ⟨rfl, rfl⟩
  have i1 := xk_i (C := 1) (K := 1) k27 n5 (by decide) (by decide) (by decide)
  have i2 := xk_i (C := 120) (K := 2) k27 n5 (by decide) (by decide) (by decide)
  have i3 := xk_i (C := 28271) (K := 12) k27 n5 (by decide) (by decide) (by decide)
  have i4 := xk_i (C := 7235948) (K := 10) k27 n5 (by decide) (by decide) (by decide)
  have i5 := xk_i (C := 7955827) (K := 11) k27 n5 (by decide) (by decide) (by decide)
  have i6 := xk_i (C := 33) (K := 23) k27 n5 (by decide) (by decide) (by decide)
  have i7 := xk_i (C := 40) (K := 26) k27 n5 (by decide) (by decide) (by decide)
  have i8 := xk_i (C := 45) (K := 15) k27 n5 (by decide) (by decide) (by decide)
  have i9 := xk_nm k27 n5
  have i10 := xk_i (C := 26724) (K := 7) k27 n5 (by decide) (by decide) (by decide)
  have i11 := xk_i (C := 29804) (K := 8) k27 n5 (by decide) (by decide) (by decide)
  have i12 := xk_i (C := 7239020) (K := 9) k27 n5 (by decide) (by decide) (by decide)
  have h7 := pa_n7 f.1
  refine su_X m200 (xk_b k27 n5) (fun c => ?_) (fun c s hc => ?_) (fun c1 c2 => ?_)
  · -- a leaf
    rw [i1, i2, i3, i4, i5] at c
    have lf := rg_leaf (tk := tt_k Tk) (l := t) (by omega)
    obtain ⟨r1, r2, r3⟩ := lf
    have xe : xc_k (tt_k Tk t) (tt_n Tk t) = xc_t (tt_k Tk t) := by unfold xc_k; rw [if_neg (by omega)]
    obtain ⟨w1, w2⟩ := xp_nn hK (i := t) (t := tt_k Tk t) htT Iff.rfl
    have no1 : nd_ok (tt_k Tk) (tt_n Tk) (nd_U Q e (nd_w (tt_k Tk t) (tt_n Tk t) e e e t (t + 1) t e 1)) e := by
      refine nd_add (Or.inl ⟨by omega, rfl, rfl, rfl⟩) (Nat.le_refl _) (fun _ => ⟨rfl, rfl, rfl, rfl, rfl⟩) ?_ ?_ ?_
      · intro q; rw [nd_n0 (by omega)] at q; omega
      · intro q; rw [nd_n0 (by omega)] at q; omega
      · intro q; rw [nd_n0 (by omega)] at q; omega
    rw [xe]
    refine ad_X hT (k := 0) (r := ops.length) (t := tt_k Tk t) (v0 := e) (v1 := e) (v2 := e) (d0 := 0) (d1 := 0) (d2 := 0) (D0 := 0) (D1 := 0) (D2 := 0) (by omega) (by omega) (by omega) (by omega) (by omega) tpL w2
      ⟨fun q => absurd q (by omega), fun _ => rfl⟩ ⟨fun q => absurd q (by omega), fun _ => rfl⟩ ⟨fun q => absurd q (by omega), fun _ => rfl⟩ rfl rfl rfl ?_
    rw [w1]
    have ag : ∀ k w, w < e → nd_U Q e (nd_w (tt_k Tk t) (tt_n Tk t) e e e t (t + 1) t e 1) k w = Q k w := fun k w hw => nd_Un (by omega)
    have lt := (fr_t_lt _ _ ht)
    refine hk 6 _ _ _ _ _ _ _ _ _ _ _ _ _ _ _ (by decide) (by decide) ⟨nd_U Q e (nd_w (tt_k Tk t) (tt_n Tk t) e e e t (t + 1) t e 1), e + 1, F, fr, fs, e :: ops, dl,
      ⟨rfl, by rw [List.length_cons], rfl, rfl, xp_Ns b5 no1 (by omega) htT rfl, xp_Ks e120 b6, b7, by omega, by omega, by omega, ?_⟩, Or.inr (Or.inr ⟨by decide, by decide, ?_, xp_Fm hF (by omega), ar_p ho, ?_⟩)⟩
    · rw [msE]
      have : ms_s (pa_w st) (pa_o st fs) (tt_k Tk t) = some (4, ms_o fs) := by
        unfold ms_s
        rcases w23 with ⟨q1, q2⟩ | ⟨q1, q2⟩ <;> rw [q1, q2, if_neg (by decide), if_neg (by decide), if_neg (by decide), if_pos (by decide), if_pos (by omega)]
      rw [this]; rfl
    · obtain ⟨d1, d2, d3, d4, d5, d6, d7, d8, d9, d10⟩ := hD
      refine ⟨df_Cc ag dl fr F (by omega) d1, d2, d3, d4, d5, fun i h1 h2 => ?_, by omega, d8, d9, d10⟩
      by_cases q : i = t
      · rw [q]; omega
      · exact d6 i h1 (by omega)
    · refine ⟨⟨rfl, ?_, ?_⟩, by rw [List.length_cons]; omega, Or.inr (Or.inr (Or.inr ⟨rfl, e, ops, t, rfl, fr_Sc _ _ _ (fun o hoo k => ag k o (by have := lt.2 o hoo; omega)) hS, ⟨nd_W0, r2⟩, r3, f, r, hfs⟩))⟩
      · rw [nd_Us]; exact Nat.le_refl _
      · rw [nd_Us]; exact fr_t_c ag _ _ (Nat.le_refl _) ht
  · -- a frame
    rw [i6, i7, i8, i9, i10, i11, i12] at hc
    have cs : (tt_k Tk t = 23 ∧ c = 23 ∧ s = 4) ∨ (tt_k Tk t = 26 ∧ c = 26 ∧ s = 3) ∨ (tt_k Tk t = 15 ∧ c = 28 ∧ s = 4) ∨ ((tt_k Tk t = 7 ∨ tt_k Tk t = 8 ∨ tt_k Tk t = 9 ∨ tt_k Tk t = 13) ∧ c = tt_k Tk t ∧ s = 5) := by omega
    have nfs : fs ≠ [] := by rw [hfs]; simp
    have hb : ∀ c, fr_g c = 7 → c ≠ 30 → fr_b c fs := by
      intro c h1 h2
      rw [hfs]
      exact ⟨by rw [h1]; exact h7.1, h2⟩
    rcases cs with ⟨q1, rfl, rfl⟩ | ⟨q1, rfl, rfl⟩ | ⟨q1, rfl, rfl⟩ | ⟨q1, rfl, rfl⟩
    · refine hk 4 _ _ _ _ _ _ _ _ _ _ _ _ _ _ _ (by decide) (by decide) (pa_push (c := 23) (nx := t + 1) hB0 hD hF ho ht hl htT (by omega) (by decide) (by decide) (by decide) rfl ?_ ⟨ht, hl, Or.inr (Or.inl ⟨rfl, ?_, _, _, rfl⟩)⟩)
      · unfold ms_s
        rw [q1]
        rcases w23 with ⟨q1, q2⟩ | ⟨q1, q2⟩ <;> rw [q1, q2] <;> rfl
      · exact ⟨rfl, hb 23 rfl (by decide), [], ops, rfl, Or.inr (Or.inr (Or.inl ⟨Or.inr ⟨rfl, q1⟩, rfl, rfl, rfl⟩)), hS⟩
    · refine hk 3 _ _ _ _ _ _ _ _ _ _ _ _ _ _ _ (by decide) (by decide) (pa_push (c := 26) (nx := t + 1) hB0 hD hF ho ht hl htT (by omega) (by decide) (by decide) (by decide) rfl ?_ ⟨ht, hl, Or.inl ⟨rfl, ?_, _, _, rfl, rfl⟩⟩)
      · unfold ms_s
        rw [q1]
        rcases w23 with ⟨q1, q2⟩ | ⟨q1, q2⟩ <;> rw [q1, q2] <;> rfl
      · exact ⟨rfl, hb 26 rfl (by decide), [], ops, rfl, Or.inr (Or.inl ⟨Or.inl rfl, q1, rfl, rfl, rfl⟩), hS⟩
    · refine hk 4 _ _ _ _ _ _ _ _ _ _ _ _ _ _ _ (by decide) (by decide) (pa_push (c := 28) (nx := t + 1) hB0 hD hF ho ht hl htT (by omega) (by decide) (by decide) (by decide) rfl ?_ ⟨ht, hl, Or.inr (Or.inl ⟨rfl, ?_, _, _, rfl⟩)⟩)
      · unfold ms_s
        rw [q1]
        rcases w23 with ⟨q1, q2⟩ | ⟨q1, q2⟩ <;> rw [q1, q2] <;> rfl
      · exact ⟨rfl, hb 28 rfl (by decide), [], ops, rfl, Or.inr (Or.inr (Or.inl ⟨Or.inl ⟨rfl, q1⟩, rfl, rfl, rfl⟩)), hS⟩
    · refine hk 5 _ _ _ _ _ _ _ _ _ _ _ _ _ _ _ (by decide) (by decide) (pa_push (c := tt_k Tk t) (nx := t + 2) hB0 hD hF ho ht hl htT (by omega) (by omega) (by omega) (by decide) rfl ?_ ⟨ht, hl, Or.inr (Or.inr (Or.inl ⟨rfl, tt_k Tk t, fs, rfl, by omega, q1, rfl, hS, f, r, hfs⟩))⟩)
      have z : pa_o 5 ((tt_k Tk t, t, t, t + 2) :: fs) = ms_o fs := rfl
      rw [z]
      have zw : pa_w 5 = 5 := rfl
      rw [zw]
      unfold ms_s
      rcases w23 with ⟨z1, z2⟩ | ⟨z1, z2⟩ <;> rw [z1, z2, if_neg (by decide), if_neg (by decide), if_neg (by decide), if_pos (by decide), if_neg (by omega), if_neg (by omega), if_neg (by omega), if_pos (by omega)]
  · -- stuck
    rw [i1, i2, i3, i4, i5] at c1
    rw [i6, i7, i8, i9, i10, i11, i12] at c2
    refine hs ?_ _ _ _ _ _ _ _ _ _ _ _ _ _ _ _ b6
    rw [msE]
    unfold ms_s
    rcases w23 with ⟨z1, z2⟩ | ⟨z1, z2⟩
    · have : st = 3 := by
        rcases hst with q | q
        · exact q
        · subst q; exact absurd z1 (by decide)
      have := hif this
      rw [z1, z2, if_neg (by decide), if_neg (by decide), if_neg (by decide), if_pos (by decide), if_neg (by omega), if_neg (by omega), if_neg (by omega), if_neg (by omega), if_neg (by omega)]
    · rw [z1, z2, if_neg (by decide), if_neg (by decide), if_neg (by decide), if_pos (by decide), if_neg (by omega), if_neg (by omega), if_neg (by omega), if_neg (by omega), if_neg (by omega)]
end
end
section
-- X goes on behind an operand
theorem ms_op {f : fr_F} {fs : List fr_F} (h : 1 ≤ fr_l f.1) : ms_o (f :: fs) = ms_o fs := by
  have z : ∀ x, f.1 = x → fr_l x = 0 → False := by intro x e q; rw [e, q] at h; omega
  show (if f.1 = 26 ∨ f.1 = 7 ∨ f.1 = 8 ∨ f.1 = 9 ∨ f.1 = 13 then _ else _) = _
  rw [if_neg, if_neg (fun q => z 3 q rfl), if_neg (fun q => z 31 q rfl), if_neg (fun q => z 6 q rfl)]
  rintro (q | q | q | q | q)
  · exact z _ q rfl
  · exact z _ q rfl
  · exact z _ q rfl
  · exact z _ q rfl
  · exact z _ q rfl
theorem go_w {k b : Nat} (h1 : 14 ≤ k) (h2 : k ≤ 22) (en : rg_en b) : rg_w k b = fr_l k := by
  unfold rg_w fr_l
  repeat' split
  all_goals first
    | rfl
    | omega
theorem go_l : ∀ k, k < 28 → (2 ≤ fr_l k ∧ fr_l k ≤ 6 ↔ 14 ≤ k ∧ k ≤ 22) := by decide
theorem go_k {k n : Nat} (hk : k ≤ 27) (hn : k = 13 → n < 5) : lv_f (xc_k k n) = fr_l k := by
  unfold xc_k
  by_cases e : k = 13
  · rw [if_pos e]
    have := hn e
    have h : n = 0 ∨ n = 1 ∨ n = 2 ∨ n = 3 ∨ n = 4 := by omega
    subst e
    rcases h with h | h | h | h | h <;> subst h <;> rfl
  · rw [if_neg e]; exact lv_x k (by omega)
section
variable {f_width f_textLength f_foundPlace f_tokenCount f_frameCount f_operandCount f_defCount f_nodeEnd : Int32} {a_text a_tokenCode a_tokenPlace a_frameCode a_framePlace a_operand a_defPlace a_defFirst a_defEnd a_nodeOp a_nodeNumber a_nodePlace a_nodeDepth a_nodeKind a_part a_size a_kindFound a_choice a_status : Nat → Int32} {a_result : Nat → Int64} {a_slotFunction a_slotArgument : Nat → Int32} {L : Nat} {tx : Nat → Nat} {Tk : List tz_T} {no0 nn0 np0 pt0 : Nat → Int32} {t : Nat} {fcn ocn dcn nen : Int32} {fc fp op dp df de no nn np nd pt : Nat → Int32} {Q Q0 : Nat → Nat → Nat} {e F fr at0 lev v : Nat} {f : fr_F} {fs fs0 : List fr_F} {ops : List Nat} {dl : List df_D} {post : Int32 → SX → Prop}
-- an operator is pushed
theorem go_p (htT : t < Tk.length) (k27 : tt_k Tk t ≤ 27)
    (I : cl_I Tk F t no0 nn0 np0 pt0 Q0 Q e at0 lev (f :: fs) ops v no nn np nd pt fc fp op) (hlev : fr_l (tt_k Tk t) ≤ lev) (hl2 : 2 ≤ lev) (hfl : (tt_k Tk t = 24 ∧ fr_l f.1 < 2) ∨ (14 ≤ tt_k Tk t ∧ tt_k Tk t ≤ 22 ∧ fr_l f.1 < fr_l (tt_k Tk t)))
    (hZ : ms_o (f :: fs) = ms_o fs0 ∧ fr_B fr (f :: fs)) (hD : pa_D Tk t Q0 F fr fs0 dl dp df) (hA : df_A Tk dp df de dl) (hm : ms_f (tt_k Tk) t = some (4, ms_o fs0)) {s : Nat} (hs : s = if tt_k Tk t = 24 then 3 else 4) :
    pa_I Tk no0 nn0 np0 pt0 s (t + 1) (nI (fs.length + 1 + 1)) (nI (ops.length + 1)) (nI dl.length) (nI e) (upd fc (fs.length + 1) (nI (xc_t (tt_k Tk t)))) (upd fp (fs.length + 1) (nI (tt_p Tk t))) op dp df de no nn np nd pt := by
  obtain ⟨i1, i2, i3, i4, i5, i6, i7, i8, i9, i10, i11, i12, i13, i14⟩ := I
  obtain ⟨d1, d2, d3, d4, d5, d6, d7, d8, d9, d10⟩ := hD
  have msE := pa_ms hm
  have lk : fr_l (tt_k Tk t) ≤ 7 ∧ fr_n f.1 ≤ fr_g (tt_k Tk t) ∧ 1 ≤ fr_l (tt_k Tk t) := by
    rcases hfl with ⟨q1, q2⟩ | ⟨q1, q2, q3⟩
    · rw [q1]
      refine ⟨by decide, ?_, by decide⟩
      have : fr_g 24 = 1 := rfl
      rw [this]
      unfold fr_n
      rw [if_neg (by omega), if_neg (by omega)]; exact Nat.le_refl _
    · have lb := fr_lb ⟨q1, q2⟩
      refine ⟨by omega, ?_, by omega⟩
      have : fr_g (tt_k Tk t) = fr_l (tt_k Tk t) := by unfold fr_g; rw [if_neg (by omega), if_pos (by omega)]
      rw [this]
      unfold fr_n
      rw [if_neg (by omega)]
      split <;> omega
  have e25 : tt_k Tk t ≠ 25 := by omega
  have x1 : xp_F Tk (t + 1) ((tt_k Tk t, at0, t, t + 1) :: f :: fs) (upd fc (fs.length + 1) (nI (xc_t (tt_k Tk t)))) (upd fp (fs.length + 1) (nI (tt_p Tk t))) := by
    have := xp_Fp (st := at0) (nx := t + 1) i9 (c := tt_k Tk t) (p := t) (by omega) (by omega) rfl rfl
    rw [List.length_cons] at this
    exact this
  have S1 : fr_S (tt_k Tk) Q ((tt_k Tk t, at0, t, t + 1) :: f :: fs) (v :: ops) (t + 1) := by
    refine ⟨rfl, ⟨lk.2.1, by show tt_k Tk t ≠ 30; omega⟩, [v], ops, rfl, ?_, i1⟩
    rcases hfl with ⟨q1, q2⟩ | ⟨q1, q2, q3⟩
    · exact Or.inr (Or.inr (Or.inr (Or.inr (Or.inr (Or.inr (Or.inr (Or.inl ⟨q1, q1, v, rfl, i2, rg_Lm i3 hl2, rfl⟩)))))))
    · refine Or.inr (Or.inr (Or.inr (Or.inr (Or.inr (Or.inr (Or.inr (Or.inr ⟨⟨q1, q2⟩, rfl, ?_, v, rfl, i2, rg_Lm i3 hlev, rfl⟩)))))))
      have en := i2.2.2.2.2.2.2
      exact go_w q1 q2 en
  have mo : ms_o ((tt_k Tk t, at0, t, t + 1) :: f :: fs) = ms_o fs0 := by rw [ms_op (by show 1 ≤ fr_l (tt_k Tk t); omega)]; exact hZ.1
  rw [List.length_cons] at i11
  have dd : pa_D Tk (t + 1) Q F fr ((tt_k Tk t, at0, t, t + 1) :: f :: fs) dl dp df := by
    refine ⟨df_Cc (u := F) i14 dl fr F (Nat.le_refl _) d1, d2, d3, d4, ⟨fun q => absurd q (by show tt_k Tk t ≠ 30; omega), hZ.2⟩, fun i h1 h2 => ?_, by omega, d8, d9, d10⟩
    by_cases q : i = t
    · rw [q]; exact e25
    · exact d6 i h1 (by omega)
  rcases hfl with ⟨q1, q2⟩ | ⟨q1, q2, q3⟩
  · rw [if_pos q1] at hs
    subst hs
    refine ⟨Q, e, F, fr, (tt_k Tk t, at0, t, t + 1) :: f :: fs, v :: ops, dl, ⟨rfl, rfl, rfl, rfl, i7, i8, hA, by omega, by rw [List.length_cons, List.length_cons]; omega, by omega, ?_⟩, Or.inr (Or.inr ⟨by decide, by decide, dd, x1, i10, i5, by rw [List.length_cons]; omega, Or.inl ⟨rfl, S1, _, _, rfl, by rw [q1]; rfl⟩⟩)⟩
    rw [msE]
    have : pa_o 3 ((tt_k Tk t, at0, t, t + 1) :: f :: fs) = ms_o fs0 := mo
    rw [this, q1]; rfl
  · rw [if_neg (by omega)] at hs
    subst hs
    refine ⟨Q, e, F, fr, (tt_k Tk t, at0, t, t + 1) :: f :: fs, v :: ops, dl, ⟨rfl, rfl, rfl, rfl, i7, i8, hA, by omega, by rw [List.length_cons, List.length_cons]; omega, by omega, ?_⟩, Or.inr (Or.inr ⟨by decide, by decide, dd, x1, i10, i5, by rw [List.length_cons]; omega, Or.inr (Or.inl ⟨rfl, S1, _, _, rfl⟩)⟩)⟩
    rw [msE]
    have : pa_o 4 ((tt_k Tk t, at0, t, t + 1) :: f :: fs) = ms_o fs0 := mo
    rw [this]
    unfold ms_s
    rw [if_neg (by decide), if_neg (by decide), if_neg (by decide), if_neg (by decide), if_pos ⟨q1, q2⟩]
    rfl
theorem go_4 : ∀ c, c < 34 → (xc_t c = 4 ↔ c = 30) := by decide
theorem go_5 : ∀ c, c < 34 → (xc_t c = 5 ↔ c = 31) := by decide
theorem go_i : ∀ c, c < 34 → (xc_t c = 26982 ↔ c = 3) := by decide
theorem go_t : ∀ c, c < 34 → (xc_t c = 7631481 ↔ c = 6) := by decide
theorem go_o : ∀ c, c < 34 → (xc_t c = 40 ↔ c = 26) := by decide
-- the frame on top changes its code
theorem go_u {Tk : List tz_T} {t c c2 st p nx nx2 : Nat} {fs : List fr_F} {fc fp : Nat → Int32} (h : xp_F Tk t ((c, st, p, nx) :: fs) fc fp) (hc : c2 < 34) : xp_F Tk (t + 1) ((c2, st, p, nx2) :: fs) (upd fc fs.length (nI (xc_t c2))) fp := by
  refine ⟨?_, h.2.1, fun f hf => ?_⟩
  · have := ar_p (c := xc_t c2) h.1.2
    rw [List.length_map] at this
    exact this
  · rcases List.mem_cons.mp hf with q | q
    · rw [q]
      have := (h.2.2 (c, st, p, nx) (by simp)).2
      exact ⟨hc, by show p < t + 1; dsimp only at this; omega⟩
    · have := h.2.2 f (List.mem_cons_of_mem _ q)
      exact ⟨this.1, by omega⟩
end
end
section
-- X closes an opener
section
variable {f_width f_textLength f_foundPlace f_tokenCount f_frameCount f_operandCount f_defCount f_nodeEnd : Int32} {a_text a_tokenCode a_tokenPlace a_frameCode a_framePlace a_operand a_defPlace a_defFirst a_defEnd a_nodeOp a_nodeNumber a_nodePlace a_nodeDepth a_nodeKind a_part a_size a_kindFound a_choice a_status : Nat → Int32} {a_result : Nat → Int64} {a_slotFunction a_slotArgument : Nat → Int32} {L : Nat} {tx : Nat → Nat} {Tk : List tz_T} {no0 nn0 np0 pt0 : Nat → Int32} {t : Nat} {fcn ocn dcn nen : Int32} {fc fp op dp df de no nn np nd pt : Nat → Int32} {Q Q0 : Nat → Nat → Nat} {e F fr at0 lev v : Nat} {f : fr_F} {fs fs0 : List fr_F} {ops : List Nat} {dl : List df_D} {post : Int32 → SX → Prop}
-- a frame of if or try takes its next part
theorem op_i {c c2 p nx : Nat} {held rest : List Nat} (htT : t < Tk.length)
    (I : cl_I Tk F t no0 nn0 np0 pt0 Q0 Q e at0 lev ((c, p, p, nx) :: fs) ops v no nn np nd pt fc fp op)
    (hZ : fr_B fr ((c, p, p, nx) :: fs)) (hD : pa_D Tk t Q0 F fr fs0 dl dp df) (hA : df_A Tk dp df de dl) (hm : ms_f (tt_k Tk) (t + 1) = some (2, ms_o ((c2, p, p, t + 1) :: fs))) (h25 : tt_k Tk t ≠ 25)
    (hc2 : c2 < 34) (h30 : c2 ≠ 30) (hn1 : fr_n c2 = 1) (hg : fr_g c = 1) (hg2 : fr_g c2 = 1) (h30c : c ≠ 30)
    (hh : fr_h (tt_k Tk) Q c2 p p (t + 1) (v :: held)) (ho : ops = held ++ rest) (hSr : fr_S (tt_k Tk) Q fs rest p) (hb : fr_b c fs) :
    pa_I Tk no0 nn0 np0 pt0 3 (t + 1) (nI (fs.length + 1)) (nI (ops.length + 1)) (nI dl.length) (nI e) (upd fc fs.length (nI (xc_t c2))) fp op dp df de no nn np nd pt := by
  obtain ⟨i1, i2, i3, i4, i5, i6, i7, i8, i9, i10, i11, i12, i13, i14⟩ := I
  obtain ⟨d1, d2, d3, d4, d5, d6, d7, d8, d9, d10⟩ := hD
  rw [List.length_cons] at i11
  have hb2 : fr_b c2 fs := by
    cases fs with
    | nil => exact absurd hb h30c
    | cons g gs => exact ⟨by rw [hg2, ← hg]; exact hb.1, h30⟩
  refine ⟨Q, e, F, fr, (c2, p, p, t + 1) :: fs, v :: ops, dl, ⟨rfl, rfl, rfl, rfl, i7, i8, hA, by omega, by rw [List.length_cons]; omega, by omega, hm⟩, Or.inr (Or.inr ⟨by decide, by decide, ⟨df_Cc (u := F) i14 dl fr F (Nat.le_refl _) d1, d2, d3, d4, ⟨fun q => absurd q h30, hZ.2⟩, fun i h1 h2 => ?_, by omega, d8, d9, d10⟩, go_u i9 hc2, i10, i5, by rw [List.length_cons]; omega, Or.inl ⟨rfl, ⟨rfl, hb2, v :: held, rest, by rw [ho]; rfl, hh, hSr⟩, _, _, rfl, hn1⟩⟩)⟩
  by_cases q : i = t
  · rw [q]; exact h25
  · exact d6 i h1 (by omega)
theorem op_X (hT : tx_P L tx a_text) (hK : xp_T L tx Tk) (htT : t < Tk.length)
    (I : cl_I Tk F t no0 nn0 np0 pt0 Q0 Q e at0 lev (f :: fs) ops v no nn np nd pt fc fp op) (hf0 : fr_l f.1 < 1)
    (hZ : ms_o (f :: fs) = ms_o fs0 ∧ fr_B fr (f :: fs)) (hD : pa_D Tk t Q0 F fr fs0 dl dp df) (hA : df_A Tk dp df de dl) (hm : ms_f (tt_k Tk) t = some (4, ms_o fs0))
    (hk24 : tt_k Tk t ≠ 24) (hkb : ¬ (14 ≤ tt_k Tk t ∧ tt_k Tk t ≤ 22))
    (hk : ∀ st2 fcn ocn dcn nen fc fp op dp df de no nn np nd pt, 1 ≤ st2 → st2 ≤ 6 → pa_I Tk no0 nn0 np0 pt0 st2 (t + 1) fcn ocn dcn nen fc fp op dp df de no nn np nd pt → post (nI st2) (f_width, nI L, f_foundPlace, f_tokenCount, fcn, ocn, dcn, nen, a_text, a_tokenCode, a_tokenPlace, fc, fp, op, dp, df, de, no, nn, np, nd, a_nodeKind, pt, a_size, a_kindFound, a_choice, a_status, a_result, a_slotFunction, a_slotArgument))
    (hs : ms_f (tt_k Tk) (t + 1) = none → ∀ fcn ocn dcn nen fc fp op dp df de no nn np nd pt, xp_K no0 nn0 np0 pt0 no nn np pt → post 0 (f_width, nI L, f_foundPlace, f_tokenCount, fcn, ocn, dcn, nen, a_text, a_tokenCode, a_tokenPlace, fc, fp, op, dp, df, de, no, nn, np, nd, a_nodeKind, pt, a_size, a_kindFound, a_choice, a_status, a_result, a_slotFunction, a_slotArgument)) :
    wpX_closeOpener post (f_width, nI L, f_foundPlace, f_tokenCount, nI (fs.length + 1), nI (ops.length + 1), nI dl.length, nI e, a_text, a_tokenCode, a_tokenPlace, fc, fp, op, dp, df, de, no, nn, np, nd, a_nodeKind, pt, a_size, a_kindFound, a_choice, a_status, a_result, a_slotFunction, a_slotArgument) (nI (xc_k (tt_k Tk t) (tt_n Tk t))) := by
  have hL := hT.1
  have I0 := I
  have hD0 := hD
  obtain ⟨c, st, p, nx⟩ := f
  obtain ⟨i1, i2, i3, i4, i5, i6, i7, i8, i9, i10, i11, i12, i13, i14⟩ := I
  obtain ⟨d1, d2, d3, d4, d5, d6, d7, d8, d9, d10⟩ := hD
  obtain ⟨tpL, _, _, k0, k27⟩ := hK.2.2 t htT
  have n5 : tt_k Tk t = 13 → tt_n Tk t < 5 := xp_n5 hT hK htT
  have Tl := hK.1
  have e120 := i7.1
  rw [List.length_cons] at i11
  have hfm := i9.2.2 (c, st, p, nx) (by simp)
  dsimp only at hfm hf0
  have hc : fc fs.length = nI (xc_t c) := by
    have := i9.1.1
    rw [List.length_map] at this
    exact this
  have hpl : fp fs.length = nI (tt_p Tk p) := by
    have := i9.2.1.1
    rw [List.length_map] at this
    exact this
  have hin : vp_in (nI fs.length) 200 := vp_in_nI (by omega) (by decide)
  have x4 := go_4 c hfm.1
  have x5 := go_5 c hfm.1
  have xi := go_i c hfm.1
  have xt := go_t c hfm.1
  have xo := go_o c hfm.1
  have tb := ad_tb c hfm.1
  have xb := xk_b k27 n5
  have j1 := xk_i (C := 59) (K := 25) k27 n5 (by decide) (by decide) (by decide)
  have j2 := xk_i (C := 1701606245) (K := 5) k27 n5 (by decide) (by decide) (by decide)
  have j3 := xk_i (C := 1952998766) (K := 4) k27 n5 (by decide) (by decide) (by decide)
  have j4 := xk_i (C := 41) (K := 27) k27 n5 (by decide) (by decide) (by decide)
  have msE := pa_ms hm
  rw [← hZ.1] at msE
  have ms4 : ms_f (tt_k Tk) (t + 1) = (if tt_k Tk t = 4 ∧ (ms_o ((c, st, p, nx) :: fs)).headD 0 = 3 then some (2, 4 :: (ms_o ((c, st, p, nx) :: fs)).tail) else
      if tt_k Tk t = 5 ∧ ((ms_o ((c, st, p, nx) :: fs)).headD 0 = 4 ∨ (ms_o ((c, st, p, nx) :: fs)).headD 0 = 6) then some (2, (ms_o ((c, st, p, nx) :: fs)).tail) else
      if tt_k Tk t = 27 ∧ (ms_o ((c, st, p, nx) :: fs)).headD 0 = 26 then some (4, (ms_o ((c, st, p, nx) :: fs)).tail) else
      if tt_k Tk t = 25 ∧ ms_o ((c, st, p, nx) :: fs) = [] then some (0, ms_o ((c, st, p, nx) :: fs)) else none) := by
    rw [msE]
    unfold ms_s
    rw [if_neg (by decide), if_neg (by decide), if_neg (by decide), if_neg (by decide), if_neg hkb, if_neg hk24]
  clear msE
  obtain ⟨s1, s2, held, rest, s3, s4, s5⟩ := i1
  dsimp only at s1 s2 s4 s5
  intro y ey
  have ey : y = nI fs.length := by rw [ey]; exact nI_pred _
  subst ey
  refine ⟨hin, fun z ez => ?_⟩
  rw [nI_clamp (by omega), hc] at ez
  subst ez
  have stuck : ms_f (tt_k Tk) (t + 1) = none → ∀ fcn ocn fc op, post 0 (f_width, nI L, f_foundPlace, f_tokenCount, fcn, ocn, nI dl.length, nI e, a_text, a_tokenCode, a_tokenPlace, fc, fp, op, dp, df, de, no, nn, np, nd, a_nodeKind, pt, a_size, a_kindFound, a_choice, a_status, a_result, a_slotFunction, a_slotArgument) :=
    fun q fcn ocn fc op => hs q _ _ _ _ _ _ _ _ _ _ _ _ _ _ _ i8
  have z0 : ∀ x, c = x → 1 ≤ fr_l x → False := by intro x q w; rw [q] at hf0; omega
  rcases s4 with g | g | g | g | ⟨g1, g2, g3, a, p1, g4, g5, g6, g7⟩ | ⟨g1, _⟩ | ⟨g1, _⟩ | ⟨g1, _⟩ | ⟨g1, _⟩
  · -- the body
    obtain ⟨g1, g2, g3⟩ := g
    subst g1
    have fs0' : fs = [] := by
      cases fs with
      | nil => rfl
      | cons q qs => exact absurd rfl s2.2
    subst fs0'
    have rr : rest = [] := s5
    rw [g2, rr] at s3
    have s3 : ops = [] := s3
    subst s3
    have mo : ms_o ((30, st, p, nx) :: ([] : List fr_F)) = [] := rfl
    rw [mo] at ms4
    refine br_t rfl ?_
    refine pk_eq (xc_k (tt_k Tk t) (tt_n Tk t)) 59 (fun q => ?_) (fun q => stuck ?_ _ _ _ _)
    · have k25 := j1.mp q
      refine ⟨vp_in_nI (by omega) (by decide), fun A eA B eB => ?_⟩
      rw [nI_clamp (by omega)] at eA
      rw [nI_1] at eB
      subst eA eB
      have pf : p = fr + 1 := hZ.2.1 rfl
      obtain ⟨t1, t2, t3⟩ := i5
      have t3 : Q 10 v = F := t3
      have ve : e - 1 = v := by omega
      have a2 : at0 = fr + 2 := by omega
      have ro := i2.2
      have rl := ro.1
      refine hk 1 _ _ _ _ _ _ _ _ _ _ _ _ _ _ _ (by decide) (by decide) ⟨Q, e, F, fr, [], [], (fr, F, e, t) :: dl, ⟨rfl, rfl, by rw [List.length_cons], rfl, i7, i8, ?_, by omega, by rw [List.length_nil]; omega, by rw [List.length_cons]; omega, ?_⟩, Or.inl ⟨rfl, rfl, rfl, ?_⟩⟩
      · refine ⟨d9, d10, pk_us, df_Au dl (fun i hi => ⟨rfl, rfl, pk_un (by omega)⟩) hA⟩
      · rw [ms4, if_neg (by omega), if_neg (by omega), if_neg (by omega), if_pos ⟨k25, rfl⟩]; rfl
      · refine ⟨rfl, rfl, d3, d4, k25, fun i h1 h2 => d6 i h1 h2, ?_, ?_, ?_, by show F < e; omega, d2, df_Cc (u := F) i14 dl fr F (Nat.le_refl _) d1⟩
        · show nd_W (tt_k Tk) Q (fr + 2) t (e - 1)
          rw [ve, ← a2]; exact i2.1
        · show rg_o (tt_k Tk) (fr + 2) t
          rw [← a2]; exact ro
        · show Q 10 (e - 1) = F
          rw [ve]; exact t3
    · rw [ms4, if_neg (by rintro ⟨_, q2⟩; exact absurd q2 (by decide)), if_neg (by rintro ⟨_, q2⟩; exact absurd q2 (by decide)), if_neg (by rintro ⟨_, q2⟩; exact absurd q2 (by decide)), if_neg (fun q2 => q (j1.mpr q2.1))]
  · -- a bracket, if or try
    obtain ⟨g1, g2, g3, g4, g5⟩ := g
    subst g4
    have ho : ops = rest := by rw [s3, g3]; rfl
    refine br_f (fun q => by have := x4.mp ((nI_eq (b := 4) tb (by decide)).mp q); omega) (br_f (fun q => by have := x5.mp ((nI_eq (b := 5) tb (by decide)).mp q); omega) ?_)
    rcases g1 with g1 | g1 | g1
    · subst g1
      have mo : ms_o ((26, st, st, nx) :: fs) = 26 :: ms_o fs := rfl
      rw [mo] at ms4
      refine br_f (by decide) (br_f (by decide) ?_)
      refine pk_eq (xc_k (tt_k Tk t) (tt_n Tk t)) 41 (fun q => br_t rfl ?_) (fun q => stuck ?_ _ _ _ _)
      · have k27' := j4.mp q
        rw [s1, g5] at i2
        obtain ⟨w1, w2, w3⟩ := rg_wrap g2 i2.2 k27'
        refine hk 6 _ _ _ _ _ _ _ _ _ _ _ _ _ _ _ (by decide) (by decide) ⟨Q, e, F, fr, fs, v :: ops, dl, ⟨rfl, rfl, rfl, rfl, i7, i8, hA, by omega, by omega, by omega, ?_⟩, Or.inr (Or.inr ⟨by decide, by decide, ⟨df_Cc (u := F) i14 dl fr F (Nat.le_refl _) d1, d2, d3, d4, hZ.2.2, fun i h1 h2 => ?_, by omega, d8, d9, d10⟩, xp_Fm ⟨i9.1.2, i9.2.1.2, fun f hf => i9.2.2 f (List.mem_cons_of_mem _ hf)⟩ (by omega), i10, i5, by rw [List.length_cons]; omega, Or.inr (Or.inr (Or.inr ⟨rfl, v, ops, st, rfl, by rw [ho]; exact s5, ⟨nd_Ww i2.1 g2 k27' w1, w2⟩, w3, ?_⟩))⟩)⟩
        · rw [ms4, if_neg (by omega), if_neg (by omega), if_pos ⟨k27', rfl⟩]; rfl
        · by_cases q2 : i = t
          · rw [q2]; omega
          · exact d6 i h1 (by omega)
        · cases fs with
          | nil => exact absurd (show (26 : Nat) = 30 from s2) (by decide)
          | cons q qs => exact ⟨_, _, rfl⟩
      · rw [ms4, if_neg (by rintro ⟨_, q2⟩; exact absurd q2 (by simp)), if_neg (by rintro ⟨_, q2⟩; exact absurd q2 (by simp)), if_neg (fun q2 => q (j4.mpr q2.1)), if_neg (by rintro ⟨_, q2⟩; exact absurd q2 (by simp))]
    · subst g1
      have mo : ms_o ((3, st, st, nx) :: fs) = 3 :: ms_o fs := rfl
      rw [mo] at ms4
      refine br_t rfl ⟨hin, fun A eA => ?_⟩
      rw [nI_clamp (by omega)] at eA
      subst eA
      refine pk_eq (xc_k (tt_k Tk t) (tt_n Tk t)) 1952998766 (fun q => ?_) (fun q => stuck ?_ _ _ _ _)
      · have k4 := j3.mp q
        refine hk 3 _ _ _ _ _ _ _ _ _ _ _ _ _ _ _ (by decide) (by decide) (op_i (c2 := 31) (held := []) (rest := rest) htT I0 hZ.2 hD0 hA ?_ (by omega) (by decide) (by decide) rfl rfl rfl (by decide) ?_ (by rw [ho]; rfl) s5 s2)
        · rw [ms4, if_pos ⟨k4, rfl⟩]; rfl
        · rw [s1, g5] at i2
          exact Or.inr (Or.inr (Or.inr (Or.inr (Or.inl ⟨rfl, g2, rfl, v, t, rfl, i2, k4, rfl⟩))))
      · rw [ms4, if_neg (fun q2 => q (j3.mpr q2.1)), if_neg (by rintro ⟨_, q2⟩; exact absurd q2 (by simp)), if_neg (by rintro ⟨_, q2⟩; exact absurd q2 (by simp)), if_neg (by rintro ⟨_, q2⟩; exact absurd q2 (by simp))]
    · subst g1
      have mo : ms_o ((6, st, st, nx) :: fs) = 6 :: ms_o fs := rfl
      rw [mo] at ms4
      refine br_f (by decide) (br_t rfl ⟨hin, fun A eA => ?_⟩)
      rw [nI_clamp (by omega)] at eA
      subst eA
      refine pk_eq (xc_k (tt_k Tk t) (tt_n Tk t)) 1701606245 (fun q => ?_) (fun q => stuck ?_ _ _ _ _)
      · have k5 := j2.mp q
        refine hk 3 _ _ _ _ _ _ _ _ _ _ _ _ _ _ _ (by decide) (by decide) (op_i (c2 := 33) (held := []) (rest := rest) htT I0 hZ.2 hD0 hA ?_ (by omega) (by decide) (by decide) rfl rfl rfl (by decide) ?_ (by rw [ho]; rfl) s5 s2)
        · rw [ms4, if_neg (by omega), if_pos ⟨k5, Or.inr rfl⟩]; rfl
        · rw [s1, g5] at i2
          exact Or.inr (Or.inr (Or.inr (Or.inr (Or.inr (Or.inr (Or.inl ⟨rfl, g2, rfl, v, t, rfl, i2, k5, rfl⟩))))))
      · rw [ms4, if_neg (by rintro ⟨_, q2⟩; exact absurd q2 (by simp)), if_neg (fun q2 => q (j2.mpr q2.1)), if_neg (by rintro ⟨_, q2⟩; exact absurd q2 (by simp)), if_neg (by rintro ⟨_, q2⟩; exact absurd q2 (by simp))]
  · exfalso
    rcases g.1 with q | q
    · exact z0 _ q.1 (by decide)
    · exact z0 _ q.1 (by decide)
  · -- hd, tl, nul, a call
    obtain ⟨g1, g2, g2b, g3, g4, g5⟩ := g
    subst g4
    have ho : ops = rest := by rw [s3, g3]; rfl
    have mo : ms_o ((c, st, st, nx) :: fs) = 26 :: ms_o fs := by
      show (if c = 26 ∨ c = 7 ∨ c = 8 ∨ c = 9 ∨ c = 13 then _ else _) = _
      rw [if_pos (by omega)]
    rw [mo] at ms4
    refine br_f (fun q => by have := x4.mp ((nI_eq (b := 4) tb (by decide)).mp q); omega) (br_f (fun q => by have := x5.mp ((nI_eq (b := 5) tb (by decide)).mp q); omega) (br_f (fun q => by have := xi.mp ((nI_eq (b := 26982) tb (by decide)).mp q); omega) (br_f (fun q => by have := xt.mp ((nI_eq (b := 7631481) tb (by decide)).mp q); omega) ?_)))
    refine pk_eq (xc_k (tt_k Tk t) (tt_n Tk t)) 41 (fun q => br_f (fun q => by have := xo.mp ((nI_eq (b := 40) tb (by decide)).mp q); omega) ⟨hin, ?_⟩) (fun q => stuck ?_ _ _ _ _)
    · have k27' := j4.mp q
      rw [s1, g5] at i2
      obtain ⟨r1, r2, r3⟩ := rg_call (by omega) g2b i2.2 k27'
      rw [nI_clamp (by omega), hpl]
      have hv : 120 ≤ v ∧ v < e := by have := (fr_t_lt _ _ i5).2 v (by simp); omega
      obtain ⟨q1, q2, q3, q4⟩ := cl_dp i7 hv.1 hv.2 (by omega)
      obtain ⟨w1, w2⟩ := xp_nn hK (i := st) (t := c) (by omega) (by omega)
      have pL := (hK.2.2 st (by omega)).1
      have hl0 := i2.2.1
      have hoo : op ops.length = nI v := i10.1
      obtain ⟨t1, t2, t3⟩ := i5
      have m0 : nd_m 0 (Q 11 v) ≤ e - 120 := xp_m3 (by omega) (by omega)
      have no1 : nd_ok (tt_k Tk) (tt_n Tk) (nd_U Q e (nd_w c (tt_n Tk st) v e e st (t + 1) st (Q 10 v) (nd_m 0 (Q 11 v) + 1))) e := by
        refine nd_add (Or.inr (Or.inr (Or.inr (Or.inl ⟨g1, g2, rfl, r1, by omega, g2b, ?_, ?_⟩)))) (by omega) ?_ ?_ ?_ ?_
        · rw [Nat.add_sub_cancel]; exact k27'
        · rw [Nat.add_sub_cancel]; exact i2.1
        · intro q; rw [nd_n1 (by omega)] at q; omega
        · intro _; exact ⟨t1, t2, rfl, rfl, rfl, rfl⟩
        · intro q; rw [nd_n1 (by omega)] at q; omega
        · intro q; rw [nd_n1 (by omega)] at q; omega
      refine ad_X hT (k := 1) (r := ops.length) (t := c) (v0 := v) (v1 := e) (v2 := e) (d0 := Q 11 v) (d1 := 0) (d2 := 0) (D0 := nd_m 0 (Q 11 v)) (D1 := nd_m 0 (Q 11 v)) (D2 := nd_m 0 (Q 11 v)) (by omega) (by omega) (by omega) (by omega) hfm.1 pL w2
        ⟨fun _ => ⟨hoo, q1, q2, q3⟩, fun q => absurd Nat.one_pos q⟩ ⟨fun q => absurd q (by omega), fun _ => rfl⟩ ⟨fun q => absurd q (by omega), fun _ => rfl⟩ rfl rfl rfl ?_
      rw [w1]
      have ag : ∀ k w, w < e → nd_U Q e (nd_w c (tt_n Tk st) v e e st (t + 1) st (Q 10 v) (nd_m 0 (Q 11 v) + 1)) k w = Q k w := fun k w hw => nd_Un (by omega)
      have lt := (fr_t_lt _ _ t3)
      refine hk 6 _ _ _ _ _ _ _ _ _ _ _ _ _ _ _ (by decide) (by decide) ⟨nd_U Q e (nd_w c (tt_n Tk st) v e e st (t + 1) st (Q 10 v) (nd_m 0 (Q 11 v) + 1)), e + 1, F, fr, fs, e :: ops, dl,
        ⟨rfl, by rw [List.length_cons], rfl, rfl, xp_Ns i7 no1 (by omega) (by omega) rfl, xp_Ks e120 i8, hA, by omega, by omega, by omega, ?_⟩, Or.inr (Or.inr ⟨by decide, by decide, ⟨df_Cc ag dl fr F (by omega) (df_Cc (u := F) i14 dl fr F (Nat.le_refl _) d1), d2, d3, d4, hZ.2.2, fun i h1 h2 => ?_, by omega, d8, d9, d10⟩, xp_Fm ⟨i9.1.2, i9.2.1.2, fun f hf => i9.2.2 f (List.mem_cons_of_mem _ hf)⟩ (by omega), ar_p i10.2, ⟨rfl, ?_, ?_⟩, by rw [List.length_cons]; omega, Or.inr (Or.inr (Or.inr ⟨rfl, e, ops, st, rfl, fr_Sc _ _ _ (fun o hoo k => ag k o (by have := lt.2 o hoo; omega)) (by rw [ho]; exact s5), ⟨nd_W0, r2⟩, r3, ?_⟩))⟩)⟩
      · rw [ms4, if_neg (by omega), if_neg (by omega), if_pos ⟨k27', rfl⟩]; rfl
      · by_cases q2 : i = t
        · rw [q2]; omega
        · exact d6 i h1 (by omega)
      · rw [nd_Us]; show Q 10 v ≤ e; omega
      · rw [nd_Us]; exact fr_t_c ag _ _ (by show Q 10 v ≤ e; omega) t3
      · cases fs with
        | nil => have s2 : c = 30 := s2; omega
        | cons q qs => exact ⟨_, _, rfl⟩
    · rw [ms4, if_neg (by rintro ⟨_, q2⟩; exact absurd q2 (by simp)), if_neg (by rintro ⟨_, q2⟩; exact absurd q2 (by simp)), if_neg (fun q2 => q (j4.mpr q2.1)), if_neg (by rintro ⟨_, q2⟩; exact absurd q2 (by simp))]
  · -- the then-part
    subst g1
    subst g3
    have mo : ms_o ((31, st, st, nx) :: fs) = 4 :: ms_o fs := rfl
    rw [mo] at ms4
    refine br_f (by decide) (br_t rfl ⟨hin, fun A eA => ?_⟩)
    rw [nI_clamp (by omega)] at eA
    subst eA
    refine pk_eq (xc_k (tt_k Tk t) (tt_n Tk t)) 1701606245 (fun q => ?_) (fun q => stuck ?_ _ _ _ _)
    · have k5 := j2.mp q
      refine hk 3 _ _ _ _ _ _ _ _ _ _ _ _ _ _ _ (by decide) (by decide) (op_i (c2 := 32) (held := [a]) (rest := rest) htT I0 hZ.2 hD0 hA ?_ (by omega) (by decide) (by decide) rfl rfl rfl (by decide) ?_ (by rw [s3, g4]) s5 s2)
      · rw [ms4, if_neg (by omega), if_pos ⟨k5, Or.inl rfl⟩]; rfl
      · rw [s1, g7] at i2
        exact Or.inr (Or.inr (Or.inr (Or.inr (Or.inr (Or.inl ⟨rfl, g2, rfl, a, v, p1, t, rfl, g5, g6, i2, k5, rfl⟩)))))
    · rw [ms4, if_neg (by rintro ⟨_, q2⟩; exact absurd q2 (by simp)), if_neg (fun q2 => q (j2.mpr q2.1)), if_neg (by rintro ⟨_, q2⟩; exact absurd q2 (by simp)), if_neg (by rintro ⟨_, q2⟩; exact absurd q2 (by simp))]
  · exact (z0 _ g1 (by decide)).elim
  · exact (z0 _ g1 (by decide)).elim
  · exact (z0 _ g1 (by decide)).elim
  · have := fr_lb g1; omega
end
end
section
-- X parses
section
variable {f_width f_textLength f_foundPlace f_tokenCount f_frameCount f_operandCount f_defCount f_nodeEnd : Int32} {a_text a_tokenCode a_tokenPlace a_frameCode a_framePlace a_operand a_defPlace a_defFirst a_defEnd a_nodeOp a_nodeNumber a_nodePlace a_nodeDepth a_nodeKind a_part a_size a_kindFound a_choice a_status : Nat → Int32} {a_result : Nat → Int64} {a_slotFunction a_slotArgument : Nat → Int32} {L : Nat} {tx : Nat → Nat} {Tk : List tz_T} {no0 nn0 np0 pt0 : Nat → Int32} {t : Nat} {fcn ocn dcn nen : Int32} {fc fp op dp df de no nn np nd pt : Nat → Int32} {Q : Nat → Nat → Nat} {e F fr : Nat} {fs : List fr_F} {ops : List Nat} {dl : List df_D} {post : Int32 → SX → Prop}
theorem go_X (hT : tx_P L tx a_text) (hK : xp_T L tx Tk) (htT : t < Tk.length)
    (hB : pa_B Tk no0 nn0 np0 pt0 6 t Q e fs ops dl fcn ocn dcn nen dp df de no nn np nd pt) (hD : pa_D Tk t Q F fr fs dl dp df) (hF : xp_F Tk t fs fc fp) (ho : ar_L op ops)
    (hS : pa_S (tt_k Tk) Q F 6 t e fs ops)
    (hk : ∀ st2 fcn ocn dcn nen fc fp op dp df de no nn np nd pt, 1 ≤ st2 → st2 ≤ 6 → pa_I Tk no0 nn0 np0 pt0 st2 (t + 1) fcn ocn dcn nen fc fp op dp df de no nn np nd pt → post (nI st2) (f_width, nI L, f_foundPlace, f_tokenCount, fcn, ocn, dcn, nen, a_text, a_tokenCode, a_tokenPlace, fc, fp, op, dp, df, de, no, nn, np, nd, a_nodeKind, pt, a_size, a_kindFound, a_choice, a_status, a_result, a_slotFunction, a_slotArgument))
    (hs : ms_f (tt_k Tk) (t + 1) = none → ∀ fcn ocn dcn nen fc fp op dp df de no nn np nd pt, xp_K no0 nn0 np0 pt0 no nn np pt → post 0 (f_width, nI L, f_foundPlace, f_tokenCount, fcn, ocn, dcn, nen, a_text, a_tokenCode, a_tokenPlace, fc, fp, op, dp, df, de, no, nn, np, nd, a_nodeKind, pt, a_size, a_kindFound, a_choice, a_status, a_result, a_slotFunction, a_slotArgument)) :
    wpX_goOn post (f_width, nI L, f_foundPlace, f_tokenCount, fcn, ocn, dcn, nen, a_text, a_tokenCode, a_tokenPlace, fc, fp, op, dp, df, de, no, nn, np, nd, a_nodeKind, pt, a_size, a_kindFound, a_choice, a_status, a_result, a_slotFunction, a_slotArgument) (nI (xc_k (tt_k Tk t) (tt_n Tk t))) (nI (tt_p Tk t)) := by
  obtain ⟨b1, b2, b3, b4, b5, b6, b7, b8, b9, b10, b11⟩ := hB
  subst b1 b2 b3 b4
  obtain ⟨h1, h2, hS⟩ := hS
  have hS : ∃ v rest at0, ops = v :: rest ∧ fr_S (tt_k Tk) Q fs rest at0 ∧ fr_o (tt_k Tk) Q at0 t v ∧ rg_L (tt_k Tk) 7 at0 t ∧ ∃ f r, fs = f :: r := by
    rcases hS with q | q | q | q
    · exact absurd q.1 (by decide)
    · exact absurd q.1 (by decide)
    · exact absurd q.1 (by decide)
    · exact q.2
  obtain ⟨v, rest, at0, rfl, s1, s2, s3, f, r, rfl⟩ := hS
  obtain ⟨tpL, _, _, k0, k27⟩ := hK.2.2 t htT
  have n5 : tt_k Tk t = 13 → tt_n Tk t < 5 := xp_n5 hT hK htT
  have Tl := hK.1
  have hL := hT.1
  have b11 : ms_f (tt_k Tk) t = some (4, ms_o (f :: r)) := b11
  have I : cl_I Tk F t no0 nn0 np0 pt0 Q Q e at0 7 (f :: r) rest v no nn np nd pt fc fp op := by
    rw [List.length_cons] at h2
    refine ⟨s1, s2, s3, fun g hg => (pa_n7 g.1).1, h1, hD.2.1, b5, b6, hF, ho, b9, by omega, by omega, fun _ _ _ => rfl⟩
  have hZ : ∀ g gs, (ms_o (g :: gs) = ms_o (f :: r) ∧ fr_B fr (g :: gs)) → 1 ≤ fr_l g.1 → (ms_o gs = ms_o (f :: r) ∧ fr_B fr gs) := by
    intro g gs h1 h2
    exact ⟨by rw [← ms_op h2]; exact h1.1, h1.2.2⟩
  have z0 : ms_o (f :: r) = ms_o (f :: r) ∧ fr_B fr (f :: r) := ⟨rfl, hD.2.2.2.2.1⟩
  have xb := xk_b k27 n5
  have j24 := xk_i (C := 58) (K := 24) k27 n5 (by decide) (by decide) (by decide)
  have gl := go_l (tt_k Tk t) (by omega)
  have rest1 : tt_k Tk t ≠ 24 → ¬ (14 ≤ tt_k Tk t ∧ tt_k Tk t ≤ 22) → wX_goOn_48 post (nI (xc_k (tt_k Tk t) (tt_n Tk t))) f_width (nI L) f_foundPlace f_tokenCount (nI (f :: r).length) (nI (v :: rest).length) (nI dl.length) (nI e) a_text a_tokenCode a_tokenPlace fc fp op dp df de no nn np nd a_nodeKind pt a_size a_kindFound a_choice a_status a_result a_slotFunction a_slotArgument := by
    intro n24 nb
    refine cl_X hT hK (level := 1) (by decide) (by decide) (fun gs => ms_o gs = ms_o (f :: r) ∧ fr_B fr gs) hZ I (by decide) z0 ?_
    intro Q1 e1 at1 lev1 f1 fs1 ops1 v1 no1 nn1 np1 nd1 pt1 op1 I1 hlev1 hf1 hz1
    exact op_X hT hK htT I1 hf1 hz1 hD b7 b11 n24 nb hk hs
  refine pk_eq (xc_k (tt_k Tk t) (tt_n Tk t)) 58 (fun q => ?_) (fun q => ?_)
  · have k24 := j24.mp q
    refine cl_X hT hK (level := 2) (by decide) (by decide) (fun gs => ms_o gs = ms_o (f :: r) ∧ fr_B fr gs) hZ I (by decide) z0 ?_
    intro Q1 e1 at1 lev1 f1 fs1 ops1 v1 no1 nn1 np1 nd1 pt1 op1 I1 hlev1 hf1 hz1
    have i11 := I1.2.2.2.2.2.2.2.2.2.2.1
    have i120 := I1.2.2.2.2.2.2.1.1
    rw [List.length_cons] at i11
    have l24 : fr_l (tt_k Tk t) = 1 := by rw [k24]; rfl
    refine of_X (m := fs1.length + 1) (by omega) ?_
    have xe : xc_k (tt_k Tk t) (tt_n Tk t) = xc_t (tt_k Tk t) := by unfold xc_k; rw [if_neg (by omega)]
    rw [xe]
    exact hk 3 _ _ _ _ _ _ _ _ _ _ _ _ _ _ _ (by decide) (by decide) (go_p htT k27 I1 (by omega) (by omega) (Or.inl ⟨k24, hf1⟩) hz1 hD b7 b11 (by rw [if_pos k24]))
  · have n24 : tt_k Tk t ≠ 24 := fun z => q (j24.mpr z)
    refine lv_X xb ?_
    rw [go_k k27 n5]
    have l7 : fr_l (tt_k Tk t) ≤ 7 := by unfold fr_l; repeat' split
                                         all_goals omega
    refine pk_lt (fr_l (tt_k Tk t)) 2 (fun c => rest1 n24 (by omega)) (fun c => pk_lt 6 (fr_l (tt_k Tk t)) (fun c2 => rest1 n24 (by omega)) (fun c2 => ?_))
    have kb := gl.mp ⟨c, c2⟩
    refine cl_X hT hK (level := fr_l (tt_k Tk t)) (by omega) (by omega) (fun gs => ms_o gs = ms_o (f :: r) ∧ fr_B fr gs) hZ I (by omega) z0 ?_
    intro Q1 e1 at1 lev1 f1 fs1 ops1 v1 no1 nn1 np1 nd1 pt1 op1 I1 hlev1 hf1 hz1
    have i11 := I1.2.2.2.2.2.2.2.2.2.2.1
    have i120 := I1.2.2.2.2.2.2.1.1
    rw [List.length_cons] at i11
    refine of_X (m := fs1.length + 1) (by omega) ?_
    have xe : xc_k (tt_k Tk t) (tt_n Tk t) = xc_t (tt_k Tk t) := by unfold xc_k; rw [if_neg (by omega)]
    rw [xe]
    exact hk 4 _ _ _ _ _ _ _ _ _ _ _ _ _ _ _ (by decide) (by decide) (go_p htT k27 I1 hlev1 (by omega) (Or.inr ⟨kb.1, kb.2, hf1⟩) hz1 hD b7 b11 (by rw [if_neg n24]))
end
-- where the text fails: none, the index of a token, or the count of tokens
def ms_R (tk : Nat → Nat) (T : Nat) (r : Option Nat) : Prop :=
  (r = none ∧ 0 < T ∧ ∃ o, ms_f tk T = some (0, o)) ∨
  (∃ i, r = some i ∧ i < T ∧ ms_f tk i ≠ none ∧ ms_f tk (i + 1) = none) ∨
  (r = some T ∧ ∃ w o, ms_f tk T = some (w, o) ∧ ¬ (w = 0 ∧ 0 < T))
theorem ms_up {tk : Nat → Nat} {i : Nat} (h : ms_f tk i = none) : ∀ d, ms_f tk (i + d) = none := by
  intro d
  induction d with
  | zero => exact h
  | succ d ih => show (ms_f tk (i + d)).bind _ = none; rw [ih]; rfl
theorem ms_ex (tk : Nat → Nat) (T : Nat) : ∃ r, ms_R tk T r := by
  by_cases h : ms_f tk T = none
  · obtain ⟨k, hk, hm⟩ := pk_least (fun k => ms_f tk k = none) ⟨T, h⟩
    have h0 : k ≠ 0 := by
      intro q
      rw [q] at hk
      exact absurd hk (by simp [ms_f])
    have hkT : k ≤ T := by
      rcases Nat.lt_or_ge T k with q | q
      · exact absurd h (hm T q)
      · exact q
    exact ⟨some (k - 1), Or.inr (Or.inl ⟨k - 1, rfl, by omega, hm (k - 1) (by omega), by rw [(by omega : k - 1 + 1 = k)]; exact hk⟩)⟩
  · obtain ⟨⟨w, o⟩, hw⟩ : ∃ s, ms_f tk T = some s := by
      cases hh : ms_f tk T with
      | none => exact absurd hh h
      | some s => exact ⟨s, rfl⟩
    by_cases c : w = 0 ∧ 0 < T
    · obtain ⟨rfl, c2⟩ := c
      exact ⟨none, Or.inl ⟨rfl, c2, o, hw⟩⟩
    · exact ⟨some T, Or.inr (Or.inr ⟨rfl, w, o, hw, c⟩)⟩
theorem ms_Ru {tk : Nat → Nat} {T : Nat} {r s : Option Nat} (h : ms_R tk T r) (g : ms_R tk T s) : r = s := by
  have nn : ∀ i, i < T → ms_f tk (i + 1) = none → ms_f tk T ≠ none → False := by
    intro i hi h1 h2
    have := ms_up h1 (T - (i + 1))
    rw [(by omega : i + 1 + (T - (i + 1)) = T)] at this
    exact h2 this
  rcases h with ⟨h1, h2, o, h3⟩ | ⟨i, h1, h2, h3, h4⟩ | ⟨h1, w, o, h2, h3⟩ <;> rcases g with ⟨g1, g2, p, g3⟩ | ⟨j, g1, g2, g3, g4⟩ | ⟨g1, x, p, g2, g3⟩
  · rw [h1, g1]
  · exact (nn j g2 g4 (by rw [h3]; simp)).elim
  · rw [h3] at g2
    simp at g2
    exact absurd ⟨g2.1.symm, h2⟩ g3
  · exact (nn i h2 h4 (by rw [g3]; simp)).elim
  · rcases Nat.lt_trichotomy i j with q | q | q
    · exfalso
      have := ms_up h4 (j - (i + 1))
      rw [(by omega : i + 1 + (j - (i + 1)) = j)] at this
      exact g3 this
    · rw [h1, g1, q]
    · exfalso
      have := ms_up g4 (i - (j + 1))
      rw [(by omega : j + 1 + (i - (j + 1)) = i)] at this
      exact h3 this
  · exact (nn i h2 h4 (by rw [g2]; simp)).elim
  · rw [g3] at h2
    simp at h2
    exact absurd ⟨h2.1.symm, g2⟩ h3
  · exact (nn j g2 g4 (by rw [h2]; simp)).elim
  · rw [h1, g1]
section
variable {f_width f_textLength f_foundPlace f_tokenCount f_frameCount f_operandCount f_defCount f_nodeEnd : Int32} {a_text a_tokenCode a_tokenPlace a_frameCode a_framePlace a_operand a_defPlace a_defFirst a_defEnd a_nodeOp a_nodeNumber a_nodePlace a_nodeDepth a_nodeKind a_part a_size a_kindFound a_choice a_status : Nat → Int32} {a_result : Nat → Int64} {a_slotFunction a_slotArgument : Nat → Int32} {L : Nat} {tx : Nat → Nat} {Tk : List tz_T} {no0 nn0 np0 pt0 : Nat → Int32} {post : Int32 → SX → Prop}
theorem pr_25 (hT : tx_P L tx a_text) (hK : xp_T L tx Tk) (hTX : tx_TX Tk Tk.length a_tokenCode a_tokenPlace) {r : Option Nat} (hR : ms_R (tt_k Tk) Tk.length r)
    (h1 : r = none → ∀ fcn ocn dcn nen fc fp op dp df de no nn np nd pt, pa_I Tk no0 nn0 np0 pt0 1 Tk.length fcn ocn dcn nen fc fp op dp df de no nn np nd pt → post 1 (f_width, nI L, f_foundPlace, nI Tk.length, fcn, ocn, dcn, nen, a_text, a_tokenCode, a_tokenPlace, fc, fp, op, dp, df, de, no, nn, np, nd, a_nodeKind, pt, a_size, a_kindFound, a_choice, a_status, a_result, a_slotFunction, a_slotArgument))
    (h3 : ∀ i, r = some i → ∀ fcn ocn dcn nen fc fp op dp df de no nn np nd pt, xp_K no0 nn0 np0 pt0 no nn np pt → post 3 (f_width, nI L, nI (if i < Tk.length then tt_p Tk i else L), nI Tk.length, fcn, ocn, dcn, nen, a_text, a_tokenCode, a_tokenPlace, fc, fp, op, dp, df, de, no, nn, np, nd, a_nodeKind, pt, a_size, a_kindFound, a_choice, a_status, a_result, a_slotFunction, a_slotArgument)) :
    ∀ d t st fcn ocn dcn nen fc fp op dp df de no nn np nd pt, t + d = Tk.length → 1 ≤ st → st ≤ 6 → pa_I Tk no0 nn0 np0 pt0 st t fcn ocn dcn nen fc fp op dp df de no nn np nd pt → ∀ n, d < n → wX_parse_25 post n (nI st) (nI t) f_width (nI L) f_foundPlace (nI Tk.length) fcn ocn dcn nen a_text a_tokenCode a_tokenPlace fc fp op dp df de no nn np nd a_nodeKind pt a_size a_kindFound a_choice a_status a_result a_slotFunction a_slotArgument := by
  have hL := hT.1
  have Tl := hK.1
  intro d
  induction d with
  | zero =>
    intro t st fcn ocn dcn nen fc fp op dp df de no nn np nd pt ht hs1 hs6 I n hn
    obtain ⟨n, rfl⟩ : ∃ k, n = k + 1 := ⟨n - 1, by omega⟩
    have et : t = Tk.length := by omega
    subst et
    have I0 := I
    obtain ⟨Q, e, F, fr, fs, ops, dl, ⟨b1, b2, b3, b4, b5, b6, b7, b8, b9, b10, b11⟩, hst⟩ := I
    have bad : ¬ (pa_w st = 0 ∧ 0 < Tk.length) → wX_parse_220 post f_width (nI L) f_foundPlace (nI Tk.length) fcn ocn dcn nen a_text a_tokenCode a_tokenPlace fc fp op dp df de no nn np nd a_nodeKind pt a_size a_kindFound a_choice a_status a_result a_slotFunction a_slotArgument := by
      intro nb
      have er := ms_Ru hR (Or.inr (Or.inr ⟨rfl, _, _, b11, nb⟩))
      have := h3 Tk.length er fcn ocn dcn nen fc fp op dp df de no nn np nd pt b6
      rw [if_neg (by omega)] at this
      exact br_t rfl this
    refine br_t (nI_le (Nat.le_refl _) (by omega)) ?_
    refine pk_eq st 1 (fun c => ?_) (fun c => bad ?_)
    · subst c
      have hdf : df_C (tt_k Tk) Q dl Tk.length e := by
        rcases hst with q | q | q
        · exact q.2.2.2
        · exact absurd q.1 (by decide)
        · exact absurd q.1 (by decide)
      subst b3
      refine pk_le dl.length 0 (fun c => bad ?_) (fun c => ?_)
      · have : dl = [] := List.length_eq_zero_iff.mp (by omega)
        subst this
        have := hdf.1
        omega
      · have T0 : 0 < Tk.length := by omega
        have er := ms_Ru hR (Or.inl ⟨rfl, T0, _, b11⟩)
        exact bq_1 (h1 er _ _ _ _ _ _ _ _ _ _ _ _ _ _ _ I0)
    · intro q
      have := q.1
      unfold pa_w at this
      rw [if_neg c] at this
      repeat' split at this
      all_goals omega
  | succ d ih =>
    intro t st fcn ocn dcn nen fc fp op dp df de no nn np nd pt ht hs1 hs6 I n hn
    obtain ⟨n, rfl⟩ : ∃ k, n = k + 1 := ⟨n - 1, by omega⟩
    have htT : t < Tk.length := by omega
    obtain ⟨tpL, _, _, k0, k27⟩ := hK.2.2 t htT
    have n5 : tt_k Tk t = 13 → tt_n Tk t < 5 := xp_n5 hT hK htT
    have I0 := I
    obtain ⟨Q, e, F, fr, fs, ops, dl, hB, hst⟩ := I
    have hB0 := hB
    obtain ⟨b1, b2, b3, b4, b5, b6, b7, b8, b9, b10, b11⟩ := hB
    have hin : vp_in (nI t) 200 := vp_in_nI (by omega) (by decide)
    refine br_f (nI_ge htT (by omega)) ⟨hin, fun x3 e3 => ⟨hin, fun x4 e4 => ?_⟩⟩
    rw [nI_clamp (by omega), (hTX t htT).1] at e3
    rw [nI_clamp (by omega), (hTX t htT).2] at e4
    subst e3 e4
    have hk : ∀ st2 fcn ocn dcn nen fc fp op dp df de no nn np nd pt, 1 ≤ st2 → st2 ≤ 6 → pa_I Tk no0 nn0 np0 pt0 st2 (t + 1) fcn ocn dcn nen fc fp op dp df de no nn np nd pt →
        wX_parse_186 post (wX_parse_25 post n) (nI st2) (nI t) (nI (tt_p Tk t)) f_width (nI L) f_foundPlace (nI Tk.length) fcn ocn dcn nen a_text a_tokenCode a_tokenPlace fc fp op dp df de no nn np nd a_nodeKind pt a_size a_kindFound a_choice a_status a_result a_slotFunction a_slotArgument := by
      intro st2 fcn ocn dcn nen fc fp op dp df de no nn np nd pt q1 q2 q3
      refine br_f (nI_ne0 (by omega) (by omega)) (fun y ey => ?_)
      rw [ey, nI_1]
      exact ih (t + 1) st2 _ _ _ _ _ _ _ _ _ _ _ _ _ _ _ (by omega) q1 q2 q3 n (by omega)
    have hs : ms_f (tt_k Tk) (t + 1) = none → ∀ fcn ocn dcn nen fc fp op dp df de no nn np nd pt, xp_K no0 nn0 np0 pt0 no nn np pt →
        wX_parse_186 post (wX_parse_25 post n) 0 (nI t) (nI (tt_p Tk t)) f_width (nI L) f_foundPlace (nI Tk.length) fcn ocn dcn nen a_text a_tokenCode a_tokenPlace fc fp op dp df de no nn np nd a_nodeKind pt a_size a_kindFound a_choice a_status a_result a_slotFunction a_slotArgument := by
      intro q fcn ocn dcn nen fc fp op dp df de no nn np nd pt q2
      have er := ms_Ru hR (Or.inr (Or.inl ⟨t, rfl, htT, by rw [b11]; simp, q⟩))
      have := h3 t er fcn ocn dcn nen fc fp op dp df de no nn np nd pt q2
      rw [if_pos htT] at this
      exact br_t rfl this
    have xb := xk_b k27 n5
    have j61 := xk_i (C := 61) (K := 20) k27 n5 (by decide) (by decide) (by decide)
    have jif := xk_i (C := 26982) (K := 3) k27 n5 (by decide) (by decide) (by decide)
    have jtr := xk_i (C := 7631481) (K := 6) k27 n5 (by decide) (by decide) (by decide)
    have jop := xk_i (C := 40) (K := 26) k27 n5 (by decide) (by decide) (by decide)
    have jnm := xk_nm k27 n5
    have e120 := b5.1
    refine br_f (nI_nlt (b := 1) (by omega) (by omega)) ?_
    refine pk_lt 5 st (fun c => ?_) (fun c => ?_)
    · -- behind an operand
      have e6 : st = 6 := by omega
      subst e6
      have q : pa_D Tk t Q F fr fs dl dp df ∧ xp_F Tk t fs fc fp ∧ ar_L op ops ∧ pa_S (tt_k Tk) Q F 6 t e fs ops := by
        rcases hst with q | q | q
        · exact absurd q.1 (by decide)
        · exact absurd q.1 (by decide)
        · exact q.2.2
      exact go_X hT hK htT hB0 q.1 q.2.1 q.2.2.1 q.2.2.2 hk hs
    · refine pk_eq st 1 (fun c1 => ?_) (fun c1 => pk_eq st 2 (fun c2 => ?_) (fun c2 => pk_eq st 3 (fun c3 => ?_) (fun c3 => pk_eq st 4 (fun c4 => ?_) (fun c4 => ?_))))
      · -- a def begins
        subst c1
        have q : fs = [] ∧ ops = [] ∧ df_C (tt_k Tk) Q dl t e := by
          rcases hst with q | q | q
          · exact q.2
          · exact absurd q.1 (by decide)
          · exact absurd q.1 (by decide)
        obtain ⟨rfl, rfl, qd⟩ := q
        subst b1 b2 b3 b4
        have msE := pa_ms b11
        have msE : ms_f (tt_k Tk) (t + 1) = if tt_k Tk t = 13 then some (1, []) else none := msE
        have no : ¬ tt_k Tk t = 13 → ms_f (tt_k Tk) (t + 1) = none := fun q => by rw [msE, if_neg q]
        refine pk_lt (xc_k (tt_k Tk t) (tt_n Tk t)) 65 (fun z => hs (no (fun q => by have := jnm.mpr q; omega)) _ _ _ _ _ _ _ _ _ _ _ _ _ _ _ b6) (fun z => pk_lt (xc_k (tt_k Tk t) (tt_n Tk t)) 70 (fun z2 => ?_) (fun z2 => hs (no (fun q => by have := jnm.mpr q; omega)) _ _ _ _ _ _ _ _ _ _ _ _ _ _ _ b6))
        have k13 := jnm.mp ⟨z, by omega⟩
        have hin2 : vp_in (nI dl.length) 200 := vp_in_nI (by omega) (by decide)
        refine ⟨hin2, fun A eA => ⟨hin2, fun B eB => ?_⟩⟩
        rw [nI_clamp (by omega)] at eA eB
        subst eA eB
        refine hk 2 _ _ _ _ _ _ _ _ _ _ _ _ _ _ _ (by decide) (by decide) ⟨Q, e, e, t, [], [], dl, ⟨rfl, rfl, rfl, rfl, b5, b6, df_Au dl (fun i hi => ⟨pk_un (by omega), pk_un (by omega), rfl⟩) b7, by omega, by rw [List.length_nil] at b9 ⊢; omega, by omega, ?_⟩, Or.inr (Or.inl ⟨rfl, rfl, rfl, rfl, k13, qd, b10, pk_us, pk_us⟩)⟩
        rw [msE, if_pos k13]; rfl
      · -- '='
        subst c2
        have q : fs = [] ∧ ops = [] ∧ t = fr + 1 ∧ tt_k Tk fr = 13 ∧ df_C (tt_k Tk) Q dl fr e ∧ dl.length ≤ fr ∧ dp dl.length = nI (tt_p Tk fr) ∧ df dl.length = nI e := by
          rcases hst with q | q | q
          · exact absurd q.1 (by decide)
          · exact q.2
          · exact absurd q.1 (by decide)
        obtain ⟨rfl, rfl, rfl, q1, q2, q3, q4, q5⟩ := q
        subst b1 b2 b3 b4
        have msE := pa_ms b11
        have msE : ms_f (tt_k Tk) (fr + 1 + 1) = if tt_k Tk (fr + 1) = 20 then some (2, []) else none := msE
        refine pk_eq (xc_k (tt_k Tk (fr + 1)) (tt_n Tk (fr + 1))) 61 (fun z => ?_) (fun z => ?_)
        · have k20 := j61.mp z
          refine of_X (m := 0) (by decide) ?_
          refine hk 3 _ _ _ _ _ _ _ _ _ _ _ _ _ _ _ (by decide) (by decide) ⟨Q, e, e, fr, [(30, fr, fr + 1, fr + 2)], [], dl, ⟨rfl, rfl, rfl, rfl, b5, b6, b7, by omega, by rw [List.length_nil] at b9; rw [List.length_cons, List.length_nil]; omega, by omega, ?_⟩,
            Or.inr (Or.inr ⟨by decide, by decide, ⟨q2, b5.1, q1, k20, ⟨fun _ => rfl, trivial⟩, fun i h1 h2 => ?_, by omega, q3, q4, q5⟩, ⟨⟨pk_us, trivial⟩, ⟨pk_us, trivial⟩, fun f hf => ?_⟩, trivial, rfl, by rw [List.length_nil]; omega, Or.inl ⟨rfl, ⟨rfl, rfl, [], [], rfl, Or.inl ⟨rfl, rfl, rfl⟩, rfl⟩, _, _, rfl, rfl⟩⟩)⟩
          · rw [msE, if_pos k20]; rfl
          · have : i = fr ∨ i = fr + 1 := by omega
            rcases this with w | w
            · rw [w, q1]; decide
            · rw [w, k20]; decide
          · simp at hf
            rw [hf]
            exact ⟨by show 30 < 34; omega, by show fr + 1 < fr + 1 + 1; omega⟩
        · exact of_X (m := 0) (by decide) (hs (by rw [msE, if_neg (fun w => z (j61.mpr w))]) _ _ _ _ _ _ _ _ _ _ _ _ _ _ _ b6)
      · -- an expression
        subst c3
        have q : pa_D Tk t Q F fr fs dl dp df ∧ xp_F Tk t fs fc fp ∧ ar_L op ops ∧ pa_S (tt_k Tk) Q F 3 t e fs ops := by
          rcases hst with q | q | q
          · exact absurd q.1 (by decide)
          · exact absurd q.1 (by decide)
          · exact q.2.2
        obtain ⟨qD, qF, qo, qt, ql, qS⟩ := q
        have qS : fr_S (tt_k Tk) Q fs ops t ∧ ∃ f r, fs = f :: r ∧ fr_n f.1 = 1 := by
          rcases qS with q | q | q | q
          · exact q.2
          · exact absurd q.1 (by decide)
          · exact absurd q.1 (by decide)
          · exact absurd q.1 (by decide)
        obtain ⟨S, f, rr, ef, en⟩ := qS
        have op6 : ∀ k, tt_k Tk t = k → (k = 3 ∨ k = 6) → wX_parse_130 post (wX_parse_25 post n) (nI t) (nI (xc_k (tt_k Tk t) (tt_n Tk t))) (nI (tt_p Tk t)) f_width (nI L) f_foundPlace (nI Tk.length) fcn ocn dcn nen a_text a_tokenCode a_tokenPlace fc fp op dp df de no nn np nd a_nodeKind pt a_size a_kindFound a_choice a_status a_result a_slotFunction a_slotArgument := by
          intro k ek hk36
          have xe : xc_k (tt_k Tk t) (tt_n Tk t) = xc_t (tt_k Tk t) := by unfold xc_k; rw [if_neg (by omega)]
          rw [xe]
          subst b1
          refine of_X (m := fs.length) (by omega) ?_
          refine hk 3 _ _ _ _ _ _ _ _ _ _ _ _ _ _ _ (by decide) (by decide) (pa_push (c := tt_k Tk t) (nx := t + 1) hB0 qD qF qo qt ql htT (by omega) (by omega) (by omega) (by decide) rfl ?_ ⟨qt, ql, Or.inl ⟨rfl, ⟨rfl, ?_, [], ops, rfl, Or.inr (Or.inl ⟨by omega, rfl, rfl, rfl, rfl⟩), S⟩, _, _, rfl, ?_⟩⟩)
          · rcases hk36 with w | w <;> rw [w] at ek <;> rw [ek] <;> rfl
          · rw [ef]
            refine ⟨?_, by show tt_k Tk t ≠ 30; omega⟩
            rw [en]
            show 1 ≤ fr_g (tt_k Tk t)
            rcases hk36 with w | w <;> rw [w] at ek <;> rw [ek] <;> decide
          · show fr_n (tt_k Tk t) = 1
            rcases hk36 with w | w <;> rw [w] at ek <;> rw [ek] <;> rfl
        refine pk_eq (xc_k (tt_k Tk t) (tt_n Tk t)) 26982 (fun z => op6 3 (jif.mp z) (Or.inl rfl)) (fun z => pk_eq (xc_k (tt_k Tk t) (tt_n Tk t)) 7631481 (fun z2 => op6 6 (jtr.mp z2) (Or.inr rfl)) (fun z2 => ?_))
        exact su_S hT hK htT (Or.inl rfl) hB0 qD qF qo qt ql S ef (fun _ => ⟨fun w => z (jif.mpr w), fun w => z2 (jtr.mpr w)⟩) hk hs
      · -- a unary
        subst c4
        have q : pa_D Tk t Q F fr fs dl dp df ∧ xp_F Tk t fs fc fp ∧ ar_L op ops ∧ pa_S (tt_k Tk) Q F 4 t e fs ops := by
          rcases hst with q | q | q
          · exact absurd q.1 (by decide)
          · exact absurd q.1 (by decide)
          · exact q.2.2
        obtain ⟨qD, qF, qo, qt, ql, qS⟩ := q
        have qS : fr_S (tt_k Tk) Q fs ops t ∧ ∃ f r, fs = f :: r := by
          rcases qS with q | q | q | q
          · exact absurd q.1 (by decide)
          · exact q.2
          · exact absurd q.1 (by decide)
          · exact absurd q.1 (by decide)
        obtain ⟨S, f, rr, ef⟩ := qS
        exact su_S hT hK htT (Or.inr rfl) hB0 qD qF qo qt ql S ef (fun w => absurd w (by decide)) hk hs
      · -- a bracket
        have e5 : st = 5 := by omega
        subst e5
        refine br_t rfl ?_
        have q : pa_D Tk t Q F fr fs dl dp df ∧ xp_F Tk t fs fc fp ∧ ar_L op ops ∧ pa_S (tt_k Tk) Q F 5 t e fs ops := by
          rcases hst with q | q | q
          · exact absurd q.1 (by decide)
          · exact absurd q.1 (by decide)
          · exact q.2.2
        obtain ⟨qD, qF, qo, qt, ql, qS⟩ := q
        have qS : ∃ c r, fs = (c, t - 1, t - 1, t + 1) :: r ∧ 1 ≤ t ∧ (c = 7 ∨ c = 8 ∨ c = 9 ∨ c = 13) ∧ tt_k Tk (t - 1) = c ∧ fr_S (tt_k Tk) Q r ops (t - 1) ∧ ∃ f q, r = f :: q := by
          rcases qS with q | q | q | q
          · exact absurd q.1 (by decide)
          · exact absurd q.1 (by decide)
          · exact q.2
          · exact absurd q.1 (by decide)
        obtain ⟨c, rr, rfl, t1, hc, tc, S, f, q, ef⟩ := qS
        have msE := pa_ms b11
        have msE : ms_f (tt_k Tk) (t + 1) = if tt_k Tk t = 26 then some (2, 26 :: ms_o rr) else none := msE
        subst b1
        refine pk_eq (xc_k (tt_k Tk t) (tt_n Tk t)) 40 (fun z => ?_) (fun z => ?_)
        · have k26 := jop.mp z
          obtain ⟨d1, d2, d3, d4, d5, d6, d7, d8, d9, d10⟩ := qD
          refine hk 3 _ _ _ _ _ _ _ _ _ _ _ _ _ _ _ (by decide) (by decide) ⟨Q, e, F, fr, (c, t - 1, t - 1, t + 1) :: rr, ops, dl, ⟨rfl, b2, b3, b4, b5, b6, b7, by omega, by omega, by omega, ?_⟩,
            Or.inr (Or.inr ⟨by decide, by decide, ⟨d1, d2, d3, d4, d5, fun i h1 h2 => ?_, by omega, d8, d9, d10⟩, xp_Fm qF (by omega), qo, qt, ql, Or.inl ⟨rfl, ⟨rfl, ?_, [], ops, rfl, Or.inr (Or.inr (Or.inr (Or.inl ⟨hc, tc, ?_, rfl, rfl, ?_⟩))), S⟩, _, _, rfl, ?_⟩⟩)⟩
          · rw [msE, if_pos k26]
            show some (2, 26 :: ms_o rr) = some (2, ms_o ((c, t - 1, t - 1, t + 1) :: rr))
            have : ms_o ((c, t - 1, t - 1, t + 1) :: rr) = 26 :: ms_o rr := by
              show (if c = 26 ∨ c = 7 ∨ c = 8 ∨ c = 9 ∨ c = 13 then _ else _) = _
              rw [if_pos (by omega)]
            rw [this]
          · by_cases w : i = t
            · rw [w]; omega
            · exact d6 i h1 (by omega)
          · rw [ef]
            refine ⟨?_, by show c ≠ 30; omega⟩
            have : fr_g c = 7 := by unfold fr_g; rw [if_pos (by omega)]
            rw [this]
            exact (pa_n7 f.1).1
          · show tt_k Tk (t - 1 + 1) = 26
            rw [(by omega : t - 1 + 1 = t)]; exact k26
          · show t + 1 = t - 1 + 2
            omega
          · show fr_n c = 1
            have : fr_l c = 0 := by rcases hc with w | w | w | w <;> rw [w] <;> rfl
            unfold fr_n; rw [this]; rfl
        · exact hs (by rw [msE, if_neg (fun w => z (jop.mpr w))]) _ _ _ _ _ _ _ _ _ _ _ _ _ _ _ b6
theorem pr_X (hT : tx_P L tx a_text) (hK : xp_T L tx Tk) (hTX : tx_TX Tk Tk.length a_tokenCode a_tokenPlace) {r : Option Nat} (hR : ms_R (tt_k Tk) Tk.length r)
    (h1 : r = none → ∀ fcn ocn dcn nen fc fp op dp df de no nn np nd pt, pa_I Tk a_nodeOp a_nodeNumber a_nodePlace a_part 1 Tk.length fcn ocn dcn nen fc fp op dp df de no nn np nd pt → post 1 (f_width, nI L, f_foundPlace, nI Tk.length, fcn, ocn, dcn, nen, a_text, a_tokenCode, a_tokenPlace, fc, fp, op, dp, df, de, no, nn, np, nd, a_nodeKind, pt, a_size, a_kindFound, a_choice, a_status, a_result, a_slotFunction, a_slotArgument))
    (h3 : ∀ i, r = some i → ∀ fcn ocn dcn nen fc fp op dp df de no nn np nd pt, xp_K a_nodeOp a_nodeNumber a_nodePlace a_part no nn np pt → post 3 (f_width, nI L, nI (if i < Tk.length then tt_p Tk i else L), nI Tk.length, fcn, ocn, dcn, nen, a_text, a_tokenCode, a_tokenPlace, fc, fp, op, dp, df, de, no, nn, np, nd, a_nodeKind, pt, a_size, a_kindFound, a_choice, a_status, a_result, a_slotFunction, a_slotArgument)) :
    wpX_parse post (f_width, nI L, f_foundPlace, nI Tk.length, f_frameCount, f_operandCount, f_defCount, f_nodeEnd, a_text, a_tokenCode, a_tokenPlace, a_frameCode, a_framePlace, a_operand, a_defPlace, a_defFirst, a_defEnd, a_nodeOp, a_nodeNumber, a_nodePlace, a_nodeDepth, a_nodeKind, a_part, a_size, a_kindFound, a_choice, a_status, a_result, a_slotFunction, a_slotArgument) := by
  refine ⟨Tk.length + 1, pr_25 hT hK hTX hR h1 h3 Tk.length 0 1 _ _ _ _ _ _ _ _ _ _ _ _ _ _ _ (by omega) (by decide) (by decide) ?_ _ (Nat.lt_succ_self _)⟩
  exact ⟨fun _ _ => 0, 120, 120, 0, [], [], [], ⟨rfl, rfl, rfl, rfl, ⟨by omega, fun u h1 h2 => by omega⟩, ⟨fun u hu => ⟨rfl, rfl, rfl⟩, fun i hi => rfl⟩, trivial, by omega, by rw [List.length_nil]; omega, by rw [List.length_nil]; omega, rfl⟩, Or.inl ⟨rfl, rfl, rfl, rfl, rfl⟩⟩
end
end
section
-- Y looks for a misfit
section
variable {f_width f_length f_place f_toks f_nodes f_defs : Int32} {a_text a_tok a_tokNum a_tokPlace a_opened a_nOp a_nNum a_nPlace a_nA a_nB a_nC a_nLo a_nHi a_nLevel a_defName a_defPlace a_defRoot a_loaded a_count a_status : Nat → Int32} {a_number : Nat → Int64} {a_origin a_choice a_slotF a_slotX a_slotHeld : Nat → Int32} {post : Int32 → SY → Prop} {J : Int32 → Int32 → Int32 → (Nat → Int32) → (Nat → Int32) → (Nat → Int32) → (Nat → Int32) → (Nat → Int32) → (Nat → Int32) → (Nat → Int32) → (Nat → Int32) → (Nat → Int32) → (Nat → Int32) → (Nat → Int32) → (Nat → Int32) → (Nat → Int32) → (Nat → Int32) → (Nat → Int32) → (Nat → Int32) → (Nat → Int32) → (Nat → Int32) → (Nat → Int32) → (Nat → Int32) → (Nat → Int64) → (Nat → Int32) → (Nat → Int32) → (Nat → Int32) → (Nat → Int32) → (Nat → Int32) → Prop}
theorem mf_n {x1 x2 x3 : Int32} (h : post x3 (f_width, f_length, f_place, f_toks, f_nodes, f_defs, a_text, a_tok, a_tokNum, a_tokPlace, a_opened, a_nOp, a_nNum, a_nPlace, a_nA, a_nB, a_nC, a_nLo, a_nHi, a_nLevel, a_defName, a_defPlace, a_defRoot, a_loaded, a_count, a_status, a_number, a_origin, a_choice, a_slotF, a_slotX, a_slotHeld)) : wY_misfit_417 post J x1 x2 x3 (-1) f_width f_length f_place f_toks f_nodes f_defs a_text a_tok a_tokNum a_tokPlace a_opened a_nOp a_nNum a_nPlace a_nA a_nB a_nC a_nLo a_nHi a_nLevel a_defName a_defPlace a_defRoot a_loaded a_count a_status a_number a_origin a_choice a_slotF a_slotX a_slotHeld := br_f (by decide) h
theorem mf_y {x1 : Int32} {w i w2 : Nat} (hw : w < 5) (hw2 : w2 ≤ 5) (h : J x1 (nI w2) (nI (i + 1)) a_text a_tok a_tokNum a_tokPlace a_opened a_nOp a_nNum a_nPlace a_nA a_nB a_nC a_nLo a_nHi a_nLevel a_defName a_defPlace a_defRoot a_loaded a_count a_status a_number a_origin a_choice a_slotF a_slotX a_slotHeld) : wY_misfit_417 post J x1 (nI w) (nI i) (nI w2) f_width f_length f_place f_toks f_nodes f_defs a_text a_tok a_tokNum a_tokPlace a_opened a_nOp a_nNum a_nPlace a_nA a_nB a_nC a_nLo a_nHi a_nLevel a_defName a_defPlace a_defRoot a_loaded a_count a_status a_number a_origin a_choice a_slotF a_slotX a_slotHeld := by
  refine br_t (nI_pos' (by omega)) (br_f (fun q => by have := (nI_eq (b := 5) (by omega) (by decide)).mp q; omega) (fun y ey => ?_))
  rw [ey, nI_1]; exact h
theorem mf_p {m i w2 : Nat} (hm : m < 200) (hw2 : w2 ≤ 5) (h : J (nI (m + 1)) (nI w2) (nI (i + 1)) a_text a_tok a_tokNum a_tokPlace (upd a_opened m 26) a_nOp a_nNum a_nPlace a_nA a_nB a_nC a_nLo a_nHi a_nLevel a_defName a_defPlace a_defRoot a_loaded a_count a_status a_number a_origin a_choice a_slotF a_slotX a_slotHeld) : wY_misfit_417 post J (nI m) 5 (nI i) (nI w2) f_width f_length f_place f_toks f_nodes f_defs a_text a_tok a_tokNum a_tokPlace a_opened a_nOp a_nNum a_nPlace a_nA a_nB a_nC a_nLo a_nHi a_nLevel a_defName a_defPlace a_defRoot a_loaded a_count a_status a_number a_origin a_choice a_slotF a_slotX a_slotHeld := by
  refine br_t (nI_pos' (by omega)) (br_t rfl (fun y ey => ⟨vp_in_nI hm (by decide), fun A eA z ez => ?_⟩))
  rw [nI_clamp (by omega)] at eA
  rw [nI_1] at ey ez
  subst ey eA ez
  exact h
-- in want 2 and 3
theorem mf_k {x1 : Int32} {w i k w2 : Nat} (hw : w < 5) (hk : k ≤ 27) (h26 : k ≠ 26) (hw2 : w2 = 3 ∨ w2 = 4 ∨ w2 = 5) (h : J x1 (nI w2) (nI (i + 1)) a_text a_tok a_tokNum a_tokPlace a_opened a_nOp a_nNum a_nPlace a_nA a_nB a_nC a_nLo a_nHi a_nLevel a_defName a_defPlace a_defRoot a_loaded a_count a_status a_number a_origin a_choice a_slotF a_slotX a_slotHeld) : wY_misfit_233 post J x1 (nI w) (nI i) (nI k) (nI w2) f_width f_length f_place f_toks f_nodes f_defs a_text a_tok a_tokNum a_tokPlace a_opened a_nOp a_nNum a_nPlace a_nA a_nB a_nC a_nLo a_nHi a_nLevel a_defName a_defPlace a_defRoot a_loaded a_count a_status a_number a_origin a_choice a_slotF a_slotX a_slotHeld :=
  br_f (fun q => h26 ((nI_eq (b := 26) (by omega) (by decide)).mp q)) (br_f (fun q => by have := (nI_eq (b := 2) (by omega) (by decide)).mp q; omega) (mf_y hw (by omega) h))
theorem mf_q {m w i k : Nat} (hm : m < 200) (hw : w < 5) (hk : k ≤ 27) (h : J (nI (m + 1)) 2 (nI (i + 1)) a_text a_tok a_tokNum a_tokPlace (upd a_opened m (nI k)) a_nOp a_nNum a_nPlace a_nA a_nB a_nC a_nLo a_nHi a_nLevel a_defName a_defPlace a_defRoot a_loaded a_count a_status a_number a_origin a_choice a_slotF a_slotX a_slotHeld) : wY_misfit_233 post J (nI m) (nI w) (nI i) (nI k) 2 f_width f_length f_place f_toks f_nodes f_defs a_text a_tok a_tokNum a_tokPlace a_opened a_nOp a_nNum a_nPlace a_nA a_nB a_nC a_nLo a_nHi a_nLevel a_defName a_defPlace a_defRoot a_loaded a_count a_status a_number a_origin a_choice a_slotF a_slotX a_slotHeld := by
  have g : wY_misfit_246 post J (nI m) (nI w) (nI i) (nI k) 2 f_width f_length f_place f_toks f_nodes f_defs a_text a_tok a_tokNum a_tokPlace a_opened a_nOp a_nNum a_nPlace a_nA a_nB a_nC a_nLo a_nHi a_nLevel a_defName a_defPlace a_defRoot a_loaded a_count a_status a_number a_origin a_choice a_slotF a_slotX a_slotHeld := by
    intro y ey
    refine ⟨vp_in_nI hm (by decide), fun A eA => ?_⟩
    rw [nI_clamp (by omega)] at eA
    rw [nI_1] at ey
    subst ey eA
    exact mf_y (w2 := 2) hw (by omega) h
  exact br_c (fun _ => g) (fun _ => br_t rfl g)
theorem mf_s {x1 : Int32} {w i k : Nat} (hw : w < 5) (hk : k ≤ 27) (h26 : k ≠ 26) (h : post (nI i) (f_width, f_length, f_place, f_toks, f_nodes, f_defs, a_text, a_tok, a_tokNum, a_tokPlace, a_opened, a_nOp, a_nNum, a_nPlace, a_nA, a_nB, a_nC, a_nLo, a_nHi, a_nLevel, a_defName, a_defPlace, a_defRoot, a_loaded, a_count, a_status, a_number, a_origin, a_choice, a_slotF, a_slotX, a_slotHeld)) : wY_misfit_233 post J x1 (nI w) (nI i) (nI k) (-1) f_width f_length f_place f_toks f_nodes f_defs a_text a_tok a_tokNum a_tokPlace a_opened a_nOp a_nNum a_nPlace a_nA a_nB a_nC a_nLo a_nHi a_nLevel a_defName a_defPlace a_defRoot a_loaded a_count a_status a_number a_origin a_choice a_slotF a_slotX a_slotHeld :=
  br_f (fun q => h26 ((nI_eq (b := 26) (by omega) (by decide)).mp q)) (br_f (by decide) (mf_n h))
-- in want 4
theorem mf_4 {o o2 : List Nat} {i k w2 : Nat} (hk : k ≤ 27) (hl : o.length < 200) (hw2 : w2 ≤ 5) (ha : ar_L a_opened o)
    (e : (k = 4 ∧ o ≠ [] ∧ o2 = 4 :: o.tail) ∨ ((k = 5 ∨ k = 27) ∧ o ≠ [] ∧ o2 = o.tail) ∨ (k ≠ 4 ∧ k ≠ 5 ∧ k ≠ 27 ∧ o2 = o))
    (h : ∀ opd, ar_L opd o2 → J (nI o2.length) (nI w2) (nI (i + 1)) a_text a_tok a_tokNum a_tokPlace opd a_nOp a_nNum a_nPlace a_nA a_nB a_nC a_nLo a_nHi a_nLevel a_defName a_defPlace a_defRoot a_loaded a_count a_status a_number a_origin a_choice a_slotF a_slotX a_slotHeld) : wY_misfit_369 post J (nI o.length) 4 (nI i) (nI k) (nI w2) f_width f_length f_place f_toks f_nodes f_defs a_text a_tok a_tokNum a_tokPlace a_opened a_nOp a_nNum a_nPlace a_nA a_nB a_nC a_nLo a_nHi a_nLevel a_defName a_defPlace a_defRoot a_loaded a_count a_status a_number a_origin a_choice a_slotF a_slotX a_slotHeld := by
  refine br_f (nI_pos (by omega)) ?_
  have fin : ∀ x1 : Int32, k ≠ 4 → J x1 (nI w2) (nI (i + 1)) a_text a_tok a_tokNum a_tokPlace a_opened a_nOp a_nNum a_nPlace a_nA a_nB a_nC a_nLo a_nHi a_nLevel a_defName a_defPlace a_defRoot a_loaded a_count a_status a_number a_origin a_choice a_slotF a_slotX a_slotHeld → wY_misfit_396 post J x1 4 (nI i) (nI k) (nI w2) f_width f_length f_place f_toks f_nodes f_defs a_text a_tok a_tokNum a_tokPlace a_opened a_nOp a_nNum a_nPlace a_nA a_nB a_nC a_nLo a_nHi a_nLevel a_defName a_defPlace a_defRoot a_loaded a_count a_status a_number a_origin a_choice a_slotF a_slotX a_slotHeld := fun x1 n4 g =>
    br_f (nI_pos (by omega)) (br_f (fun q => n4 ((nI_eq (b := 4) (by omega) (by decide)).mp q)) (mf_y (w := 4) (by omega) hw2 g))
  rcases e with ⟨rfl, ne, rfl⟩ | ⟨hk5, ne, rfl⟩ | ⟨n4, n5, n27, rfl⟩
  · cases o with
    | nil => exact absurd rfl ne
    | cons a r =>
      rw [List.length_cons] at hl
      refine br_t rfl (fun y ey => ?_)
      rw [List.length_cons, pk_m1] at ey
      subst ey
      refine br_f (nI_pos (by omega)) (br_t rfl (fun y ey => ⟨vp_in_nI (by omega) (by decide), fun A eA => ?_⟩))
      rw [nI_clamp (by omega)] at eA
      rw [nI_1] at ey
      subst ey eA
      exact mf_y (w := 4) (by omega) hw2 (h _ (ar_p (c := 4) ha.2))
  · cases o with
    | nil => exact absurd rfl ne
    | cons a r =>
      have g : wY_misfit_393 post J (nI (a :: r).length) 4 (nI i) (nI k) (nI w2) f_width f_length f_place f_toks f_nodes f_defs a_text a_tok a_tokNum a_tokPlace a_opened a_nOp a_nNum a_nPlace a_nA a_nB a_nC a_nLo a_nHi a_nLevel a_defName a_defPlace a_defRoot a_loaded a_count a_status a_number a_origin a_choice a_slotF a_slotX a_slotHeld := by
        intro y ey
        rw [List.length_cons, pk_m1] at ey
        subst ey
        exact fin _ (by omega) (h _ ha.2)
      refine br_f (fun q => by have := (nI_eq (b := 4) (by omega) (by decide)).mp q; omega) (br_c (fun _ => g) (fun _ => br_c (fun _ => g) (fun n27 => ?_)))
      rcases hk5 with q | q
      · subst q; exact absurd rfl ‹¬ nI 5 = 5›
      · subst q; exact absurd rfl n27
  · refine br_f (fun q => n4 ((nI_eq (b := 4) (by omega) (by decide)).mp q)) (br_f (fun q => n5 ((nI_eq (b := 5) (by omega) (by decide)).mp q)) (br_f (fun q => n27 ((nI_eq (b := 27) (by omega) (by decide)).mp q)) (fin _ n4 (h _ ha))))
theorem mf_5 {x1 : Int32} {i k : Nat} (hk : k ≤ 27) (h : post (nI i) (f_width, f_length, f_place, f_toks, f_nodes, f_defs, a_text, a_tok, a_tokNum, a_tokPlace, a_opened, a_nOp, a_nNum, a_nPlace, a_nA, a_nB, a_nC, a_nLo, a_nHi, a_nLevel, a_defName, a_defPlace, a_defRoot, a_loaded, a_count, a_status, a_number, a_origin, a_choice, a_slotF, a_slotX, a_slotHeld)) : wY_misfit_369 post J x1 4 (nI i) (nI k) (-1) f_width f_length f_place f_toks f_nodes f_defs a_text a_tok a_tokNum a_tokPlace a_opened a_nOp a_nNum a_nPlace a_nA a_nB a_nC a_nLo a_nHi a_nLevel a_defName a_defPlace a_defRoot a_loaded a_count a_status a_number a_origin a_choice a_slotF a_slotX a_slotHeld :=
  br_t (by decide) (br_t (by decide) (mf_n h))
theorem mf_st {o : List Nat} {w i k : Nat} (hw : w ≤ 5) (hk : k ≤ 27) (hl : o.length < 200) (hb : o.headD 0 ≤ 27) (ha : ar_L a_opened o)
    (h1 : ∀ w2 o2 opd, ms_s w o k = some (w2, o2) → ar_L opd o2 → J (nI o2.length) (nI w2) (nI (i + 1)) a_text a_tok a_tokNum a_tokPlace opd a_nOp a_nNum a_nPlace a_nA a_nB a_nC a_nLo a_nHi a_nLevel a_defName a_defPlace a_defRoot a_loaded a_count a_status a_number a_origin a_choice a_slotF a_slotX a_slotHeld)
    (h0 : ms_s w o k = none → post (nI i) (f_width, f_length, f_place, f_toks, f_nodes, f_defs, a_text, a_tok, a_tokNum, a_tokPlace, a_opened, a_nOp, a_nNum, a_nPlace, a_nA, a_nB, a_nC, a_nLo, a_nHi, a_nLevel, a_defName, a_defPlace, a_defRoot, a_loaded, a_count, a_status, a_number, a_origin, a_choice, a_slotF, a_slotX, a_slotHeld)) : wY_misfit_38 post J (nI o.length) (nI w) (nI i) (nI k) (nI (o.headD 0)) f_width f_length f_place f_toks f_nodes f_defs a_text a_tok a_tokNum a_tokPlace a_opened a_nOp a_nNum a_nPlace a_nA a_nB a_nC a_nLo a_nHi a_nLevel a_defName a_defPlace a_defRoot a_loaded a_count a_status a_number a_origin a_choice a_slotF a_slotX a_slotHeld := by
  have hc : w = 0 ∨ w = 1 ∨ w = 2 ∨ w = 3 ∨ w = 4 ∨ w = 5 := by omega
  have w23 : (w = 2 ∨ w = 3) → wY_misfit_106 post J (nI o.length) (nI w) (nI i) (nI k) (-1) f_width f_length f_place f_toks f_nodes f_defs a_text a_tok a_tokNum a_tokPlace a_opened a_nOp a_nNum a_nPlace a_nA a_nB a_nC a_nLo a_nHi a_nLevel a_defName a_defPlace a_defRoot a_loaded a_count a_status a_number a_origin a_choice a_slotF a_slotX a_slotHeld := by
    intro hw23
    have ms : ms_s w o k = (if k = 1 ∨ k = 2 ∨ k = 10 ∨ k = 11 ∨ k = 12 then some (4, o) else if k = 15 ∨ k = 23 then some (3, o) else if k = 26 then some (2, 26 :: o) else
        if k = 13 ∨ k = 7 ∨ k = 8 ∨ k = 9 then some (5, o) else if w = 2 ∧ (k = 3 ∨ k = 6) then some (2, k :: o) else none) := by
      unfold ms_s
      rw [if_neg (by omega), if_neg (by omega), if_neg (by omega), if_pos hw23]
    have leaf : (k = 1 ∨ k = 2 ∨ k = 10 ∨ k = 11 ∨ k = 12) → wY_misfit_139 post J (nI o.length) (nI w) (nI i) (nI k) f_width f_length f_place f_toks f_nodes f_defs a_text a_tok a_tokNum a_tokPlace a_opened a_nOp a_nNum a_nPlace a_nA a_nB a_nC a_nLo a_nHi a_nLevel a_defName a_defPlace a_defRoot a_loaded a_count a_status a_number a_origin a_choice a_slotF a_slotX a_slotHeld := fun q =>
      mf_k (w2 := 4) (by omega) hk (by omega) (by omega) (h1 4 o a_opened (by rw [ms, if_pos q]) ha)
    have un : (k = 15 ∨ k = 23) → wY_misfit_159 post J (nI o.length) (nI w) (nI i) (nI k) f_width f_length f_place f_toks f_nodes f_defs a_text a_tok a_tokNum a_tokPlace a_opened a_nOp a_nNum a_nPlace a_nA a_nB a_nC a_nLo a_nHi a_nLevel a_defName a_defPlace a_defRoot a_loaded a_count a_status a_number a_origin a_choice a_slotF a_slotX a_slotHeld := fun q =>
      mf_k (w2 := 3) (by omega) hk (by omega) (by omega) (h1 3 o a_opened (by rw [ms, if_neg (by omega), if_pos q]) ha)
    have call : (k = 13 ∨ k = 7 ∨ k = 8 ∨ k = 9) → wY_misfit_206 post J (nI o.length) (nI w) (nI i) (nI k) f_width f_length f_place f_toks f_nodes f_defs a_text a_tok a_tokNum a_tokPlace a_opened a_nOp a_nNum a_nPlace a_nA a_nB a_nC a_nLo a_nHi a_nLevel a_defName a_defPlace a_defRoot a_loaded a_count a_status a_number a_origin a_choice a_slotF a_slotX a_slotHeld := fun q =>
      mf_k (w2 := 5) (by omega) hk (by omega) (by omega) (h1 5 o a_opened (by rw [ms, if_neg (by omega), if_neg (by omega), if_neg (by omega), if_pos q]) ha)
    have opn : w = 2 → (k = 3 ∨ k = 6) → wY_misfit_230 post J (nI o.length) (nI w) (nI i) (nI k) f_width f_length f_place f_toks f_nodes f_defs a_text a_tok a_tokNum a_tokPlace a_opened a_nOp a_nNum a_nPlace a_nA a_nB a_nC a_nLo a_nHi a_nLevel a_defName a_defPlace a_defRoot a_loaded a_count a_status a_number a_origin a_choice a_slotF a_slotX a_slotHeld := fun q2 q =>
      mf_q hl (by omega) hk (h1 2 (k :: o) _ (by rw [ms, if_neg (by omega), if_neg (by omega), if_neg (by omega), if_neg (by omega), if_pos ⟨q2, q⟩]) (ar_p ha))
    refine pk_eq k 1 (fun c => leaf (by omega)) (fun c1 => pk_eq k 2 (fun c => leaf (by omega)) (fun c2 => pk_eq k 10 (fun c => leaf (by omega)) (fun c3 => pk_eq k 11 (fun c => leaf (by omega)) (fun c4 => pk_eq k 12 (fun c => leaf (by omega)) (fun c5 =>
      pk_eq k 15 (fun c => un (by omega)) (fun c6 => pk_eq k 23 (fun c => un (by omega)) (fun c7 => pk_eq k 26 (fun c => ?_) (fun c8 => pk_eq k 13 (fun c => call (by omega)) (fun c9 => pk_eq k 7 (fun c => call (by omega)) (fun c10 =>
      pk_eq k 8 (fun c => call (by omega)) (fun c11 => pk_eq k 9 (fun c => call (by omega)) (fun c12 => pk_eq w 2 (fun c => pk_eq k 3 (fun d => opn c (by omega)) (fun d => pk_eq k 6 (fun d2 => opn c (by omega)) (fun d2 => ?_))) (fun c => ?_)))))))))))))
    · exact mf_q hl (by omega) hk (h1 2 (26 :: o) _ (by rw [ms, if_neg (by omega), if_neg (by omega), if_pos c]) (by rw [c]; exact ar_p ha))
    · exact mf_s (by omega) hk c8 (h0 (by rw [ms, if_neg (by omega), if_neg (by omega), if_neg (by omega), if_neg (by omega), if_neg (by omega)]))
    · exact mf_s (by omega) hk c8 (h0 (by rw [ms, if_neg (by omega), if_neg (by omega), if_neg (by omega), if_neg (by omega), if_neg (by omega)]))
  rcases hc with rfl | rfl | rfl | rfl | rfl | rfl
  · refine br_t rfl (pk_eq k 13 (fun c => mf_y (w := 0) (w2 := 1) (by omega) (by omega) (h1 1 o a_opened (by unfold ms_s; rw [if_pos rfl, if_pos c]) ha)) (fun c => ?_))
    exact br_f (by decide) (br_f (by decide) (br_f (by decide) (br_f (by decide) (br_f (by decide) (mf_n (h0 (by unfold ms_s; rw [if_pos rfl, if_neg c])))))))
  · refine br_f (by decide) (br_t rfl (pk_eq k 20 (fun c => mf_y (w := 1) (w2 := 2) (by omega) (by omega) (h1 2 o a_opened (by unfold ms_s; rw [if_neg (by decide), if_pos rfl, if_pos c]) ha)) (fun c => ?_)))
    exact br_f (by decide) (br_f (by decide) (br_f (by decide) (br_f (by decide) (mf_n (h0 (by unfold ms_s; rw [if_neg (by decide), if_pos rfl, if_neg c]))))))
  · exact br_f (by decide) (br_f (by decide) (br_f (by decide) (br_t rfl (w23 (Or.inl rfl)))))
  · exact br_f (by decide) (br_f (by decide) (br_f (by decide) (br_f (by decide) (br_t rfl (w23 (Or.inr rfl))))))
  · have ms : ms_s 4 o k = (if 14 ≤ k ∧ k ≤ 22 then some (3, o) else if k = 24 then some (2, o) else if k = 4 ∧ o.headD 0 = 3 then some (2, 4 :: o.tail) else
        if k = 5 ∧ (o.headD 0 = 4 ∨ o.headD 0 = 6) then some (2, o.tail) else if k = 27 ∧ o.headD 0 = 26 then some (4, o.tail) else if k = 25 ∧ o = [] then some (0, o) else none) := by
      unfold ms_s
      rw [if_neg (by decide), if_neg (by decide), if_neg (by decide), if_neg (by decide)]
    have hd : ∀ x, o.headD 0 = x → x ≠ 0 → o ≠ [] := by
      intro x q n z; rw [z] at q; exact n q.symm
    have stop : ∀ g, ms_s 4 o k = none → (g = wY_misfit_369 post J (nI o.length) 4 (nI i) (nI k) (-1) f_width f_length f_place f_toks f_nodes f_defs a_text a_tok a_tokNum a_tokPlace a_opened a_nOp a_nNum a_nPlace a_nA a_nB a_nC a_nLo a_nHi a_nLevel a_defName a_defPlace a_defRoot a_loaded a_count a_status a_number a_origin a_choice a_slotF a_slotX a_slotHeld) → g := by
      intro g q e; rw [e]; exact mf_5 hk (h0 q)
    have hh : ∀ b : Nat, b < 2 ^ 31 → ar_L a_opened o → o.headD 0 < 2 ^ 31 ∨ True := fun _ _ _ => Or.inr trivial
    have m285 : ¬ (14 ≤ k ∧ k ≤ 22) → wY_misfit_285 post J (nI o.length) 4 (nI i) (nI k) (nI (o.headD 0)) (-1) f_width f_length f_place f_toks f_nodes f_defs a_text a_tok a_tokNum a_tokPlace a_opened a_nOp a_nNum a_nPlace a_nA a_nB a_nC a_nLo a_nHi a_nLevel a_defName a_defPlace a_defRoot a_loaded a_count a_status a_number a_origin a_choice a_slotF a_slotX a_slotHeld := by
      intro nb
      have m355 : k ≠ 24 → ¬ (k = 4 ∧ o.headD 0 = 3) → ¬ (k = 5 ∧ (o.headD 0 = 4 ∨ o.headD 0 = 6)) → ¬ (k = 27 ∧ o.headD 0 = 26) → wY_misfit_355 post J (nI o.length) 4 (nI i) (nI k) (-1) f_width f_length f_place f_toks f_nodes f_defs a_text a_tok a_tokNum a_tokPlace a_opened a_nOp a_nNum a_nPlace a_nA a_nB a_nC a_nLo a_nHi a_nLevel a_defName a_defPlace a_defRoot a_loaded a_count a_status a_number a_origin a_choice a_slotF a_slotX a_slotHeld := by
        intro n24 n4 n5 n27
        refine pk_eq k 25 (fun c => pk_eq o.length 0 (fun d => ?_) (fun d => ?_)) (fun c => ?_)
        · have eo : o = [] := List.length_eq_zero_iff.mp d
          exact mf_4 (w2 := 0) (o2 := o) hk hl (by omega) ha (Or.inr (Or.inr ⟨by omega, by omega, by omega, rfl⟩)) (fun opd ho => h1 0 o opd (by rw [ms, if_neg nb, if_neg n24, if_neg n4, if_neg n5, if_neg n27, if_pos ⟨c, eo⟩]) ho)
        · exact mf_5 hk (h0 (by rw [ms, if_neg nb, if_neg n24, if_neg n4, if_neg n5, if_neg n27, if_neg (fun q => d (by rw [q.2]; rfl))]))
        · exact mf_5 hk (h0 (by rw [ms, if_neg nb, if_neg n24, if_neg n4, if_neg n5, if_neg n27, if_neg (fun q => c q.1)]))
      have m335 : k ≠ 24 → ¬ (k = 4 ∧ o.headD 0 = 3) → ¬ (k = 5 ∧ (o.headD 0 = 4 ∨ o.headD 0 = 6)) → wY_misfit_335 post J (nI o.length) 4 (nI i) (nI k) (nI (o.headD 0)) (-1) f_width f_length f_place f_toks f_nodes f_defs a_text a_tok a_tokNum a_tokPlace a_opened a_nOp a_nNum a_nPlace a_nA a_nB a_nC a_nLo a_nHi a_nLevel a_defName a_defPlace a_defRoot a_loaded a_count a_status a_number a_origin a_choice a_slotF a_slotX a_slotHeld := by
        intro n24 n4 n5
        refine pk_eq k 27 (fun c => pk_eq (o.headD 0) 26 (fun d => ?_) (fun d => m355 n24 n4 n5 (fun q => d q.2))) (fun c => m355 n24 n4 n5 (fun q => c q.1))
        exact mf_4 (w2 := 4) (o2 := o.tail) hk hl (by omega) ha (Or.inr (Or.inl ⟨Or.inr c, hd 26 d (by decide), rfl⟩)) (fun opd ho => h1 4 o.tail opd (by rw [ms, if_neg nb, if_neg n24, if_neg n4, if_neg n5, if_pos ⟨c, d⟩]) ho)
      have m310 : k ≠ 24 → ¬ (k = 4 ∧ o.headD 0 = 3) → wY_misfit_310 post J (nI o.length) 4 (nI i) (nI k) (nI (o.headD 0)) (-1) f_width f_length f_place f_toks f_nodes f_defs a_text a_tok a_tokNum a_tokPlace a_opened a_nOp a_nNum a_nPlace a_nA a_nB a_nC a_nLo a_nHi a_nLevel a_defName a_defPlace a_defRoot a_loaded a_count a_status a_number a_origin a_choice a_slotF a_slotX a_slotHeld := by
        intro n24 n4
        have y : k = 5 → (o.headD 0 = 4 ∨ o.headD 0 = 6) → wY_misfit_329 post J (nI o.length) 4 (nI i) (nI k) f_width f_length f_place f_toks f_nodes f_defs a_text a_tok a_tokNum a_tokPlace a_opened a_nOp a_nNum a_nPlace a_nA a_nB a_nC a_nLo a_nHi a_nLevel a_defName a_defPlace a_defRoot a_loaded a_count a_status a_number a_origin a_choice a_slotF a_slotX a_slotHeld := fun c d =>
          mf_4 (w2 := 2) (o2 := o.tail) hk hl (by omega) ha (Or.inr (Or.inl ⟨Or.inl c, d.elim (fun q => hd 4 q (by decide)) (fun q => hd 6 q (by decide)), rfl⟩)) (fun opd ho => h1 2 o.tail opd (by rw [ms, if_neg nb, if_neg n24, if_neg n4, if_pos ⟨c, d⟩]) ho)
        exact pk_eq k 5 (fun c => pk_eq (o.headD 0) 4 (fun d => y c (Or.inl d)) (fun d => pk_eq (o.headD 0) 6 (fun d2 => y c (Or.inr d2)) (fun d2 => m335 n24 n4 (fun q => q.2.elim d d2)))) (fun c => m335 n24 n4 (fun q => c q.1))
      refine pk_eq k 24 (fun c => ?_) (fun n24 => pk_eq k 4 (fun c => pk_eq (o.headD 0) 3 (fun d => ?_) (fun d => m310 n24 (fun q => d q.2))) (fun c => m310 n24 (fun q => c q.1)))
      · exact mf_4 (w2 := 2) (o2 := o) hk hl (by omega) ha (Or.inr (Or.inr ⟨by omega, by omega, by omega, rfl⟩)) (fun opd ho => h1 2 o opd (by rw [ms, if_neg nb, if_pos c]) ho)
      · exact mf_4 (w2 := 2) (o2 := 4 :: o.tail) hk hl (by omega) ha (Or.inl ⟨c, hd 3 d (by decide), rfl⟩) (fun opd ho => h1 2 (4 :: o.tail) opd (by rw [ms, if_neg nb, if_neg n24, if_pos ⟨c, d⟩]) ho)
    refine br_f (by decide) (br_f (by decide) (br_f (by decide) (br_f (by decide) (br_f (by decide) (br_t rfl (pk_lt k 14 (fun c => m285 (by omega)) (fun c => pk_lt 22 k (fun d => m285 (by omega)) (fun d => ?_))))))))
    exact mf_4 (w2 := 3) (o2 := o) hk hl (by omega) ha (Or.inr (Or.inr ⟨by omega, by omega, by omega, rfl⟩)) (fun opd ho => h1 3 o opd (by rw [ms, if_pos ⟨c, d⟩]) ho)
  · refine br_f (by decide) (br_f (by decide) (br_t rfl (pk_eq k 26 (fun c => mf_p (w2 := 2) hl (by omega) (h1 2 (26 :: o) _ (by unfold ms_s; rw [if_neg (by decide), if_neg (by decide), if_pos rfl, if_pos c]) (ar_p (c := 26) ha))) (fun c => ?_))))
    exact br_f (by decide) (br_f (by decide) (br_f (by decide) (mf_n (h0 (by unfold ms_s; rw [if_neg (by decide), if_neg (by decide), if_pos rfl, if_neg c])))))
end
theorem ms_bs {w k w2 : Nat} {o o2 : List Nat} (hk : k ≤ 27) (ho : ∀ x, x ∈ o → x ≤ 27) (h : ms_s w o k = some (w2, o2)) : w2 ≤ 5 ∧ ∀ x, x ∈ o2 → x ≤ 27 := by
  have tl : ∀ x, x ∈ o.tail → x ≤ 27 := fun x hx => ho x (List.mem_of_mem_tail hx)
  unfold ms_s at h
  repeat' split at h
  all_goals simp at h
  all_goals (obtain ⟨rfl, rfl⟩ := h; refine ⟨by omega, ?_⟩)
  all_goals first
    | exact ho
    | exact tl
    | (intro x hx; rcases List.mem_cons.mp hx with q | q; exact (by omega : x ≤ 27); first | exact ho x q | exact tl x q)
theorem ms_fb {tk : Nat → Nat} {T : Nat} (hk : ∀ i, i < T → tk i ≤ 27) : ∀ i w o, i ≤ T → ms_f tk i = some (w, o) → w ≤ 5 ∧ ∀ x, x ∈ o → x ≤ 27 := by
  intro i
  induction i with
  | zero => intro w o _ h; simp [ms_f] at h; obtain ⟨rfl, rfl⟩ := h; exact ⟨by omega, fun x hx => by simp at hx⟩
  | succ i ih =>
    intro w o hi h
    obtain ⟨a, ha, hs⟩ := ou_bi h
    exact ms_bs (hk i (by omega)) (ih a.1 a.2 (by omega) ha).2 hs
theorem ms_hd {o : List Nat} (h : ∀ x, x ∈ o → x ≤ 27) : o.headD 0 ≤ 27 := by
  cases o with
  | nil => exact (by decide : 0 ≤ 27)
  | cons a r => exact h a (by simp)
section
variable {f_width f_length f_place f_toks f_nodes f_defs : Int32} {a_text a_tok a_tokNum a_tokPlace a_opened a_nOp a_nNum a_nPlace a_nA a_nB a_nC a_nLo a_nHi a_nLevel a_defName a_defPlace a_defRoot a_loaded a_count a_status : Nat → Int32} {a_number : Nat → Int64} {a_origin a_choice a_slotF a_slotX a_slotHeld : Nat → Int32} {L : Nat} {tx : Nat → Nat} {Tk : List tz_T} {post : Int32 → SY → Prop}
theorem mf_6 (hK : xp_T L tx Tk) (hTY : tx_TY Tk Tk.length a_tok a_tokNum a_tokPlace) {r : Option Nat} (hR : ms_R (tt_k Tk) Tk.length r)
    (h1 : r = none → ∀ opd, post (-1) (f_width, f_length, f_place, nI Tk.length, f_nodes, f_defs, a_text, a_tok, a_tokNum, a_tokPlace, opd, a_nOp, a_nNum, a_nPlace, a_nA, a_nB, a_nC, a_nLo, a_nHi, a_nLevel, a_defName, a_defPlace, a_defRoot, a_loaded, a_count, a_status, a_number, a_origin, a_choice, a_slotF, a_slotX, a_slotHeld))
    (h3 : ∀ i, r = some i → i ≤ Tk.length → ∀ opd, post (nI i) (f_width, f_length, f_place, nI Tk.length, f_nodes, f_defs, a_text, a_tok, a_tokNum, a_tokPlace, opd, a_nOp, a_nNum, a_nPlace, a_nA, a_nB, a_nC, a_nLo, a_nHi, a_nLevel, a_defName, a_defPlace, a_defRoot, a_loaded, a_count, a_status, a_number, a_origin, a_choice, a_slotF, a_slotX, a_slotHeld)) :
    ∀ d i w o opd, i + d = Tk.length → ms_f (tt_k Tk) i = some (w, o) → ar_L opd o → ∀ n, d < n →
      wY_misfit_6 post f_width f_length f_place (nI Tk.length) f_nodes f_defs n (nI o.length) (nI w) (nI i) a_text a_tok a_tokNum a_tokPlace opd a_nOp a_nNum a_nPlace a_nA a_nB a_nC a_nLo a_nHi a_nLevel a_defName a_defPlace a_defRoot a_loaded a_count a_status a_number a_origin a_choice a_slotF a_slotX a_slotHeld := by
  have Tl := hK.1
  have L2 := hK.2.1
  have kb : ∀ i, i < Tk.length → tt_k Tk i ≤ 27 := fun i hi => (hK.2.2 i hi).2.2.2.2
  intro d
  induction d with
  | zero =>
    intro i w o opd hi hm ha n hn
    obtain ⟨n, rfl⟩ : ∃ k, n = k + 1 := ⟨n - 1, by omega⟩
    have ei : i = Tk.length := by omega
    subst ei
    obtain ⟨w5, _⟩ := ms_fb kb _ w o (Nat.le_refl _) hm
    refine br_t (nI_le (Nat.le_refl _) (by omega)) ?_
    refine pk_eq w 0 (fun c => pk_le Tk.length 0 (fun d => ?_) (fun d => ?_)) (fun c => ?_)
    · exact h3 _ (ms_Ru hR (Or.inr (Or.inr ⟨rfl, w, o, hm, by omega⟩))) (Nat.le_refl _) _
    · subst c
      exact h1 (ms_Ru hR (Or.inl ⟨rfl, d, o, hm⟩)) _
    · exact h3 _ (ms_Ru hR (Or.inr (Or.inr ⟨rfl, w, o, hm, by omega⟩))) (Nat.le_refl _) _
  | succ d ih =>
    intro i w o opd hi hm ha n hn
    obtain ⟨n, rfl⟩ : ∃ k, n = k + 1 := ⟨n - 1, by omega⟩
    have iT : i < Tk.length := by omega
    obtain ⟨w5, ob⟩ := ms_fb kb _ w o (by omega) hm
    have ol := ms_fl i w o hm
    have msE := pa_ms hm
    have st : wY_misfit_38 post (wY_misfit_6 post f_width f_length f_place (nI Tk.length) f_nodes f_defs n) (nI o.length) (nI w) (nI i) (nI (tt_k Tk i)) (nI (o.headD 0)) f_width f_length f_place (nI Tk.length) f_nodes f_defs a_text a_tok a_tokNum a_tokPlace opd a_nOp a_nNum a_nPlace a_nA a_nB a_nC a_nLo a_nHi a_nLevel a_defName a_defPlace a_defRoot a_loaded a_count a_status a_number a_origin a_choice a_slotF a_slotX a_slotHeld := by
      refine mf_st w5 (kb i iT) (by omega) (ms_hd ob) ha (fun w2 o2 opd2 hs h2 => ?_) (fun hs => ?_)
      · exact ih (i + 1) w2 o2 opd2 (by omega) (by rw [msE, hs]) h2 n (by omega)
      · exact h3 i (ms_Ru hR (Or.inr (Or.inl ⟨i, rfl, iT, by rw [hm]; simp, by rw [msE, hs]⟩))) (by omega) _
    refine br_f (nI_ge iT (by omega)) ⟨vp_in_nI (by omega) (by decide), fun y ey => ?_⟩
    rw [nI_clamp (by omega), (hTY i iT).1] at ey
    subst ey
    refine pk_le o.length 0 (fun c => ?_) (fun c => ?_)
    · have eo : o = [] := List.length_eq_zero_iff.mp (by omega)
      subst eo
      exact st
    · cases o with
      | nil => exact absurd c (by decide)
      | cons a rr =>
        have e1 : nI (a :: rr).length - 1 = nI rr.length := nI_pred _
        rw [List.length_cons] at ol
        rw [e1]
        refine ⟨vp_in_nI (by omega) (by decide), ?_⟩
        rw [nI_clamp (by omega), ha.1]
        exact st
theorem mf_Y (hK : xp_T L tx Tk) (hTY : tx_TY Tk Tk.length a_tok a_tokNum a_tokPlace) {r : Option Nat} (hR : ms_R (tt_k Tk) Tk.length r)
    (h1 : r = none → ∀ opd, post (-1) (f_width, f_length, f_place, nI Tk.length, f_nodes, f_defs, a_text, a_tok, a_tokNum, a_tokPlace, opd, a_nOp, a_nNum, a_nPlace, a_nA, a_nB, a_nC, a_nLo, a_nHi, a_nLevel, a_defName, a_defPlace, a_defRoot, a_loaded, a_count, a_status, a_number, a_origin, a_choice, a_slotF, a_slotX, a_slotHeld))
    (h3 : ∀ i, r = some i → i ≤ Tk.length → ∀ opd, post (nI i) (f_width, f_length, f_place, nI Tk.length, f_nodes, f_defs, a_text, a_tok, a_tokNum, a_tokPlace, opd, a_nOp, a_nNum, a_nPlace, a_nA, a_nB, a_nC, a_nLo, a_nHi, a_nLevel, a_defName, a_defPlace, a_defRoot, a_loaded, a_count, a_status, a_number, a_origin, a_choice, a_slotF, a_slotX, a_slotHeld)) :
    wpY_misfit post (f_width, f_length, f_place, nI Tk.length, f_nodes, f_defs, a_text, a_tok, a_tokNum, a_tokPlace, a_opened, a_nOp, a_nNum, a_nPlace, a_nA, a_nB, a_nC, a_nLo, a_nHi, a_nLevel, a_defName, a_defPlace, a_defRoot, a_loaded, a_count, a_status, a_number, a_origin, a_choice, a_slotF, a_slotX, a_slotHeld) :=
  ⟨Tk.length + 1, mf_6 hK hTY hR h1 h3 Tk.length 0 0 [] a_opened (by omega) rfl trivial _ (Nat.lt_succ_self _)⟩
end
end
section
-- Y cuts a range, finds partners, makes parts
section
variable {f_width f_length f_place f_toks f_nodes f_defs : Int32} {a_text a_tok a_tokNum a_tokPlace a_opened a_nOp a_nNum a_nPlace a_nA a_nB a_nC a_nLo a_nHi a_nLevel a_defName a_defPlace a_defRoot a_loaded a_count a_status : Nat → Int32} {a_number : Nat → Int64} {a_origin a_choice a_slotF a_slotX a_slotHeld : Nat → Int32} {tk : Nat → Nat} {T : Nat} {post : Int32 → Prop}
theorem cu_134 {J : Int32 → Int32 → Int32 → Int32 → Prop} {x1 x2 x3 x4 x5 x6 : Int32} {k z : Nat} {b : Nat} (hk : k ≤ 27) (n24 : k ≠ 24) (hz : (z = 1 ∧ rg_en b) ∨ (z = 0 ∧ ¬ rg_en b))
    (h : wY_cut_219 post J x1 x2 x3 x4 x5 x6 (nI (if rg_w k b = 9 then 9 else rg_w k b - 1)) f_width f_length f_place f_toks f_nodes f_defs a_text a_tok a_tokNum a_tokPlace a_opened a_nOp a_nNum a_nPlace a_nA a_nB a_nC a_nLo a_nHi a_nLevel a_defName a_defPlace a_defRoot a_loaded a_count a_status a_number a_origin a_choice a_slotF a_slotX a_slotHeld) : wY_cut_134 post J x1 x2 x3 x4 x5 x6 (nI k) (nI z) f_width f_length f_place f_toks f_nodes f_defs a_text a_tok a_tokNum a_tokPlace a_opened a_nOp a_nNum a_nPlace a_nA a_nB a_nC a_nLo a_nHi a_nLevel a_defName a_defPlace a_defRoot a_loaded a_count a_status a_number a_origin a_choice a_slotF a_slotX a_slotHeld := by
  have lit : ∀ n, (if rg_w k b = 9 then 9 else rg_w k b - 1) = n → wY_cut_219 post J x1 x2 x3 x4 x5 x6 (nI n) f_width f_length f_place f_toks f_nodes f_defs a_text a_tok a_tokNum a_tokPlace a_opened a_nOp a_nNum a_nPlace a_nA a_nB a_nC a_nLo a_nHi a_nLevel a_defName a_defPlace a_defRoot a_loaded a_count a_status a_number a_origin a_choice a_slotF a_slotX a_slotHeld := fun n e => e ▸ h
  have w199 : ¬ (k = 22 ∨ k = 21 ∨ k = 19 ∨ k = 20 ∨ k = 14 ∨ (k = 15 ∧ rg_en b)) → wY_cut_199 post J x1 x2 x3 x4 x5 x6 (nI k) f_width f_length f_place f_toks f_nodes f_defs a_text a_tok a_tokNum a_tokPlace a_opened a_nOp a_nNum a_nPlace a_nA a_nB a_nC a_nLo a_nHi a_nLevel a_defName a_defPlace a_defRoot a_loaded a_count a_status a_number a_origin a_choice a_slotF a_slotX a_slotHeld := by
    intro n
    have w9 : ¬ (16 ≤ k ∧ k ≤ 18) → wY_cut_217 post J x1 x2 x3 x4 x5 x6 f_width f_length f_place f_toks f_nodes f_defs a_text a_tok a_tokNum a_tokPlace a_opened a_nOp a_nNum a_nPlace a_nA a_nB a_nC a_nLo a_nHi a_nLevel a_defName a_defPlace a_defRoot a_loaded a_count a_status a_number a_origin a_choice a_slotF a_slotX a_slotHeld := fun n2 => lit 9 (by
      have : rg_w k b = 9 := by
        unfold rg_w
        rw [if_neg (by omega), if_neg (by omega), if_neg (by omega), if_neg (by omega), if_neg (by omega), if_neg n2]
      rw [if_pos this])
    refine pk_lt k 16 (fun c => w9 (by omega)) (fun c => pk_lt 18 k (fun d => w9 (by omega)) (fun d => lit 5 ?_))
    have : rg_w k b = 6 := by
      unfold rg_w
      rw [if_neg (by omega), if_neg (by omega), if_neg (by omega), if_neg (by omega), if_neg (by omega), if_pos (by omega)]
    rw [this]; rfl
  refine pk_eq k 22 (fun c => lit 1 (by rw [c]; rfl)) (fun c1 => pk_eq k 21 (fun c => lit 2 (by rw [c]; rfl)) (fun c2 => pk_eq k 19 (fun c => lit 3 (by rw [c]; rfl)) (fun c3 => pk_eq k 20 (fun c => lit 3 (by rw [c]; rfl)) (fun c4 => pk_eq k 14 (fun c => lit 4 (by rw [c]; rfl)) (fun c5 => pk_eq k 15 (fun c => pk_eq z 0 (fun d => w199 (by omega)) (fun d => lit 4 ?_)) (fun c => w199 (by omega)))))))
  have : rg_w k b = 5 := by
    unfold rg_w
    rw [if_neg (by omega), if_neg (by omega), if_neg (by omega), if_neg (by omega), if_pos (by omega)]
  rw [this]; rfl
theorem cu_Y (hT : T ≤ 200) (ht : ∀ i, i < T → a_tok i = nI (tk i)) (hk : ∀ i, i < T → tk i ≤ 27) {lo hi p W : Nat} (hC : rg_C tk lo hi p W) (hhi : hi ≤ T) (h : post (nI p)) : wpY_cut post (f_width, f_length, f_place, f_toks, f_nodes, f_defs, a_text, a_tok, a_tokNum, a_tokPlace, a_opened, a_nOp, a_nNum, a_nPlace, a_nA, a_nB, a_nC, a_nLo, a_nHi, a_nLevel, a_defName, a_defPlace, a_defRoot, a_loaded, a_count, a_status, a_number, a_origin, a_choice, a_slotF, a_slotX, a_slotHeld) (nI lo) (nI hi) := by
  obtain ⟨c1, c2, c3, c4, c5, c6, c7⟩ := hC
  have W9 : W ≤ 9 ∧ 1 ≤ W := by
    by_cases q : p = lo
    · have := c4 q; omega
    · have := c5 q; omega
  have key : ∀ d i x3 x4 dp, i + d = hi → lo ≤ i → ((dp : Nat) : Int) = rg_D tk i - rg_D tk lo → dp ≤ i →
      (p < i → W ≠ 1 ∧ x3 = nI p ∧ x4 = nI (if p = lo then 9 else W - 1)) → (i ≤ p → (p = lo → x3 = nI lo) ∧ ∃ wk, x4 = nI wk ∧ (wk = 9 ∨ (wk ≤ 5 ∧ W ≤ wk + 1))) →
      ∀ n, d < n → wY_cut_12 post (nI lo) (nI hi) f_width f_length f_place f_toks f_nodes f_defs a_text a_tok a_tokNum a_tokPlace a_opened a_nOp a_nNum a_nPlace a_nA a_nB a_nC a_nLo a_nHi a_nLevel a_defName a_defPlace a_defRoot a_loaded a_count a_status a_number a_origin a_choice a_slotF a_slotX a_slotHeld n x3 x4 (nI dp) (nI i) := by
    intro d
    induction d with
    | zero =>
      intro i x3 x4 dp hi2 hl hdp hdi hA hB n hn
      obtain ⟨n, rfl⟩ : ∃ m, n = m + 1 := ⟨n - 1, by omega⟩
      obtain ⟨_, e3, _⟩ := hA (by omega)
      refine br_t (nI_le (by omega) (by omega)) ?_
      rw [e3]; exact h
    | succ d ih =>
      intro i x3 x4 dp hi2 hl hdp hdi hA hB n hn
      obtain ⟨n, rfl⟩ : ∃ m, n = m + 1 := ⟨n - 1, by omega⟩
      have iT : i < T := by omega
      have k27 := hk i iT
      have pos := c3 (i + 1) (by omega) (by omega)
      refine br_f (nI_ge (by omega) (by omega)) ⟨vp_in_nI (by omega) (by decide), fun y ey => ?_⟩
      rw [nI_clamp (by omega), ht i iT] at ey
      subst ey
      -- going on with the same best
      have keep : ∀ dq : Nat, ((dq : Nat) : Int) = rg_D tk (i + 1) - rg_D tk lo → dq ≤ i + 1 → (rg_z tk lo i → lo < i → p < i ∨ (i < p) ) →
          ∀ y, y = nI i + 1 → wY_cut_12 post (nI lo) (nI hi) f_width f_length f_place f_toks f_nodes f_defs a_text a_tok a_tokNum a_tokPlace a_opened a_nOp a_nNum a_nPlace a_nA a_nB a_nC a_nLo a_nHi a_nLevel a_defName a_defPlace a_defRoot a_loaded a_count a_status a_number a_origin a_choice a_slotF a_slotX a_slotHeld n x3 x4 (nI dq) y := by
        intro dq hdq hdl hz y ey
        rw [ey, nI_1]
        refine ih (i + 1) x3 x4 dq (by omega) (by omega) hdq hdl (fun q => ?_) (fun q => hB (by omega)) n (by omega)
        by_cases e : i = p
        · by_cases e2 : p = lo
          · obtain ⟨a, wk, b, c⟩ := hB (by omega)
            have := c4 e2
            refine ⟨by omega, (a e2).trans (by rw [e2]), ?_⟩
            rw [if_pos e2, b]
            rcases c with c | c
            · rw [c]
            · omega
          · exfalso
            obtain ⟨z1, _⟩ := c5 e2
            have := hz (e ▸ z1) (by omega)
            omega
        · exact hA (by omega)
      have m47 : ∀ dq : Nat, ((dq : Nat) : Int) = rg_D tk (i + 1) - rg_D tk lo → dq ≤ i + 1 → wY_cut_47 post (wY_cut_12 post (nI lo) (nI hi) f_width f_length f_place f_toks f_nodes f_defs a_text a_tok a_tokNum a_tokPlace a_opened a_nOp a_nNum a_nPlace a_nA a_nB a_nC a_nLo a_nHi a_nLevel a_defName a_defPlace a_defRoot a_loaded a_count a_status a_number a_origin a_choice a_slotF a_slotX a_slotHeld n) (nI lo) (nI hi) x3 x4 (nI dq) (nI i) (nI (tk i)) f_width f_length f_place f_toks f_nodes f_defs a_text a_tok a_tokNum a_tokPlace a_opened a_nOp a_nNum a_nPlace a_nA a_nB a_nC a_nLo a_nHi a_nLevel a_defName a_defPlace a_defRoot a_loaded a_count a_status a_number a_origin a_choice a_slotF a_slotX a_slotHeld := by
        intro dq hdq hdl
        refine pk_lt 0 dq (fun c => keep dq hdq hdl (fun z => ?_)) (fun c => pk_eq (tk i) 27 (fun c => keep dq hdq hdl (fun z => absurd c z.2)) (fun n27 => pk_eq i lo (fun c => keep dq hdq hdl (fun _ q => by omega)) (fun nlo => ?_)))
        · have := z.1; omega
        · have z : rg_z tk lo i := ⟨by omega, n27⟩
          have ilo : lo < i := by omega
          refine pk_eq (tk i) 24 (fun c => ?_) (fun n24 => ?_)
          · have w1 : rg_w (tk i) (tk (i - 1)) = 1 := by rw [c]; rfl
            have ip : i = p := by
              rcases Nat.lt_trichotomy i p with q | q | q
              · exact absurd w1 (c6 i ilo q z).2
              · exact q
              · exact absurd w1 (c7 i q (by omega) z (hA q).1).2
            rw [ip]; exact h
          · have e1 : nI i - 1 = nI (i - 1) := pk_sub (b := 1) (by omega)
            rw [e1]
            refine ⟨vp_in_nI (by omega) (by decide), fun b eb => ?_⟩
            rw [nI_clamp (by omega), ht (i - 1) (by omega)] at eb
            subst eb
            have b27 := hk (i - 1) (by omega)
            have go : wY_cut_219 post (wY_cut_12 post (nI lo) (nI hi) f_width f_length f_place f_toks f_nodes f_defs a_text a_tok a_tokNum a_tokPlace a_opened a_nOp a_nNum a_nPlace a_nA a_nB a_nC a_nLo a_nHi a_nLevel a_defName a_defPlace a_defRoot a_loaded a_count a_status a_number a_origin a_choice a_slotF a_slotX a_slotHeld n) (nI lo) (nI hi) x3 x4 (nI dq) (nI i) (nI (if rg_w (tk i) (tk (i - 1)) = 9 then 9 else rg_w (tk i) (tk (i - 1)) - 1)) f_width f_length f_place f_toks f_nodes f_defs a_text a_tok a_tokNum a_tokPlace a_opened a_nOp a_nNum a_nPlace a_nA a_nB a_nC a_nLo a_nHi a_nLevel a_defName a_defPlace a_defRoot a_loaded a_count a_status a_number a_origin a_choice a_slotF a_slotX a_slotHeld := by
              have wr : rg_w (tk i) (tk (i - 1)) = 9 ∨ (2 ≤ rg_w (tk i) (tk (i - 1)) ∧ rg_w (tk i) (tk (i - 1)) ≤ 6) := by
                unfold rg_w
                rw [if_neg n24]
                repeat' split
                all_goals omega
              rcases wr with w9 | wr
              · rw [if_pos w9]
                refine br_t (by decide) (keep dq hdq hdl (fun _ _ => ?_))
                have : i ≠ p := fun q => by
                  have := c5 (by omega)
                  rw [← q] at this
                  omega
                omega
              · rw [if_neg (by omega)]
                refine br_f (nI_ge (b := 9) (by omega) (by omega)) ?_
                rcases Nat.lt_trichotomy i p with q | q | q
                · obtain ⟨a, wk, b, c⟩ := hB (by omega)
                  have v := c6 i ilo q z
                  rw [b]
                  refine pk_lt wk (rg_w (tk i) (tk (i - 1)) - 1) (fun _ => b ▸ keep dq hdq hdl (fun _ _ => Or.inr q)) (fun _ y ey => ?_)
                  rw [ey, nI_1]
                  exact ih (i + 1) _ _ dq (by omega) (by omega) hdq hdl (fun q2 => by omega) (fun _ => ⟨fun q2 => by omega, _, rfl, Or.inr ⟨by omega, by omega⟩⟩) n (by omega)
                · obtain ⟨a, wk, b, c⟩ := hB (by omega)
                  have v := c5 (by omega)
                  rw [← q] at v
                  rw [b]
                  refine pk_lt wk (rg_w (tk i) (tk (i - 1)) - 1) (fun c2 => ?_) (fun _ y ey => ?_)
                  · omega
                  · rw [ey, nI_1]
                    exact ih (i + 1) _ _ dq (by omega) (by omega) hdq hdl (fun q2 => ⟨by omega, by rw [q], by rw [if_neg (by omega), v.2.1]⟩) (fun q2 => by omega) n (by omega)
                · obtain ⟨a1, a2, a3⟩ := hA q
                  have v := c7 i q (by omega) z a1
                  have np : p ≠ lo := fun q2 => by have := c4 q2; omega
                  rw [if_neg np] at a3
                  rw [a3]
                  refine pk_lt (W - 1) (rg_w (tk i) (tk (i - 1)) - 1) (fun _ => a3 ▸ keep dq hdq hdl (fun _ _ => Or.inl q)) (fun c2 => ?_)
                  omega
            have e129 : rg_en (tk (i - 1)) → wY_cut_129 post (wY_cut_12 post (nI lo) (nI hi) f_width f_length f_place f_toks f_nodes f_defs a_text a_tok a_tokNum a_tokPlace a_opened a_nOp a_nNum a_nPlace a_nA a_nB a_nC a_nLo a_nHi a_nLevel a_defName a_defPlace a_defRoot a_loaded a_count a_status a_number a_origin a_choice a_slotF a_slotX a_slotHeld n) (nI lo) (nI hi) x3 x4 (nI dq) (nI i) (nI (tk i)) f_width f_length f_place f_toks f_nodes f_defs a_text a_tok a_tokNum a_tokPlace a_opened a_nOp a_nNum a_nPlace a_nA a_nB a_nC a_nLo a_nHi a_nLevel a_defName a_defPlace a_defRoot a_loaded a_count a_status a_number a_origin a_choice a_slotF a_slotX a_slotHeld := fun en => cu_134 (z := 1) k27 n24 (Or.inl ⟨rfl, en⟩) go
            refine pk_eq (tk (i - 1)) 27 (fun c => e129 (by omega)) (fun c1 => pk_eq (tk (i - 1)) 1 (fun c => e129 (by omega)) (fun c2 => pk_eq (tk (i - 1)) 2 (fun c => e129 (by omega)) (fun c3 => pk_eq (tk (i - 1)) 10 (fun c => e129 (by omega)) (fun c4 => pk_eq (tk (i - 1)) 11 (fun c => e129 (by omega)) (fun c5 => pk_eq (tk (i - 1)) 12 (fun c => e129 (by omega)) (fun c6 => ?_))))))
            exact cu_134 (z := 0) k27 n24 (Or.inr ⟨rfl, by omega⟩) go
      refine pk_eq (tk i) 26 (fun c => fun y ey => ?_) (fun n26 => ?_)
      · have hd := rg_D_o c
        rw [nI_1] at ey
        subst ey
        exact br_f (fun q => by have := (nI_eq (b := 27) (by omega) (by decide)).mp q; omega) (m47 (dp + 1) (by omega) (by omega))
      · refine pk_eq (tk i) 27 (fun c => fun y ey => ?_) (fun n27 => ?_)
        · have hd := rg_D_c c
          obtain ⟨dq, rfl⟩ : ∃ dq, dp = dq + 1 := ⟨dp - 1, by omega⟩
          rw [pk_m1] at ey
          subst ey
          exact m47 dq (by omega) (by omega)
        · have hd := rg_D_n n26 n27
          exact m47 dp (by omega) (by omega)
  exact ⟨_, key (hi - lo) lo (nI lo) 9 0 (by omega) (Nat.le_refl _) (by omega) (by omega) (fun q => by omega) (fun _ => ⟨fun _ => rfl, 9, rfl, Or.inl rfl⟩) _ (Nat.lt_succ_self _)⟩
theorem pt_Y {T : Nat} (hT : T ≤ 200) (ht : ∀ i, i < T → a_tok i = nI (tk i)) (hk : ∀ i, i < T → tk i ≤ 27) {what i q : Nat} (hw : what = 4 ∨ what = 5) {C : Nat → Int}
    (hs : ∀ k, C (k + 1) = C k + (if tk k = what then -1 else if tk k = 3 ∨ (tk k = 6 ∧ what = 5) then 1 else 0)) (hN : rg_N C (i + 1) q) (hq : tk q = what) (hiq : i < q) (hqT : q < T) (h : post (nI q)) :
    wpY_partner post (f_width, f_length, f_place, nI T, f_nodes, f_defs, a_text, a_tok, a_tokNum, a_tokPlace, a_opened, a_nOp, a_nNum, a_nPlace, a_nA, a_nB, a_nC, a_nLo, a_nHi, a_nLevel, a_defName, a_defPlace, a_defRoot, a_loaded, a_count, a_status, a_number, a_origin, a_choice, a_slotF, a_slotX, a_slotHeld) (nI i) (nI what) := by
  have key : ∀ d k op, k + d = q → i + 1 ≤ k → ((op : Nat) : Int) = C k - C (i + 1) → op ≤ k → ∀ n, d < n → wY_partner_7 post (nI what) f_width f_length f_place (nI T) f_nodes f_defs a_text a_tok a_tokNum a_tokPlace a_opened a_nOp a_nNum a_nPlace a_nA a_nB a_nC a_nLo a_nHi a_nLevel a_defName a_defPlace a_defRoot a_loaded a_count a_status a_number a_origin a_choice a_slotF a_slotX a_slotHeld n (nI op) (nI k) := by
    intro d
    induction d with
    | zero =>
      intro k op hkq hik hop hopk n hn
      obtain ⟨n, rfl⟩ : ∃ m, n = m + 1 := ⟨n - 1, by omega⟩
      have ek : k = q := by omega
      subst ek
      refine br_f (nI_ge hqT (by omega)) ⟨vp_in_nI (by omega) (by decide), fun y ey => ?_⟩
      rw [nI_clamp (by omega), ht k hqT, hq] at ey
      have o0 : op = 0 := by have := hN.1; omega
      subst ey o0
      exact br_t rfl (br_t rfl h)
    | succ d ih =>
      intro k op hkq hik hop hopk n hn
      obtain ⟨n, rfl⟩ : ∃ m, n = m + 1 := ⟨n - 1, by omega⟩
      have kT : k < T := by omega
      have k27 := hk k kT
      have st := hs k
      have ge := hN.2 (k + 1) (by omega) (by omega)
      refine br_f (nI_ge kT (by omega)) ⟨vp_in_nI (by omega) (by decide), fun y ey => ?_⟩
      rw [nI_clamp (by omega), ht k kT] at ey
      subst ey
      have nxt : ∀ o2 : Nat, ((o2 : Nat) : Int) = C (k + 1) - C (i + 1) → o2 ≤ k + 1 → ∀ y, y = nI k + 1 → wY_partner_7 post (nI what) f_width f_length f_place (nI T) f_nodes f_defs a_text a_tok a_tokNum a_tokPlace a_opened a_nOp a_nNum a_nPlace a_nA a_nB a_nC a_nLo a_nHi a_nLevel a_defName a_defPlace a_defRoot a_loaded a_count a_status a_number a_origin a_choice a_slotF a_slotX a_slotHeld n (nI o2) y := by
        intro o2 h1 h2 y ey
        rw [ey, nI_1]
        exact ih (k + 1) o2 (by omega) (by omega) h1 h2 n (by omega)
      refine pk_eq (tk k) what (fun c => pk_eq op 0 (fun o0 => ?_) (fun on => ?_)) (fun c => ?_)
      · rw [if_pos c] at st
        omega
      · rw [if_pos c] at st
        obtain ⟨o2, rfl⟩ : ∃ o2, op = o2 + 1 := ⟨op - 1, by omega⟩
        refine br_t (by rw [c]) (fun y ey => ?_)
        rw [pk_m1] at ey
        subst ey
        refine br_f (fun q => by have := (nI_eq (b := 3) (by omega) (by decide)).mp q; omega) (br_f (fun q => by have := (nI_eq (b := 6) (by omega) (by decide)).mp q; omega) (nxt o2 (by omega) (by omega)))
      · rw [if_neg c] at st
        refine br_f (fun q => c ((nI_eq (by omega) (by omega)).mp q)) ?_
        refine pk_eq (tk k) 3 (fun c3 => fun y ey => ?_) (fun n3 => pk_eq (tk k) 6 (fun c6 => pk_eq what 5 (fun w5 => fun y ey => ?_) (fun w5 => ?_)) (fun n6 => ?_))
        · rw [if_pos (by omega)] at st
          rw [nI_1] at ey
          subst ey
          exact nxt (op + 1) (by omega) (by omega)
        · rw [if_pos (by omega)] at st
          rw [nI_1] at ey
          subst ey
          exact nxt (op + 1) (by omega) (by omega)
        · rw [if_neg (by omega)] at st
          exact nxt op (by omega) (by omega)
        · rw [if_neg (by omega)] at st
          exact nxt op (by omega) (by omega)
  intro y ey
  rw [nI_1] at ey
  subst ey
  exact ⟨_, key (q - (i + 1)) (i + 1) 0 (by omega) (Nat.le_refl _) (by omega) (by omega) _ (Nat.lt_succ_self _)⟩
theorem pt_T (k : Nat) : rg_T tk (k + 1) = rg_T tk k + (if tk k = 4 then -1 else if tk k = 3 ∨ (tk k = 6 ∧ 4 = 5) then 1 else 0) := by
  by_cases c : tk k = 4
  · rw [rg_T_c c, if_pos c]; rfl
  · rw [if_neg c]
    by_cases d : tk k = 3
    · rw [rg_T_o d, if_pos (Or.inl d)]
    · rw [rg_T_n d c, if_neg (by omega), Int.add_zero]
theorem pt_E (k : Nat) : rg_E tk (k + 1) = rg_E tk k + (if tk k = 5 then -1 else if tk k = 3 ∨ (tk k = 6 ∧ 5 = 5) then 1 else 0) := by
  by_cases c : tk k = 5
  · rw [rg_E_c c, if_pos c]; rfl
  · rw [if_neg c]
    by_cases d : tk k = 3 ∨ tk k = 6
    · rw [rg_E_o d, if_pos (by omega)]
    · rw [rg_E_n (by omega) (by omega) c, if_neg (by omega), Int.add_zero]
theorem pr_Y {N : Nat} (hN : N < 320) {p0 p1 p2 : Int32} {post : Int32 → SY → Prop} (h : post (nI N) (f_width, f_length, f_place, f_toks, nI (N + 1), f_defs, a_text, a_tok, a_tokNum, a_tokPlace, a_opened, a_nOp, a_nNum, a_nPlace, a_nA, a_nB, a_nC, upd a_nLo N p0, upd a_nHi N p1, upd a_nLevel N p2, a_defName, a_defPlace, a_defRoot, a_loaded, a_count, a_status, a_number, a_origin, a_choice, a_slotF, a_slotX, a_slotHeld)) : wpY_part post (f_width, f_length, f_place, f_toks, nI N, f_defs, a_text, a_tok, a_tokNum, a_tokPlace, a_opened, a_nOp, a_nNum, a_nPlace, a_nA, a_nB, a_nC, a_nLo, a_nHi, a_nLevel, a_defName, a_defPlace, a_defRoot, a_loaded, a_count, a_status, a_number, a_origin, a_choice, a_slotF, a_slotX, a_slotHeld) p0 p1 p2 := by
  have hin := vp_in_nI (n := N) (N := 320) hN (by decide)
  refine ⟨hin, fun A eA => ⟨hin, fun B eB => ⟨hin, fun C eC D eD => ?_⟩⟩⟩
  rw [nI_clamp (by omega)] at eA eB eC
  rw [nI_1] at eD
  subst eA eB eC eD
  exact h
end
end
section
-- Y splits a node
def sp_c (o n : Nat → Int32) (k : Nat) (x : Int32) : Prop := (∀ i, i ≠ k → n i = o i) ∧ n k = x
def sp_p (o n : Nat → Int32) (k : Nat) (c : Prop) (x : Int32) : Prop := (∀ i, i ≠ k → n i = o i) ∧ (c → n k = x)
def sp_R (tk tn tp : Nat → Nat) (Q : Nat → Nat → Nat) (T u k N lv : Nat) (op on ol oA oB oC oLo oHi oLv nop nnm npl nA nB nC nLo nHi nLv : Nat → Int32) : Prop :=
  sp_c op nop k (nI (Q 0 u)) ∧ sp_c on nnm k (nI (tn (Q 9 u))) ∧ sp_c ol npl k (nI (tp (Q 9 u))) ∧
  sp_p oA nA k (0 < pg_n (Q 0 u)) (nI N) ∧ sp_p oB nB k (1 < pg_n (Q 0 u)) (nI (N + 1)) ∧ sp_p oC nC k (2 < pg_n (Q 0 u)) (nI (N + 2)) ∧
  (∀ i, i < N → nLo i = oLo i ∧ nHi i = oHi i ∧ nLv i = oLv i) ∧
  (∀ j, j < pg_n (Q 0 u) → ∃ l h, nLo (N + j) = nI l ∧ nHi (N + j) = nI h ∧ nLv (N + j) = nI lv ∧ nd_W tk Q l h (Q (2 + j) u) ∧ h ≤ T)
theorem sp_u {o : Nat → Int32} {k : Nat} {x : Int32} : sp_c o (upd o k x) k x := ⟨fun _ h => pk_un h, pk_us⟩
theorem sp_uu {o : Nat → Int32} {k : Nat} {x y : Int32} : sp_c o (upd (upd o k y) k x) k x := ⟨fun _ h => (pk_un h).trans (pk_un h), pk_us⟩
theorem sp_v {o : Nat → Int32} {k : Nat} {c : Prop} {x : Int32} : sp_p o (upd o k x) k c x := ⟨fun _ h => pk_un h, fun _ => pk_us⟩
theorem sp_n {o : Nat → Int32} {k : Nat} {c : Prop} {x : Int32} (h : ¬ c) : sp_p o o k c x := ⟨fun _ _ => rfl, fun q => absurd q h⟩
section
variable {f_width f_length f_place f_toks f_nodes f_defs : Int32} {a_text a_tok a_tokNum a_tokPlace a_opened a_nOp a_nNum a_nPlace a_nA a_nB a_nC a_nLo a_nHi a_nLevel a_defName a_defPlace a_defRoot a_loaded a_count a_status : Nat → Int32} {a_number : Nat → Int64} {a_origin a_choice a_slotF a_slotX a_slotHeld : Nat → Int32} {tk tn tp : Nat → Nat} {T : Nat} {Q : Nat → Nat → Nat} {u k N lv : Nat} {post : SY → Prop}
theorem sp_119 (hT : T ≤ 200) (ht : ∀ i, i < T → a_tok i = nI (tk i) ∧ a_tokNum i = nI (tn i) ∧ a_tokPlace i = nI (tp i)) (hk : ∀ i, i < T → tk i ≤ 27) (hkN : k < N) (hN : N + pg_n (Q 0 u) ≤ 320)
    (hok : nd_k tk Q (Q 0 u) (Q 7 u) (Q 8 u) (Q 9 u) (Q 2 u) (Q 3 u) (Q 4 u)) (hh : Q 8 u ≤ T)
    (hp : ∀ nop nnm npl nA nB nC nLo nHi nLv, sp_R tk tn tp Q T u k N lv a_nOp a_nNum a_nPlace a_nA a_nB a_nC a_nLo a_nHi a_nLevel nop nnm npl nA nB nC nLo nHi nLv → post (f_width, f_length, f_place, nI T, nI (N + pg_n (Q 0 u)), f_defs, a_text, a_tok, a_tokNum, a_tokPlace, a_opened, nop, nnm, npl, nA, nB, nC, nLo, nHi, nLv, a_defName, a_defPlace, a_defRoot, a_loaded, a_count, a_status, a_number, a_origin, a_choice, a_slotF, a_slotX, a_slotHeld)) :
    wY_split_119 post (nI k) (nI (Q 7 u)) (nI (Q 8 u)) (nI lv) (nI (Q 9 u)) f_width f_length f_place (nI T) (nI N) f_defs a_text a_tok a_tokNum a_tokPlace a_opened a_nOp a_nNum a_nPlace a_nA a_nB a_nC a_nLo a_nHi a_nLevel a_defName a_defPlace a_defRoot a_loaded a_count a_status a_number a_origin a_choice a_slotF a_slotX a_slotHeld := by
  have hin : vp_in (nI k) 320 := vp_in_nI (by omega) (by decide)
  have pl : Q 9 u < Q 8 u := by
    rcases hok with g | ⟨g1, g2, g3, g4, _⟩ | ⟨g1, g2, g3, _⟩ | ⟨g1, g2, g3, g4, g5, _⟩ | ⟨g1, g2, g3, p1, p2, g4, g5, g6, _⟩ | ⟨g1, g2, g3, p2, g4, g5, _⟩
    · omega
    · omega
    · have := g3.2.1; omega
    · omega
    · omega
    · omega
  have pT : Q 9 u < T := by omega
  have k27 := hk _ pT
  have hin2 : vp_in (nI (Q 9 u)) 200 := vp_in_nI (by omega) (by decide)
  have lit : ∀ {a b : Nat}, a ≤ 27 → b ≤ 27 → a ≠ b → ¬ nI a = nI b := fun h1 h2 h3 q => h3 ((nI_eq (by omega) (by omega)).mp q)
  refine ⟨hin2, fun t et => ⟨hin, fun A eA => ⟨hin2, hin, fun B eB => ⟨hin2, hin, fun C eC => ?_⟩⟩⟩⟩
  rw [nI_clamp (by omega), (ht _ pT).1] at et
  rw [nI_clamp (by omega)] at eA
  rw [nI_clamp (n := k) (by omega), nI_clamp (n := Q 9 u) (by omega), (ht _ pT).2.1] at eB
  rw [nI_clamp (n := k) (by omega), nI_clamp (n := Q 9 u) (by omega), (ht _ pT).2.2] at eC
  subst et eA eB eC
  rcases hok with g | ⟨g1, g2, g3, g4, g5, g6, g7, g8, g9⟩ | ⟨g1, g2, g3, g4⟩ | ⟨g1, g2, g3, g4, g5, g5a, g5b, g6⟩ | ⟨g1, g2, g3, p1, p2, g4, g5, g6, g7, g8, g9, g10, g11, g12, g13⟩ | ⟨g1, g2, g3, p2, g4, g5, g6, g7, g8, g9⟩
  · -- a leaf
    obtain ⟨g1, g2, g3, g4⟩ := g
    have n0 := nd_n0 g1
    rw [n0] at hN
    have fin := hp (upd a_nOp k (nI (tk (Q 9 u)))) (upd a_nNum k (nI (tn (Q 9 u)))) (upd a_nPlace k (nI (tp (Q 9 u)))) a_nA a_nB a_nC a_nLo a_nHi a_nLevel
      ⟨by rw [← g2]; exact sp_u, sp_u, sp_u, sp_n (by omega), sp_n (by omega), sp_n (by omega), fun i _ => ⟨rfl, rfl, rfl⟩, fun j hj => by omega⟩
    rw [n0, Nat.add_zero] at fin
    rw [g2] at k27
    refine br_t (nI_le (by omega) (by omega)) ?_
    rw [g2] at fin ⊢
    exact br_f (lit (b := 3) k27 (by decide) (by omega)) (br_f (lit (b := 6) k27 (by decide) (by omega)) (br_f (lit (b := 15) k27 (by decide) (by omega)) (br_f (lit (b := 23) k27 (by decide) (by omega)) (br_f (lit (b := 13) k27 (by decide) (by omega)) (br_f (lit (b := 7) k27 (by decide) (by omega)) (br_f (lit (b := 8) k27 (by decide) (by omega)) (br_f (lit (b := 9) k27 (by decide) (by omega)) fin)))))))
  · -- two sides
    have n2 := nd_n2 (t := Q 0 u) (by omega)
    rw [n2] at hN
    refine br_f (nI_ge g3 (by omega)) ?_
    refine pr_Y (N := N) (by omega) ⟨hin, fun A eA => ?_⟩
    rw [nI_clamp (by omega)] at eA
    subst eA
    rw [nI_1]
    refine pr_Y (N := N + 1) (by omega) ⟨hin, fun A eA => ?_⟩
    rw [nI_clamp (by omega)] at eA
    subst eA
    have fin := hp (upd a_nOp k (nI (tk (Q 9 u)))) (upd a_nNum k (nI (tn (Q 9 u)))) (upd a_nPlace k (nI (tp (Q 9 u)))) (upd a_nA k (nI N)) (upd a_nB k (nI (N + 1))) a_nC
      (upd (upd a_nLo N (nI (Q 7 u))) (N + 1) (nI (Q 9 u + 1))) (upd (upd a_nHi N (nI (Q 9 u))) (N + 1) (nI (Q 8 u))) (upd (upd a_nLevel N (nI lv)) (N + 1) (nI lv))
      ⟨by rw [← g2]; exact sp_u, sp_u, sp_u, sp_v, sp_v, sp_n (by omega), fun i hi => ⟨by rw [pk_un (by omega), pk_un (by omega)], by rw [pk_un (by omega), pk_un (by omega)], by rw [pk_un (by omega), pk_un (by omega)]⟩, fun j hj => ?_⟩
    · rw [n2] at fin; exact fin
    · have : j = 0 ∨ j = 1 := by omega
      rcases this with q | q <;> subst q
      · exact ⟨Q 7 u, Q 9 u, by rw [pk_un (by omega)]; exact pk_us, by rw [pk_un (by omega)]; exact pk_us, by rw [pk_un (by omega)]; exact pk_us, g8, by omega⟩
      · exact ⟨Q 9 u + 1, Q 8 u, pk_us, pk_us, pk_us, g9, hh⟩
  · -- a sign
    have n1 := nd_n1 (t := Q 0 u) (by omega)
    rw [n1] at hN
    refine br_t (nI_le (by omega) (by omega)) ?_
    have go : ∀ c : Nat, c = Q 0 u → wY_split_366 post (nI k) (nI (Q 7 u)) (nI (Q 8 u)) (nI lv) (nI c) (nI k) f_width f_length f_place (nI T) (nI N) f_defs a_text a_tok a_tokNum a_tokPlace a_opened (upd a_nOp k (nI (tk (Q 9 u)))) (upd a_nNum k (nI (tn (Q 9 u)))) (upd a_nPlace k (nI (tp (Q 9 u)))) a_nA a_nB a_nC a_nLo a_nHi a_nLevel a_defName a_defPlace a_defRoot a_loaded a_count a_status a_number a_origin a_choice a_slotF a_slotX a_slotHeld := by
      intro c ec
      refine ⟨hin, fun A eA => ?_⟩
      rw [nI_clamp (by omega), ec] at eA
      subst eA
      rw [nI_1]
      refine pr_Y (N := N) (by omega) ⟨hin, fun A eA => ?_⟩
      rw [nI_clamp (by omega)] at eA
      subst eA
      have fin := hp _ (upd a_nNum k (nI (tn (Q 9 u)))) (upd a_nPlace k (nI (tp (Q 9 u)))) (upd a_nA k (nI N)) a_nB a_nC (upd a_nLo N (nI (Q 7 u + 1))) (upd a_nHi N (nI (Q 8 u))) (upd a_nLevel N (nI lv))
        ⟨sp_uu (y := nI (tk (Q 9 u))), sp_u, sp_u, sp_v, sp_n (by omega), sp_n (by omega), fun i hi => ⟨pk_un (by omega), pk_un (by omega), pk_un (by omega)⟩, fun j hj => ?_⟩
      · rw [n1] at fin; exact fin
      · have : j = 0 := by omega
        subst this
        exact ⟨Q 7 u + 1, Q 8 u, pk_us, pk_us, pk_us, g4, hh⟩
    rcases g1 with ⟨q1, q2⟩ | ⟨q1, q2⟩
    · rw [q2] at go ⊢
      exact br_f (by decide) (br_f (by decide) (br_t rfl (br_t rfl (go 28 q1.symm))))
    · rw [q2] at go ⊢
      exact br_f (by decide) (br_f (by decide) (br_f (by decide) (br_t rfl (br_f (by decide) (go 23 q1.symm)))))
  · -- hd, tl, nul, a call
    have n1 := nd_n1 (t := Q 0 u) (by omega)
    rw [n1] at hN
    refine br_t (nI_le (by omega) (by omega)) ?_
    have go : wY_split_414 post (nI k) (nI (Q 7 u)) (nI (Q 8 u)) (nI lv) f_width f_length f_place (nI T) (nI N) f_defs a_text a_tok a_tokNum a_tokPlace a_opened (upd a_nOp k (nI (tk (Q 9 u)))) (upd a_nNum k (nI (tn (Q 9 u)))) (upd a_nPlace k (nI (tp (Q 9 u)))) a_nA a_nB a_nC a_nLo a_nHi a_nLevel a_defName a_defPlace a_defRoot a_loaded a_count a_status a_number a_origin a_choice a_slotF a_slotX a_slotHeld := by
      have e1 : nI (Q 7 u) + 2 = nI (Q 7 u + 2) := nI_add _ 2
      have e2 : nI (Q 8 u) - 1 = nI (Q 8 u - 1) := pk_sub (b := 1) (by omega)
      unfold wY_split_414
      rw [e1, e2]
      refine pr_Y (N := N) (by omega) ⟨hin, fun A eA => ?_⟩
      rw [nI_clamp (by omega)] at eA
      subst eA
      have fin := hp (upd a_nOp k (nI (tk (Q 9 u)))) (upd a_nNum k (nI (tn (Q 9 u)))) (upd a_nPlace k (nI (tp (Q 9 u)))) (upd a_nA k (nI N)) a_nB a_nC (upd a_nLo N (nI (Q 7 u + 2))) (upd a_nHi N (nI (Q 8 u - 1))) (upd a_nLevel N (nI lv))
        ⟨by rw [← g2]; exact sp_u, sp_u, sp_u, sp_v, sp_n (by omega), sp_n (by omega), fun i hi => ⟨pk_un (by omega), pk_un (by omega), pk_un (by omega)⟩, fun j hj => ?_⟩
      · rw [n1] at fin; exact fin
      · have : j = 0 := by omega
        subst this
        exact ⟨Q 7 u + 2, Q 8 u - 1, pk_us, pk_us, pk_us, g6, by omega⟩
    rw [g2] at go ⊢
    have t27 : Q 0 u ≤ 27 := by omega
    refine br_f (lit (b := 3) t27 (by decide) (by omega)) (br_f (lit (b := 6) t27 (by decide) (by omega)) (br_f (lit (b := 15) t27 (by decide) (by omega)) (br_f (lit (b := 23) t27 (by decide) (by omega)) (br_c (fun _ => go) (fun q13 => br_c (fun _ => go) (fun q7 => br_c (fun _ => go) (fun q8 => br_c (fun _ => go) (fun q9 => ?_))))))))
    exfalso
    rcases g1 with q | q | q | q <;> rw [q] at q13 q7 q8 q9
    · exact q7 rfl
    · exact q8 rfl
    · exact q9 rfl
    · exact q13 rfl
  · -- if
    have n3 : pg_n (Q 0 u) = 3 := by rw [g1]; rfl
    rw [n3] at hN
    refine br_t (nI_le (by omega) (by omega)) ?_
    rw [g2]
    refine br_t rfl ?_
    refine pt_Y (what := 4) hT (fun i hi => (ht i hi).1) hk (Or.inl rfl) pt_T g8 g7 g4 (by omega) ?_
    refine pt_Y (what := 5) hT (fun i hi => (ht i hi).1) hk (Or.inr rfl) pt_E g10 g9 g5 (by omega) ?_
    rw [nI_1]
    refine pr_Y (N := N) (by omega) ⟨hin, fun A eA => ?_⟩
    rw [nI_clamp (by omega)] at eA
    subst eA
    rw [nI_1]
    refine pr_Y (N := N + 1) (by omega) ⟨hin, fun A eA => ?_⟩
    rw [nI_clamp (by omega)] at eA
    subst eA
    rw [nI_1]
    refine pr_Y (N := N + 1 + 1) (by omega) ⟨hin, fun A eA => ?_⟩
    rw [nI_clamp (by omega)] at eA
    subst eA
    have fin := hp (upd a_nOp k 3) (upd a_nNum k (nI (tn (Q 9 u)))) (upd a_nPlace k (nI (tp (Q 9 u)))) (upd a_nA k (nI N)) (upd a_nB k (nI (N + 1))) (upd a_nC k (nI (N + 2)))
      (upd (upd (upd a_nLo N (nI (Q 7 u + 1))) (N + 1) (nI (p1 + 1))) (N + 2) (nI (p2 + 1))) (upd (upd (upd a_nHi N (nI p1)) (N + 1) (nI p2)) (N + 2) (nI (Q 8 u))) (upd (upd (upd a_nLevel N (nI lv)) (N + 1) (nI lv)) (N + 2) (nI lv))
      ⟨by rw [g1]; exact sp_u, sp_u, sp_u, sp_v, sp_v, sp_v, fun i hi => ⟨by rw [pk_un (by omega), pk_un (by omega), pk_un (by omega)], by rw [pk_un (by omega), pk_un (by omega), pk_un (by omega)], by rw [pk_un (by omega), pk_un (by omega), pk_un (by omega)]⟩, fun j hj => ?_⟩
    · rw [n3] at fin; exact fin
    · have : j = 0 ∨ j = 1 ∨ j = 2 := by omega
      rcases this with q | q | q <;> subst q
      · exact ⟨Q 7 u + 1, p1, by rw [pk_un (by omega), pk_un (by omega)]; exact pk_us, by rw [pk_un (by omega), pk_un (by omega)]; exact pk_us, by rw [pk_un (by omega), pk_un (by omega)]; exact pk_us, g11, by omega⟩
      · exact ⟨p1 + 1, p2, by rw [pk_un (by omega), pk_us], by rw [pk_un (by omega), pk_us], by rw [pk_un (by omega), pk_us], g12, by omega⟩
      · exact ⟨p2 + 1, Q 8 u, pk_us, pk_us, pk_us, g13, hh⟩
  · -- try
    have n2 := nd_n2 (t := Q 0 u) (by omega)
    rw [n2] at hN
    refine br_t (nI_le (by omega) (by omega)) ?_
    rw [g2]
    refine br_f (by decide) (br_t rfl ?_)
    refine pt_Y (what := 5) hT (fun i hi => (ht i hi).1) hk (Or.inr rfl) pt_E g7 g6 g4 (by omega) ?_
    rw [nI_1]
    refine pr_Y (N := N) (by omega) ⟨hin, fun A eA => ?_⟩
    rw [nI_clamp (by omega)] at eA
    subst eA
    rw [nI_1]
    refine pr_Y (N := N + 1) (by omega) ⟨hin, fun A eA => ?_⟩
    rw [nI_clamp (by omega)] at eA
    subst eA
    have fin := hp (upd a_nOp k 6) (upd a_nNum k (nI (tn (Q 9 u)))) (upd a_nPlace k (nI (tp (Q 9 u)))) (upd a_nA k (nI N)) (upd a_nB k (nI (N + 1))) a_nC
      (upd (upd a_nLo N (nI (Q 7 u + 1))) (N + 1) (nI (p2 + 1))) (upd (upd a_nHi N (nI p2)) (N + 1) (nI (Q 8 u))) (upd (upd a_nLevel N (nI lv)) (N + 1) (nI lv))
      ⟨by rw [g1]; exact sp_u, sp_u, sp_u, sp_v, sp_v, sp_n (by omega), fun i hi => ⟨by rw [pk_un (by omega), pk_un (by omega)], by rw [pk_un (by omega), pk_un (by omega)], by rw [pk_un (by omega), pk_un (by omega)]⟩, fun j hj => ?_⟩
    · rw [n2] at fin; exact fin
    · have : j = 0 ∨ j = 1 := by omega
      rcases this with q | q <;> subst q
      · exact ⟨Q 7 u + 1, p2, by rw [pk_un (by omega)]; exact pk_us, by rw [pk_un (by omega)]; exact pk_us, by rw [pk_un (by omega)]; exact pk_us, g8, by omega⟩
      · exact ⟨p2 + 1, Q 8 u, pk_us, pk_us, pk_us, g9, hh⟩
theorem sp_Y (hT : T ≤ 200) (ht : ∀ i, i < T → a_tok i = nI (tk i) ∧ a_tokNum i = nI (tn i) ∧ a_tokPlace i = nI (tp i)) (hk : ∀ i, i < T → tk i ≤ 27) (hkN : k < N) (hN : N + pg_n (Q 0 u) ≤ 320)
    (hok : nd_k tk Q (Q 0 u) (Q 7 u) (Q 8 u) (Q 9 u) (Q 2 u) (Q 3 u) (Q 4 u)) {l h : Nat} (hW : nd_W tk Q l h u) (hh : h ≤ T) (hlo : a_nLo k = nI l) (hhi : a_nHi k = nI h) {lv0 : Nat} (hlv : a_nLevel k = nI lv0)
    (hp : ∀ nop nnm npl nA nB nC nLo nHi nLv, sp_R tk tn tp Q T u k N (lv0 + 1) a_nOp a_nNum a_nPlace a_nA a_nB a_nC a_nLo a_nHi a_nLevel nop nnm npl nA nB nC nLo nHi nLv → post (f_width, f_length, f_place, nI T, nI (N + pg_n (Q 0 u)), f_defs, a_text, a_tok, a_tokNum, a_tokPlace, a_opened, nop, nnm, npl, nA, nB, nC, nLo, nHi, nLv, a_defName, a_defPlace, a_defRoot, a_loaded, a_count, a_status, a_number, a_origin, a_choice, a_slotF, a_slotX, a_slotHeld)) :
    wpY_split post (f_width, f_length, f_place, nI T, nI N, f_defs, a_text, a_tok, a_tokNum, a_tokPlace, a_opened, a_nOp, a_nNum, a_nPlace, a_nA, a_nB, a_nC, a_nLo, a_nHi, a_nLevel, a_defName, a_defPlace, a_defRoot, a_loaded, a_count, a_status, a_number, a_origin, a_choice, a_slotF, a_slotX, a_slotHeld) (nI k) := by
  obtain ⟨b, w1, w2, w3⟩ := hW
  have hin : vp_in (nI k) 320 := vp_in_nI (by omega) (by decide)
  have facts : Q 7 u < Q 8 u ∧ Q 7 u ≤ Q 9 u ∧ ((tk (Q 7 u) = 3 ∨ tk (Q 7 u) = 6) ∧ Q 9 u = Q 7 u ∨ (tk (Q 7 u) ≠ 3 ∧ tk (Q 7 u) ≠ 6 ∧ (∃ W, rg_C tk (Q 7 u) (Q 8 u) (Q 9 u) W) ∧ (Q 9 u = Q 7 u → tk (Q 7 u) ≠ 26))) := by
    rcases hok with g | ⟨g1, g2, g3, g4, g5, g6, g7, g8, g9⟩ | ⟨g1, g2, g3, g4⟩ | ⟨g1, g2, g3, g4, g5, g5a, g5b, g6⟩ | ⟨g1, g2, g3, p1, p2, g4, g5, g6, _⟩ | ⟨g1, g2, g3, p2, g4, g5, _⟩
    · obtain ⟨g1, g2, g3, g4⟩ := g
      rw [g3] at g2
      obtain ⟨c, _⟩ := rg_leaf (tk := tk) (l := Q 7 u) (by omega)
      rw [← g4] at c
      exact ⟨by omega, by omega, Or.inr ⟨by omega, by omega, ⟨9, by rw [g3]; exact c⟩, fun _ => by omega⟩⟩
    · exact ⟨by omega, by omega, Or.inr ⟨g5, g6, g7, fun q => by omega⟩⟩
    · rw [g2] at g1
      have := g3.2.1
      exact ⟨by omega, by omega, Or.inr ⟨by omega, by omega, ⟨9, by rw [g2]; exact g3⟩, fun _ => by omega⟩⟩
    · rw [g3] at g2
      exact ⟨by omega, by omega, Or.inr ⟨by omega, by omega, ⟨9, by rw [g3]; exact g4⟩, fun _ => by omega⟩⟩
    · rw [g3] at g2
      exact ⟨by omega, by omega, Or.inl ⟨Or.inl g2, g3⟩⟩
    · rw [g3] at g2
      exact ⟨by omega, by omega, Or.inl ⟨Or.inr g2, g3⟩⟩
  obtain ⟨f1, f2, f3⟩ := facts
  have hk' : ∀ i, i < T → tk i ≤ 27 := hk
  have fin := sp_119 (lv := lv0 + 1) hT ht hk hkN hN hok (by omega) hp
  refine ⟨hin, fun x2 e2 => ⟨hin, fun x3 e3 => ⟨hin, fun x4 e4 => ?_⟩⟩⟩
  rw [nI_clamp (by omega)] at e2 e3 e4
  rw [hlo] at e2
  rw [hhi] at e3
  rw [hlv, nI_1] at e4
  subst e2 e3 e4
  have key : ∀ d j x5, j + d = b → ∀ n, d + 1 < n → wY_split_33 post (nI k) (nI (lv0 + 1)) f_width f_length f_place (nI T) (nI N) f_defs a_text a_tok a_tokNum a_tokPlace a_opened a_nOp a_nNum a_nPlace a_nA a_nB a_nC a_nLo a_nHi a_nLevel a_defName a_defPlace a_defRoot a_loaded a_count a_status a_number a_origin a_choice a_slotF a_slotX a_slotHeld n (nI (l + j)) (nI (h - j)) x5 1 (nI j) := by
    intro d
    induction d with
    | zero =>
      intro j x5 hj n hn
      obtain ⟨n, rfl⟩ : ∃ m, n = m + 1 + 1 := ⟨n - 2, by omega⟩
      have ej : j = b := by omega
      subst ej
      have el : l + j = Q 7 u := w1.symm
      have eh : h - j = Q 8 u := by omega
      rw [el, eh]
      have iT : Q 7 u < T := by omega
      have k27 := hk _ iT
      have hin2 : vp_in (nI (Q 7 u)) 200 := vp_in_nI (by omega) (by decide)
      have out : ∀ c, c = Q 9 u → wY_split_99 post (wY_split_33 post (nI k) (nI (lv0 + 1)) f_width f_length f_place (nI T) (nI N) f_defs a_text a_tok a_tokNum a_tokPlace a_opened a_nOp a_nNum a_nPlace a_nA a_nB a_nC a_nLo a_nHi a_nLevel a_defName a_defPlace a_defRoot a_loaded a_count a_status a_number a_origin a_choice a_slotF a_slotX a_slotHeld (n + 1)) (nI k) (nI (Q 7 u)) (nI (Q 8 u)) (nI (lv0 + 1)) (nI c) (nI j) f_width f_length f_place (nI T) (nI N) f_defs a_text a_tok a_tokNum a_tokPlace a_opened a_nOp a_nNum a_nPlace a_nA a_nB a_nC a_nLo a_nHi a_nLevel a_defName a_defPlace a_defRoot a_loaded a_count a_status a_number a_origin a_choice a_slotF a_slotX a_slotHeld := by
        intro c ec
        refine br_t rfl (fun y ey => ?_)
        rw [ey, nI_1, ec]
        exact pk_le 100 (j + 1) (fun _ => fin) (fun _ => br_t rfl fin)
      refine br_f (nI_ge (b := 100) (by omega) (by omega)) (br_f (by decide) ⟨hin2, ?_⟩)
      rw [nI_clamp (by omega), (ht _ iT).1]
      rcases f3 with ⟨q1, q2⟩ | ⟨q1, q2, ⟨W, q3⟩, q4⟩
      · have m66 : wY_split_66 post (wY_split_33 post (nI k) (nI (lv0 + 1)) f_width f_length f_place (nI T) (nI N) f_defs a_text a_tok a_tokNum a_tokPlace a_opened a_nOp a_nNum a_nPlace a_nA a_nB a_nC a_nLo a_nHi a_nLevel a_defName a_defPlace a_defRoot a_loaded a_count a_status a_number a_origin a_choice a_slotF a_slotX a_slotHeld (n + 1)) (nI k) (nI (Q 7 u)) (nI (Q 8 u)) (nI (lv0 + 1)) (nI j) f_width f_length f_place (nI T) (nI N) f_defs a_text a_tok a_tokNum a_tokPlace a_opened a_nOp a_nNum a_nPlace a_nA a_nB a_nC a_nLo a_nHi a_nLevel a_defName a_defPlace a_defRoot a_loaded a_count a_status a_number a_origin a_choice a_slotF a_slotX a_slotHeld := by
          refine br_t rfl ⟨hin2, ?_⟩
          rw [nI_clamp (by omega), (ht _ iT).1]
          exact br_f (fun q => by have := (nI_eq (b := 26) (by omega) (by decide)).mp q; omega) (out _ q2.symm)
        refine pk_eq (tk (Q 7 u)) 3 (fun _ => m66) (fun n3 => ⟨hin2, ?_⟩)
        exact br_t (by rw [(by omega : tk (Q 7 u) = 6)]; rfl) m66
      · refine br_f (fun q => q1 ((nI_eq (b := 3) (by omega) (by decide)).mp q)) ⟨hin2, br_f (fun q => q2 ((nI_eq (b := 6) (by omega) (by decide)).mp q)) ?_⟩
        refine cu_Y hT (fun i hi => (ht i hi).1) hk q3 (by omega) ?_
        have pT := q3.2.1
        refine pk_eq (Q 9 u) (Q 7 u) (fun c => ⟨hin2, ?_⟩) (fun c => out _ rfl)
        rw [nI_clamp (by omega), (ht _ iT).1]
        exact br_f (fun q => q4 c ((nI_eq (b := 26) (by omega) (by decide)).mp q)) (out _ rfl)
    | succ d ih =>
      intro j x5 hj n hn
      obtain ⟨n, rfl⟩ : ∃ m, n = m + 1 := ⟨n - 1, by omega⟩
      obtain ⟨z1, z2, z3⟩ := w3 j (by omega)
      have iT : l + j < T := by omega
      have hin2 : vp_in (nI (l + j)) 200 := vp_in_nI (by omega) (by decide)
      refine br_f (nI_ge (b := 100) (by omega) (by omega)) (br_f (by decide) ⟨hin2, ?_⟩)
      rw [nI_clamp (by omega), (ht _ iT).1, z1]
      refine br_f (by decide) ⟨hin2, br_f (by decide) ?_⟩
      refine cu_Y hT (fun i hi => (ht i hi).1) hk z3 (by omega) ?_
      refine br_t rfl ⟨hin2, ?_⟩
      rw [nI_clamp (by omega), (ht _ iT).1, z1]
      refine br_t rfl (br_f (by decide) (fun y ey z ez w ew => ?_))
      rw [nI_1] at ey ew
      have e1 : nI (h - j) + (-1) = nI (h - (j + 1)) := by
        have : h - j = h - (j + 1) + 1 := by omega
        rw [this, pk_m1]
      rw [e1] at ez
      subst ey ez ew
      exact ih (j + 1) _ (by omega) n (by omega)
  have := key b 0 (nI l) (by omega) (b + 2) (by omega)
  exact ⟨_, this⟩
end
end
section
-- the defs in their order, and Y's breadth-first reading
def md_D (tk : Nat → Nat) (Q : Nat → Nat → Nat) (d : df_D) : Prop :=
  tk d.1 = 13 ∧ tk (d.1 + 1) = 20 ∧ tk d.2.2.2 = 25 ∧ (∀ i, d.1 ≤ i → i < d.2.2.2 → tk i ≠ 25) ∧ nd_W tk Q (d.1 + 2) d.2.2.2 (d.2.2.1 - 1) ∧ rg_o tk (d.1 + 2) d.2.2.2 ∧ Q 10 (d.2.2.1 - 1) = d.2.1 ∧ d.2.1 < d.2.2.1 ∧ 120 ≤ d.2.1
def md_F (tk : Nat → Nat) (Q : Nat → Nat → Nat) : List df_D → Nat → Nat → Nat → Nat → Prop
  | [], t, e, t2, e2 => t = t2 ∧ e = e2
  | d :: r, t, e, t2, e2 => d.1 = t ∧ d.2.1 = e ∧ md_D tk Q d ∧ md_F tk Q r (d.2.2.2 + 1) d.2.2.1 t2 e2
theorem md_of {tk : Nat → Nat} {Q : Nat → Nat → Nat} : ∀ (dl : List df_D) (t e : Nat), df_C tk Q dl t e → ∀ r t2 e2, md_F tk Q r t e t2 e2 → md_F tk Q (dl.reverse ++ r) 0 120 t2 e2 := by
  intro dl
  induction dl with
  | nil => intro t e h r t2 e2 g; obtain ⟨rfl, rfl⟩ := h; exact g
  | cons d s ih =>
    intro t e h r t2 e2 g
    obtain ⟨h1, h2, h3, h4, h5, h6, h7, h8, h9, h10, h11, h12⟩ := h
    have : (d :: s).reverse ++ r = s.reverse ++ (d :: r) := by simp
    rw [this]
    subst h1 h2
    exact ih _ _ h12 (d :: r) t2 e2 ⟨rfl, rfl, ⟨h3, h4, h5, h6, h7, h8, h9, h10, h11⟩, g⟩
theorem md_le {tk : Nat → Nat} {Q : Nat → Nat → Nat} : ∀ (r : List df_D) (t e t2 e2 : Nat), md_F tk Q r t e t2 e2 → t + 4 * r.length ≤ t2 ∧ e ≤ e2 := by
  intro r
  induction r with
  | nil => intro t e t2 e2 h; obtain ⟨rfl, rfl⟩ := h; simp
  | cons d s ih =>
    intro t e t2 e2 h
    obtain ⟨h1, h2, h3, h4⟩ := h
    have := ih _ _ _ _ h4
    have := h3.2.2.2.2.2.1.1
    have := h3.2.2.2.2.2.2.2.1
    rw [List.length_cons]
    omega
def yb_I (tk tp : Nat → Nat) (Q : Nat → Nat → Nat) (T F E Rd k N : Nat) (g : Nat → Nat) (nop nnm npl nA nB nC nLo nHi nLv : Nat → Int32) : Prop :=
  F ≤ k ∧ k ≤ N ∧ bf_B Q F E k N g ∧
  (∀ j, F ≤ j → j < N → F ≤ Q 10 (g j) ∧ Q 10 (g j) ≤ g j ∧ g j < E ∧ ∃ l h lv, nLo j = nI l ∧ nHi j = nI h ∧ nLv j = nI lv ∧ nd_W tk Q l h (g j) ∧ h ≤ T ∧ (k ≤ j → lv + Q 11 (g j) ≤ Rd) ∧ (j < k → lv + 1 ≤ Rd)) ∧
  (∀ j, F ≤ j → j < k → nop j = nI (Q 0 (g j)) ∧ nnm j = nI (Q 1 (g j)) ∧ npl j = nI (tp (Q 9 (g j))) ∧ (0 < pg_n (Q 0 (g j)) → ∃ a, nA j = nI a ∧ F ≤ a ∧ a < N ∧ g a = Q 2 (g j)) ∧
    (1 < pg_n (Q 0 (g j)) → ∃ a, nB j = nI a ∧ F ≤ a ∧ a < N ∧ g a = Q 3 (g j)) ∧ (2 < pg_n (Q 0 (g j)) → ∃ a, nC j = nI a ∧ F ≤ a ∧ a < N ∧ g a = Q 4 (g j))) ∧
  (∃ j, F ≤ j ∧ j < N ∧ ∃ lv, nLv j = nI lv ∧ ((j < k ∧ lv + 1 = Rd) ∨ (k ≤ j ∧ lv + Q 11 (g j) = Rd))) ∧ g F + 1 = E
theorem yb_c {tk tp : Nat → Nat} {Q : Nat → Nat → Nat} {T F E Rd k N : Nat} {g g2 : Nat → Nat} {nop nnm npl nA nB nC nLo nHi nLv nop2 nnm2 npl2 nA2 nB2 nC2 nLo2 nHi2 nLv2 : Nat → Int32}
    (hg : ∀ j, j < N → g2 j = g j) (ha : ∀ j, j < N → nop2 j = nop j ∧ nnm2 j = nnm j ∧ npl2 j = npl j ∧ nA2 j = nA j ∧ nB2 j = nB j ∧ nC2 j = nC j ∧ nLo2 j = nLo j ∧ nHi2 j = nHi j ∧ nLv2 j = nLv j) (hFN : F < N)
    (I : yb_I tk tp Q T F E Rd k N g nop nnm npl nA nB nC nLo nHi nLv) : yb_I tk tp Q T F E Rd k N g2 nop2 nnm2 npl2 nA2 nB2 nC2 nLo2 nHi2 nLv2 := by
  obtain ⟨i1, i2, i3, i4, i5, i6, i7⟩ := I
  refine ⟨i1, i2, fun S => ?_, fun j h1 h2 => ?_, fun j h1 h2 => ?_, ?_, by rw [hg F hFN]; exact i7⟩
  · have b := i3 S
    have c1 : ∀ m, m ≤ N → rg_c (bf_p S g2) m = rg_c (bf_p S g) m := fun m hm => bf_cc m (fun i hi => by unfold bf_p; rw [hg i (by omega)])
    have c2 : ∀ m, m ≤ N → rg_c (bf_w S Q g2) m = rg_c (bf_w S Q g) m := fun m hm => bf_cc m (fun i hi => by unfold bf_w; rw [hg i (by omega)])
    rw [c1 k i2, c1 F (by omega), c2 N (Nat.le_refl _), c2 k i2]
    exact b
  · obtain ⟨a1, a2, a3, a4, a5, a6, a7, a8, a9⟩ := ha j h2
    rw [hg j h2, a7, a8, a9]
    exact i4 j h1 h2
  · obtain ⟨a1, a2, a3, a4, a5, a6, a7, a8, a9⟩ := ha j (by omega)
    rw [hg j (by omega), a1, a2, a3, a4, a5, a6]
    obtain ⟨q1, q2, q3, q4, q5, q6⟩ := i5 j h1 h2
    refine ⟨q1, q2, q3, fun n => ?_, fun n => ?_, fun n => ?_⟩
    · obtain ⟨a, z1, z2, z3, z4⟩ := q4 n; exact ⟨a, z1, z2, z3, by rw [hg a z3]; exact z4⟩
    · obtain ⟨a, z1, z2, z3, z4⟩ := q5 n; exact ⟨a, z1, z2, z3, by rw [hg a z3]; exact z4⟩
    · obtain ⟨a, z1, z2, z3, z4⟩ := q6 n; exact ⟨a, z1, z2, z3, by rw [hg a z3]; exact z4⟩
  · obtain ⟨j, h1, h2, lv, h3, h4⟩ := i6
    obtain ⟨a1, a2, a3, a4, a5, a6, a7, a8, a9⟩ := ha j h2
    exact ⟨j, h1, h2, lv, by rw [a9]; exact h3, by rw [hg j h2]; exact h4⟩
-- the kids of a node
theorem yb_k {tk tn : Nat → Nat} {Q : Nat → Nat → Nat} {u F : Nat} (h : nd_ok tk tn Q u) (hF : F ≤ Q 10 u) : ∀ i, i < pg_n (Q 0 u) → F ≤ Q 10 (Q (2 + i) u) ∧ Q 10 (Q (2 + i) u) ≤ Q (2 + i) u ∧ Q (2 + i) u < u ∧ Q 11 (Q (2 + i) u) + 1 ≤ Q 11 u := by
  obtain ⟨g1, ⟨t0, t1, t2, t3⟩, g3, g4, g5, g6, g7, g8, g9, g10⟩ := h
  have n3 : pg_n (Q 0 u) ≤ 3 := by unfold pg_n; repeat' split
                                   all_goals omega
  have m1 : ∀ a b, a ≤ nd_m a b ∧ b ≤ nd_m a b := by intro a b; unfold nd_m; split <;> omega
  intro i hi
  have hc : pg_n (Q 0 u) = 1 ∨ pg_n (Q 0 u) = 2 ∨ pg_n (Q 0 u) = 3 := by omega
  rcases hc with e | e | e
  · have x := t1 e
    have a := g5 (by omega)
    have : i = 0 := by omega
    subst this
    have := m1 0 (Q 11 (Q 2 u))
    exact ⟨by show F ≤ Q 10 (Q 2 u); omega, a.2, a.1, by show Q 11 (Q 2 u) + 1 ≤ Q 11 u; omega⟩
  · have x := t2 e
    have a := g5 (by omega)
    have b := g6 (by omega)
    have q1 := m1 0 (Q 11 (Q 2 u))
    have q2 := m1 (nd_m 0 (Q 11 (Q 2 u))) (Q 11 (Q 3 u))
    have : i = 0 ∨ i = 1 := by omega
    rcases this with z | z <;> subst z
    · exact ⟨by show F ≤ Q 10 (Q 2 u); omega, a.2, a.1, by show Q 11 (Q 2 u) + 1 ≤ Q 11 u; omega⟩
    · exact ⟨by show F ≤ Q 10 (Q 3 u); omega, b.2, b.1, by show Q 11 (Q 3 u) + 1 ≤ Q 11 u; omega⟩
  · have x := t3 e
    have a := g5 (by omega)
    have b := g6 (by omega)
    have c := g7 (by omega)
    have q1 := m1 0 (Q 11 (Q 2 u))
    have q2 := m1 (nd_m 0 (Q 11 (Q 2 u))) (Q 11 (Q 3 u))
    have q3 := m1 (nd_m (nd_m 0 (Q 11 (Q 2 u))) (Q 11 (Q 3 u))) (Q 11 (Q 4 u))
    have : i = 0 ∨ i = 1 ∨ i = 2 := by omega
    rcases this with z | z | z <;> subst z
    · exact ⟨by show F ≤ Q 10 (Q 2 u); omega, a.2, a.1, by show Q 11 (Q 2 u) + 1 ≤ Q 11 u; omega⟩
    · exact ⟨by show F ≤ Q 10 (Q 3 u); omega, b.2, b.1, by show Q 11 (Q 3 u) + 1 ≤ Q 11 u; omega⟩
    · exact ⟨by show F ≤ Q 10 (Q 4 u); omega, c.2, c.1, by show Q 11 (Q 4 u) + 1 ≤ Q 11 u; omega⟩
theorem yb_d {tk tn : Nat → Nat} {Q : Nat → Nat → Nat} {u : Nat} (h : nd_ok tk tn Q u) : (pg_n (Q 0 u) = 0 ∧ Q 11 u = 1) ∨ ∃ i, i < pg_n (Q 0 u) ∧ Q 11 (Q (2 + i) u) + 1 = Q 11 u := by
  obtain ⟨g1, ⟨t0, t1, t2, t3⟩, _⟩ := h
  have n3 : pg_n (Q 0 u) ≤ 3 := by unfold pg_n; repeat' split
                                   all_goals omega
  have m0 : ∀ b, nd_m 0 b = b := by intro b; unfold nd_m; split <;> omega
  have mm : ∀ a b, nd_m a b = a ∨ nd_m a b = b := by intro a b; unfold nd_m; split <;> simp
  have hc : pg_n (Q 0 u) = 0 ∨ pg_n (Q 0 u) = 1 ∨ pg_n (Q 0 u) = 2 ∨ pg_n (Q 0 u) = 3 := by omega
  rcases hc with e | e | e | e
  · exact Or.inl ⟨e, (t0 e).2⟩
  · have x := t1 e
    rw [m0] at x
    exact Or.inr ⟨0, by omega, by show Q 11 (Q 2 u) + 1 = Q 11 u; omega⟩
  · have x := t2 e
    rw [m0] at x
    rcases mm (Q 11 (Q 2 u)) (Q 11 (Q 3 u)) with z | z <;> rw [z] at x
    · exact Or.inr ⟨0, by omega, by show Q 11 (Q 2 u) + 1 = Q 11 u; omega⟩
    · exact Or.inr ⟨1, by omega, by show Q 11 (Q 3 u) + 1 = Q 11 u; omega⟩
  · have x := t3 e
    rw [m0] at x
    rcases mm (nd_m (Q 11 (Q 2 u)) (Q 11 (Q 3 u))) (Q 11 (Q 4 u)) with z | z <;> rw [z] at x
    · rcases mm (Q 11 (Q 2 u)) (Q 11 (Q 3 u)) with z | z <;> rw [z] at x
      · exact Or.inr ⟨0, by omega, by show Q 11 (Q 2 u) + 1 = Q 11 u; omega⟩
      · exact Or.inr ⟨1, by omega, by show Q 11 (Q 3 u) + 1 = Q 11 u; omega⟩
    · exact Or.inr ⟨2, by omega, by show Q 11 (Q 4 u) + 1 = Q 11 u; omega⟩
theorem yb_gi {g : Nat → Nat} {N u i : Nat} {Q : Nat → Nat → Nat} : bf_g g N Q u (N + i) = Q (2 + i) u := by
  unfold bf_g; rw [if_pos (by omega), Nat.add_sub_cancel_left]
theorem yb_s {tk tn tp : Nat → Nat} {Q : Nat → Nat → Nat} {T F E Rd k N : Nat} {g : Nat → Nat} {nop nnm npl nA nB nC nLo nHi nLv nop2 nnm2 npl2 nA2 nB2 nC2 nLo2 nHi2 nLv2 : Nat → Int32}
    (I : yb_I tk tp Q T F E Rd k N g nop nnm npl nA nB nC nLo nHi nLv) (hk : k < N) (hok : nd_ok tk tn Q (g k)) {l h lv : Nat} (hlv : nLv k = nI lv) (hlv2 : lv < 2 ^ 30) (hRd : Rd < 2 ^ 30)
    (R : sp_R tk tn tp Q T (g k) k N (lv + 1) nop nnm npl nA nB nC nLo nHi nLv nop2 nnm2 npl2 nA2 nB2 nC2 nLo2 nHi2 nLv2) : yb_I tk tp Q T F E Rd (k + 1) (N + pg_n (Q 0 (g k))) (bf_g g N Q (g k)) nop2 nnm2 npl2 nA2 nB2 nC2 nLo2 nHi2 nLv2 := by
  obtain ⟨i1, i2, i3, i4, i5, i6, i7⟩ := I
  obtain ⟨⟨r1, r1k⟩, ⟨r2, r2k⟩, ⟨r3, r3k⟩, ⟨r4, r4k⟩, ⟨r5, r5k⟩, ⟨r6, r6k⟩, r7, r8⟩ := R
  have n3 : pg_n (Q 0 (g k)) ≤ 3 := by unfold pg_n; repeat' split
                                       all_goals omega
  obtain ⟨k1, k2, k3, l0, h0, lv0, k4, k5, k6, k7, k8, k9, k10⟩ := i4 k i1 hk
  have elv : lv0 = lv := by
    rw [k6] at hlv
    have := k9 (Nat.le_refl _)
    exact (nI_eq (by omega) (by omega)).mp hlv
  subst elv
  have kd := yb_k hok k1
  have d1 : 1 ≤ Q 11 (g k) := by
    rcases yb_d hok with q | ⟨i, q1, q2⟩
    · omega
    · omega
  have gl : ∀ j, j < N → bf_g g N Q (g k) j = g j := fun j hj => bf_gl hj
  refine ⟨by omega, by omega, bf_st i3 i1 hk hok.2.1 n3, fun j h1 h2 => ?_, fun j h1 h2 => ?_, ?_, by rw [gl F (by omega)]; exact i7⟩
  · by_cases c : j < N
    · obtain ⟨a1, a2, a3⟩ := r7 j c
      rw [gl j c, a1, a2, a3]
      obtain ⟨q1, q2, q3, l1, h1', lv1, q4, q5, q6, q7, q8, q9, q10⟩ := i4 j h1 c
      refine ⟨q1, q2, q3, l1, h1', lv1, q4, q5, q6, q7, q8, fun z => q9 (by omega), fun z => ?_⟩
      by_cases e : j = k
      · subst e
        rw [k6] at q6
        have := q9 (Nat.le_refl _)
        omega
      · exact q10 (by omega)
    · obtain ⟨i, rfl⟩ : ∃ i, j = N + i := ⟨j - N, by omega⟩
      obtain ⟨l1, h1', q4, q5, q6, q7, q8⟩ := r8 i (by omega)
      obtain ⟨y1, y2, y3, y4⟩ := kd i (by omega)
      rw [yb_gi]
      have := k9 (Nat.le_refl _)
      exact ⟨y1, y2, by omega, l1, h1', lv0 + 1, q4, q5, q6, q7, q8, fun _ => by omega, fun z => by omega⟩
  · by_cases c : j = k
    · subst c
      rw [gl j hk, r1k, r2k, r3k]
      refine ⟨rfl, by rw [hok.2.2.1], rfl, fun n => ⟨N, r4k n, by omega, by omega, bf_g0⟩, fun n => ⟨N + 1, r5k n, by omega, by omega, bf_g1⟩, fun n => ⟨N + 2, r6k n, by omega, by omega, bf_g2⟩⟩
    · rw [gl j (by omega), r1 j c, r2 j c, r3 j c, r4 j c, r5 j c, r6 j c]
      obtain ⟨q1, q2, q3, q4, q5, q6⟩ := i5 j h1 (by omega)
      refine ⟨q1, q2, q3, fun n => ?_, fun n => ?_, fun n => ?_⟩
      · obtain ⟨a, z1, z2, z3, z4⟩ := q4 n; exact ⟨a, z1, z2, by omega, by rw [gl a z3]; exact z4⟩
      · obtain ⟨a, z1, z2, z3, z4⟩ := q5 n; exact ⟨a, z1, z2, by omega, by rw [gl a z3]; exact z4⟩
      · obtain ⟨a, z1, z2, z3, z4⟩ := q6 n; exact ⟨a, z1, z2, by omega, by rw [gl a z3]; exact z4⟩
  · obtain ⟨j, h1, h2, lw, h3, h4⟩ := i6
    by_cases c : j = k
    · subst c
      have e2 : lw + Q 11 (g j) = Rd := by omega
      have e3 : lw = lv0 := by
        rw [k6] at h3
        exact ((nI_eq (by omega) (by omega)).mp h3).symm
      subst e3
      rcases yb_d hok with ⟨q1, q2⟩ | ⟨i, q1, q2⟩
      · exact ⟨j, h1, by omega, lw, by rw [(r7 j h2).2.2]; exact h3, Or.inl ⟨by omega, by omega⟩⟩
      · obtain ⟨l1, h1', w4, w5, w6, w7, w8⟩ := r8 i q1
        exact ⟨N + i, by omega, by omega, lw + 1, w6, Or.inr ⟨by omega, by rw [yb_gi]; omega⟩⟩
    · refine ⟨j, h1, by omega, lw, by rw [(r7 j h2).2.2]; exact h3, ?_⟩
      rw [gl j h2]
      omega
end
section
-- Y reads the defs
def rd_L (F : Nat) (nop0 nnm0 npl0 nA0 nB0 nC0 nLo0 nHi0 nLv0 nop nnm npl nA nB nC nLo nHi nLv : Nat → Int32) : Prop := ∀ j, j < F → nop j = nop0 j ∧ nnm j = nnm0 j ∧ npl j = npl0 j ∧ nA j = nA0 j ∧ nB j = nB0 j ∧ nC j = nC0 j ∧ nLo j = nLo0 j ∧ nHi j = nHi0 j ∧ nLv j = nLv0 j
theorem rd_Lt {F : Nat} {nop0 nnm0 npl0 nA0 nB0 nC0 nLo0 nHi0 nLv0 nop nnm npl nA nB nC nLo nHi nLv nop2 nnm2 npl2 nA2 nB2 nC2 nLo2 nHi2 nLv2 : Nat → Int32} (h : rd_L F nop0 nnm0 npl0 nA0 nB0 nC0 nLo0 nHi0 nLv0 nop nnm npl nA nB nC nLo nHi nLv) (g : rd_L F nop nnm npl nA nB nC nLo nHi nLv nop2 nnm2 npl2 nA2 nB2 nC2 nLo2 nHi2 nLv2) : rd_L F nop0 nnm0 npl0 nA0 nB0 nC0 nLo0 nHi0 nLv0 nop2 nnm2 npl2 nA2 nB2 nC2 nLo2 nHi2 nLv2 := by
  intro j hj
  obtain ⟨a1, a2, a3, a4, a5, a6, a7, a8, a9⟩ := h j hj
  obtain ⟨b1, b2, b3, b4, b5, b6, b7, b8, b9⟩ := g j hj
  exact ⟨b1.trans a1, b2.trans a2, b3.trans a3, b4.trans a4, b5.trans a5, b6.trans a6, b7.trans a7, b8.trans a8, b9.trans a9⟩
theorem rd_Lm {F G : Nat} {nop0 nnm0 npl0 nA0 nB0 nC0 nLo0 nHi0 nLv0 nop nnm npl nA nB nC nLo nHi nLv : Nat → Int32} (h : rd_L F nop0 nnm0 npl0 nA0 nB0 nC0 nLo0 nHi0 nLv0 nop nnm npl nA nB nC nLo nHi nLv) (g : G ≤ F) : rd_L G nop0 nnm0 npl0 nA0 nB0 nC0 nLo0 nHi0 nLv0 nop nnm npl nA nB nC nLo nHi nLv := fun j hj => h j (by omega)
section
variable {f_width f_length f_place f_toks f_nodes f_defs : Int32} {a_text a_tok a_tokNum a_tokPlace a_opened a_nOp a_nNum a_nPlace a_nA a_nB a_nC a_nLo a_nHi a_nLevel a_defName a_defPlace a_defRoot a_loaded a_count a_status : Nat → Int32} {a_number : Nat → Int64} {a_origin a_choice a_slotF a_slotX a_slotHeld : Nat → Int32} {tk tn tp : Nat → Nat} {T : Nat} {Q : Nat → Nat → Nat} {post : SY → Prop}
theorem rd_90 (hT : T ≤ 200) (ht : ∀ i, i < T → a_tok i = nI (tk i) ∧ a_tokNum i = nI (tn i) ∧ a_tokPlace i = nI (tp i)) (hk : ∀ i, i < T → tk i ≤ 27) {F E c s : Nat} (hFE : F < E) (hE : E ≤ 320) (hRd : Q 11 (E - 1) < 2 ^ 30)
    (hok : ∀ u, F ≤ u → u < E → nd_ok tk tn Q u) {J : Int32 → Int32 → Int32 → Int32 → Int32 → Int32 → Int32 → Int32 → (Nat → Int32) → (Nat → Int32) → (Nat → Int32) → (Nat → Int32) → (Nat → Int32) → (Nat → Int32) → (Nat → Int32) → (Nat → Int32) → (Nat → Int32) → (Nat → Int32) → (Nat → Int32) → (Nat → Int32) → (Nat → Int32) → (Nat → Int32) → (Nat → Int32) → (Nat → Int32) → (Nat → Int32) → (Nat → Int32) → (Nat → Int32) → (Nat → Int32) → (Nat → Int64) → (Nat → Int32) → (Nat → Int32) → (Nat → Int32) → (Nat → Int32) → (Nat → Int32) → Prop} {g0 : Nat → Nat} {nop0 nnm0 npl0 nA0 nB0 nC0 nLo0 nHi0 nLv0 : Nat → Int32}
    (hJ : ∀ g nop nnm npl nA nB nC nLo nHi nLv, yb_I tk tp Q T F E (Q 11 (E - 1)) E E g nop nnm npl nA nB nC nLo nHi nLv → (∀ j, j < F → g j = g0 j) → rd_L F nop0 nnm0 npl0 nA0 nB0 nC0 nLo0 nHi0 nLv0 nop nnm npl nA nB nC nLo nHi nLv → J (nI (s + 1)) (nI (s + 1)) f_width f_length f_place (nI T) (nI E) (nI (c + 1)) a_text a_tok a_tokNum a_tokPlace a_opened nop nnm npl nA nB nC nLo nHi nLv a_defName a_defPlace a_defRoot a_loaded a_count a_status a_number a_origin a_choice a_slotF a_slotX a_slotHeld) :
    ∀ d k N g nop nnm npl nA nB nC nLo nHi nLv, k + d = E → yb_I tk tp Q T F E (Q 11 (E - 1)) k N g nop nnm npl nA nB nC nLo nHi nLv → (∀ j, j < F → g j = g0 j) → rd_L F nop0 nnm0 npl0 nA0 nB0 nC0 nLo0 nHi0 nLv0 nop nnm npl nA nB nC nLo nHi nLv → ∀ n, d < n →
      wY_readDefs_90 post J (nI s) n (nI k) f_width f_length f_place (nI T) (nI N) (nI c) a_text a_tok a_tokNum a_tokPlace a_opened nop nnm npl nA nB nC nLo nHi nLv a_defName a_defPlace a_defRoot a_loaded a_count a_status a_number a_origin a_choice a_slotF a_slotX a_slotHeld := by
  intro d
  induction d with
  | zero =>
    intro k N g nop nnm npl nA nB nC nLo nHi nLv hkd I hg hL n hn
    obtain ⟨n, rfl⟩ : ∃ m, n = m + 1 := ⟨n - 1, by omega⟩
    have bd := bf_bd I.2.2.1 I.1 I.2.1 (by omega) (fun j h1 h2 => (I.2.2.2.1 j (by have := I.1; omega) h2).2.1)
    have := I.2.1
    have eN : N = E := by omega
    have ek : k = E := by omega
    subst eN ek
    refine br_t (nI_le (Nat.le_refl _) (by omega)) (fun y ey z ez w ew => ?_)
    rw [nI_1] at ey ez ew
    subst ey ez ew
    exact hJ g _ _ _ _ _ _ _ _ _ I hg hL
  | succ d ih =>
    intro k N g nop nnm npl nA nB nC nLo nHi nLv hkd I hg hL n hn
    obtain ⟨n, rfl⟩ : ∃ m, n = m + 1 := ⟨n - 1, by omega⟩
    have iF := I.1
    have ikN := I.2.1
    have bd := bf_bd I.2.2.1 I.1 I.2.1 (by omega) (fun j h1 h2 => (I.2.2.2.1 j (by omega) h2).2.1)
    have kN : k < N := by
      rcases Nat.lt_or_ge k N with q | q
      · exact q
      · have e : k = N := by omega
        subst e
        have := bf_N I.2.2.1 iF (by omega)
        omega
    obtain ⟨k1, k2, k3, l, h, lv, k4, k5, k6, k7, k8, k9, k10⟩ := I.2.2.2.1 k iF kN
    have oku := hok (g k) (by omega) k3
    have n3 : pg_n (Q 0 (g k)) ≤ 3 := by unfold pg_n; repeat' split
                                         all_goals omega
    have kd := yb_k oku k1
    have lvb := k9 (Nat.le_refl _)
    have nB : bf_B Q F E (k + 1) (N + pg_n (Q 0 (g k))) (bf_g g N Q (g k)) := bf_st I.2.2.1 iF kN oku.2.1 n3
    have bd2 := bf_bd nB (by omega) (by omega) (by omega) (fun j h1 h2 => by
      by_cases q : j < N
      · rw [bf_gl q]; exact (I.2.2.2.1 j (by omega) q).2.1
      · obtain ⟨i, rfl⟩ : ∃ i, j = N + i := ⟨j - N, by omega⟩
        rw [yb_gi]; exact (kd i (by omega)).2.1)
    refine br_f (nI_ge kN (by omega)) ?_
    refine sp_Y (tn := tn) (tp := tp) (u := g k) (l := l) (h := h) (lv0 := lv) hT ht hk kN (by omega) oku.1 k7 k8 k4 k5 k6 (fun nop2 nnm2 npl2 nA2 nB2 nC2 nLo2 nHi2 nLv2 R => fun y ey => ?_)
    rw [ey, nI_1]
    refine ih (k + 1) _ (bf_g g N Q (g k)) _ _ _ _ _ _ _ _ _ (by omega) (yb_s (l := l) (h := h) I kN oku k6 (by omega) hRd R) (fun j hj => by rw [bf_gl (by omega)]; exact hg j hj) (rd_Lt hL (fun j hj => ?_)) n (by omega)
    obtain ⟨⟨r1, r1k⟩, ⟨r2, r2k⟩, ⟨r3, r3k⟩, ⟨r4, r4k⟩, ⟨r5, r5k⟩, ⟨r6, r6k⟩, r7, r8⟩ := R
    have := r7 j (by omega)
    exact ⟨r1 j (by omega), r2 j (by omega), r3 j (by omega), r4 j (by omega), r5 j (by omega), r6 j (by omega), this.1, this.2.1, this.2.2⟩
def rd_P (tn tp : Nat → Nat) (ds : List df_D) (c : Nat) (dn dpl drt : Nat → Int32) : Prop := ∀ i d, i < c → ds[i]? = some d → dn i = nI (tn d.1) ∧ dpl i = nI (tp d.1) ∧ drt i = nI d.2.1
def rd_B (tk tp : Nat → Nat) (Q : Nat → Nat → Nat) (T : Nat) (ds : List df_D) (c e : Nat) (g : Nat → Nat) (nop nnm npl nA nB nC nLo nHi nLv : Nat → Int32) : Prop :=
  ∀ i d, i < c → ds[i]? = some d → d.2.2.1 ≤ e ∧ d.2.1 < d.2.2.1 ∧ yb_I tk tp Q T d.2.1 d.2.2.1 (Q 11 (d.2.2.1 - 1)) d.2.2.1 d.2.2.1 g nop nnm npl nA nB nC nLo nHi nLv
theorem rd_15 (hT : T ≤ 200) (ht : ∀ i, i < T → a_tok i = nI (tk i) ∧ a_tokNum i = nI (tn i) ∧ a_tokPlace i = nI (tp i)) (hk : ∀ i, i < T → tk i ≤ 27) {Ee : Nat} (hE : Ee ≤ 320) {ds : List df_D} (hds : ds.length ≤ 50)
    (hok : ∀ u, 120 ≤ u → u < Ee → nd_ok tk tn Q u ∧ Q 11 u < 2 ^ 30) {nop0 nnm0 npl0 nA0 nB0 nC0 nLo0 nHi0 nLv0 : Nat → Int32}
    (hp : ∀ g opd dn dpl drt nop nnm npl nA nB nC nLo nHi nLv, rd_P tn tp ds ds.length dn dpl drt → drt ds.length = nI Ee → rd_B tk tp Q T ds ds.length Ee g nop nnm npl nA nB nC nLo nHi nLv → rd_L 120 nop0 nnm0 npl0 nA0 nB0 nC0 nLo0 nHi0 nLv0 nop nnm npl nA nB nC nLo nHi nLv → opd = a_opened →
      post (f_width, f_length, f_place, nI T, nI Ee, nI ds.length, a_text, a_tok, a_tokNum, a_tokPlace, a_opened, nop, nnm, npl, nA, nB, nC, nLo, nHi, nLv, dn, dpl, drt, a_loaded, a_count, a_status, a_number, a_origin, a_choice, a_slotF, a_slotX, a_slotHeld)) :
    ∀ r c fr e g dn dpl drt nop nnm npl nA nB nC nLo nHi nLv, md_F tk Q r fr e T Ee → ds.drop c = r → c ≤ ds.length → 120 ≤ e → rd_P tn tp ds c dn dpl drt → rd_B tk tp Q T ds c e g nop nnm npl nA nB nC nLo nHi nLv → rd_L 120 nop0 nnm0 npl0 nA0 nB0 nC0 nLo0 nHi0 nLv0 nop nnm npl nA nB nC nLo nHi nLv → ∀ n, T - fr < n →
      wY_readDefs_15 post n (nI fr) (nI fr) f_width f_length f_place (nI T) (nI e) (nI c) a_text a_tok a_tokNum a_tokPlace a_opened nop nnm npl nA nB nC nLo nHi nLv dn dpl drt a_loaded a_count a_status a_number a_origin a_choice a_slotF a_slotX a_slotHeld := by
  intro r
  induction r with
  | nil =>
    intro c fr e g dn dpl drt nop nnm npl nA nB nC nLo nHi nLv hM hd hc he hP hB hL n hn
    obtain ⟨n, rfl⟩ : ∃ m, n = m + 1 := ⟨n - 1, by omega⟩
    obtain ⟨rfl, rfl⟩ := hM
    have ec : c = ds.length := by have := List.drop_eq_nil_iff.mp hd; omega
    subst ec
    refine br_t (nI_le (Nat.le_refl _) (by omega)) ⟨vp_in_nI (by omega) (by decide), fun A eA => ?_⟩
    rw [nI_clamp (by omega)] at eA
    subst eA
    exact hp g a_opened _ _ _ _ _ _ _ _ _ _ _ _ (fun i d hi hs => by rw [pk_un (by omega)]; exact hP i d hi hs) pk_us hB hL rfl
  | cons d r ih =>
    intro c fr e g dn dpl drt nop nnm npl nA nB nC nLo nHi nLv hM hd hc he hP hB hL n hn
    obtain ⟨m1, m2, mD, m4⟩ := hM
    obtain ⟨p1, p2, p3, p4, p5, p6, p7, p8, p9⟩ := mD
    have le := md_le _ _ _ _ _ m4
    have p60 := p6.1
    subst m1 m2
    have ds1 : ds[c]? = some d := by
      have a : (ds.drop c)[0]? = some d := by rw [hd]; rfl
      rw [List.getElem?_drop, Nat.add_zero] at a
      exact a
    have cl : c < ds.length := by
      rcases Nat.lt_or_ge c ds.length with q | q
      · exact q
      · rw [List.getElem?_eq_none q] at ds1; exact absurd ds1 (by simp)
    have ds2 : ds.drop (c + 1) = r := by
      have a : ds.drop (c + 1) = (ds.drop c).drop 1 := by rw [List.drop_drop]
      rw [a, hd]; rfl
    -- at the ';'
    have semi : ∀ n, T - d.2.2.2 < n → wY_readDefs_15 post n (nI d.1) (nI d.2.2.2) f_width f_length f_place (nI T) (nI d.2.1) (nI c) a_text a_tok a_tokNum a_tokPlace a_opened nop nnm npl nA nB nC nLo nHi nLv dn dpl drt a_loaded a_count a_status a_number a_origin a_choice a_slotF a_slotX a_slotHeld := by
      intro n hn
      obtain ⟨n, rfl⟩ : ∃ m, n = m + 1 := ⟨n - 1, by omega⟩
      have sT : d.2.2.2 < T := by omega
      have fT : d.1 < T := by omega
      have hin : vp_in (nI d.1) 200 := vp_in_nI (by omega) (by decide)
      refine br_f (nI_ge sT (by omega)) ⟨vp_in_nI (by omega) (by decide), ?_⟩
      rw [nI_clamp (by omega), (ht _ sT).1, p3]
      refine br_t rfl ⟨hin, vp_in_nI (by omega) (by decide), fun A eA => ⟨hin, vp_in_nI (by omega) (by decide), fun B eB => ⟨vp_in_nI (by omega) (by decide), fun C eC => ?_⟩⟩⟩
      rw [nI_clamp (n := c) (by omega), nI_clamp (n := d.1) (by omega), (ht _ fT).2.1] at eA
      rw [nI_clamp (n := c) (by omega), nI_clamp (n := d.1) (by omega), (ht _ fT).2.2] at eB
      rw [nI_clamp (by omega)] at eC
      subst eA eB eC
      have e2 : nI d.1 + 2 = nI (d.1 + 2) := nI_add _ 2
      rw [e2]
      refine pr_Y (N := d.2.1) (by omega) ?_
      have I0 : yb_I tk tp Q T d.2.1 d.2.2.1 (Q 11 (d.2.2.1 - 1)) d.2.1 (d.2.1 + 1) (fun j => if j = d.2.1 then d.2.2.1 - 1 else g j) nop nnm npl nA nB nC (upd nLo d.2.1 (nI (d.1 + 2))) (upd nHi d.2.1 (nI d.2.2.2)) (upd nLv d.2.1 0) := by
        have gF : (fun j => if j = d.2.1 then d.2.2.1 - 1 else g j) d.2.1 = d.2.2.1 - 1 := if_pos rfl
        refine ⟨Nat.le_refl _, by omega, bf_0 (by rw [if_pos rfl]; omega) (by rw [if_pos rfl]; exact p7), fun j h1 h2 => ?_, fun j h1 h2 => by omega, ⟨d.2.1, Nat.le_refl _, by omega, 0, pk_us, Or.inr ⟨Nat.le_refl _, by rw [gF]; omega⟩⟩, by rw [gF]; omega⟩
        have ej : j = d.2.1 := by omega
        subst ej
        rw [gF]
        exact ⟨by omega, by omega, by omega, d.1 + 2, d.2.2.2, 0, pk_us, pk_us, pk_us, p5, by omega, fun _ => by omega, fun q => by omega⟩
      have h11 := (hok (d.2.2.1 - 1) (by omega) (by omega)).2
      refine ⟨_, rd_90 (F := d.2.1) (E := d.2.2.1) (c := c) (s := d.2.2.2) (g0 := fun j => if j = d.2.1 then d.2.2.1 - 1 else g j) (nop0 := nop) (nnm0 := nnm) (npl0 := npl) (nA0 := nA) (nB0 := nB) (nC0 := nC) (nLo0 := nLo) (nHi0 := nHi) (nLv0 := nLv) hT ht hk p8 (by omega) h11 (fun u h1 h2 => (hok u (by omega) (by omega)).1) ?_
        (d.2.2.1 - d.2.1) d.2.1 (d.2.1 + 1) _ _ _ _ _ _ _ _ _ _ (by omega) I0 (fun j hj => rfl) (fun j hj => ⟨rfl, rfl, rfl, rfl, rfl, rfl, pk_un (by omega), pk_un (by omega), pk_un (by omega)⟩) _ (Nat.lt_succ_self _)⟩
      intro g2 nop2 nnm2 npl2 nA2 nB2 nC2 nLo2 nHi2 nLv2 I2 hg2 hL2
      refine ih (c + 1) (d.2.2.2 + 1) d.2.2.1 g2 _ _ _ _ _ _ _ _ _ _ _ _ m4 ds2 (by omega) (by omega) (fun i d2 hi hs => ?_) (fun i d2 hi hs => ?_) (rd_Lt hL (rd_Lm hL2 (by omega))) n (by omega)
      · by_cases q : i = c
        · subst q
          rw [ds1] at hs
          have := Option.some.inj hs
          subst this
          rw [pk_us, pk_us, pk_us]; exact ⟨rfl, rfl, rfl⟩
        · rw [pk_un q, pk_un q, pk_un q]; exact hP i d2 (by omega) hs
      · by_cases q : i = c
        · subst q
          rw [ds1] at hs
          have := Option.some.inj hs
          subst this
          exact ⟨Nat.le_refl _, p8, I2⟩
        · obtain ⟨q1, q2, q3⟩ := hB i d2 (by omega) hs
          refine ⟨by omega, q2, yb_c (fun j hj => ?_) (fun j hj => hL2 j (by omega)) q2 q3⟩
          rw [hg2 j (by omega)]
          exact if_neg (by omega)
    -- up to it
    have skip : ∀ k i, i + k = d.2.2.2 → d.1 ≤ i → ∀ n, T - i < n → wY_readDefs_15 post n (nI d.1) (nI i) f_width f_length f_place (nI T) (nI d.2.1) (nI c) a_text a_tok a_tokNum a_tokPlace a_opened nop nnm npl nA nB nC nLo nHi nLv dn dpl drt a_loaded a_count a_status a_number a_origin a_choice a_slotF a_slotX a_slotHeld := by
      intro k
      induction k with
      | zero =>
        intro i hi h1 n hn
        have : i = d.2.2.2 := by omega
        subst this
        exact semi n hn
      | succ k ihk =>
        intro i hi h1 n hn
        obtain ⟨n, rfl⟩ : ∃ m, n = m + 1 := ⟨n - 1, by omega⟩
        have iT : i < T := by omega
        have k27 := hk i iT
        have n25 := p4 i h1 (by omega)
        refine br_f (nI_ge iT (by omega)) ⟨vp_in_nI (by omega) (by decide), ?_⟩
        rw [nI_clamp (by omega), (ht i iT).1]
        refine br_f (fun q => n25 ((nI_eq (b := 25) (by omega) (by decide)).mp q)) (fun y ey => ?_)
        rw [ey, nI_1]
        exact ihk (i + 1) (by omega) (by omega) n (by omega)
    exact skip (d.2.2.2 - d.1) d.1 (by omega) (Nat.le_refl _) n hn
theorem rd_Y (hT : T ≤ 200) (ht : ∀ i, i < T → a_tok i = nI (tk i) ∧ a_tokNum i = nI (tn i) ∧ a_tokPlace i = nI (tp i)) (hk : ∀ i, i < T → tk i ≤ 27) {Ee : Nat} (hE : Ee ≤ 320) {ds : List df_D}
    (hM : md_F tk Q ds 0 120 T Ee) (hok : ∀ u, 120 ≤ u → u < Ee → nd_ok tk tn Q u ∧ Q 11 u < 2 ^ 30)
    (hp : ∀ g dn dpl drt nop nnm npl nA nB nC nLo nHi nLv, rd_P tn tp ds ds.length dn dpl drt → drt ds.length = nI Ee → rd_B tk tp Q T ds ds.length Ee g nop nnm npl nA nB nC nLo nHi nLv → rd_L 120 a_nOp a_nNum a_nPlace a_nA a_nB a_nC a_nLo a_nHi a_nLevel nop nnm npl nA nB nC nLo nHi nLv →
      post (f_width, f_length, f_place, nI T, nI Ee, nI ds.length, a_text, a_tok, a_tokNum, a_tokPlace, a_opened, nop, nnm, npl, nA, nB, nC, nLo, nHi, nLv, dn, dpl, drt, a_loaded, a_count, a_status, a_number, a_origin, a_choice, a_slotF, a_slotX, a_slotHeld)) :
    wpY_readDefs post (f_width, f_length, f_place, nI T, f_nodes, f_defs, a_text, a_tok, a_tokNum, a_tokPlace, a_opened, a_nOp, a_nNum, a_nPlace, a_nA, a_nB, a_nC, a_nLo, a_nHi, a_nLevel, a_defName, a_defPlace, a_defRoot, a_loaded, a_count, a_status, a_number, a_origin, a_choice, a_slotF, a_slotX, a_slotHeld) := by
  have le := md_le _ _ _ _ _ hM
  refine ⟨T + 1, rd_15 hT ht hk hE (ds := ds) (by omega) hok (fun g _ dn dpl drt nop nnm npl nA nB nC nLo nHi nLv h1 h2 h3 h4 _ => hp g dn dpl drt nop nnm npl nA nB nC nLo nHi nLv h1 h2 h3 h4)
    ds 0 0 120 (fun j => j) a_defName a_defPlace a_defRoot a_nOp a_nNum a_nPlace a_nA a_nB a_nC a_nLo a_nHi a_nLevel hM rfl (Nat.zero_le _) (Nat.le_refl _) (fun i d hi _ => by omega) (fun i d hi _ => by omega) (fun j _ => ⟨rfl, rfl, rfl, rfl, rfl, rfl, rfl, rfl, rfl⟩) _ (by omega)⟩
end
end
section
-- THE MODULE as parsed: pure facts
theorem df_Af {Tk : List tz_T} {dp df de : Nat → Int32} : ∀ (dl : List df_D), df_A Tk dp df de dl → ∀ (i : Nat) (d : df_D), dl.reverse[i]? = some d → dp i = nI (tt_p Tk d.1) ∧ df i = nI d.2.1 ∧ de i = nI d.2.2.1 := by
  intro dl
  induction dl with
  | nil => intro _ i d h; simp at h
  | cons a r ih =>
    intro h i d hi
    obtain ⟨h1, h2, h3, h4⟩ := h
    rw [List.reverse_cons] at hi
    rcases Nat.lt_trichotomy i r.length with q | q | q
    · rw [List.getElem?_append_left (by rw [List.length_reverse]; exact q)] at hi
      exact ih h4 i d hi
    · subst q
      rw [List.getElem?_append_right (by rw [List.length_reverse]; exact Nat.le_refl _), List.length_reverse, Nat.sub_self] at hi
      simp at hi
      subst hi
      exact ⟨h1, h2, h3⟩
    · rw [List.getElem?_eq_none (by rw [List.length_append, List.length_reverse]; simp; omega)] at hi
      exact absurd hi (by simp)
-- each def of a list, and where it lies
theorem md_i {tk : Nat → Nat} {Q : Nat → Nat → Nat} : ∀ (r : List df_D) (t e t2 e2 : Nat), md_F tk Q r t e t2 e2 → ∀ (i : Nat) (d : df_D), r[i]? = some d → md_D tk Q d ∧ t ≤ d.1 ∧ d.2.2.2 < t2 ∧ e ≤ d.2.1 ∧ d.2.2.1 ≤ e2 := by
  intro r
  induction r with
  | nil => intro t e t2 e2 _ i d h; simp at h
  | cons a r ih =>
    intro t e t2 e2 h i d hi
    obtain ⟨h1, h2, h3, h4⟩ := h
    have le := md_le _ _ _ _ _ h4
    have := h3.2.2.2.2.2.1.1
    have := h3.2.2.2.2.2.2.2.1
    cases i with
    | zero =>
      simp at hi
      subst hi
      exact ⟨h3, by omega, by omega, by omega, by omega⟩
    | succ i =>
      simp at hi
      obtain ⟨q1, q2, q3, q4, q5⟩ := ih _ _ _ _ h4 i d hi
      exact ⟨q1, by omega, q3, by omega, q5⟩
theorem md_o {tk : Nat → Nat} {Q : Nat → Nat → Nat} : ∀ (r : List df_D) (t e t2 e2 : Nat), md_F tk Q r t e t2 e2 → ∀ (i j : Nat) (d c : df_D), i < j → r[i]? = some d → r[j]? = some c → d.2.2.2 < c.1 ∧ d.2.2.1 ≤ c.2.1 := by
  intro r
  induction r with
  | nil => intro t e t2 e2 _ i j d c _ h; simp at h
  | cons a r ih =>
    intro t e t2 e2 h i j d c hij hi hj
    obtain ⟨h1, h2, h3, h4⟩ := h
    obtain ⟨j, rfl⟩ : ∃ k, j = k + 1 := ⟨j - 1, by omega⟩
    simp at hj
    cases i with
    | zero =>
      simp at hi
      subst hi
      obtain ⟨q1, q2, q3, q4, q5⟩ := md_i r _ _ _ _ h4 j c hj
      exact ⟨by omega, q4⟩
    | succ i =>
      simp at hi
      exact ih _ _ _ _ h4 i j d c (by omega) hi hj
-- every node and every token lies in some def
theorem md_n {tk : Nat → Nat} {Q : Nat → Nat → Nat} : ∀ (r : List df_D) (t e t2 e2 : Nat), md_F tk Q r t e t2 e2 → ∀ u, e ≤ u → u < e2 → ∃ (i : Nat) (d : df_D), r[i]? = some d ∧ d.2.1 ≤ u ∧ u < d.2.2.1 := by
  intro r
  induction r with
  | nil => intro t e t2 e2 h u h1 h2; obtain ⟨_, rfl⟩ := h; omega
  | cons a r ih =>
    intro t e t2 e2 h u hu1 hu2
    obtain ⟨h1, h2, h3, h4⟩ := h
    by_cases q : u < a.2.2.1
    · exact ⟨0, a, rfl, by omega, q⟩
    · obtain ⟨i, d, x1, x2⟩ := ih _ _ _ _ h4 u (by omega) hu2
      exact ⟨i + 1, d, x1, x2⟩
theorem md_t {tk : Nat → Nat} {Q : Nat → Nat → Nat} : ∀ (r : List df_D) (t e t2 e2 : Nat), md_F tk Q r t e t2 e2 → ∀ u, t ≤ u → u < t2 → ∃ (i : Nat) (d : df_D), r[i]? = some d ∧ d.1 ≤ u ∧ u ≤ d.2.2.2 := by
  intro r
  induction r with
  | nil => intro t e t2 e2 h u h1 h2; obtain ⟨rfl, _⟩ := h; omega
  | cons a r ih =>
    intro t e t2 e2 h u hu1 hu2
    obtain ⟨h1, h2, h3, h4⟩ := h
    by_cases q : u ≤ a.2.2.2
    · exact ⟨0, a, rfl, by omega, q⟩
    · obtain ⟨i, d, x1, x2⟩ := ih _ _ _ _ h4 u (by omega) hu2
      exact ⟨i + 1, d, x1, x2⟩
-- names
def mn_f (Tk : List tz_T) (ds : List df_D) (i : Nat) : Nat := tt_n Tk (ds[i]?.getD (0, 0, 0, 0)).1
theorem mn_s {Tk : List tz_T} {ds : List df_D} {i : Nat} {d : df_D} (h : ds[i]? = some d) : mn_f Tk ds i = tt_n Tk d.1 := by
  unfold mn_f; rw [h]; rfl
def mn_m (f : Nat → Nat) : Nat → Nat
  | 0 => 0
  | i + 1 => mn_m f i ||| 2 ^ f i
theorem mn_b {f : Nat → Nat} : ∀ (n : Nat), (∀ i, i < n → f i < 5) → mn_m f n < 32 ∧ ∀ k, k < 5 → ((mn_m f n).testBit k = true ↔ ∃ i, i < n ∧ f i = k) := by
  intro n
  induction n with
  | zero => intro _; exact ⟨(by decide : 0 < 32), fun k _ => by simp [mn_m]⟩
  | succ n ih =>
    intro h
    obtain ⟨i1, i2⟩ := ih (fun i hi => h i (by omega))
    have hn := h n (by omega)
    refine ⟨?_, fun k hk => ?_⟩
    · show mn_m f n ||| 2 ^ f n < 32
      have : 2 ^ f n < 2 ^ 5 := Nat.pow_lt_pow_right (by decide) hn
      exact Nat.or_lt_two_pow (n := 5) i1 this
    · show (mn_m f n ||| 2 ^ f n).testBit k = true ↔ _
      rw [Nat.testBit_or, Bool.or_eq_true, i2 k hk, Nat.testBit_two_pow]
      constructor
      · rintro (⟨i, h1, h2⟩ | q)
        · exact ⟨i, by omega, h2⟩
        · exact ⟨n, by omega, by simpa using q⟩
      · rintro ⟨i, h1, h2⟩
        by_cases q : i = n
        · right; subst q; simpa using h2
        · left; exact ⟨i, by omega, h2⟩
theorem mn_1 : ∀ m, m < 32 → ∀ f, f < 5 → ((nI m &&& ((1 : Int32) <<< (nI f &&& 31))) = 0 ↔ m.testBit f = false) := by decide +kernel
theorem mn_2 : ∀ m, m < 32 → ∀ f, f < 5 → (nI m ||| ((1 : Int32) <<< (nI f &&& 31))) = nI (m ||| 2 ^ f) := by decide +kernel
theorem mn_3 : ∀ m, m < 32 → ∀ f, f < 5 → (((nI m >>> (nI f &&& 31)) &&& 1) = 0 ↔ m.testBit f = false) := by decide +kernel
-- the first def that is double, too large or too deep
def ck_n (Q : Nat → Nat → Nat) (n : Nat) : Nat := ct_n (fun i => Q 0 i == 24) n
def ck_f (Q : Nat → Nat → Nat) (f : Nat → Nat) (ds : List df_D) (i r : Nat) : Prop :=
  ∃ d, ds[i]? = some d ∧ (((∃ j, j < i ∧ f j = f i) ∧ r = 4) ∨ (¬ (∃ j, j < i ∧ f j = f i) ∧
    ((24 < d.2.2.1 - d.2.1 ∨ 3 < ck_n Q d.2.2.1 - ck_n Q d.2.1) ∧ r = 5 ∨ ¬ (24 < d.2.2.1 - d.2.1 ∨ 3 < ck_n Q d.2.2.1 - ck_n Q d.2.1) ∧ (8 < Q 11 (d.2.2.1 - 1) ∧ r = 6 ∨ ¬ 8 < Q 11 (d.2.2.1 - 1) ∧ r = 1))))
theorem ck_u {Q : Nat → Nat → Nat} {f : Nat → Nat} {ds : List df_D} {i r s : Nat} (h : ck_f Q f ds i r) (g : ck_f Q f ds i s) : r = s := by
  obtain ⟨d, h1, h2⟩ := h
  obtain ⟨c, g1, g2⟩ := g
  rw [h1] at g1
  have := Option.some.inj g1
  subst this
  rcases h2 with ⟨a, rfl⟩ | ⟨a, ⟨b, rfl⟩ | ⟨b, ⟨c, rfl⟩ | ⟨c, rfl⟩⟩⟩ <;> rcases g2 with ⟨a2, rfl⟩ | ⟨a2, ⟨b2, rfl⟩ | ⟨b2, ⟨c2, rfl⟩ | ⟨c2, rfl⟩⟩⟩ <;> first | rfl | (exact absurd a a2) | (exact absurd a2 a) | (exact absurd b b2) | (exact absurd b2 b) | (exact absurd c c2) | (exact absurd c2 c)
theorem ck_ex (Q : Nat → Nat → Nat) (f : Nat → Nat) {ds : List df_D} {i : Nat} (hi : i < ds.length) : ∃ r, ck_f Q f ds i r := by
  have hs : ds[i]? = some ds[i] := List.getElem?_eq_getElem hi
  by_cases a : ∃ j, j < i ∧ f j = f i
  · exact ⟨4, _, hs, Or.inl ⟨a, rfl⟩⟩
  · by_cases b : 24 < ds[i].2.2.1 - ds[i].2.1 ∨ 3 < ck_n Q ds[i].2.2.1 - ck_n Q ds[i].2.1
    · exact ⟨5, _, hs, Or.inr ⟨a, Or.inl ⟨b, rfl⟩⟩⟩
    · by_cases c : 8 < Q 11 (ds[i].2.2.1 - 1)
      · exact ⟨6, _, hs, Or.inr ⟨a, Or.inr ⟨b, Or.inl ⟨c, rfl⟩⟩⟩⟩
      · exact ⟨1, _, hs, Or.inr ⟨a, Or.inr ⟨b, Or.inr ⟨c, rfl⟩⟩⟩⟩
def ck_R (Q : Nat → Nat → Nat) (f : Nat → Nat) (ds : List df_D) (o : Option (Nat × Nat)) : Prop :=
  (o = none ∧ ∀ i, i < ds.length → ck_f Q f ds i 1) ∨ (∃ i r, o = some (i, r) ∧ i < ds.length ∧ r ≠ 1 ∧ ck_f Q f ds i r ∧ ∀ j, j < i → ck_f Q f ds j 1)
theorem ck_Rex (Q : Nat → Nat → Nat) (f : Nat → Nat) (ds : List df_D) : ∃ o, ck_R Q f ds o := by
  by_cases h : ∃ i, i < ds.length ∧ ¬ ck_f Q f ds i 1
  · obtain ⟨k, ⟨k1, k2⟩, k3⟩ := pk_least (fun i => i < ds.length ∧ ¬ ck_f Q f ds i 1) h
    obtain ⟨r, hr⟩ := ck_ex Q f k1
    refine ⟨some (k, r), Or.inr ⟨k, r, rfl, k1, fun q => k2 (q ▸ hr), hr, fun j hj => ?_⟩⟩
    exact Classical.byContradiction (fun q => k3 j hj ⟨by omega, q⟩)
  · exact ⟨none, Or.inl ⟨rfl, fun i hi => Classical.byContradiction (fun q => h ⟨i, hi, q⟩)⟩⟩
-- the first unknown name
def uk_t (Tk : List tz_T) (P : Nat → Nat → Nat) (f : Nat → Nat) (n : Nat) (i : Nat) : Prop := tt_k Tk i = 13 ∧ (¬ ∃ j, j < n ∧ f j = tt_n Tk i) ∧ P 5 (tt_n Tk i) = 0
def uk_R (Tk : List tz_T) (P : Nat → Nat → Nat) (f : Nat → Nat) (n : Nat) (o : Option Nat) : Prop :=
  (o = none ∧ ∀ i, i < Tk.length → ¬ uk_t Tk P f n i) ∨ (∃ i, o = some i ∧ i < Tk.length ∧ uk_t Tk P f n i ∧ ∀ j, j < i → ¬ uk_t Tk P f n j)
theorem uk_ex (Tk : List tz_T) (P : Nat → Nat → Nat) (f : Nat → Nat) (n : Nat) : ∃ o, uk_R Tk P f n o := by
  by_cases h : ∃ i, i < Tk.length ∧ uk_t Tk P f n i
  · obtain ⟨k, ⟨k1, k2⟩, k3⟩ := pk_least (fun i => i < Tk.length ∧ uk_t Tk P f n i) h
    exact ⟨some k, Or.inr ⟨k, rfl, k1, k2, fun j hj q => k3 j hj ⟨by omega, q⟩⟩⟩
  · exact ⟨none, Or.inl ⟨rfl, fun i hi q => h ⟨i, hi, q⟩⟩⟩
end
section
-- X checks the defs and the calls
def xm_A (Tk : List tz_T) (ds : List df_D) (dp df de : Nat → Int32) : Prop := ∀ (i : Nat) (d : df_D), ds[i]? = some d → dp i = nI (tt_p Tk d.1) ∧ df i = nI d.2.1 ∧ de i = nI d.2.2.1
def xm_I (L : Nat) (tx : Nat → Nat) (Tk : List tz_T) (Q : Nat → Nat → Nat) (ds : List df_D) (e : Nat) (tt dp df de no nn np nd pt : Nat → Int32) : Prop :=
  tx_P L tx tt ∧ xp_T L tx Tk ∧ md_F (tt_k Tk) Q ds 0 120 Tk.length e ∧ xp_N Tk Q e no nn np nd pt ∧ xm_A Tk ds dp df de ∧ e ≤ 320
theorem xm_f5 {L : Nat} {tx : Nat → Nat} {Tk : List tz_T} {Q : Nat → Nat → Nat} {ds : List df_D} {e : Nat} {tt dp df de no nn np nd pt : Nat → Int32} (I : xm_I L tx Tk Q ds e tt dp df de no nn np nd pt) {i : Nat} (hi : i < ds.length) :
    mn_f Tk ds i < 5 ∧ ∃ d, ds[i]? = some d ∧ md_D (tt_k Tk) Q d ∧ d.1 < Tk.length ∧ d.2.2.2 < Tk.length ∧ 120 ≤ d.2.1 ∧ d.2.2.1 ≤ e ∧ mn_f Tk ds i = tt_n Tk d.1 := by
  obtain ⟨i1, i2, i3, i4, i5, i6⟩ := I
  have hs : ds[i]? = some ds[i] := List.getElem?_eq_getElem hi
  obtain ⟨q1, q2, q3, q4, q5⟩ := md_i ds _ _ _ _ i3 i _ hs
  have := q1.2.2.2.2.2.1.1
  refine ⟨by rw [mn_s hs]; exact xp_n5 i1 i2 (by omega) q1.1, _, hs, q1, by omega, q3, q4, q5, mn_s hs⟩
theorem xm_50 {tk : Nat → Nat} {Q : Nat → Nat → Nat} {ds : List df_D} {T e : Nat} (h : md_F tk Q ds 0 120 T e) (hT : T ≤ 200) : ds.length ≤ 50 := by
  have := md_le _ _ _ _ _ h; omega
section
variable {f_width f_textLength f_foundPlace f_tokenCount f_frameCount f_operandCount f_defCount f_nodeEnd : Int32} {a_text a_tokenCode a_tokenPlace a_frameCode a_framePlace a_operand a_defPlace a_defFirst a_defEnd a_nodeOp a_nodeNumber a_nodePlace a_nodeDepth a_nodeKind a_part a_size a_kindFound a_choice a_status : Nat → Int32} {a_result : Nat → Int64} {a_slotFunction a_slotArgument : Nat → Int32} {L : Nat} {tx : Nat → Nat} {Tk : List tz_T} {Q : Nat → Nat → Nat} {ds : List df_D} {e : Nat}
theorem xm_fn (I : xm_I L tx Tk Q ds e a_text a_defPlace a_defFirst a_defEnd a_nodeOp a_nodeNumber a_nodePlace a_nodeDepth a_part) {i : Nat} (hi : i < ds.length) {post : Int32 → Prop} (h : post (nI (mn_f Tk ds i))) : wpX_functionOfDef post (f_width, f_textLength, f_foundPlace, f_tokenCount, f_frameCount, f_operandCount, f_defCount, f_nodeEnd, a_text, a_tokenCode, a_tokenPlace, a_frameCode, a_framePlace, a_operand, a_defPlace, a_defFirst, a_defEnd, a_nodeOp, a_nodeNumber, a_nodePlace, a_nodeDepth, a_nodeKind, a_part, a_size, a_kindFound, a_choice, a_status, a_result, a_slotFunction, a_slotArgument) (nI i) := by
  obtain ⟨f5, d, hs, hD, dT, sT, d120, de, fe⟩ := xm_f5 I hi
  obtain ⟨i1, i2, i3, i4, i5, i6⟩ := I
  have b := xm_50 i3 (by have := i2.1; have := i2.2.1; omega)
  obtain ⟨pL, _, _, _, _⟩ := i2.2.2 d.1 dT
  have L2 := i2.2.1
  refine ⟨vp_in_nI (by omega) (by decide), ?_⟩
  rw [nI_clamp (by omega), (i5 i d hs).1]
  refine ⟨vp_in_nI (by omega) (by decide), ?_⟩
  rw [nI_clamp (by omega), (i1.2 _ pL).1]
  obtain ⟨w1, w2⟩ := xp_nn i2 (i := d.1) (t := 13) dT ⟨fun _ => hD.1, fun _ => rfl⟩
  have : ad_nn L tx 13 (tt_p Tk d.1) = tx (tt_p Tk d.1) - 65 := rfl
  have hsub : nI (tx (tt_p Tk d.1)) - 65 = nI (tx (tt_p Tk d.1) - 65) := pk_sub (b := 65) (w2 rfl)
  rw [hsub, ← this, w1, ← fe]
  exact h
theorem xm_large (I : xm_I L tx Tk Q ds e a_text a_defPlace a_defFirst a_defEnd a_nodeOp a_nodeNumber a_nodePlace a_nodeDepth a_part) {F E : Nat} (hF : 120 ≤ F) (hFE : F ≤ E) (hE : E ≤ e) {post : Int32 → Prop}
    (h1 : (24 < E - F ∨ 3 < ck_n Q E - ck_n Q F) → post 1) (h0 : ¬ (24 < E - F ∨ 3 < ck_n Q E - ck_n Q F) → post 0) : wpX_isLarge post (f_width, f_textLength, f_foundPlace, f_tokenCount, f_frameCount, f_operandCount, f_defCount, f_nodeEnd, a_text, a_tokenCode, a_tokenPlace, a_frameCode, a_framePlace, a_operand, a_defPlace, a_defFirst, a_defEnd, a_nodeOp, a_nodeNumber, a_nodePlace, a_nodeDepth, a_nodeKind, a_part, a_size, a_kindFound, a_choice, a_status, a_result, a_slotFunction, a_slotArgument) (nI F) (nI E) := by
  obtain ⟨i1, i2, i3, i4, i5, i6⟩ := I
  have es : nI E - nI F = nI (E - F) := pk_sub hFE
  have mono : ∀ n, ck_n Q n ≤ n := fun n => ct_le _ _
  have key : ∀ d k x, k + d = E → F ≤ k → x + ck_n Q F = ck_n Q k → ∀ n, d < n → wX_isLarge_5 post (nI F) (nI E) f_width f_textLength f_foundPlace f_tokenCount f_frameCount f_operandCount f_defCount f_nodeEnd a_text a_tokenCode a_tokenPlace a_frameCode a_framePlace a_operand a_defPlace a_defFirst a_defEnd a_nodeOp a_nodeNumber a_nodePlace a_nodeDepth a_nodeKind a_part a_size a_kindFound a_choice a_status a_result a_slotFunction a_slotArgument n (nI x) (nI k) := by
    intro d
    induction d with
    | zero =>
      intro k x hk hFk hx n hn
      obtain ⟨n, rfl⟩ : ∃ m, n = m + 1 := ⟨n - 1, by omega⟩
      have ek : k = E := by omega
      subst ek
      have := mono k
      refine br_t (nI_le (Nat.le_refl _) (by omega)) ?_
      rw [es]
      refine pk_lt 24 (k - F) (fun c => h1 (Or.inl c)) (fun c => pk_le x 3 (fun c2 => h0 (by omega)) (fun c2 => h1 (by omega)))
    | succ d ih =>
      intro k x hk hFk hx n hn
      obtain ⟨n, rfl⟩ : ∃ m, n = m + 1 := ⟨n - 1, by omega⟩
      obtain ⟨okk, _, _, rk⟩ := i4.2 k (by omega) (by omega)
      have st : ck_n Q (k + 1) = ck_n Q k + (if (Q 0 k == 24) = true then 1 else 0) := rfl
      have bd : Q 0 k < 34 := by
        rcases okk.1 with g | ⟨g1, _⟩ | ⟨g1, _⟩ | ⟨g1, _⟩ | ⟨g1, _⟩ | ⟨g1, _⟩ <;> omega
      have tb := ad_tb _ bd
      have i58 : ∀ c, c < 34 → (xc_t c = 58 ↔ c = 24) := by decide
      refine br_f (nI_ge (by omega) (by omega)) ⟨vp_in_nI (by omega) (by decide), ?_⟩
      rw [nI_clamp (by omega), rk.1]
      refine pk_eq (xc_t (Q 0 k)) 58 (fun c => fun y ey z ez => ?_) (fun c => fun z ez => ?_)
      · have c24 := (i58 _ bd).mp c
        rw [nI_1] at ey ez
        subst ey ez
        rw [if_pos (by rw [c24]; rfl)] at st
        exact ih (k + 1) (x + 1) (by omega) (by omega) (by omega) n (by omega)
      · have c24 : ¬ Q 0 k = 24 := fun q => c ((i58 _ bd).mpr q)
        rw [nI_1] at ez
        subst ez
        rw [if_neg (by simpa using c24)] at st
        exact ih (k + 1) x (by omega) (by omega) (by omega) n (by omega)
  exact ⟨_, key (E - F) F 0 (by omega) (Nat.le_refl _) (by omega) _ (Nat.lt_succ_self _)⟩
theorem xm_defs (I : xm_I L tx Tk Q ds e a_text a_defPlace a_defFirst a_defEnd a_nodeOp a_nodeNumber a_nodePlace a_nodeDepth a_part) {o : Option (Nat × Nat)} (hR : ck_R Q (mn_f Tk ds) ds o) {post : Int32 → SX → Prop}
    (h1 : o = none → post 1 (f_width, f_textLength, f_foundPlace, f_tokenCount, f_frameCount, f_operandCount, nI ds.length, f_nodeEnd, a_text, a_tokenCode, a_tokenPlace, a_frameCode, a_framePlace, a_operand, a_defPlace, a_defFirst, a_defEnd, a_nodeOp, a_nodeNumber, a_nodePlace, a_nodeDepth, a_nodeKind, a_part, a_size, a_kindFound, a_choice, a_status, a_result, a_slotFunction, a_slotArgument)) (h2 : ∀ i r, o = some (i, r) → ∀ d, ds[i]? = some d → post (nI r) (f_width, f_textLength, nI (tt_p Tk d.1), f_tokenCount, f_frameCount, f_operandCount, nI ds.length, f_nodeEnd, a_text, a_tokenCode, a_tokenPlace, a_frameCode, a_framePlace, a_operand, a_defPlace, a_defFirst, a_defEnd, a_nodeOp, a_nodeNumber, a_nodePlace, a_nodeDepth, a_nodeKind, a_part, a_size, a_kindFound, a_choice, a_status, a_result, a_slotFunction, a_slotArgument)) : wpX_checkDefs post (f_width, f_textLength, f_foundPlace, f_tokenCount, f_frameCount, f_operandCount, nI ds.length, f_nodeEnd, a_text, a_tokenCode, a_tokenPlace, a_frameCode, a_framePlace, a_operand, a_defPlace, a_defFirst, a_defEnd, a_nodeOp, a_nodeNumber, a_nodePlace, a_nodeDepth, a_nodeKind, a_part, a_size, a_kindFound, a_choice, a_status, a_result, a_slotFunction, a_slotArgument) := by
  have b50 := xm_50 I.2.2.1 (by have := I.2.1.1; have := I.2.1.2.1; omega)
  have f5 : ∀ i, i < ds.length → mn_f Tk ds i < 5 := fun i hi => (xm_f5 I hi).1
  have stop : ∀ i r d, i < ds.length → (∀ j, j < i → ck_f Q (mn_f Tk ds) ds j 1) → r ≠ 1 → ck_f Q (mn_f Tk ds) ds i r → ds[i]? = some d → post (nI r) (f_width, f_textLength, nI (tt_p Tk d.1), f_tokenCount, f_frameCount, f_operandCount, nI ds.length, f_nodeEnd, a_text, a_tokenCode, a_tokenPlace, a_frameCode, a_framePlace, a_operand, a_defPlace, a_defFirst, a_defEnd, a_nodeOp, a_nodeNumber, a_nodePlace, a_nodeDepth, a_nodeKind, a_part, a_size, a_kindFound, a_choice, a_status, a_result, a_slotFunction, a_slotArgument) := by
    intro i r d hi hj hr hc hs
    rcases hR with ⟨q1, q2⟩ | ⟨i2, r2, q1, q2, q3, q4, q5⟩
    · exact absurd (ck_u hc (q2 i hi)) hr
    · have : i = i2 := by
        rcases Nat.lt_trichotomy i i2 with w | w | w
        · exact absurd (ck_u hc (q5 i w)) hr
        · exact w
        · exact absurd (ck_u q4 (hj i2 w)) q3
      subst this
      rw [ck_u hc q4]
      exact h2 i r2 q1 d hs
  have key : ∀ d i, i + d = ds.length → (∀ j, j < i → ck_f Q (mn_f Tk ds) ds j 1) → ∀ n, d < n → wX_checkDefs_4 post f_width f_textLength f_foundPlace f_tokenCount f_frameCount f_operandCount (nI ds.length) f_nodeEnd a_text a_tokenCode a_tokenPlace a_frameCode a_framePlace a_operand a_defPlace a_defFirst a_defEnd a_nodeOp a_nodeNumber a_nodePlace a_nodeDepth a_nodeKind a_part a_size a_kindFound a_choice a_status a_result a_slotFunction a_slotArgument n (nI (mn_m (mn_f Tk ds) i)) (nI i) := by
    intro d
    induction d with
    | zero =>
      intro i hi hj n hn
      obtain ⟨n, rfl⟩ : ∃ m, n = m + 1 := ⟨n - 1, by omega⟩
      have ei : i = ds.length := by omega
      subst ei
      refine br_t (nI_le (Nat.le_refl _) (by omega)) (h1 ?_)
      rcases hR with ⟨q1, q2⟩ | ⟨i2, r2, q1, q2, q3, q4, q5⟩
      · exact q1
      · exact absurd (ck_u q4 (hj i2 q2)) q3
    | succ dd ih =>
      intro i hi hj n hn
      obtain ⟨n, rfl⟩ : ∃ m, n = m + 1 := ⟨n - 1, by omega⟩
      have il : i < ds.length := by omega
      obtain ⟨fi5, d, hs, hD, dT, sT, d120, de, fe⟩ := xm_f5 I il
      obtain ⟨m32, mb⟩ := mn_b (f := mn_f Tk ds) i (fun j hj => f5 j (by omega))
      have hin : vp_in (nI i) 200 := vp_in_nI (by omega) (by decide)
      have dA := I.2.2.2.2.1 i d hs
      have FE := hD.2.2.2.2.2.2.2.1
      have e320 := I.2.2.2.2.2
      refine br_f (nI_ge il (by omega)) (xm_fn I il (fun b eb => ?_))
      subst eb
      refine br_c (fun c => ?_) (fun c => ⟨hin, ?_⟩)
      · rw [mn_1 _ m32 _ fi5] at c
        have nd : ¬ ∃ j, j < i ∧ mn_f Tk ds j = mn_f Tk ds i := fun q => by rw [(mb _ fi5).mpr q] at c; exact absurd c (by decide)
        intro x ex
        rw [mn_2 _ m32 _ fi5] at ex
        subst ex
        refine ⟨hin, hin, ?_⟩
        rw [nI_clamp (by omega), dA.2.1, dA.2.2]
        refine xm_large I d120 (by omega) de (fun c2 => bq_1 ⟨hin, ?_⟩) (fun c2 => br_t rfl ⟨hin, ?_⟩)
        · rw [dA.1]
          exact stop i 5 d il hj (by decide) ⟨d, hs, Or.inr ⟨nd, Or.inl ⟨c2, rfl⟩⟩⟩ hs
        · have e1 : nI d.2.2.1 - 1 = nI (d.2.2.1 - 1) := pk_sub (b := 1) (by omega)
          rw [e1]
          refine ⟨vp_in_nI (by omega) (by decide), ?_⟩
          obtain ⟨_, dq, _, rq⟩ := I.2.2.2.1.2 (d.2.2.1 - 1) (by omega) (by omega)
          rw [nI_clamp (by omega), rq.2.2.2.1]
          refine pk_le (Q 11 (d.2.2.1 - 1)) 8 (fun c3 => fun y ey => ?_) (fun c3 => ⟨hin, ?_⟩)
          · rw [ey, nI_1]
            refine ih (i + 1) (by omega) (fun j hj2 => ?_) n (by omega)
            by_cases q : j = i
            · subst q
              exact ⟨d, hs, Or.inr ⟨nd, Or.inr ⟨c2, Or.inr ⟨by omega, rfl⟩⟩⟩⟩
            · exact hj j (by omega)
          · rw [dA.1]
            exact stop i 6 d il hj (by decide) ⟨d, hs, Or.inr ⟨nd, Or.inr ⟨c2, Or.inl ⟨c3, rfl⟩⟩⟩⟩ hs
      · rw [mn_1 _ m32 _ fi5] at c
        have yd : ∃ j, j < i ∧ mn_f Tk ds j = mn_f Tk ds i := (mb _ fi5).mp (by simpa using c)
        rw [nI_clamp (by omega), dA.1]
        exact stop i 4 d il hj (by decide) ⟨d, hs, Or.inl ⟨yd, rfl⟩⟩ hs
  exact ⟨_, key ds.length 0 (by omega) (fun j hj => by omega) _ (Nat.lt_succ_self _)⟩
theorem xm_names (I : xm_I L tx Tk Q ds e a_text a_defPlace a_defFirst a_defEnd a_nodeOp a_nodeNumber a_nodePlace a_nodeDepth a_part) {post : Int32 → Prop} (h : post (nI (mn_m (mn_f Tk ds) ds.length))) : wpX_namesOfText post (f_width, f_textLength, f_foundPlace, f_tokenCount, f_frameCount, f_operandCount, nI ds.length, f_nodeEnd, a_text, a_tokenCode, a_tokenPlace, a_frameCode, a_framePlace, a_operand, a_defPlace, a_defFirst, a_defEnd, a_nodeOp, a_nodeNumber, a_nodePlace, a_nodeDepth, a_nodeKind, a_part, a_size, a_kindFound, a_choice, a_status, a_result, a_slotFunction, a_slotArgument) := by
  have b50 := xm_50 I.2.2.1 (by have := I.2.1.1; have := I.2.1.2.1; omega)
  have f5 : ∀ i, i < ds.length → mn_f Tk ds i < 5 := fun i hi => (xm_f5 I hi).1
  have key : ∀ d i, i + d = ds.length → ∀ n, d < n → wX_namesOfText_4 post f_width f_textLength f_foundPlace f_tokenCount f_frameCount f_operandCount (nI ds.length) f_nodeEnd a_text a_tokenCode a_tokenPlace a_frameCode a_framePlace a_operand a_defPlace a_defFirst a_defEnd a_nodeOp a_nodeNumber a_nodePlace a_nodeDepth a_nodeKind a_part a_size a_kindFound a_choice a_status a_result a_slotFunction a_slotArgument n (nI (mn_m (mn_f Tk ds) i)) (nI i) := by
    intro d
    induction d with
    | zero =>
      intro i hi n hn
      obtain ⟨n, rfl⟩ : ∃ m, n = m + 1 := ⟨n - 1, by omega⟩
      have ei : i = ds.length := by omega
      subst ei
      exact br_t (nI_le (Nat.le_refl _) (by omega)) h
    | succ d ih =>
      intro i hi n hn
      obtain ⟨n, rfl⟩ : ∃ m, n = m + 1 := ⟨n - 1, by omega⟩
      have il : i < ds.length := by omega
      obtain ⟨m32, mb⟩ := mn_b (f := mn_f Tk ds) i (fun j hj => f5 j (by omega))
      refine br_f (nI_ge il (by omega)) (xm_fn I il (fun b eb y ey => ?_))
      rw [mn_2 _ m32 _ (f5 i il)] at eb
      rw [nI_1] at ey
      subst eb ey
      exact ih (i + 1) (by omega) n (by omega)
  exact ⟨_, key ds.length 0 (by omega) _ (Nat.lt_succ_self _)⟩
-- unknown calls
def uk_v (Tk : List tz_T) : Option Nat → Nat
  | none => 201
  | some i => tt_p Tk i
theorem uk_nt (I : xm_I L tx Tk Q ds e a_text a_defPlace a_defFirst a_defEnd a_nodeOp a_nodeNumber a_nodePlace a_nodeDepth a_part) {P : Nat → Nat → Nat} {i : Nat} (hi : i < Tk.length) (hu : uk_t Tk P (mn_f Tk ds) ds.length i) : ∃ u, 120 ≤ u ∧ u < e ∧ Q 9 u = i := by
  obtain ⟨i1, i2, i3, i4, i5, i6⟩ := I
  obtain ⟨u1, u2, u3⟩ := hu
  obtain ⟨c, d, hs, d1, d2⟩ := md_t ds _ _ _ _ i3 i (by omega) hi
  obtain ⟨q1, q2, q3, q4, q5⟩ := md_i ds _ _ _ _ i3 c d hs
  obtain ⟨p1, p2, p3, p4, p5, p6, p7, p8, p9⟩ := q1
  have cl : c < ds.length := by
    rcases Nat.lt_or_ge c ds.length with q | q
    · exact q
    · rw [List.getElem?_eq_none q] at hs; exact absurd hs (by simp)
  have n1 : i ≠ d.1 := fun q => u2 ⟨c, cl, by rw [mn_s hs, q]⟩
  have n2 : i ≠ d.1 + 1 := fun q => by rw [q, p2] at u1; omega
  have n3 : i ≠ d.2.2.2 := fun q => by rw [q, p3] at u1; omega
  obtain ⟨v, v1, v2, v3⟩ := bf_nm (tn := tt_n Tk) (F := 120) (d.2.2.1 - 1) (by omega) (fun v h1 h2 => (i4.2 v h1 (by omega)).1) (by omega) _ _ p5 i (by omega) (by omega) u1
  exact ⟨v, by omega, by omega, v3⟩
theorem xm_calls (I : xm_I L tx Tk Q ds e a_text a_defPlace a_defFirst a_defEnd a_nodeOp a_nodeNumber a_nodePlace a_nodeDepth a_part) {P : Nat → Nat → Nat} (hsz : ∀ f, f < 5 → a_size f = nI (P 5 f)) (hP24 : ∀ f, P 5 f ≤ 24)
    (hmo : ∀ i j, i < j → j < Tk.length → tt_p Tk i < tt_p Tk j) {o : Option Nat} (hR : uk_R Tk P (mn_f Tk ds) ds.length o) {post : Int32 → SX → Prop}
    (h1 : o = none → post 1 (f_width, f_textLength, f_foundPlace, f_tokenCount, f_frameCount, f_operandCount, nI ds.length, nI e, a_text, a_tokenCode, a_tokenPlace, a_frameCode, a_framePlace, a_operand, a_defPlace, a_defFirst, a_defEnd, a_nodeOp, a_nodeNumber, a_nodePlace, a_nodeDepth, a_nodeKind, a_part, a_size, a_kindFound, a_choice, a_status, a_result, a_slotFunction, a_slotArgument)) (h2 : ∀ i, o = some i → post 7 (f_width, f_textLength, nI (tt_p Tk i), f_tokenCount, f_frameCount, f_operandCount, nI ds.length, nI e, a_text, a_tokenCode, a_tokenPlace, a_frameCode, a_framePlace, a_operand, a_defPlace, a_defFirst, a_defEnd, a_nodeOp, a_nodeNumber, a_nodePlace, a_nodeDepth, a_nodeKind, a_part, a_size, a_kindFound, a_choice, a_status, a_result, a_slotFunction, a_slotArgument)) : wpX_checkCalls post (f_width, f_textLength, f_foundPlace, f_tokenCount, f_frameCount, f_operandCount, nI ds.length, nI e, a_text, a_tokenCode, a_tokenPlace, a_frameCode, a_framePlace, a_operand, a_defPlace, a_defFirst, a_defEnd, a_nodeOp, a_nodeNumber, a_nodePlace, a_nodeDepth, a_nodeKind, a_part, a_size, a_kindFound, a_choice, a_status, a_result, a_slotFunction, a_slotArgument) := by
  have f5 : ∀ i, i < ds.length → mn_f Tk ds i < 5 := fun i hi => (xm_f5 I hi).1
  obtain ⟨m32, mb⟩ := mn_b (f := mn_f Tk ds) ds.length f5
  have e320 := I.2.2.2.2.2
  have e120 := I.2.2.2.1.1
  have L2 := I.2.1.2.1
  have tpb : ∀ i, i < Tk.length → tt_p Tk i < 200 := fun i hi => by have := (I.2.1.2.2 i hi).1; omega
  -- the least place of an unknown call among the nodes below k
  have key : ∀ d k (b : Option Nat), k + d = e → 120 ≤ k → (b = none → ∀ u, 120 ≤ u → u < k → ¬ uk_t Tk P (mn_f Tk ds) ds.length (Q 9 u)) →
      (∀ i, b = some i → i < Tk.length ∧ uk_t Tk P (mn_f Tk ds) ds.length i ∧ ∀ u, 120 ≤ u → u < k → uk_t Tk P (mn_f Tk ds) ds.length (Q 9 u) → tt_p Tk i ≤ tt_p Tk (Q 9 u)) →
      ∀ n, d < n → wX_checkCalls_12 post (nI (mn_m (mn_f Tk ds) ds.length)) f_width f_textLength f_foundPlace f_tokenCount f_frameCount f_operandCount (nI ds.length) (nI e) a_text a_tokenCode a_tokenPlace a_frameCode a_framePlace a_operand a_defPlace a_defFirst a_defEnd a_nodeOp a_nodeNumber a_nodePlace a_nodeDepth a_nodeKind a_part a_size a_kindFound a_choice a_status a_result a_slotFunction a_slotArgument n (nI (uk_v Tk b)) (nI k) := by
    intro d
    induction d with
    | zero =>
      intro k b hk h120 hn hs n hnn
      obtain ⟨n, rfl⟩ : ∃ m, n = m + 1 := ⟨n - 1, by omega⟩
      have ek : k = e := by omega
      subst ek
      refine br_t (nI_le (Nat.le_refl _) (by omega)) ?_
      cases b with
      | none =>
        refine br_t rfl (h1 ?_)
        rcases hR with ⟨q, _⟩ | ⟨i, q1, q2, q3, q4⟩
        · exact q
        · obtain ⟨u, u1, u2, u3⟩ := uk_nt I q2 q3
          exact absurd (by rw [u3]; exact q3) (hn rfl u u1 u2)
      | some i =>
        obtain ⟨s1, s2, s3⟩ := hs i rfl
        have := tpb i s1
        refine br_f (fun q => by have := (nI_eq (a := tt_p Tk i) (b := 201) (by omega) (by decide)).mp q; omega) ?_
        rcases hR with ⟨q, qq⟩ | ⟨i2, q1, q2, q3, q4⟩
        · exact absurd s2 (qq i s1)
        · have ei : i2 = i := by
            rcases Nat.lt_trichotomy i2 i with w | w | w
            · obtain ⟨u, u1, u2, u3⟩ := uk_nt I q2 q3
              have := s3 u u1 u2 (by rw [u3]; exact q3)
              rw [u3] at this
              have := hmo i2 i w s1
              omega
            · exact w
            · exact absurd s2 (q4 i w)
          subst ei
          exact h2 i2 q1
    | succ d ih =>
      intro k b hk h120 hn hs n hnn
      obtain ⟨n, rfl⟩ : ∃ m, n = m + 1 := ⟨n - 1, by omega⟩
      obtain ⟨okk, _, p9, rk⟩ := I.2.2.2.1.2 k h120 (by omega)
      have bd : Q 0 k < 34 := by
        rcases okk.1 with g | ⟨g1, _⟩ | ⟨g1, _⟩ | ⟨g1, _⟩ | ⟨g1, _⟩ | ⟨g1, _⟩ <;> omega
      have tb := ad_tb _ bd
      have k13 := nd_13 okk.1
      have hin : vp_in (nI k) 320 := vp_in_nI (by omega) (by decide)
      have pb := tpb _ p9
      have bb : (uk_v Tk b) < 2 ^ 31 := by
        cases b with
        | none => exact (by decide : 201 < 2 ^ 31)
        | some i => have := tpb i (hs i rfl).1; show tt_p Tk i < 2 ^ 31; omega
      -- nothing new at k
      have old : (uk_t Tk P (mn_f Tk ds) ds.length (Q 9 k) → ∃ i, b = some i ∧ tt_p Tk i ≤ tt_p Tk (Q 9 k)) → ∀ y, y = nI k + 1 →
          wX_checkCalls_12 post (nI (mn_m (mn_f Tk ds) ds.length)) f_width f_textLength f_foundPlace f_tokenCount f_frameCount f_operandCount (nI ds.length) (nI e) a_text a_tokenCode a_tokenPlace a_frameCode a_framePlace a_operand a_defPlace a_defFirst a_defEnd a_nodeOp a_nodeNumber a_nodePlace a_nodeDepth a_nodeKind a_part a_size a_kindFound a_choice a_status a_result a_slotFunction a_slotArgument n (nI (uk_v Tk b)) y := by
        intro hu y ey
        rw [ey, nI_1]
        refine ih (k + 1) b (by omega) (by omega) (fun q u h1 h2 h3 => ?_) (fun i q => ?_) n (by omega)
        · by_cases w : u = k
          · subst w
            obtain ⟨i, qi, _⟩ := hu h3
            rw [q] at qi; exact absurd qi (by simp)
          · exact hn q u h1 (by omega) h3
        · obtain ⟨s1, s2, s3⟩ := hs i q
          refine ⟨s1, s2, fun u h1 h2 h3 => ?_⟩
          by_cases w : u = k
          · subst w
            obtain ⟨i2, qi, ql⟩ := hu h3
            rw [q] at qi
            have := Option.some.inj qi
            subst this
            exact ql
          · exact s3 u h1 (by omega) h3
      refine br_f (nI_ge (by omega) (by omega)) ⟨hin, ?_⟩
      rw [nI_clamp (by omega), rk.1]
      refine pk_eq (xc_t (Q 0 k)) 3 (fun c => ⟨hin, ?_⟩) (fun c => old (fun q => absurd ((ad_t3 _ bd).mpr (k13.mpr q.1)) c))
      have c13 := k13.mp ((ad_t3 _ bd).mp c)
      rw [rk.2.2.1]
      refine pk_le (uk_v Tk b) (tt_p Tk (Q 9 k)) (fun c2 => old (fun q => ?_)) (fun c2 => ⟨hin, fun f ef => ?_⟩)
      · cases b with
        | none => have c2 : 201 ≤ tt_p Tk (Q 9 k) := c2; omega
        | some i => exact ⟨i, rfl, c2⟩
      · have f5k := xp_n5 I.1 I.2.1 p9 c13
        rw [rk.2.1, okk.2.2.1] at ef
        subst ef
        refine br_c (fun c3 => ⟨vp_in_nI f5k (by decide), ?_⟩) (fun c3 => old (fun q => ?_))
        · rw [mn_3 _ m32 _ f5k] at c3
          rw [nI_clamp (n := tt_n Tk (Q 9 k)) (by omega), hsz _ f5k]
          have p24 := hP24 (tt_n Tk (Q 9 k))
          refine pk_eq (P 5 (tt_n Tk (Q 9 k))) 0 (fun c4 => ⟨hin, fun x ex y ey => ?_⟩) (fun c4 => old (fun q => absurd q.2.2 c4))
          rw [nI_1] at ey
          subst ex ey
          have uk : uk_t Tk P (mn_f Tk ds) ds.length (Q 9 k) := ⟨c13, fun q => by rw [(mb _ f5k).mpr q] at c3; exact absurd c3 (by decide), c4⟩
          refine ih (k + 1) (some (Q 9 k)) (by omega) (by omega) (fun q => absurd q (by simp)) (fun i q => ?_) n (by omega)
          have := Option.some.inj q
          subst this
          refine ⟨p9, uk, fun u h1 h2 h3 => ?_⟩
          by_cases w : u = k
          · rw [w]; exact Nat.le_refl _
          · cases b with
            | none => exact absurd h3 (hn rfl u h1 (by omega))
            | some i =>
              have := (hs i rfl).2.2 u h1 (by omega) h3
              have c2 : tt_p Tk (Q 9 k) < tt_p Tk i := c2
              omega
        · rw [mn_3 _ m32 _ f5k] at c3
          exact absurd ((mb _ f5k).mp (by simpa using c3)) q.2.1
  exact xm_names I ⟨_, key (e - 120) 120 none (by omega) (Nat.le_refl _) (fun _ u h1 h2 => by omega) (fun i q => absurd q (by simp)) _ (Nat.lt_succ_self _)⟩
end
end
section
-- Y checks the defs and the names
def ym_I (Tk : List tz_T) (Q : Nat → Nat → Nat) (ds : List df_D) (e : Nat) (g : Nat → Nat) (tc tn tp dn dpl drt nop nnm npl nA nB nC nLo nHi nLv : Nat → Int32) : Prop :=
  Tk.length ≤ 200 ∧ (∀ i, i < Tk.length → tt_k Tk i ≤ 27 ∧ tt_p Tk i < 200 ∧ (tt_k Tk i = 13 → tt_n Tk i < 5)) ∧ tx_TY Tk Tk.length tc tn tp ∧ md_F (tt_k Tk) Q ds 0 120 Tk.length e ∧ e ≤ 320 ∧
  (∀ u, 120 ≤ u → u < e → nd_ok (tt_k Tk) (tt_n Tk) Q u ∧ Q 11 u < 2 ^ 30 ∧ Q 9 u < Tk.length) ∧ rd_P (tt_n Tk) (tt_p Tk) ds ds.length dn dpl drt ∧ drt ds.length = nI e ∧ rd_B (tt_k Tk) (tt_p Tk) Q Tk.length ds ds.length e g nop nnm npl nA nB nC nLo nHi nLv
section
variable {f_width f_length f_place f_toks f_nodes f_defs : Int32} {a_text a_tok a_tokNum a_tokPlace a_opened a_nOp a_nNum a_nPlace a_nA a_nB a_nC a_nLo a_nHi a_nLevel a_defName a_defPlace a_defRoot a_loaded a_count a_status : Nat → Int32} {a_number : Nat → Int64} {a_origin a_choice a_slotF a_slotX a_slotHeld : Nat → Int32} {Tk : List tz_T} {Q : Nat → Nat → Nat} {ds : List df_D} {e : Nat} {g : Nat → Nat}
theorem ym_d (I : ym_I Tk Q ds e g a_tok a_tokNum a_tokPlace a_defName a_defPlace a_defRoot a_nOp a_nNum a_nPlace a_nA a_nB a_nC a_nLo a_nHi a_nLevel) {i : Nat} (hi : i < ds.length) :
    ∃ d, ds[i]? = some d ∧ md_D (tt_k Tk) Q d ∧ d.1 < Tk.length ∧ d.2.2.2 < Tk.length ∧ 120 ≤ d.2.1 ∧ d.2.2.1 ≤ e ∧ mn_f Tk ds i = tt_n Tk d.1 ∧ a_defName i = nI (mn_f Tk ds i) ∧ a_defPlace i = nI (tt_p Tk d.1) ∧ a_defRoot i = nI d.2.1 ∧ a_defRoot (i + 1) = nI d.2.2.1 ∧ mn_f Tk ds i < 5 ∧
      yb_I (tt_k Tk) (tt_p Tk) Q Tk.length d.2.1 d.2.2.1 (Q 11 (d.2.2.1 - 1)) d.2.2.1 d.2.2.1 g a_nOp a_nNum a_nPlace a_nA a_nB a_nC a_nLo a_nHi a_nLevel := by
  obtain ⟨i1, i2, i3, i4, i5, i6, i7, i8, i9⟩ := I
  have hs : ds[i]? = some ds[i] := List.getElem?_eq_getElem hi
  obtain ⟨q1, q2, q3, q4, q5⟩ := md_i ds _ _ _ _ i4 i _ hs
  have := q1.2.2.2.2.2.1.1
  obtain ⟨w1, w2, w3⟩ := i7 i _ hi hs
  obtain ⟨z1, z2, z3⟩ := i9 i _ hi hs
  refine ⟨ds[i], hs, q1, by omega, q3, q4, q5, mn_s hs, by rw [mn_s hs]; exact w1, w2, w3, ?_, by rw [mn_s hs]; exact (i2 _ (by omega)).2.2 q1.1, z3⟩
  -- the next root
  have nx : ∀ (r : List df_D) (t e0 : Nat), md_F (tt_k Tk) Q r t e0 Tk.length e → ∀ (j : Nat) (d : df_D), r[j]? = some d → (∃ c, r[j + 1]? = some c ∧ c.2.1 = d.2.2.1) ∨ (j + 1 = r.length ∧ e = d.2.2.1) := by
    intro r
    induction r with
    | nil => intro t e0 _ j d h; simp at h
    | cons a r ih =>
      intro t e0 h j d hj
      obtain ⟨h1, h2, h3, h4⟩ := h
      cases j with
      | zero =>
        simp at hj
        subst hj
        cases r with
        | nil => obtain ⟨_, h5⟩ := h4; exact Or.inr ⟨rfl, h5.symm⟩
        | cons b r => exact Or.inl ⟨b, rfl, h4.2.1⟩
      | succ j =>
        simp at hj
        rcases ih _ _ h4 j d hj with q | q
        · exact Or.inl q
        · exact Or.inr ⟨by rw [List.length_cons]; omega, q.2⟩
  rcases nx ds 0 120 i4 i _ hs with ⟨c, c1, c2⟩ | ⟨c1, c2⟩
  · have cl : i + 1 < ds.length := by
      rcases Nat.lt_or_ge (i + 1) ds.length with q | q
      · exact q
      · rw [List.getElem?_eq_none q] at c1; exact absurd c1 (by simp)
    rw [(i7 (i + 1) c cl c1).2.2, c2]
  · rw [c1, i8, c2]
theorem ym_sz (I : ym_I Tk Q ds e g a_tok a_tokNum a_tokPlace a_defName a_defPlace a_defRoot a_nOp a_nNum a_nPlace a_nA a_nB a_nC a_nLo a_nHi a_nLevel) {i r : Nat} (hi : i < ds.length) (hc : ck_f Q (mn_f Tk ds) ds i r) {post : Int32 → Prop} (h : post (nI r)) : wpY_sizes post (f_width, f_length, f_place, f_toks, f_nodes, nI ds.length, a_text, a_tok, a_tokNum, a_tokPlace, a_opened, a_nOp, a_nNum, a_nPlace, a_nA, a_nB, a_nC, a_nLo, a_nHi, a_nLevel, a_defName, a_defPlace, a_defRoot, a_loaded, a_count, a_status, a_number, a_origin, a_choice, a_slotF, a_slotX, a_slotHeld) (nI i) := by
  have I0 := I
  obtain ⟨d, hs, hD, dT, sT, d120, de, fe, dN, dP, dR, dR2, f5, yb⟩ := ym_d I hi
  obtain ⟨i1, i2, i3, i4, i5, i6, i7, i8, i9⟩ := I
  have b50 := xm_50 i4 i1
  obtain ⟨d2, hs2, hc⟩ := hc
  rw [hs] at hs2
  have := Option.some.inj hs2
  subst this
  have FE := hD.2.2.2.2.2.2.2.1
  obtain ⟨y1, y2, y3, y4, y5, y6, y7⟩ := yb
  -- the sums
  have cnt : ct_n (fun j => Q 0 (g j) == 24) d.2.2.1 - ct_n (fun j => Q 0 (g j) == 24) d.2.1 = ck_n Q d.2.2.1 - ck_n Q d.2.1 := by
    have b := bf_n y3 (fun n => (ck_n Q n : Int))
    have e1 : ∀ n, rg_c (bf_p (fun n => (ck_n Q n : Int)) g) n = (ct_n (fun j => Q 0 (g j) == 24) n : Int) := by
      intro n
      induction n with
      | zero => rfl
      | succ n ih =>
        rw [bf_s1, ih]
        have a : ck_n Q (g n + 1) = ck_n Q (g n) + (if (Q 0 (g n) == 24) = true then 1 else 0) := rfl
        have c : ct_n (fun j => Q 0 (g j) == 24) (n + 1) = ct_n (fun j => Q 0 (g j) == 24) n + (if (Q 0 (g n) == 24) = true then 1 else 0) := rfl
        show _ + ((ck_n Q (g n + 1) : Int) - (ck_n Q (g n) : Int)) = _
        rw [a, c]
        split <;> omega
    rw [e1, e1] at b
    omega
  have loop2 : ¬ (∃ j, j < i ∧ mn_f Tk ds j = mn_f Tk ds i) → ∃ n, wY_sizes_42 post (nI i) f_width f_length f_place f_toks f_nodes (nI ds.length) a_text a_tok a_tokNum a_tokPlace a_opened a_nOp a_nNum a_nPlace a_nA a_nB a_nC a_nLo a_nHi a_nLevel a_defName a_defPlace a_defRoot a_loaded a_count a_status a_number a_origin a_choice a_slotF a_slotX a_slotHeld n 0 0 (nI d.2.1) := by
    intro nd
    have key : ∀ dd k x m, k + dd = d.2.2.1 → d.2.1 ≤ k → x + ct_n (fun j => Q 0 (g j) == 24) d.2.1 = ct_n (fun j => Q 0 (g j) == 24) k → m ≤ Q 11 (d.2.2.1 - 1) →
        (∀ j lv, d.2.1 ≤ j → j < k → a_nLevel j = nI lv → lv < 2 ^ 30 → lv + 1 ≤ m) → ∀ n, dd < n → wY_sizes_42 post (nI i) f_width f_length f_place f_toks f_nodes (nI ds.length) a_text a_tok a_tokNum a_tokPlace a_opened a_nOp a_nNum a_nPlace a_nA a_nB a_nC a_nLo a_nHi a_nLevel a_defName a_defPlace a_defRoot a_loaded a_count a_status a_number a_origin a_choice a_slotF a_slotX a_slotHeld n (nI x) (nI m) (nI k) := by
      intro dd
      induction dd with
      | zero =>
        intro k x m hk hF hx hm hlv n hn
        obtain ⟨n, rfl⟩ : ∃ q, n = q + 1 := ⟨n - 1, by omega⟩
        have ek : k = d.2.2.1 := by omega
        subst ek
        have e1 : nI i + 1 = nI (i + 1) := nI_1 i
        have r11 := (i6 (d.2.2.1 - 1) (by omega) (by omega)).2.1
        have xb := ct_le (fun j => Q 0 (g j) == 24) d.2.2.1
        have mR : m = Q 11 (d.2.2.1 - 1) := by
          obtain ⟨j, j1, j2, lv, j3, j4⟩ := y6
          have : lv + 1 = Q 11 (d.2.2.1 - 1) := by omega
          have := hlv j lv j1 j2 j3 (by omega)
          omega
        refine ⟨by rw [e1]; exact vp_in_nI (by omega) (by decide), ?_⟩
        rw [e1, nI_clamp (by omega), dR2]
        refine br_t (nI_le (Nat.le_refl _) (by omega)) ⟨vp_in_nI (by omega) (by decide), vp_in_nI (by omega) (by decide), ?_⟩
        rw [nI_clamp (by omega), dR]
        have es : nI d.2.2.1 - nI d.2.1 = nI (d.2.2.1 - d.2.1) := pk_sub (by omega)
        rw [es]
        have h5 : (24 < d.2.2.1 - d.2.1 ∨ 3 < ck_n Q d.2.2.1 - ck_n Q d.2.1) → post 5 := by
          intro q
          rcases hc with ⟨a, _⟩ | ⟨_, ⟨_, rfl⟩ | ⟨a, _⟩⟩
          · exact absurd a nd
          · exact h
          · exact absurd q a
        refine pk_lt 24 (d.2.2.1 - d.2.1) (fun c => h5 (Or.inl c)) (fun c => pk_le x 3 (fun c2 => pk_le m 8 (fun c3 => ?_) (fun c3 => ?_)) (fun c2 => h5 (Or.inr (by omega))))
        · rcases hc with ⟨a, _⟩ | ⟨_, ⟨a, _⟩ | ⟨_, ⟨a, _⟩ | ⟨_, rfl⟩⟩⟩
          · exact absurd a nd
          · omega
          · omega
          · exact h
        · rcases hc with ⟨a, _⟩ | ⟨_, ⟨a, _⟩ | ⟨_, ⟨_, rfl⟩ | ⟨a, _⟩⟩⟩
          · exact absurd a nd
          · omega
          · exact h
          · omega
      | succ dd ih =>
        intro k x m hk hF hx hm hlv n hn
        obtain ⟨n, rfl⟩ : ∃ q, n = q + 1 := ⟨n - 1, by omega⟩
        have e1 : nI i + 1 = nI (i + 1) := nI_1 i
        have r11 := (i6 (d.2.2.1 - 1) (by omega) (by omega)).2.1
        obtain ⟨z1, z2, z3, l0, h0, lv, z4, z5, z6, z7, z8, z9, z10⟩ := y4 k hF (by omega)
        have lb := z10 (by omega)
        obtain ⟨w1, _⟩ := y5 k hF (by omega)
        have okg := (i6 (g k) (by omega) (by omega)).1
        have bd : Q 0 (g k) < 34 := by
          rcases okg.1 with q | ⟨q, _⟩ | ⟨q, _⟩ | ⟨q, _⟩ | ⟨q, _⟩ | ⟨q, _⟩ <;> omega
        have hin : vp_in (nI k) 320 := vp_in_nI (by omega) (by decide)
        have st : ct_n (fun j => Q 0 (g j) == 24) (k + 1) = ct_n (fun j => Q 0 (g j) == 24) k + (if (Q 0 (g k) == 24) = true then 1 else 0) := rfl
        have fin : ∀ x2, x2 + ct_n (fun j => Q 0 (g j) == 24) d.2.1 = ct_n (fun j => Q 0 (g j) == 24) (k + 1) → wY_sizes_70 post (wY_sizes_42 post (nI i) f_width f_length f_place f_toks f_nodes (nI ds.length) a_text a_tok a_tokNum a_tokPlace a_opened a_nOp a_nNum a_nPlace a_nA a_nB a_nC a_nLo a_nHi a_nLevel a_defName a_defPlace a_defRoot a_loaded a_count a_status a_number a_origin a_choice a_slotF a_slotX a_slotHeld n) (nI i) (nI x2) (nI m) (nI k) f_width f_length f_place f_toks f_nodes (nI ds.length) a_text a_tok a_tokNum a_tokPlace a_opened a_nOp a_nNum a_nPlace a_nA a_nB a_nC a_nLo a_nHi a_nLevel a_defName a_defPlace a_defRoot a_loaded a_count a_status a_number a_origin a_choice a_slotF a_slotX a_slotHeld := by
          intro x2 hx2
          refine ⟨hin, ?_⟩
          rw [nI_clamp (by omega), z6, nI_1]
          have up : ∀ m2, m ≤ m2 → lv + 1 ≤ m2 → ∀ j lv2, d.2.1 ≤ j → j < k + 1 → a_nLevel j = nI lv2 → lv2 < 2 ^ 30 → lv2 + 1 ≤ m2 := by
            intro m2 a b j lv2 h1 h2 h3 h4
            by_cases q : j = k
            · subst q
              rw [z6] at h3
              have := (nI_eq (by omega) (by omega)).mp h3
              omega
            · have := hlv j lv2 h1 (by omega) h3 h4
              omega
          refine pk_le (lv + 1) m (fun c => fun y ey => ?_) (fun c => ⟨hin, fun y ey z ez => ?_⟩)
          · rw [ey, nI_1]
            exact ih (k + 1) x2 m (by omega) (by omega) hx2 hm (up m (Nat.le_refl _) c) n (by omega)
          · rw [nI_1] at ez
            subst ey ez
            exact ih (k + 1) x2 (lv + 1) (by omega) (by omega) hx2 lb (up (lv + 1) (by omega) (Nat.le_refl _)) n (by omega)
        refine ⟨by rw [e1]; exact vp_in_nI (by omega) (by decide), ?_⟩
        rw [e1, nI_clamp (by omega), dR2]
        refine br_f (nI_ge (by omega) (by omega)) ⟨hin, ?_⟩
        rw [nI_clamp (by omega), w1]
        refine pk_eq (Q 0 (g k)) 24 (fun c => fun y ey => ?_) (fun c => fin x ?_)
        · rw [nI_1] at ey
          subst ey
          refine fin (x + 1) ?_
          rw [if_pos (by rw [c]; rfl)] at st
          omega
        · rw [if_neg (by simpa using c)] at st
          omega
    exact ⟨_, key (d.2.2.1 - d.2.1) d.2.1 0 0 (by omega) (Nat.le_refl _) (by omega) (by omega) (fun j lv h1 h2 => by omega) _ (Nat.lt_succ_self _)⟩
  have key : ∀ dd j, j + dd = i → (∀ q, q < j → mn_f Tk ds q ≠ mn_f Tk ds i) → ∀ n, dd < n → wY_sizes_2 post (nI i) f_width f_length f_place f_toks f_nodes (nI ds.length) a_text a_tok a_tokNum a_tokPlace a_opened a_nOp a_nNum a_nPlace a_nA a_nB a_nC a_nLo a_nHi a_nLevel a_defName a_defPlace a_defRoot a_loaded a_count a_status a_number a_origin a_choice a_slotF a_slotX a_slotHeld n (nI j) := by
    intro dd
    induction dd with
    | zero =>
      intro j hj hq n hn
      obtain ⟨n, rfl⟩ : ∃ q, n = q + 1 := ⟨n - 1, by omega⟩
      have ej : j = i := by omega
      subst ej
      refine br_t (nI_le (Nat.le_refl _) (by omega)) ⟨vp_in_nI (by omega) (by decide), fun y ey => ?_⟩
      rw [nI_clamp (by omega), dR] at ey
      subst ey
      exact loop2 (fun ⟨q, q1, q2⟩ => hq q q1 q2)
    | succ dd ih =>
      intro j hj hq n hn
      obtain ⟨n, rfl⟩ : ∃ q, n = q + 1 := ⟨n - 1, by omega⟩
      obtain ⟨d3, _, _, _, _, _, _, _, dN3, _, _, _, f53, _⟩ := ym_d I0 (i := j) (by omega)
      refine br_f (nI_ge (by omega) (by omega)) ⟨vp_in_nI (by omega) (by decide), vp_in_nI (by omega) (by decide), ?_⟩
      rw [nI_clamp (by omega), nI_clamp (by omega), dN3, dN]
      refine pk_eq (mn_f Tk ds j) (mn_f Tk ds i) (fun c => ?_) (fun c => fun y ey => ?_)
      · rcases hc with ⟨_, rfl⟩ | ⟨a, _⟩
        · exact h
        · exact absurd ⟨j, by omega, c⟩ a
      · rw [ey, nI_1]
        refine ih (j + 1) (by omega) (fun q hq2 => ?_) n (by omega)
        by_cases w : q = j
        · rw [w]; exact c
        · exact hq q (by omega)
  exact ⟨_, key i 0 (by omega) (fun q hq => by omega) _ (Nat.lt_succ_self _)⟩
theorem ym_of (I : ym_I Tk Q ds e g a_tok a_tokNum a_tokPlace a_defName a_defPlace a_defRoot a_nOp a_nNum a_nPlace a_nA a_nB a_nC a_nLo a_nHi a_nLevel) {f : Nat} (hf : f < 5) {post : Int32 → Prop}
    (h1 : ∀ i, i < ds.length → mn_f Tk ds i = f → post (nI i)) (h0 : (¬ ∃ i, i < ds.length ∧ mn_f Tk ds i = f) → post (-1)) : wpY_defOf post (f_width, f_length, f_place, f_toks, f_nodes, nI ds.length, a_text, a_tok, a_tokNum, a_tokPlace, a_opened, a_nOp, a_nNum, a_nPlace, a_nA, a_nB, a_nC, a_nLo, a_nHi, a_nLevel, a_defName, a_defPlace, a_defRoot, a_loaded, a_count, a_status, a_number, a_origin, a_choice, a_slotF, a_slotX, a_slotHeld) (nI f) := by
  have b50 := xm_50 I.2.2.2.1 I.1
  have key : ∀ dd j, j + dd = ds.length → (∀ q, q < j → mn_f Tk ds q ≠ f) → ∀ n, dd < n → wY_defOf_2 post (nI f) f_width f_length f_place f_toks f_nodes (nI ds.length) a_text a_tok a_tokNum a_tokPlace a_opened a_nOp a_nNum a_nPlace a_nA a_nB a_nC a_nLo a_nHi a_nLevel a_defName a_defPlace a_defRoot a_loaded a_count a_status a_number a_origin a_choice a_slotF a_slotX a_slotHeld n (nI j) := by
    intro dd
    induction dd with
    | zero =>
      intro j hj hq n hn
      obtain ⟨n, rfl⟩ : ∃ q, n = q + 1 := ⟨n - 1, by omega⟩
      have ej : j = ds.length := by omega
      subst ej
      exact br_t (nI_le (Nat.le_refl _) (by omega)) (h0 (fun ⟨q, q1, q2⟩ => hq q q1 q2))
    | succ dd ih =>
      intro j hj hq n hn
      obtain ⟨n, rfl⟩ : ∃ q, n = q + 1 := ⟨n - 1, by omega⟩
      obtain ⟨d3, _, _, _, _, _, _, _, dN3, _, _, _, f53, _⟩ := ym_d I (i := j) (by omega)
      refine br_f (nI_ge (by omega) (by omega)) ⟨vp_in_nI (by omega) (by decide), ?_⟩
      rw [nI_clamp (by omega), dN3]
      refine pk_eq (mn_f Tk ds j) f (fun c => h1 j (by omega) c) (fun c => fun y ey => ?_)
      rw [ey, nI_1]
      refine ih (j + 1) (by omega) (fun q hq2 => ?_) n (by omega)
      by_cases w : q = j
      · rw [w]; exact c
      · exact hq q (by omega)
  exact ⟨_, key ds.length 0 (by omega) (fun q hq => by omega) _ (Nat.lt_succ_self _)⟩
end
end
section
-- X and kinds
def kx_n (R : Nat → Nat → Nat) (no nn pt : Nat → Int32) (u : Nat) : Prop :=
  no u = nI (xc_t (R 0 u)) ∧ nn u = nI (R 1 u) ∧ pt (u * 3) = nI (R 2 u) ∧ pt (u * 3 + 1) = nI (R 3 u) ∧ pt (u * 3 + 2) = nI (R 4 u)
def kx_w (R : Nat → Nat → Nat) (u : Nat) : Prop := pg_op (R 0 u) ∧ (R 0 u = 13 → R 1 u < 5) ∧ R 2 u ≤ u ∧ R 3 u ≤ u ∧ R 4 u ≤ u
def kx_c (kc : Nat → Nat) (ch : Nat → Int32) : Prop := ∀ f, f < 5 → ch f = nI (kc f) ∧ kc f ≤ 3
theorem kx_f3 {t x a b : Nat} (hx : x ≤ 3) (ha : a ≤ 3) (hb : b ≤ 3) : ki_f t x a b ≤ 3 := by
  unfold ki_f; repeat' split
  all_goals omega
section
variable {f_width f_textLength f_foundPlace f_tokenCount f_frameCount f_operandCount f_defCount f_nodeEnd : Int32} {a_text a_tokenCode a_tokenPlace a_frameCode a_framePlace a_operand a_defPlace a_defFirst a_defEnd a_nodeOp a_nodeNumber a_nodePlace a_nodeDepth a_nodeKind a_part a_size a_kindFound a_choice a_status : Nat → Int32} {a_result : Nat → Int64} {a_slotFunction a_slotArgument : Nat → Int32} {R : Nat → Nat → Nat} {kc : Nat → Nat} {u ka kb kd : Nat}
theorem kx_k (hu : u < 320) (hn : kx_n R a_nodeOp a_nodeNumber a_part u) (hw : kx_w R u) (hc : kx_c kc a_choice) (ha : R 0 u = 6 → a_nodeKind (R 2 u) = nI ka) (hb : R 0 u = 3 → a_nodeKind (R 3 u) = nI kb) {post : Int32 → Prop}
    (h : post (nI (ki_f (R 0 u) (kc (R 1 u)) ka kb))) : wpX_kindOfNode post (f_width, f_textLength, f_foundPlace, f_tokenCount, f_frameCount, f_operandCount, f_defCount, f_nodeEnd, a_text, a_tokenCode, a_tokenPlace, a_frameCode, a_framePlace, a_operand, a_defPlace, a_defFirst, a_defEnd, a_nodeOp, a_nodeNumber, a_nodePlace, a_nodeDepth, a_nodeKind, a_part, a_size, a_kindFound, a_choice, a_status, a_result, a_slotFunction, a_slotArgument) (nI u) := by
  obtain ⟨n1, n2, n3, n4, n5⟩ := hn
  obtain ⟨w1, w2, w3, w4, w5⟩ := hw
  have hin := vp_in_nI (n := u) (N := 320) hu (by decide)
  have e0 : nI u * 3 = nI (u * 3) := pk_mul u 3
  refine ⟨hin, fun k ek => ?_⟩
  rw [nI_clamp (by omega), n1] at ek
  subst ek
  by_cases t3 : R 0 u = 3
  · rw [t3] at h ⊢
    refine br_f (by decide) (br_f (by decide) (br_f (by decide) (br_f (by decide) (br_f (by decide) (br_f (by decide) (br_f (by decide) (br_f (by decide) (br_f (by decide) (br_f (by decide) (br_f (by decide) (br_t rfl ?_)))))))))))
    rw [e0]
    have e1 : nI (u * 3) + 1 = nI (u * 3 + 1) := nI_1 _
    rw [e1]
    refine ⟨vp_in_nI (by omega) (by decide), ?_⟩
    rw [nI_clamp (by omega), n4]
    refine ⟨vp_in_nI (by omega) (by decide), ?_⟩
    rw [nI_clamp (by omega), hb t3]
    exact h
  · by_cases t6 : R 0 u = 6
    · rw [t6] at h ⊢
      refine br_f (by decide) (br_f (by decide) (br_f (by decide) (br_f (by decide) (br_f (by decide) (br_f (by decide) (br_f (by decide) (br_f (by decide) (br_f (by decide) (br_f (by decide) (br_f (by decide) (br_f (by decide) (br_f (by decide) (br_f (by decide) (br_t rfl ?_))))))))))))))
      rw [e0]
      refine ⟨vp_in_nI (by omega) (by decide), ?_⟩
      rw [nI_clamp (by omega), n3]
      refine ⟨vp_in_nI (by omega) (by decide), ?_⟩
      rw [nI_clamp (by omega), ha t6]
      exact h
    · by_cases t13 : R 0 u = 13
      · rw [t13] at h ⊢
        have f5 := w2 t13
        refine br_f (by decide) (br_f (by decide) (br_t rfl ⟨hin, ?_⟩))
        rw [nI_clamp (by omega), n2]
        refine ⟨vp_in_nI f5 (by decide), ?_⟩
        rw [nI_clamp (by omega), (hc _ f5).1]
        exact h
      · have cs : R 0 u = 1 ∨ R 0 u = 2 ∨ R 0 u = 7 ∨ R 0 u = 8 ∨ R 0 u = 9 ∨ R 0 u = 10 ∨ R 0 u = 11 ∨ R 0 u = 12 ∨ R 0 u = 14 ∨ R 0 u = 15 ∨ R 0 u = 16 ∨ R 0 u = 17 ∨ R 0 u = 18 ∨ R 0 u = 19 ∨ R 0 u = 20 ∨ R 0 u = 21 ∨ R 0 u = 22 ∨ R 0 u = 23 ∨ R 0 u = 24 ∨ R 0 u = 28 := by
          unfold pg_op at w1; omega
        clear t3 t6 t13 w1 w2 ha hb n1
        rcases cs with c | c | c | c | c | c | c | c | c | c | c | c | c | c | c | c | c | c | c | c <;> rw [c] at h ⊢ <;> clear c
        all_goals (repeat (first | refine br_t rfl ?_ | refine br_f (by decide) ?_))
        all_goals exact h
theorem kx_m (hu : u < 320) (hn : kx_n R a_nodeOp a_nodeNumber a_part u) (hw : kx_w R u) (ha : a_nodeKind (R 2 u) = nI ka) (hb : a_nodeKind (R 3 u) = nI kb) (hd : a_nodeKind (R 4 u) = nI kd) (ka3 : ka ≤ 3) (kb3 : kb ≤ 3) (kd3 : kd ≤ 3) {post : Int32 → Prop}
    (h1 : ki_m (R 0 u) ka kb kd → post 1) (h0 : ¬ ki_m (R 0 u) ka kb kd → post 0) : wpX_isMet post (f_width, f_textLength, f_foundPlace, f_tokenCount, f_frameCount, f_operandCount, f_defCount, f_nodeEnd, a_text, a_tokenCode, a_tokenPlace, a_frameCode, a_framePlace, a_operand, a_defPlace, a_defFirst, a_defEnd, a_nodeOp, a_nodeNumber, a_nodePlace, a_nodeDepth, a_nodeKind, a_part, a_size, a_kindFound, a_choice, a_status, a_result, a_slotFunction, a_slotArgument) (nI u) := by
  obtain ⟨n1, n2, n3, n4, n5⟩ := hn
  obtain ⟨w1, w2, w3, w4, w5⟩ := hw
  have hin := vp_in_nI (n := u) (N := 320) hu (by decide)
  have e0 : nI u * 3 = nI (u * 3) := pk_mul u 3
  have e1 : nI (u * 3) + 1 = nI (u * 3 + 1) := nI_1 _
  have e2 : nI (u * 3) + 2 = nI (u * 3 + 2) := nI_add _ 2
  unfold wpX_isMet
  dsimp only
  rw [e0, e1, e2]
  refine ⟨vp_in_nI (by omega) (by decide), ?_⟩
  rw [nI_clamp (n := u * 3) (by omega), n3]
  refine ⟨vp_in_nI (by omega) (by decide), fun x ex => ⟨vp_in_nI (by omega) (by decide), ?_⟩⟩
  rw [nI_clamp (by omega), ha] at ex
  subst ex
  rw [nI_clamp (n := u * 3 + 1) (by omega), n4]
  refine ⟨vp_in_nI (by omega) (by decide), fun y ey => ⟨vp_in_nI (by omega) (by decide), ?_⟩⟩
  rw [nI_clamp (by omega), hb] at ey
  subst ey
  rw [nI_clamp (n := u * 3 + 2) (by omega), n5]
  refine ⟨vp_in_nI (by omega) (by decide), fun z ez => ⟨hin, fun k ek => ?_⟩⟩
  rw [nI_clamp (by omega), hd] at ez
  rw [nI_clamp (by omega), n1] at ek
  subst ez ek
  have cs : R 0 u = 1 ∨ R 0 u = 2 ∨ R 0 u = 10 ∨ R 0 u = 11 ∨ R 0 u = 12 ∨ R 0 u = 3 ∨ R 0 u = 6 ∨ R 0 u = 7 ∨ R 0 u = 8 ∨ R 0 u = 9 ∨ R 0 u = 13 ∨ R 0 u = 14 ∨ R 0 u = 15 ∨ R 0 u = 16 ∨ R 0 u = 17 ∨ R 0 u = 18 ∨ R 0 u = 19 ∨ R 0 u = 20 ∨ R 0 u = 21 ∨ R 0 u = 22 ∨ R 0 u = 23 ∨ R 0 u = 24 ∨ R 0 u = 28 := by
    unfold pg_op at w1; omega
  clear w1 w2 w3 w4 w5 ha hb hd n1 n2 n3 n4 n5 e0 e1 e2
  rcases cs with c | c | c | c | c | c | c | c | c | c | c | c | c | c | c | c | c | c | c | c | c | c | c <;> rw [c] at h0 h1 ⊢ <;> clear c
  all_goals (repeat (first | refine br_t (rfl : nI (xc_t _) = _) ?_ | refine br_f (by decide : ¬ nI (xc_t _) = _) ?_))
  all_goals first
    | exact h1 trivial
    | exact pk_eq ka 1 (fun a => h1 a) (fun a => h0 a)
    | exact pk_eq ka 2 (fun a => h1 a) (fun a => h0 a)
    | exact pk_eq ka 3 (fun a => h1 a) (fun a => h0 a)
    | exact pk_eq ka 1 (fun a => pk_eq kb 1 (fun b => h1 ⟨a, b⟩) (fun b => h0 (fun q => b q.2))) (fun a => h0 (fun q => a q.1))
    | exact pk_eq ka 2 (fun a => pk_eq kb 2 (fun b => h1 ⟨a, b⟩) (fun b => h0 (fun q => b q.2))) (fun a => h0 (fun q => a q.1))
    | exact pk_eq ka 1 (fun a => pk_eq kb 3 (fun b => h1 ⟨a, b⟩) (fun b => h0 (fun q => b q.2))) (fun a => h0 (fun q => a q.1))
    | exact pk_eq ka 2 (fun a => pk_eq kb kd (fun b => h1 ⟨a, b⟩) (fun b => h0 (fun q => b q.2))) (fun a => h0 (fun q => a q.1))
    | exact pk_eq ka kb (fun a => pk_eq ka 3 (fun b => h0 (fun q => q.2 b)) (fun b => h1 ⟨a, b⟩)) (fun a => h0 (fun q => a q.1))
    | exact pk_eq ka kb (fun a => h1 a) (fun a => h0 a)
end
end
section
-- where the nodes of a def stand
theorem bl_in {tk tn : Nat → Nat} {Q : Nat → Nat → Nat} : ∀ r l h, nd_W tk Q l h r → (∀ v, Q 10 r ≤ v → v ≤ r → nd_ok tk tn Q v) → ∀ u, Q 10 r ≤ u → u ≤ r → Q 10 r ≤ Q 10 u ∧ l ≤ Q 9 u ∧ Q 9 u < h := by
  intro r
  induction r using Nat.strongRecOn with
  | ind r ih =>
    intro l h hW hok u hu1 hu2
    obtain ⟨b, w1, w2, w3⟩ := hW
    have r0 : Q 10 r ≤ r := by omega
    obtain ⟨g1, ⟨t0, t1, t2, t3⟩, g3, g4, g5, g6, g7, g8, g9, g10⟩ := hok r r0 (Nat.le_refl _)
    have kid : ∀ v l2 h2, v < r → Q 10 v ≤ v → Q 10 r ≤ Q 10 v → nd_W tk Q l2 h2 v → Q 7 r ≤ l2 → h2 ≤ Q 8 r → Q 10 v ≤ u → u ≤ v → Q 10 r ≤ Q 10 u ∧ l ≤ Q 9 u ∧ Q 9 u < h := by
      intro v l2 h2 a1 a2 a3 a4 a5 a6 a7 a8
      obtain ⟨x1, x2, x3⟩ := ih v a1 l2 h2 a4 (fun y y1 y2 => hok y (by omega) (by omega)) u a7 a8
      exact ⟨by omega, by omega, by omega⟩
    by_cases e : u = r
    · subst e
      refine ⟨Nat.le_refl _, ?_⟩
      rcases g1 with g | ⟨q1, q2, q3, q4, _⟩ | ⟨q1, q2, q3, _⟩ | ⟨q1, q2, q3, q4, q5, _⟩ | ⟨q1, q2, q3, p1, p2, q4, q5, q6, _⟩ | ⟨q1, q2, q3, p2, q4, q5, _⟩
      · omega
      · omega
      · have := q3.2.1; omega
      · omega
      · omega
      · omega
    · rcases g1 with g | ⟨q1, q2, q3, q4, q5, q6, q7, q8, q9⟩ | ⟨q1, q2, q3, q4⟩ | ⟨q1, q2, q3, q4, q5, q5a, q5b, q6⟩ | ⟨q1, q2, q3, p1, p2, q4, q5, q6, q7, q8, q9, q10, q11, q12, q13⟩ | ⟨q1, q2, q3, p2, q4, q5, q6, q7, q8, q9⟩
      · have := t0 (nd_n0 g.1); omega
      · have n := nd_n2 (t := Q 0 r) (by omega)
        have x := t2 n
        have xa := g5 (by omega)
        have xb := g6 (by omega)
        by_cases c : u ≤ Q 2 r
        · exact kid _ _ _ xa.1 xa.2 (by omega) q8 (Nat.le_refl _) (by omega) (by omega) c
        · exact kid _ _ _ xb.1 xb.2 (by omega) q9 (by omega) (Nat.le_refl _) (by omega) (by omega)
      · have n := nd_n1 (t := Q 0 r) (by omega)
        have x := t1 n
        have xa := g5 (by omega)
        exact kid _ _ _ xa.1 xa.2 (by omega) q4 (by omega) (Nat.le_refl _) (by omega) (by omega)
      · have n := nd_n1 (t := Q 0 r) (by omega)
        have x := t1 n
        have xa := g5 (by omega)
        exact kid _ _ _ xa.1 xa.2 (by omega) q6 (by omega) (by omega) (by omega) (by omega)
      · have n : pg_n (Q 0 r) = 3 := by rw [q1]; rfl
        have x := t3 n
        have xa := g5 (by omega)
        have xb := g6 (by omega)
        have xc := g7 (by omega)
        by_cases c : u ≤ Q 2 r
        · exact kid _ _ _ xa.1 xa.2 (by omega) q11 (by omega) (by omega) (by omega) c
        · by_cases c2 : u ≤ Q 3 r
          · exact kid _ _ _ xb.1 xb.2 (by omega) q12 (by omega) (by omega) (by omega) c2
          · exact kid _ _ _ xc.1 xc.2 (by omega) q13 (by omega) (Nat.le_refl _) (by omega) (by omega)
      · have n := nd_n2 (t := Q 0 r) (by omega)
        have x := t2 n
        have xa := g5 (by omega)
        have xb := g6 (by omega)
        by_cases c : u ≤ Q 2 r
        · exact kid _ _ _ xa.1 xa.2 (by omega) q8 (by omega) (by omega) (by omega) c
        · exact kid _ _ _ xb.1 xb.2 (by omega) q9 (by omega) (Nat.le_refl _) (by omega) (by omega)
-- demands that are not met
def lc_m (R : Nat → Nat → Nat) (kc : Nat → Nat) (u : Nat) : Prop := ki_m (R 0 u) (ki_k R kc (R 2 u)) (ki_k R kc (R 3 u)) (ki_k R kc (R 4 u))
def lc_R (R : Nat → Nat → Nat) (kc pl : Nat → Nat) (a b m : Nat) : Prop :=
  m ≤ 201 ∧ (∀ u, a ≤ u → u < b → ¬ lc_m R kc u → m ≤ pl u) ∧ (m = 201 ∨ ∃ u, a ≤ u ∧ u < b ∧ ¬ lc_m R kc u ∧ pl u = m)
-- an interval of nodes that X shows
def lc_S (R : Nat → Nat → Nat) (pl : Nat → Nat) (a b : Nat) (no nn np pt : Nat → Int32) : Prop :=
  a < b ∧ b ≤ 320 ∧ ∀ u, a ≤ u → u < b → kx_n R no nn pt u ∧ kx_w R u ∧ np u = nI (pl u) ∧ pl u ≤ 200 ∧ a ≤ R 2 u ∧ a ≤ R 3 u ∧ a ≤ R 4 u ∧
    (∀ j, j < pg_n (R 0 u) → R (2 + j) u < u)
theorem lc_cl {R : Nat → Nat → Nat} {pl : Nat → Nat} {a b : Nat} {no nn np pt : Nat → Int32} (h : lc_S R pl a b no nn np pt) : ki_cl R (fun u => a ≤ u ∧ u < b) := by
  intro u hu j hj
  obtain ⟨_, _, _, _, p1, p2, p3, p4⟩ := h.2.2 u hu.1 hu.2
  have n3 : pg_n (R 0 u) ≤ 3 := by unfold pg_n; repeat' split
                                   all_goals omega
  have hl := p4 j hj
  refine ⟨hl, ?_, by omega⟩
  have : j = 0 ∨ j = 1 ∨ j = 2 := by omega
  rcases this with q | q | q <;> subst q
  · exact p1
  · exact p2
  · exact p3
theorem lc_k3 {R : Nat → Nat → Nat} {kc pl : Nat → Nat} {a b : Nat} {no nn np pt : Nat → Int32} (h : lc_S R pl a b no nn np pt) (hc : ∀ f, f < 5 → kc f ≤ 3) : ∀ u, a ≤ u → u < b → ki_k R kc u ≤ 3 := by
  intro u
  induction u using Nat.strongRecOn with
  | ind u ih =>
    intro h1 h2
    obtain ⟨_, w, _, _, p1, p2, p3, p4⟩ := h.2.2 u h1 h2
    have cl := lc_cl h
    rw [ki_e cl ⟨h1, h2⟩]
    by_cases t13 : R 0 u = 13
    · have := hc _ (w.2.1 t13)
      unfold ki_f; rw [if_pos t13]; exact this
    · by_cases t3 : R 0 u = 3
      · have hl : R 3 u < u := p4 1 (by rw [t3]; decide)
        unfold ki_f; rw [if_neg t13, if_pos t3]; exact ih _ hl p2 (by omega)
      · by_cases t6 : R 0 u = 6
        · have hl : R 2 u < u := p4 0 (by rw [t6]; decide)
          unfold ki_f; rw [if_neg t13, if_neg t3, if_pos t6]; exact ih _ hl p1 (by omega)
        · unfold ki_f
          rw [if_neg t13, if_neg t3, if_neg t6]
          repeat' split
          all_goals omega
section
variable {f_width f_textLength f_foundPlace f_tokenCount f_frameCount f_operandCount f_defCount f_nodeEnd : Int32} {a_text a_tokenCode a_tokenPlace a_frameCode a_framePlace a_operand a_defPlace a_defFirst a_defEnd a_nodeOp a_nodeNumber a_nodePlace a_nodeDepth a_nodeKind a_part a_size a_kindFound a_choice a_status : Nat → Int32} {a_result : Nat → Int64} {a_slotFunction a_slotArgument : Nat → Int32} {R : Nat → Nat → Nat} {kc pl : Nat → Nat} {a b : Nat}
theorem lc_X (hS : lc_S R pl a b a_nodeOp a_nodeNumber a_nodePlace a_part) (hc : kx_c kc a_choice) {f q : Nat} (hf : f < 5) {post : Int32 → SX → Prop}
    (h : ∀ nk m, lc_R R kc pl a b m → post (nI (if ki_k R kc (b - 1) = kc f then m else q)) (f_width, f_textLength, f_foundPlace, f_tokenCount, f_frameCount, f_operandCount, f_defCount, f_nodeEnd, a_text, a_tokenCode, a_tokenPlace, a_frameCode, a_framePlace, a_operand, a_defPlace, a_defFirst, a_defEnd, a_nodeOp, a_nodeNumber, a_nodePlace, a_nodeDepth, nk, a_part, a_size, a_kindFound, a_choice, a_status, a_result, a_slotFunction, a_slotArgument)) : wpX_leastClash post (f_width, f_textLength, f_foundPlace, f_tokenCount, f_frameCount, f_operandCount, f_defCount, f_nodeEnd, a_text, a_tokenCode, a_tokenPlace, a_frameCode, a_framePlace, a_operand, a_defPlace, a_defFirst, a_defEnd, a_nodeOp, a_nodeNumber, a_nodePlace, a_nodeDepth, a_nodeKind, a_part, a_size, a_kindFound, a_choice, a_status, a_result, a_slotFunction, a_slotArgument) (nI a) (nI b) (nI f) (nI q) := by
  have hc3 : ∀ f, f < 5 → kc f ≤ 3 := fun f hf => (hc f hf).2
  have k3 := lc_k3 hS hc3
  have cl := lc_cl hS
  obtain ⟨hab, hb, hS⟩ := hS
  have key : ∀ d k m nk, k + d = b → a ≤ k → (∀ v, a ≤ v → v < k → nk v = nI (ki_k R kc v)) → lc_R R kc pl a k m → ∀ n, d < n →
      wX_leastClash_8 post (nI b) (nI f) (nI q) f_width f_textLength f_foundPlace f_tokenCount f_frameCount f_operandCount f_defCount f_nodeEnd n (nI m) (nI k) a_text a_tokenCode a_tokenPlace a_frameCode a_framePlace a_operand a_defPlace a_defFirst a_defEnd a_nodeOp a_nodeNumber a_nodePlace a_nodeDepth nk a_part a_size a_kindFound a_choice a_status a_result a_slotFunction a_slotArgument := by
    intro d
    induction d with
    | zero =>
      intro k m nk hk hak hnk hm n hn
      obtain ⟨n, rfl⟩ : ∃ w, n = w + 1 := ⟨n - 1, by omega⟩
      have ek : k = b := by omega
      subst ek
      have e1 : nI k - 1 = nI (k - 1) := pk_sub (b := 1) (by omega)
      refine br_t (nI_le (Nat.le_refl _) (by omega)) ?_
      rw [e1]
      refine ⟨vp_in_nI (by omega) (by decide), vp_in_nI hf (by decide), ?_⟩
      rw [nI_clamp (by omega), nI_clamp (by omega), hnk (k - 1) (by omega) (by omega), (hc f hf).1]
      have := k3 (k - 1) (by omega) (by omega)
      have := hc3 f hf
      have hh := h nk m hm
      refine pk_eq (ki_k R kc (k - 1)) (kc f) (fun c => ?_) (fun c => ?_)
      · rw [if_pos c] at hh; exact hh
      · rw [if_neg c] at hh; exact hh
    | succ d ih =>
      intro k m nk hk hak hnk hm n hn
      obtain ⟨n, rfl⟩ : ∃ w, n = w + 1 := ⟨n - 1, by omega⟩
      obtain ⟨n1, w1, p0, pl2, p1, p2, p3, p4⟩ := hS k hak (by omega)
      have hin : vp_in (nI k) 320 := vp_in_nI (by omega) (by decide)
      refine br_f (nI_ge (by omega) (by omega)) ?_
      refine kx_k (R := R) (kc := kc) (ka := ki_k R kc (R 2 k)) (kb := ki_k R kc (R 3 k)) (by omega) n1 w1 hc (fun t => ?_) (fun t => ?_) ?_
      · exact hnk _ p1 (p4 0 (by rw [t]; decide))
      · exact hnk _ p2 (p4 1 (by rw [t]; decide))
      · refine ⟨hin, fun A eA => ?_⟩
        rw [nI_clamp (by omega), ← ki_e cl (u := k) ⟨hak, by omega⟩] at eA
        subst eA
        have nk2 : ∀ v, a ≤ v → v < k + 1 → upd nk k (nI (ki_k R kc k)) v = nI (ki_k R kc v) := by
          intro v h1 h2
          by_cases e : v = k
          · rw [e, pk_us]
          · rw [pk_un e]; exact hnk v h1 (by omega)
        have b2 := w1.2.2.1
        have b3 := w1.2.2.2.1
        have b4 := w1.2.2.2.2
        refine kx_m (R := R) (ka := ki_k R kc (R 2 k)) (kb := ki_k R kc (R 3 k)) (kd := ki_k R kc (R 4 k)) (by omega) n1 w1 (nk2 _ p1 (by omega)) (nk2 _ p2 (by omega)) (nk2 _ p3 (by omega)) (k3 _ p1 (by omega)) (k3 _ p2 (by omega)) (k3 _ p3 (by omega)) (fun met => bq_1 (fun y ey => ?_)) (fun nmet => br_t rfl ⟨hin, ?_⟩)
        · rw [ey, nI_1]
          refine ih (k + 1) m _ (by omega) (by omega) nk2 ⟨hm.1, fun u h1 h2 h3 => ?_, ?_⟩ n (by omega)
          · by_cases e : u = k
            · rw [e] at h3; exact absurd met h3
            · exact hm.2.1 u h1 (by omega) h3
          · rcases hm.2.2 with w | ⟨u, u1, u2, u3⟩
            · exact Or.inl w
            · exact Or.inr ⟨u, u1, by omega, u3⟩
        · rw [nI_clamp (by omega), p0]
          have m201 := hm.1
          refine pk_le m (pl k) (fun c => fun y ey => ?_) (fun c => ⟨hin, fun x ex y ey => ?_⟩)
          · rw [ey, nI_1]
            refine ih (k + 1) m _ (by omega) (by omega) nk2 ⟨hm.1, fun u h1 h2 h3 => ?_, ?_⟩ n (by omega)
            · by_cases e : u = k
              · rw [e]; exact c
              · exact hm.2.1 u h1 (by omega) h3
            · rcases hm.2.2 with w | ⟨u, u1, u2, u3⟩
              · exact Or.inl w
              · exact Or.inr ⟨u, u1, by omega, u3⟩
          · rw [nI_1] at ey
            subst ex ey
            refine ih (k + 1) (pl k) _ (by omega) (by omega) nk2 ⟨by omega, fun u h1 h2 h3 => ?_, Or.inr ⟨k, hak, by omega, nmet, rfl⟩⟩ n (by omega)
            by_cases e : u = k
            · rw [e]; exact Nat.le_refl _
            · have := hm.2.1 u h1 (by omega) h3; omega
  exact ⟨_, key (b - a) a 201 a_nodeKind (by omega) (Nat.le_refl _) (fun v h1 h2 => by omega) ⟨Nat.le_refl _, fun u h1 h2 => by omega, Or.inl rfl⟩ _ (Nat.lt_succ_self _)⟩
theorem ch_X {c : Nat} (hcc : c < 243) {post : SX → Prop} (h : ∀ ch, kx_c (ki_c c) ch → post (f_width, f_textLength, f_foundPlace, f_tokenCount, f_frameCount, f_operandCount, f_defCount, f_nodeEnd, a_text, a_tokenCode, a_tokenPlace, a_frameCode, a_framePlace, a_operand, a_defPlace, a_defFirst, a_defEnd, a_nodeOp, a_nodeNumber, a_nodePlace, a_nodeDepth, a_nodeKind, a_part, a_size, a_kindFound, ch, a_status, a_result, a_slotFunction, a_slotArgument)) : wpX_choose post (f_width, f_textLength, f_foundPlace, f_tokenCount, f_frameCount, f_operandCount, f_defCount, f_nodeEnd, a_text, a_tokenCode, a_tokenPlace, a_frameCode, a_framePlace, a_operand, a_defPlace, a_defFirst, a_defEnd, a_nodeOp, a_nodeNumber, a_nodePlace, a_nodeDepth, a_nodeKind, a_part, a_size, a_kindFound, a_choice, a_status, a_result, a_slotFunction, a_slotArgument) (nI c) := by
  have key : ∀ d f ch, f + d = 5 → (∀ g, g < f → ch g = nI (ki_c c g)) → ∀ n, d < n → wX_choose_4 post f_width f_textLength f_foundPlace f_tokenCount f_frameCount f_operandCount f_defCount f_nodeEnd n (nI (c / 3 ^ f)) (nI f) a_text a_tokenCode a_tokenPlace a_frameCode a_framePlace a_operand a_defPlace a_defFirst a_defEnd a_nodeOp a_nodeNumber a_nodePlace a_nodeDepth a_nodeKind a_part a_size a_kindFound ch a_status a_result a_slotFunction a_slotArgument := by
    intro d
    induction d with
    | zero =>
      intro f ch hf hg n hn
      obtain ⟨n, rfl⟩ : ∃ w, n = w + 1 := ⟨n - 1, by omega⟩
      have : f = 5 := by omega
      subst this
      exact br_t (nI_le (a := 5) (by decide) (by decide)) (h ch (fun g hg2 => ⟨hg g hg2, (ki_c_r c g).2⟩))
    | succ d ih =>
      intro f ch hf hg n hn
      obtain ⟨n, rfl⟩ : ∃ w, n = w + 1 := ⟨n - 1, by omega⟩
      have lt : c / 3 ^ f < 2 ^ 31 := Nat.lt_of_le_of_lt (Nat.div_le_self _ _) (by omega)
      have er : nI (c / 3 ^ f) - nI (c / 3 ^ f) / 3 * 3 = nI (c / 3 ^ f % 3) := pk_rem (d := 3) lt (by decide) (by decide)
      have ed : nI (c / 3 ^ f) / 3 = nI (c / 3 ^ f / 3) := pk_div (d := 3) lt (by decide) (by decide)
      refine br_f (nI_ge (b := 5) (by omega) (by decide)) ⟨by decide, vp_in_nI (by omega) (by decide), fun A eA => ⟨by decide, fun y ey z ez => ?_⟩⟩
      rw [er, nI_clamp (by omega)] at eA
      rw [ed, Nat.div_div_eq_div_mul, ← Nat.pow_succ] at ey
      rw [nI_1] at ez
      have e1 : (1 : Int32) + nI (c / 3 ^ f % 3) = nI (ki_c c f) := by
        have : (1 : Int32) + nI (c / 3 ^ f % 3) = nI (1 + c / 3 ^ f % 3) := nI_add 1 _
        rw [this, Nat.add_comm]; rfl
      rw [e1] at eA
      subst eA ey ez
      refine ih (f + 1) _ (by omega) (fun g hg2 => ?_) n (by omega)
      by_cases e : g = f
      · rw [e, pk_us]
      · rw [pk_un e]; exact hg g (by omega)
  have := key 5 0 a_choice rfl (fun g hg => by omega) 6 (by decide)
  rw [Nat.pow_zero, Nat.div_one] at this
  exact ⟨_, this⟩
end
end
section
-- X: do the loaded functions agree, where does the text clash, which kinds are found
def la_ok (P : Nat → Nat → Nat) (out : Nat → Prop) (kc : Nat → Nat) : Prop :=
  ∀ f, f < 5 → 0 < P 5 f → ¬ out f → (∀ u, f * 24 ≤ u → u < f * 24 + P 5 f → lc_m P kc u) ∧ ki_k P kc (f * 24 + P 5 f - 1) = kc f
theorem la_ki {P : Nat → Nat → Nat} {kc : Nat → Nat} (h24 : ∀ f, P 5 f ≤ 24) : la_ok P (fun _ => False) kc ↔ ki_ok P kc := by
  constructor
  · intro h
    refine ⟨fun u hu => ?_, fun f hf hs => (h f hf hs (fun q => q)).2⟩
    obtain ⟨h1, h2⟩ := hu
    exact (h (u / 24) (by omega) (by omega) (fun q => q)).1 u (by omega) (by omega)
  · intro h f hf hs _
    refine ⟨fun u h1 h2 => ?_, h.2 f hf hs⟩
    have := h24 f
    have e : u / 24 = f := by omega
    exact h.1 u ⟨by omega, by rw [e]; omega⟩
def xl_P (P : Nat → Nat → Nat) (sz no nn np pt : Nat → Int32) : Prop :=
  pg_ok P ∧ rl_le P ∧ (∀ f, f < 5 → sz f = nI (P 5 f)) ∧ (∀ u, ou_us P u → rl_nX P no nn pt u) ∧ (∀ u, u < 120 → np u = 0)
theorem xl_S {P : Nat → Nat → Nat} {sz no nn np pt : Nat → Int32} (h : xl_P P sz no nn np pt) {f : Nat} (hf : f < 5) (hs : 0 < P 5 f) : lc_S P (fun _ => 0) (f * 24) (f * 24 + P 5 f) no nn np pt := by
  obtain ⟨p1, p2, p3, p4, p5⟩ := h
  have h24 := p1.2.2.1 f
  refine ⟨by omega, by omega, fun u h1 h2 => ?_⟩
  have e : u / 24 = f := by omega
  have hu : ou_us P u := ⟨by omega, by rw [e]; omega⟩
  obtain ⟨o1, o2, o3, o4⟩ := p1.2.2.2 u hu
  obtain ⟨⟨a1, a2⟩, ⟨b1, b2⟩, ⟨c1, c2⟩⟩ := p2 u hu
  refine ⟨p4 u hu, ⟨o1, fun q => (o3 q).1, a1, b1, c1⟩, p5 u (by omega), Nat.zero_le _, by omega, by omega, by omega, fun j hj => (o4 j hj).1⟩
def tb_b (Tk : List tz_T) (Q : Nat → Nat → Nat) (ds : List df_D) (e : Nat) (kc : Nat → Nat) (p : Nat) : Prop :=
  (∃ u, 120 ≤ u ∧ u < e ∧ ¬ lc_m Q kc u ∧ p = tt_p Tk (Q 9 u)) ∨ (∃ i d, ds[i]? = some d ∧ ki_k Q kc (d.2.2.1 - 1) ≠ kc (mn_f Tk ds i) ∧ p = tt_p Tk d.1)
def tb_R (Tk : List tz_T) (Q : Nat → Nat → Nat) (ds : List df_D) (e : Nat) (kc : Nat → Nat) (m : Nat) : Prop :=
  m ≤ 201 ∧ (∀ p, tb_b Tk Q ds e kc p → m ≤ p) ∧ (m = 201 ∨ tb_b Tk Q ds e kc m)
theorem tb_u {Tk : List tz_T} {Q : Nat → Nat → Nat} {ds : List df_D} {e : Nat} {kc : Nat → Nat} {m n : Nat} (hb : ∀ p, tb_b Tk Q ds e kc p → p ≤ 200) (h : tb_R Tk Q ds e kc m) (g : tb_R Tk Q ds e kc n) : m = n := by
  obtain ⟨h1, h2, h3⟩ := h
  obtain ⟨g1, g2, g3⟩ := g
  rcases h3 with h3 | h3 <;> rcases g3 with g3 | g3
  · omega
  · have := h2 n g3; have := hb n g3; omega
  · have := g2 m h3; have := hb m h3; omega
  · have := h2 n g3; have := g2 m h3; omega
-- over the choices: none if some choice fits, else the furthest place
def cl_v (V : Nat → Prop) (M : Nat → Nat → Prop) (n m : Nat) : Prop := m ≤ 201 ∧ (∀ c x, c < n → V c → M c x → x ≤ m) ∧ (m = 0 ∨ ∃ c, c < n ∧ V c ∧ M c m)
def cl_R (V : Nat → Prop) (M : Nat → Nat → Prop) (r : Option Nat) : Prop :=
  (r = none ∧ ∃ c, c < 243 ∧ V c ∧ M c 201) ∨ (∃ m, r = some m ∧ m ≤ 200 ∧ (¬ ∃ c, c < 243 ∧ V c ∧ M c 201) ∧ cl_v V M 243 m)
theorem cl_u {V : Nat → Prop} {M : Nat → Nat → Prop} {r s : Option Nat} (h : cl_R V M r) (g : cl_R V M s) : r = s := by
  rcases h with ⟨h1, h2⟩ | ⟨m, h1, h2, h3, h4, h5, h6⟩ <;> rcases g with ⟨g1, g2⟩ | ⟨n, g1, g2, g3, g4, g5, g6⟩
  · rw [h1, g1]
  · exact absurd h2 g3
  · exact absurd g2 h3
  · have : m = n := by
      rcases h6 with h6 | ⟨c, c1, c2, c3⟩ <;> rcases g6 with g6 | ⟨d, d1, d2, d3⟩
      · omega
      · have := h5 d n d1 d2 d3; omega
      · have := g5 c m c1 c2 c3; omega
      · have := h5 d n d1 d2 d3; have := g5 c m c1 c2 c3; omega
    rw [h1, g1, this]
theorem cl_0 (V : Nat → Prop) (M : Nat → Nat → Prop) : cl_v V M 0 0 := ⟨by omega, fun c x h => by omega, Or.inl rfl⟩
theorem cl_n {V : Nat → Prop} {M : Nat → Nat → Prop} {n m : Nat} (h : cl_v V M n m) (hv : ¬ V n) : cl_v V M (n + 1) m := by
  refine ⟨h.1, fun c x h1 h2 h3 => ?_, ?_⟩
  · by_cases e : c = n
    · rw [e] at h2; exact absurd h2 hv
    · exact h.2.1 c x (by omega) h2 h3
  · rcases h.2.2 with q | ⟨c, c1, c2⟩
    · exact Or.inl q
    · exact Or.inr ⟨c, by omega, c2⟩
theorem cl_y {V : Nat → Prop} {M : Nat → Nat → Prop} {n m x : Nat} (h : cl_v V M n m) (hv : V n) (hx : M n x) (hx2 : x ≤ 201) (hu : ∀ y, M n y → y = x) : cl_v V M (n + 1) (if x ≤ m then m else x) := by
  refine ⟨by have := h.1; split <;> omega, fun c y h1 h2 h3 => ?_, ?_⟩
  · by_cases e : c = n
    · rw [e] at h3
      have := hu y h3
      split <;> omega
    · have := h.2.1 c y (by omega) h2 h3
      split <;> omega
  · split
    · rcases h.2.2 with q | ⟨c, c1, c2⟩
      · exact Or.inl q
      · exact Or.inr ⟨c, by omega, c2⟩
    · exact Or.inr ⟨n, by omega, hv, hx⟩
section
variable {f_width f_textLength f_foundPlace f_tokenCount f_frameCount f_operandCount f_defCount f_nodeEnd : Int32} {a_text a_tokenCode a_tokenPlace a_frameCode a_framePlace a_operand a_defPlace a_defFirst a_defEnd a_nodeOp a_nodeNumber a_nodePlace a_nodeDepth a_nodeKind a_part a_size a_kindFound a_choice a_status : Nat → Int32} {a_result : Nat → Int64} {a_slotFunction a_slotArgument : Nat → Int32} {P : Nat → Nat → Nat} {kc : Nat → Nat}
theorem la_X (hP : xl_P P a_size a_nodeOp a_nodeNumber a_nodePlace a_part) (hc : kx_c kc a_choice) {m : Nat} (hm : m < 32) {post : Int32 → SX → Prop}
    (h1 : la_ok P (fun f => m.testBit f = true) kc → ∀ nk, post 1 (f_width, f_textLength, f_foundPlace, f_tokenCount, f_frameCount, f_operandCount, f_defCount, f_nodeEnd, a_text, a_tokenCode, a_tokenPlace, a_frameCode, a_framePlace, a_operand, a_defPlace, a_defFirst, a_defEnd, a_nodeOp, a_nodeNumber, a_nodePlace, a_nodeDepth, nk, a_part, a_size, a_kindFound, a_choice, a_status, a_result, a_slotFunction, a_slotArgument)) (h0 : ¬ la_ok P (fun f => m.testBit f = true) kc → ∀ nk, post 0 (f_width, f_textLength, f_foundPlace, f_tokenCount, f_frameCount, f_operandCount, f_defCount, f_nodeEnd, a_text, a_tokenCode, a_tokenPlace, a_frameCode, a_framePlace, a_operand, a_defPlace, a_defFirst, a_defEnd, a_nodeOp, a_nodeNumber, a_nodePlace, a_nodeDepth, nk, a_part, a_size, a_kindFound, a_choice, a_status, a_result, a_slotFunction, a_slotArgument)) : wpX_loadedAgree post (f_width, f_textLength, f_foundPlace, f_tokenCount, f_frameCount, f_operandCount, f_defCount, f_nodeEnd, a_text, a_tokenCode, a_tokenPlace, a_frameCode, a_framePlace, a_operand, a_defPlace, a_defFirst, a_defEnd, a_nodeOp, a_nodeNumber, a_nodePlace, a_nodeDepth, a_nodeKind, a_part, a_size, a_kindFound, a_choice, a_status, a_result, a_slotFunction, a_slotArgument) (nI m) := by
  have key : ∀ d f nk, f + d = 5 → (∀ g, g < f → 0 < P 5 g → ¬ m.testBit g = true → (∀ u, g * 24 ≤ u → u < g * 24 + P 5 g → lc_m P kc u) ∧ ki_k P kc (g * 24 + P 5 g - 1) = kc g) → ∀ n, d < n →
      wX_loadedAgree_2 post (nI m) n (nI f) f_width f_textLength f_foundPlace f_tokenCount f_frameCount f_operandCount f_defCount f_nodeEnd a_text a_tokenCode a_tokenPlace a_frameCode a_framePlace a_operand a_defPlace a_defFirst a_defEnd a_nodeOp a_nodeNumber a_nodePlace a_nodeDepth nk a_part a_size a_kindFound a_choice a_status a_result a_slotFunction a_slotArgument := by
    intro d
    induction d with
    | zero =>
      intro f nk hf hg n hn
      obtain ⟨n, rfl⟩ : ∃ w, n = w + 1 := ⟨n - 1, by omega⟩
      have : f = 5 := by omega
      subst this
      exact br_t (nI_le (a := 5) (by decide) (by decide)) (h1 hg nk)
    | succ d ih =>
      intro f nk hf hg n hn
      obtain ⟨n, rfl⟩ : ∃ w, n = w + 1 := ⟨n - 1, by omega⟩
      have f5 : f < 5 := by omega
      have h24 := hP.1.2.2.1 f
      have go : ∀ nk, (0 < P 5 f → ¬ m.testBit f = true → (∀ u, f * 24 ≤ u → u < f * 24 + P 5 f → lc_m P kc u) ∧ ki_k P kc (f * 24 + P 5 f - 1) = kc f) → ∀ y, y = nI f + 1 → wX_loadedAgree_2 post (nI m) n y f_width f_textLength f_foundPlace f_tokenCount f_frameCount f_operandCount f_defCount f_nodeEnd a_text a_tokenCode a_tokenPlace a_frameCode a_framePlace a_operand a_defPlace a_defFirst a_defEnd a_nodeOp a_nodeNumber a_nodePlace a_nodeDepth nk a_part a_size a_kindFound a_choice a_status a_result a_slotFunction a_slotArgument := by
        intro nk hh y ey
        rw [ey, nI_1]
        refine ih (f + 1) nk (by omega) (fun g hg2 a b => ?_) n (by omega)
        by_cases e : g = f
        · subst e; exact hh a b
        · exact hg g (by omega) a b
      refine br_f (nI_ge (b := 5) f5 (by decide)) ⟨vp_in_nI f5 (by decide), ?_⟩
      rw [nI_clamp (by omega), hP.2.2.1 f f5]
      refine pk_le (P 5 f) 0 (fun c => go nk (fun q => by omega)) (fun c => ?_)
      refine br_c (fun c2 => fun y ey => ⟨vp_in_nI f5 (by decide), ?_⟩) (fun c2 => go nk (fun _ q => ?_))
      · rw [mn_3 m hm f f5] at c2
        have e1 : nI f * 24 = nI (f * 24) := pk_mul f 24
        rw [e1] at ey
        subst ey
        rw [nI_add]
        have S := xl_S hP f5 c
        refine lc_X (q := 0) S hc f5 (fun nk2 mm hmm => ?_)
        by_cases rt : ki_k P kc (f * 24 + P 5 f - 1) = kc f
        · rw [if_pos rt]
          have := hmm.1
          refine pk_eq mm 201 (fun e => go nk2 (fun _ _ => ⟨fun u u1 u2 => ?_, rt⟩)) (fun e => h0 (fun q => ?_) nk2)
          · exact Classical.byContradiction (fun nmet => by have : mm ≤ 0 := hmm.2.1 u u1 u2 nmet; omega)
          · rcases hmm.2.2 with w | ⟨u, u1, u2, u3, u4⟩
            · exact e w
            · exact u3 ((q f f5 c (by show ¬ m.testBit f = true; rw [c2]; decide)).1 u u1 u2)
        · rw [if_neg rt]
          exact br_f (by decide) (h0 (fun q => rt (q f f5 c (by show ¬ m.testBit f = true; rw [c2]; decide)).2) nk2)
      · rw [mn_3 m hm f f5] at c2
        exact absurd (by simpa using q) c2
  exact ⟨_, key 5 0 a_nodeKind rfl (fun g hg => by omega) 6 (by decide)⟩
variable {L : Nat} {tx : Nat → Nat} {Tk : List tz_T} {Q : Nat → Nat → Nat} {ds : List df_D} {e : Nat}
theorem tb_S {Tk : List tz_T} {tt : Nat → Int32} {dp df de no nn np nd pt : Nat → Int32} (I : xm_I L tx Tk Q ds e tt dp df de no nn np nd pt) {i : Nat} {d : df_D} (hs : ds[i]? = some d) : lc_S Q (fun u => tt_p Tk (Q 9 u)) d.2.1 d.2.2.1 no nn np pt ∧
    (∀ u, d.2.1 ≤ u → u < d.2.2.1 → d.1 + 2 ≤ Q 9 u ∧ Q 9 u < d.2.2.2) := by
  obtain ⟨i1, i2, i3, i4, i5, i6⟩ := I
  obtain ⟨q1, q2, q3, q4, q5⟩ := md_i ds _ _ _ _ i3 i _ hs
  obtain ⟨p1, p2, p3, p4, p5, p6, p7, p8, p9⟩ := q1
  have bl := bl_in (tn := tt_n Tk) (d.2.2.1 - 1) _ _ p5 (fun v h1 h2 => (i4.2 v (by omega) (by omega)).1)
  rw [p7] at bl
  refine ⟨⟨p8, by omega, fun u h1 h2 => ?_⟩, fun u h1 h2 => (bl u h1 (by omega)).2⟩
  obtain ⟨o1, o2, o3, o4, o5, o6, o7, o8, o9, o10⟩ := i4.2 u (by omega) (by omega)
  have o1' := o1
  obtain ⟨g1, gt, g3, g4, g5, g6, g7, g8, g9, g10⟩ := o1
  have kd := yb_k o1' (bl u h1 (by omega)).1
  have k13 := nd_13 g1
  have pT := (i2.2.2 _ o3).1
  have L2 := i2.2.1
  have n3 : pg_n (Q 0 u) ≤ 3 := by unfold pg_n; repeat' split
                                   all_goals omega
  have pop : pg_op (Q 0 u) := by
    unfold pg_op
    rcases g1 with g | ⟨w, _⟩ | ⟨w, _⟩ | ⟨w, _⟩ | ⟨w, _⟩ | ⟨w, _⟩ <;> omega
  have lo : ∀ j, j < pg_n (Q 0 u) → d.2.1 ≤ Q (2 + j) u ∧ Q (2 + j) u < u := fun j hj => by
    have := kd j hj; omega
  have b2 : d.2.1 ≤ Q 2 u ∧ Q 2 u ≤ u := by
    by_cases n : 0 < pg_n (Q 0 u)
    · have : d.2.1 ≤ Q 2 u ∧ Q 2 u < u := lo 0 n; omega
    · have := g8 (by omega); omega
  have b3 : d.2.1 ≤ Q 3 u ∧ Q 3 u ≤ u := by
    by_cases n : 1 < pg_n (Q 0 u)
    · have : d.2.1 ≤ Q 3 u ∧ Q 3 u < u := lo 1 n; omega
    · have := g9 (by omega); omega
  have b4 : d.2.1 ≤ Q 4 u ∧ Q 4 u ≤ u := by
    by_cases n : 2 < pg_n (Q 0 u)
    · have : d.2.1 ≤ Q 4 u ∧ Q 4 u < u := lo 2 n; omega
    · have := g10 (by omega); omega
  exact ⟨⟨o4, o5, o8, o9, o10⟩, ⟨pop, fun q => by rw [g3]; exact xp_n5 i1 i2 o3 (k13.mp q), b2.2, b3.2, b4.2⟩, o6, by show tt_p Tk (Q 9 u) ≤ 200; omega, b2.1, b3.1, b4.1, fun j hj => (lo j hj).2⟩
theorem tb_X (I : xm_I L tx Tk Q ds e a_text a_defPlace a_defFirst a_defEnd a_nodeOp a_nodeNumber a_nodePlace a_nodeDepth a_part) (hmo : ∀ i j, i < j → j < Tk.length → tt_p Tk i < tt_p Tk j) (hc : kx_c kc a_choice) {post : Int32 → SX → Prop}
    (h : ∀ nk m, tb_R Tk Q ds e kc m → post (nI m) (f_width, f_textLength, f_foundPlace, f_tokenCount, f_frameCount, f_operandCount, nI ds.length, f_nodeEnd, a_text, a_tokenCode, a_tokenPlace, a_frameCode, a_framePlace, a_operand, a_defPlace, a_defFirst, a_defEnd, a_nodeOp, a_nodeNumber, a_nodePlace, a_nodeDepth, nk, a_part, a_size, a_kindFound, a_choice, a_status, a_result, a_slotFunction, a_slotArgument)) : wpX_leastClashOfText post (f_width, f_textLength, f_foundPlace, f_tokenCount, f_frameCount, f_operandCount, nI ds.length, f_nodeEnd, a_text, a_tokenCode, a_tokenPlace, a_frameCode, a_framePlace, a_operand, a_defPlace, a_defFirst, a_defEnd, a_nodeOp, a_nodeNumber, a_nodePlace, a_nodeDepth, a_nodeKind, a_part, a_size, a_kindFound, a_choice, a_status, a_result, a_slotFunction, a_slotArgument) := by
  have b50 := xm_50 I.2.2.1 (by have := I.2.1.1; have := I.2.1.2.1; omega)
  have L2 := I.2.1.2.1
  have Tl := I.2.1.1
  have tpb : ∀ i, i < Tk.length → tt_p Tk i < 200 := fun i hi => by have := (I.2.1.2.2 i hi).1; omega
  -- what is bad in the def i
  let bad : Nat → Nat → Prop := fun i p => ∃ d, ds[i]? = some d ∧ ((∃ u, d.2.1 ≤ u ∧ u < d.2.2.1 ∧ ¬ lc_m Q kc u ∧ p = tt_p Tk (Q 9 u)) ∨ (ki_k Q kc (d.2.2.1 - 1) ≠ kc (mn_f Tk ds i) ∧ p = tt_p Tk d.1))
  have bt : ∀ p, tb_b Tk Q ds e kc p → ∃ i, i < ds.length ∧ bad i p := by
    intro p hp
    have il : ∀ (i : Nat) (d : df_D), ds[i]? = some d → i < ds.length := by
      intro i d q
      rcases Nat.lt_or_ge i ds.length with w | w
      · exact w
      · rw [List.getElem?_eq_none w] at q; exact absurd q (by simp)
    rcases hp with ⟨u, u1, u2, u3, u4⟩ | ⟨i, d, d1, d2, d3⟩
    · obtain ⟨i, d, d1, d2, d3⟩ := md_n ds _ _ _ _ I.2.2.1 u u1 u2
      exact ⟨i, il i d d1, d, d1, Or.inl ⟨u, d2, d3, u3, u4⟩⟩
    · exact ⟨i, il i d d1, d, d1, Or.inr ⟨d2, d3⟩⟩
  have tb : ∀ i p, bad i p → tb_b Tk Q ds e kc p := by
    intro i p ⟨d, d1, hh⟩
    obtain ⟨_, q2, q3, q4, q5⟩ := md_i ds _ _ _ _ I.2.2.1 i d d1
    rcases hh with ⟨u, u1, u2, u3, u4⟩ | ⟨w1, w2⟩
    · exact Or.inl ⟨u, by omega, by omega, u3, u4⟩
    · exact Or.inr ⟨i, d, d1, w1, w2⟩
  -- places of a def lie between its name and its end
  have rng : ∀ i d p, ds[i]? = some d → bad i p → tt_p Tk d.1 ≤ p ∧ ∃ t, p = tt_p Tk t ∧ d.1 ≤ t ∧ t < d.2.2.2 := by
    intro i d p hs ⟨d2, d1, hh⟩
    rw [hs] at d1
    have := Option.some.inj d1
    subst this
    obtain ⟨q1, q2, q3, q4, q5⟩ := md_i ds _ _ _ _ I.2.2.1 i d hs
    have lt := q1.2.2.2.2.2.1.1
    rcases hh with ⟨u, u1, u2, u3, u4⟩ | ⟨w1, w2⟩
    · have pos := (tb_S I hs).2 u u1 u2
      have := hmo d.1 (Q 9 u) (by omega) (by omega)
      exact ⟨by omega, Q 9 u, u4, by omega, pos.2⟩
    · exact ⟨by omega, d.1, w2, Nat.le_refl _, by omega⟩
  have key : ∀ d i nk, i + d = ds.length → (∀ j, j < i → ∀ p, ¬ bad j p) → ∀ n, d < n → wX_leastClashOfText_6 post n 201 (nI i) f_width f_textLength f_foundPlace f_tokenCount f_frameCount f_operandCount (nI ds.length) f_nodeEnd a_text a_tokenCode a_tokenPlace a_frameCode a_framePlace a_operand a_defPlace a_defFirst a_defEnd a_nodeOp a_nodeNumber a_nodePlace a_nodeDepth nk a_part a_size a_kindFound a_choice a_status a_result a_slotFunction a_slotArgument := by
    intro d
    induction d with
    | zero =>
      intro i nk hi hb n hn
      obtain ⟨n, rfl⟩ : ∃ w, n = w + 1 := ⟨n - 1, by omega⟩
      have ei : i = ds.length := by omega
      subst ei
      refine br_t (nI_le (Nat.le_refl _) (by omega)) (h nk 201 ⟨Nat.le_refl _, fun p hp => ?_, Or.inl rfl⟩)
      obtain ⟨j, j1, j2⟩ := bt p hp
      exact absurd j2 (hb j j1 p)
    | succ dd ih =>
      intro i nk hi hb n hn
      obtain ⟨n, rfl⟩ : ∃ w, n = w + 1 := ⟨n - 1, by omega⟩
      have il : i < ds.length := by omega
      obtain ⟨f5, d, hs, hD, dT, sT, d120, de, fe⟩ := xm_f5 I il
      have hin : vp_in (nI i) 200 := vp_in_nI (by omega) (by decide)
      have dA := I.2.2.2.2.1 i d hs
      obtain ⟨S, pos⟩ := tb_S I hs
      have dTb := tpb d.1 dT
      refine br_f (nI_ge il (by omega)) (br_t rfl (xm_fn I il ⟨hin, hin, hin, ?_⟩))
      rw [nI_clamp (by omega), dA.1, dA.2.1, dA.2.2]
      refine lc_X S hc f5 (fun nk2 m hm => fun y ey => ?_)
      rw [ey, nI_1]
      -- the result of this def
      have stop : ∀ r, r ≤ 200 → bad i r → (∀ p, bad i p → r ≤ p) → wX_leastClashOfText_6 post n (nI r) (nI (i + 1)) f_width f_textLength f_foundPlace f_tokenCount f_frameCount f_operandCount (nI ds.length) f_nodeEnd a_text a_tokenCode a_tokenPlace a_frameCode a_framePlace a_operand a_defPlace a_defFirst a_defEnd a_nodeOp a_nodeNumber a_nodePlace a_nodeDepth nk2 a_part a_size a_kindFound a_choice a_status a_result a_slotFunction a_slotArgument := by
        intro r r2 rb rm
        have R : tb_R Tk Q ds e kc r := by
          refine ⟨by omega, fun p hp => ?_, Or.inr (tb i r rb)⟩
          obtain ⟨j, j1, j2⟩ := bt p hp
          rcases Nat.lt_trichotomy j i with w | w | w
          · exact absurd j2 (hb j w p)
          · subst w; exact rm p j2
          · have hs2 : ds[j]? = some ds[j] := List.getElem?_eq_getElem j1
            have lt := md_o ds _ _ _ _ I.2.2.1 i j d _ w hs hs2
            obtain ⟨_, t, t1, t2, t3⟩ := rng i d r hs rb
            obtain ⟨x1, _⟩ := rng j _ p hs2 j2
            obtain ⟨q1, q2, q3, q4, q5⟩ := md_i ds _ _ _ _ I.2.2.1 j _ hs2
            have := q1.2.2.2.2.2.1.1
            have := hmo t ds[j].1 (by omega) (by omega)
            omega
        obtain ⟨n, rfl⟩ : ∃ w, n = w + 1 := ⟨n - 1, by omega⟩
        refine pk_le ds.length (i + 1) (fun _ => h nk2 r R) (fun _ => br_f (fun q => by have := (nI_eq (a := r) (b := 201) (by omega) (by decide)).mp q; omega) (h nk2 r R))
      by_cases rt : ki_k Q kc (d.2.2.1 - 1) = kc (mn_f Tk ds i)
      · rw [if_pos rt]
        rcases hm.2.2 with w | ⟨u, u1, u2, u3, u4⟩
        · rw [w]
          refine ih (i + 1) nk2 (by omega) (fun j hj p hp => ?_) n (by omega)
          by_cases q : j = i
          · subst q
            obtain ⟨d2, d1, hh⟩ := hp
            rw [hs] at d1
            have := Option.some.inj d1
            subst this
            rcases hh with ⟨u, u1, u2, u3, u4⟩ | ⟨w1, w2⟩
            · have : m ≤ tt_p Tk (Q 9 u) := hm.2.1 u u1 u2 u3
              have := pos u u1 u2
              have := tpb (Q 9 u) (by omega)
              omega
            · exact w1 rt
          · exact hb j (by omega) p hp
        · have := pos u u1 u2
          have := tpb (Q 9 u) (by omega)
          have u4 : tt_p Tk (Q 9 u) = m := u4
          refine stop m (by omega) ⟨d, hs, Or.inl ⟨u, u1, u2, u3, u4.symm⟩⟩ (fun p ⟨d2, d1, hh⟩ => ?_)
          rw [hs] at d1
          have := Option.some.inj d1
          subst this
          rcases hh with ⟨u, u1, u2, u3, u4⟩ | ⟨w1, w2⟩
          · rw [u4]; exact hm.2.1 u u1 u2 u3
          · exact absurd rt w1
      · rw [if_neg rt]
        exact stop _ (by omega) ⟨d, hs, Or.inr ⟨rt, rfl⟩⟩ (fun p hp => (rng i d p hs hp).1)
  exact ⟨_, key ds.length 0 a_nodeKind (by omega) (fun j hj => by omega) _ (Nat.lt_succ_self _)⟩
theorem tb_200 {tt dp df de no nn np nd pt : Nat → Int32} (I : xm_I L tx Tk Q ds e tt dp df de no nn np nd pt) : ∀ p, tb_b Tk Q ds e kc p → p ≤ 200 := by
  intro p hp
  have tpb : ∀ i, i < Tk.length → tt_p Tk i < 200 := fun i hi => by have := (I.2.1.2.2 i hi).1; have := I.2.1.2.1; omega
  rcases hp with ⟨u, u1, u2, u3, u4⟩ | ⟨i, d, d1, d2, d3⟩
  · have := tpb _ (I.2.2.2.1.2 u u1 u2).2.2.1; omega
  · obtain ⟨q1, q2, q3, q4, q5⟩ := md_i ds _ _ _ _ I.2.2.1 i d d1
    have := q1.2.2.2.2.2.1.1
    have := tpb d.1 (by omega); omega
theorem ck_X (I : xm_I L tx Tk Q ds e a_text a_defPlace a_defFirst a_defEnd a_nodeOp a_nodeNumber a_nodePlace a_nodeDepth a_part) (hmo : ∀ i j, i < j → j < Tk.length → tt_p Tk i < tt_p Tk j)
    (hP : xl_P P a_size a_nodeOp a_nodeNumber a_nodePlace a_part) {r : Option Nat} (hR : cl_R (fun c => la_ok P (fun f => ∃ i, i < ds.length ∧ mn_f Tk ds i = f) (ki_c c)) (fun c => tb_R Tk Q ds e (ki_c c)) r) {post : Int32 → SX → Prop}
    (h1 : r = none → ∀ nk ch, post 1 (f_width, f_textLength, f_foundPlace, f_tokenCount, f_frameCount, f_operandCount, nI ds.length, f_nodeEnd, a_text, a_tokenCode, a_tokenPlace, a_frameCode, a_framePlace, a_operand, a_defPlace, a_defFirst, a_defEnd, a_nodeOp, a_nodeNumber, a_nodePlace, a_nodeDepth, nk, a_part, a_size, a_kindFound, ch, a_status, a_result, a_slotFunction, a_slotArgument)) (h2 : ∀ m, r = some m → ∀ nk ch, post 8 (f_width, f_textLength, nI m, f_tokenCount, f_frameCount, f_operandCount, nI ds.length, f_nodeEnd, a_text, a_tokenCode, a_tokenPlace, a_frameCode, a_framePlace, a_operand, a_defPlace, a_defFirst, a_defEnd, a_nodeOp, a_nodeNumber, a_nodePlace, a_nodeDepth, nk, a_part, a_size, a_kindFound, ch, a_status, a_result, a_slotFunction, a_slotArgument)) : wpX_checkKinds post (f_width, f_textLength, f_foundPlace, f_tokenCount, f_frameCount, f_operandCount, nI ds.length, f_nodeEnd, a_text, a_tokenCode, a_tokenPlace, a_frameCode, a_framePlace, a_operand, a_defPlace, a_defFirst, a_defEnd, a_nodeOp, a_nodeNumber, a_nodePlace, a_nodeDepth, a_nodeKind, a_part, a_size, a_kindFound, a_choice, a_status, a_result, a_slotFunction, a_slotArgument) := by
  have f5 : ∀ i, i < ds.length → mn_f Tk ds i < 5 := fun i hi => (xm_f5 I hi).1
  obtain ⟨m32, mb⟩ := mn_b (f := mn_f Tk ds) ds.length f5
  have la : ∀ kc, la_ok P (fun f => (mn_m (mn_f Tk ds) ds.length).testBit f = true) kc ↔ la_ok P (fun f => ∃ i, i < ds.length ∧ mn_f Tk ds i = f) kc := by
    intro kc
    constructor
    · intro q f a b c; exact q f a b (fun w => c ((mb f a).mp w))
    · intro q f a b c; exact q f a b (fun w => c ((mb f a).mpr w))
  refine xm_names I ?_
  have key : ∀ d c m nk ch, c + d = 243 → cl_v (fun c => la_ok P (fun f => ∃ i, i < ds.length ∧ mn_f Tk ds i = f) (ki_c c)) (fun c => tb_R Tk Q ds e (ki_c c)) c m → ∀ n, d < n →
      wX_checkKinds_9 post (nI (mn_m (mn_f Tk ds) ds.length)) n (nI m) (nI c) f_width f_textLength f_foundPlace f_tokenCount f_frameCount f_operandCount (nI ds.length) f_nodeEnd a_text a_tokenCode a_tokenPlace a_frameCode a_framePlace a_operand a_defPlace a_defFirst a_defEnd a_nodeOp a_nodeNumber a_nodePlace a_nodeDepth nk a_part a_size a_kindFound ch a_status a_result a_slotFunction a_slotArgument := by
    intro d
    induction d with
    | zero =>
      intro c m nk ch hc hv n hn
      obtain ⟨n, rfl⟩ : ∃ w, n = w + 1 := ⟨n - 1, by omega⟩
      have : c = 243 := by omega
      subst this
      have m201 := hv.1
      refine br_t (nI_le (a := 243) (by decide) (by decide)) (pk_eq m 201 (fun e => h1 ?_ nk ch) (fun e => h2 m ?_ nk ch))
      · refine cl_u hR (Or.inl ⟨rfl, ?_⟩)
        rcases hv.2.2 with w | ⟨c, c1, c2, c3⟩
        · omega
        · exact ⟨c, c1, c2, e ▸ c3⟩
      · refine cl_u hR (Or.inr ⟨m, rfl, by omega, fun ⟨c, c1, c2, c3⟩ => ?_, hv⟩)
        have := hv.2.1 c 201 c1 c2 c3
        omega
    | succ d ih =>
      intro c m nk ch hc hv n hn
      obtain ⟨n, rfl⟩ : ∃ w, n = w + 1 := ⟨n - 1, by omega⟩
      have m201 := hv.1
      refine br_f (nI_ge (b := 243) (by omega) (by decide)) (ch_X (by omega) (fun ch2 hch => ?_))
      refine la_X hP hch m32 (fun ok nk2 => bq_1 ?_) (fun nok nk2 => br_t rfl (fun y ey => ?_))
      · refine tb_X I hmo hch (fun nk3 x hx => ?_)
        have x201 := hx.1
        have st := cl_y hv ((la _).mp ok) hx x201 (fun y hy => tb_u (tb_200 I) hy hx)
        refine pk_le x m (fun e => fun y ey => ?_) (fun e => fun y ey => ?_)
        · rw [if_pos e] at st
          rw [ey, nI_1]
          exact ih (c + 1) m nk3 ch2 (by omega) st n (by omega)
        · rw [if_neg (by omega)] at st
          rw [ey, nI_1]
          exact ih (c + 1) x nk3 ch2 (by omega) st n (by omega)
      · rw [ey, nI_1]
        exact ih (c + 1) m nk2 ch2 (by omega) (cl_n hv (fun q => nok ((la _).mpr q))) n (by omega)
  exact ⟨_, key 243 0 0 a_nodeKind a_choice rfl (cl_0 _ _) 244 (by decide)⟩
end
end
section
-- X finds the kinds
theorem fk_3 {V : Nat → Prop} {n f r : Nat} (h : ki_r V n f r) : r ≤ 3 := by
  rcases h with h | ⟨c, _, _, h, _⟩ | h
  · omega
  · have := ki_c_r c f; omega
  · omega
section
variable {f_width f_textLength f_foundPlace f_tokenCount f_frameCount f_operandCount f_defCount f_nodeEnd : Int32} {a_text a_tokenCode a_tokenPlace a_frameCode a_framePlace a_operand a_defPlace a_defFirst a_defEnd a_nodeOp a_nodeNumber a_nodePlace a_nodeDepth a_nodeKind a_part a_size a_kindFound a_choice a_status : Nat → Int32} {a_result : Nat → Int64} {a_slotFunction a_slotArgument : Nat → Int32} {P : Nat → Nat → Nat}
theorem fk_44 {c : Nat} {J : Int32 → Int32 → Int32 → Int32 → Int32 → Int32 → Int32 → Int32 → Int32 → (Nat → Int32) → (Nat → Int32) → (Nat → Int32) → (Nat → Int32) → (Nat → Int32) → (Nat → Int32) → (Nat → Int32) → (Nat → Int32) → (Nat → Int32) → (Nat → Int32) → (Nat → Int32) → (Nat → Int32) → (Nat → Int32) → (Nat → Int32) → (Nat → Int32) → (Nat → Int32) → (Nat → Int32) → (Nat → Int32) → (Nat → Int32) → (Nat → Int64) → (Nat → Int32) → (Nat → Int32) → Prop} {post : SX → Prop} (hch : kx_c (ki_c c) a_choice) (hv : rl_V P c)
    (h : ∀ kf, (∀ f, f < 5 → ∃ r, kf f = nI r ∧ ki_r (rl_V P) (c + 1) f r) → J (nI (c + 1)) f_width f_textLength f_foundPlace f_tokenCount f_frameCount f_operandCount f_defCount f_nodeEnd a_text a_tokenCode a_tokenPlace a_frameCode a_framePlace a_operand a_defPlace a_defFirst a_defEnd a_nodeOp a_nodeNumber a_nodePlace a_nodeDepth a_nodeKind a_part a_size kf a_choice a_status a_result a_slotFunction a_slotArgument) :
    ∀ d f kf, f + d = 5 → (∀ g, g < f → ∃ r, kf g = nI r ∧ ki_r (rl_V P) (c + 1) g r) → (∀ g, f ≤ g → g < 5 → ∃ r, kf g = nI r ∧ ki_r (rl_V P) c g r) → ∀ n, d < n →
      wX_findKinds_44 post J (nI c) f_width f_textLength f_foundPlace f_tokenCount f_frameCount f_operandCount f_defCount f_nodeEnd n (nI f) a_text a_tokenCode a_tokenPlace a_frameCode a_framePlace a_operand a_defPlace a_defFirst a_defEnd a_nodeOp a_nodeNumber a_nodePlace a_nodeDepth a_nodeKind a_part a_size kf a_choice a_status a_result a_slotFunction a_slotArgument := by
  intro d
  induction d with
  | zero =>
    intro f kf hf h1 h2 n hn
    obtain ⟨n, rfl⟩ : ∃ w, n = w + 1 := ⟨n - 1, by omega⟩
    have : f = 5 := by omega
    subst this
    refine br_t (nI_le (a := 5) (by decide) (by decide)) (fun y ey => ?_)
    rw [ey, nI_1]
    exact h kf h1
  | succ d ih =>
    intro f kf hf h1 h2 n hn
    obtain ⟨n, rfl⟩ : ∃ w, n = w + 1 := ⟨n - 1, by omega⟩
    have f5 : f < 5 := by omega
    have hin : vp_in (nI f) 5 := vp_in_nI f5 (by decide)
    obtain ⟨r, r1, r2⟩ := h2 f (Nat.le_refl _) f5
    have r3 := fk_3 r2
    have kr := ki_c_r c f
    have st := ki_r_y r2 hv
    have nxt : ∀ (x : Nat), x = (if r = 0 ∨ r = ki_c c f then ki_c c f else 1) → ∀ y, y = nI f + 1 → wX_findKinds_44 post J (nI c) f_width f_textLength f_foundPlace f_tokenCount f_frameCount f_operandCount f_defCount f_nodeEnd n y a_text a_tokenCode a_tokenPlace a_frameCode a_framePlace a_operand a_defPlace a_defFirst a_defEnd a_nodeOp a_nodeNumber a_nodePlace a_nodeDepth a_nodeKind a_part a_size (upd kf f (nI x)) a_choice a_status a_result a_slotFunction a_slotArgument := by
      intro x ex y ey
      rw [ey, nI_1]
      refine ih (f + 1) _ (by omega) (fun g hg => ?_) (fun g h3 h4 => ?_) n (by omega)
      · by_cases e : g = f
        · subst e; rw [pk_us, ex]; exact ⟨_, rfl, st⟩
        · rw [pk_un e]; exact h1 g (by omega)
      · rw [pk_un (by omega)]; exact h2 g (by omega) h4
    have same : r = 0 ∨ r = ki_c c f → wX_findKinds_78 post J (wX_findKinds_44 post J (nI c) f_width f_textLength f_foundPlace f_tokenCount f_frameCount f_operandCount f_defCount f_nodeEnd n) (nI c) (nI f) 1 f_width f_textLength f_foundPlace f_tokenCount f_frameCount f_operandCount f_defCount f_nodeEnd a_text a_tokenCode a_tokenPlace a_frameCode a_framePlace a_operand a_defPlace a_defFirst a_defEnd a_nodeOp a_nodeNumber a_nodePlace a_nodeDepth a_nodeKind a_part a_size kf a_choice a_status a_result a_slotFunction a_slotArgument := by
      intro q
      refine bq_1 ⟨hin, hin, fun A eA => ?_⟩
      rw [nI_clamp (by omega), (hch f f5).1] at eA
      subst eA
      exact nxt _ (by rw [if_pos q])
    refine br_f (nI_ge (b := 5) f5 (by decide)) ⟨hin, ?_⟩
    rw [nI_clamp (by omega), r1]
    refine pk_eq r 0 (fun c0 => same (Or.inl c0)) (fun c0 => ⟨hin, hin, ?_⟩)
    rw [(hch f f5).1]
    refine pk_eq r (ki_c c f) (fun c1 => same (Or.inr c1)) (fun c1 => br_t rfl ⟨hin, fun A eA => ?_⟩)
    rw [nI_clamp (by omega)] at eA
    subst eA
    exact nxt 1 (by rw [if_neg (by omega)])
theorem fk_X (hP : xl_P P a_size a_nodeOp a_nodeNumber a_nodePlace a_part) {post : SX → Prop}
    (h : ∀ kf nk ch, (∀ f, f < 5 → ∃ r, kf f = nI r ∧ ki_r (rl_V P) 243 f r) → post (f_width, f_textLength, f_foundPlace, f_tokenCount, f_frameCount, f_operandCount, f_defCount, f_nodeEnd, a_text, a_tokenCode, a_tokenPlace, a_frameCode, a_framePlace, a_operand, a_defPlace, a_defFirst, a_defEnd, a_nodeOp, a_nodeNumber, a_nodePlace, a_nodeDepth, nk, a_part, a_size, kf, ch, a_status, a_result, a_slotFunction, a_slotArgument)) : wpX_findKinds post (f_width, f_textLength, f_foundPlace, f_tokenCount, f_frameCount, f_operandCount, f_defCount, f_nodeEnd, a_text, a_tokenCode, a_tokenPlace, a_frameCode, a_framePlace, a_operand, a_defPlace, a_defFirst, a_defEnd, a_nodeOp, a_nodeNumber, a_nodePlace, a_nodeDepth, a_nodeKind, a_part, a_size, a_kindFound, a_choice, a_status, a_result, a_slotFunction, a_slotArgument) := by
  have h24 := hP.1.2.2.1
  have la : ∀ kc, la_ok P (fun f => (0 : Nat).testBit f = true) kc ↔ ki_ok P kc := by
    intro kc
    rw [← la_ki h24]
    constructor
    · intro q f a b c; exact q f a b (by simp)
    · intro q f a b c; exact q f a b (fun w => w)
  have k22 : ∀ d c kf nk ch, c + d = 243 → (∀ f, f < 5 → ∃ r, kf f = nI r ∧ ki_r (rl_V P) c f r) → ∀ n, d < n → wX_findKinds_22 post n (nI c) f_width f_textLength f_foundPlace f_tokenCount f_frameCount f_operandCount f_defCount f_nodeEnd a_text a_tokenCode a_tokenPlace a_frameCode a_framePlace a_operand a_defPlace a_defFirst a_defEnd a_nodeOp a_nodeNumber a_nodePlace a_nodeDepth nk a_part a_size kf ch a_status a_result a_slotFunction a_slotArgument := by
    intro d
    induction d with
    | zero =>
      intro c kf nk ch hc hk n hn
      obtain ⟨n, rfl⟩ : ∃ w, n = w + 1 := ⟨n - 1, by omega⟩
      have : c = 243 := by omega
      subst this
      exact br_t (nI_le (a := 243) (by decide) (by decide)) (h kf nk ch hk)
    | succ d ih =>
      intro c kf nk ch hc hk n hn
      obtain ⟨n, rfl⟩ : ∃ w, n = w + 1 := ⟨n - 1, by omega⟩
      refine br_f (nI_ge (b := 243) (by omega) (by decide)) (ch_X (by omega) (fun ch2 hch => ?_))
      refine la_X (m := 0) hP hch (by decide) (fun ok nk2 => bq_1 ?_) (fun nok nk2 => br_t rfl (fun y ey => ?_))
      · have := fk_44 (P := P) (post := post) (J := wX_findKinds_22 post n) hch ((la _).mp ok) (fun kf2 hk2 => ih (c + 1) kf2 nk2 ch2 (by omega) hk2 n (by omega)) 5 0 kf rfl (fun g hg => by omega) (fun g _ h2 => hk g h2) 6 (by decide)
        exact ⟨_, this⟩
      · rw [ey, nI_1]
        refine ih (c + 1) kf nk2 ch2 (by omega) (fun f hf => ?_) n (by omega)
        obtain ⟨r, r1, r2⟩ := hk f hf
        exact ⟨r, r1, ki_r_n r2 (fun q => nok ((la _).mpr q))⟩
  have k2 : ∀ d f kf, f + d = 5 → (∀ g, g < f → kf g = 0) → ∀ n, d < n → wX_findKinds_2 post f_width f_textLength f_foundPlace f_tokenCount f_frameCount f_operandCount f_defCount f_nodeEnd n (nI f) a_text a_tokenCode a_tokenPlace a_frameCode a_framePlace a_operand a_defPlace a_defFirst a_defEnd a_nodeOp a_nodeNumber a_nodePlace a_nodeDepth a_nodeKind a_part a_size kf a_choice a_status a_result a_slotFunction a_slotArgument := by
    intro d
    induction d with
    | zero =>
      intro f kf hf hg n hn
      obtain ⟨n, rfl⟩ : ∃ w, n = w + 1 := ⟨n - 1, by omega⟩
      have : f = 5 := by omega
      subst this
      exact br_t (nI_le (a := 5) (by decide) (by decide)) ⟨_, k22 243 0 kf a_nodeKind a_choice rfl (fun g hg2 => ⟨0, hg g hg2, ki_r_0 _ _⟩) 244 (by decide)⟩
    | succ d ih =>
      intro f kf hf hg n hn
      obtain ⟨n, rfl⟩ : ∃ w, n = w + 1 := ⟨n - 1, by omega⟩
      refine br_f (nI_ge (b := 5) (by omega) (by decide)) ⟨vp_in_nI (by omega) (by decide), fun A eA y ey => ?_⟩
      rw [nI_clamp (by omega)] at eA
      rw [nI_1] at ey
      subst eA ey
      refine ih (f + 1) _ (by omega) (fun g hg2 => ?_) n (by omega)
      by_cases e : g = f
      · rw [e, pk_us]
      · rw [pk_un e]; exact hg g (by omega)
  exact ⟨_, k2 5 0 a_kindFound rfl (fun g hg => by omega) 6 (by decide)⟩
end
end
section
-- Y and kinds
theorem ky_20 {t : Nat} (h : pg_op t) (h3 : t ≠ 3) (h6 : t ≠ 6) (h13 : t ≠ 13) : t = 1 ∨ t = 2 ∨ t = 7 ∨ t = 8 ∨ t = 9 ∨ t = 10 ∨ t = 11 ∨ t = 12 ∨ t = 14 ∨ t = 15 ∨ t = 16 ∨ t = 17 ∨ t = 18 ∨ t = 19 ∨ t = 20 ∨ t = 21 ∨ t = 22 ∨ t = 23 ∨ t = 24 ∨ t = 28 := by
  unfold pg_op at h; omega
theorem ky_23 {t : Nat} (h : pg_op t) : t = 1 ∨ t = 2 ∨ t = 10 ∨ t = 11 ∨ t = 12 ∨ t = 3 ∨ t = 6 ∨ t = 7 ∨ t = 8 ∨ t = 9 ∨ t = 13 ∨ t = 14 ∨ t = 15 ∨ t = 16 ∨ t = 17 ∨ t = 18 ∨ t = 19 ∨ t = 20 ∨ t = 21 ∨ t = 22 ∨ t = 23 ∨ t = 24 ∨ t = 28 := by
  unfold pg_op at h; omega
def ky_S (R : Nat → Nat → Nat) (g : Nat → Nat) (S : Nat → Prop) (nop nnm nA nB nC : Nat → Int32) : Prop :=
  ∀ r, S r → r < 320 ∧ nop r = nI (R 0 (g r)) ∧ nnm r = nI (R 1 (g r)) ∧ pg_op (R 0 (g r)) ∧ (R 0 (g r) = 13 → R 1 (g r) < 5) ∧
    (0 < pg_n (R 0 (g r)) → ∃ a, nA r = nI a ∧ S a ∧ g a = R 2 (g r) ∧ R 2 (g r) < g r) ∧
    (1 < pg_n (R 0 (g r)) → ∃ a, nB r = nI a ∧ S a ∧ g a = R 3 (g r) ∧ R 3 (g r) < g r) ∧
    (2 < pg_n (R 0 (g r)) → ∃ a, nC r = nI a ∧ S a ∧ g a = R 4 (g r) ∧ R 4 (g r) < g r)
theorem ky_cl {R : Nat → Nat → Nat} {g : Nat → Nat} {S : Nat → Prop} {nop nnm nA nB nC : Nat → Int32} (h : ky_S R g S nop nnm nA nB nC) : ki_cl R (fun u => ∃ r, S r ∧ g r = u) := by
  intro u ⟨r, hr, e⟩ j hj
  subst e
  obtain ⟨_, _, _, _, _, p1, p2, p3⟩ := h r hr
  have n3 : pg_n (R 0 (g r)) ≤ 3 := by unfold pg_n; repeat' split
                                       all_goals omega
  have : j = 0 ∨ j = 1 ∨ j = 2 := by omega
  rcases this with q | q | q <;> subst q
  · obtain ⟨a, a1, a2, a3, a4⟩ := p1 hj; exact ⟨a4, a, a2, a3⟩
  · obtain ⟨a, a1, a2, a3, a4⟩ := p2 hj; exact ⟨a4, a, a2, a3⟩
  · obtain ⟨a, a1, a2, a3, a4⟩ := p3 hj; exact ⟨a4, a, a2, a3⟩
theorem ky_3 {R : Nat → Nat → Nat} {g : Nat → Nat} {S : Nat → Prop} {kc : Nat → Nat} {nop nnm nA nB nC : Nat → Int32} (h : ky_S R g S nop nnm nA nB nC) (hc : ∀ f, f < 5 → kc f ≤ 3) : ∀ r, S r → ki_k R kc (g r) ≤ 3 := by
  have key : ∀ n r, g r ≤ n → S r → ki_k R kc (g r) ≤ 3 := by
    intro n
    induction n with
    | zero =>
      intro r hr hS
      obtain ⟨_, _, _, op, p0, p1, p2, p3⟩ := h r hS
      rw [ki_e (ky_cl h) ⟨r, hS, rfl⟩]
      unfold ki_f
      split
      · rename_i t; exact hc _ (p0 t)
      · split
        · rename_i t; obtain ⟨a, _, _, _, a4⟩ := p2 (by rw [t]; decide); omega
        · split
          · rename_i t; obtain ⟨a, _, _, _, a4⟩ := p1 (by rw [t]; decide); omega
          · repeat' split
            all_goals omega
    | succ n ih =>
      intro r hr hS
      obtain ⟨_, _, _, op, p0, p1, p2, p3⟩ := h r hS
      rw [ki_e (ky_cl h) ⟨r, hS, rfl⟩]
      unfold ki_f
      split
      · rename_i t; exact hc _ (p0 t)
      · split
        · rename_i t; obtain ⟨a, a1, a2, a3, a4⟩ := p2 (by rw [t]; decide); rw [← a3]; exact ih a (by omega) a2
        · split
          · rename_i t; obtain ⟨a, a1, a2, a3, a4⟩ := p1 (by rw [t]; decide); rw [← a3]; exact ih a (by omega) a2
          · repeat' split
            all_goals omega
  intro r hS
  exact key (g r) r (Nat.le_refl _) hS
section
variable {f_width f_length f_place f_toks f_nodes f_defs : Int32} {a_text a_tok a_tokNum a_tokPlace a_opened a_nOp a_nNum a_nPlace a_nA a_nB a_nC a_nLo a_nHi a_nLevel a_defName a_defPlace a_defRoot a_loaded a_count a_status : Nat → Int32} {a_number : Nat → Int64} {a_origin a_choice a_slotF a_slotX a_slotHeld : Nat → Int32} {R : Nat → Nat → Nat} {g : Nat → Nat} {S : Nat → Prop} {kc : Nat → Nat} {post : Int32 → Prop}
theorem ky_k (hS : ky_S R g S a_nOp a_nNum a_nA a_nB a_nC) (hc : kx_c kc a_choice) {r : Nat} (hr : S r) (h : post (nI (ki_k R kc (g r)))) : wpY_kindOf post (f_width, f_length, f_place, f_toks, f_nodes, f_defs, a_text, a_tok, a_tokNum, a_tokPlace, a_opened, a_nOp, a_nNum, a_nPlace, a_nA, a_nB, a_nC, a_nLo, a_nHi, a_nLevel, a_defName, a_defPlace, a_defRoot, a_loaded, a_count, a_status, a_number, a_origin, a_choice, a_slotF, a_slotX, a_slotHeld) (nI r) := by
  have cl := ky_cl hS
  have key : ∀ n r, g r < n → S r → post (nI (ki_k R kc (g r))) → wY_kindOf_2 post f_width f_length f_place f_toks f_nodes f_defs a_text a_tok a_tokNum a_tokPlace a_opened a_nOp a_nNum a_nPlace a_nA a_nB a_nC a_nLo a_nHi a_nLevel a_defName a_defPlace a_defRoot a_loaded a_count a_status a_number a_origin a_choice a_slotF a_slotX a_slotHeld n (nI r) := by
    intro n
    induction n with
    | zero => intro r hr; omega
    | succ n ih =>
      intro r hr hSr h
      obtain ⟨p1, p2, p3, p4, p5, p6, p7, p8⟩ := hS r hSr
      have hin : vp_in (nI r) 320 := vp_in_nI p1 (by decide)
      have cle : ∀ x, (nI r).toNatClampNeg = x → x = r := fun x q => by rw [nI_clamp (by omega)] at q; exact q.symm
      rw [ki_e cl ⟨r, hSr, rfl⟩] at h
      refine ⟨hin, ?_⟩
      rw [nI_clamp (by omega), p2]
      by_cases t3 : R 0 (g r) = 3
      · obtain ⟨a, a1, a2, a3, a4⟩ := p7 (by rw [t3]; decide)
        rw [t3] at h ⊢
        refine br_t rfl ⟨hin, ?_⟩
        rw [nI_clamp (by omega), p2, t3]
        refine br_t rfl ⟨hin, fun y ey => ?_⟩
        rw [a1] at ey
        subst ey
        exact ih a (by omega) a2 (by rw [a3]; exact h)
      · by_cases t6 : R 0 (g r) = 6
        · obtain ⟨a, a1, a2, a3, a4⟩ := p6 (by rw [t6]; decide)
          rw [t6] at h ⊢
          refine br_f (by decide) ⟨hin, br_t rfl ⟨hin, ?_⟩⟩
          rw [nI_clamp (by omega), p2, t6]
          refine br_f (by decide) ⟨hin, fun y ey => ?_⟩
          rw [a1] at ey
          subst ey
          exact ih a (by omega) a2 (by rw [a3]; exact h)
        · by_cases t13 : R 0 (g r) = 13
          · have f5 := p5 t13
            rw [t13] at h ⊢
            refine br_f (by decide) ⟨hin, br_f (by decide) ⟨hin, fun y ey => ?_⟩⟩
            subst ey
            refine br_t rfl ⟨hin, ?_⟩
            rw [p3]
            refine ⟨vp_in_nI f5 (by decide), ?_⟩
            rw [nI_clamp (by omega), (hc _ f5).1]
            exact h
          · have cs := ky_20 p4 t3 t6 t13
            clear t3 t6 t13 p4 p5 p6 p7 p8 p2
            rcases cs with c | c | c | c | c | c | c | c | c | c | c | c | c | c | c | c | c | c | c | c <;> rw [c] at h ⊢ <;> clear c
            all_goals refine br_f (by decide) ⟨hin, br_f (by decide) ⟨hin, fun y ey => ?_⟩⟩
            all_goals subst ey
            all_goals (repeat (first | refine br_t rfl ?_ | refine br_f (by decide) ?_ | refine br_t (by decide) ?_))
            all_goals exact h
  exact ⟨_, key (g r + 1) r (Nat.lt_succ_self _) hr h⟩
theorem ky_c (hS : ky_S R g S a_nOp a_nNum a_nA a_nB a_nC) (hc : kx_c kc a_choice) {r : Nat} (hr : S r) (h1 : lc_m R kc (g r) → post 1) (h0 : ¬ lc_m R kc (g r) → post 0) : wpY_content post (f_width, f_length, f_place, f_toks, f_nodes, f_defs, a_text, a_tok, a_tokNum, a_tokPlace, a_opened, a_nOp, a_nNum, a_nPlace, a_nA, a_nB, a_nC, a_nLo, a_nHi, a_nLevel, a_defName, a_defPlace, a_defRoot, a_loaded, a_count, a_status, a_number, a_origin, a_choice, a_slotF, a_slotX, a_slotHeld) (nI r) := by
  obtain ⟨p1, p2, p3, p4, p5, p6, p7, p8⟩ := hS r hr
  have hin : vp_in (nI r) 320 := vp_in_nI p1 (by decide)
  have k3 := ky_3 hS (fun f hf => (hc f hf).2)
  refine ⟨hin, fun y ey => ?_⟩
  rw [nI_clamp (by omega), p2] at ey
  subst ey
  unfold lc_m at h1 h0
  have one : 0 < pg_n (R 0 (g r)) → ∀ q : Int32 → Prop, q (nI (ki_k R kc (R 2 (g r)))) → wpY_kindOf q (f_width, f_length, f_place, f_toks, f_nodes, f_defs, a_text, a_tok, a_tokNum, a_tokPlace, a_opened, a_nOp, a_nNum, a_nPlace, a_nA, a_nB, a_nC, a_nLo, a_nHi, a_nLevel, a_defName, a_defPlace, a_defRoot, a_loaded, a_count, a_status, a_number, a_origin, a_choice, a_slotF, a_slotX, a_slotHeld) (a_nA (nI r).toNatClampNeg) ∧ ki_k R kc (R 2 (g r)) ≤ 3 := by
    intro n q hq
    obtain ⟨a, a1, a2, a3, a4⟩ := p6 n
    rw [nI_clamp (by omega), a1, ← a3]
    exact ⟨ky_k hS hc a2 (by rw [a3]; exact hq), k3 a a2⟩
  have two : 1 < pg_n (R 0 (g r)) → ∀ q : Int32 → Prop, q (nI (ki_k R kc (R 3 (g r)))) → wpY_kindOf q (f_width, f_length, f_place, f_toks, f_nodes, f_defs, a_text, a_tok, a_tokNum, a_tokPlace, a_opened, a_nOp, a_nNum, a_nPlace, a_nA, a_nB, a_nC, a_nLo, a_nHi, a_nLevel, a_defName, a_defPlace, a_defRoot, a_loaded, a_count, a_status, a_number, a_origin, a_choice, a_slotF, a_slotX, a_slotHeld) (a_nB (nI r).toNatClampNeg) ∧ ki_k R kc (R 3 (g r)) ≤ 3 := by
    intro n q hq
    obtain ⟨a, a1, a2, a3, a4⟩ := p7 n
    rw [nI_clamp (by omega), a1, ← a3]
    exact ⟨ky_k hS hc a2 (by rw [a3]; exact hq), k3 a a2⟩
  have thr : 2 < pg_n (R 0 (g r)) → ∀ q : Int32 → Prop, q (nI (ki_k R kc (R 4 (g r)))) → wpY_kindOf q (f_width, f_length, f_place, f_toks, f_nodes, f_defs, a_text, a_tok, a_tokNum, a_tokPlace, a_opened, a_nOp, a_nNum, a_nPlace, a_nA, a_nB, a_nC, a_nLo, a_nHi, a_nLevel, a_defName, a_defPlace, a_defRoot, a_loaded, a_count, a_status, a_number, a_origin, a_choice, a_slotF, a_slotX, a_slotHeld) (a_nC (nI r).toNatClampNeg) ∧ ki_k R kc (R 4 (g r)) ≤ 3 := by
    intro n q hq
    obtain ⟨a, a1, a2, a3, a4⟩ := p8 n
    rw [nI_clamp (by omega), a1, ← a3]
    exact ⟨ky_k hS hc a2 (by rw [a3]; exact hq), k3 a a2⟩
  generalize ki_k R kc (R 2 (g r)) = ka at *
  generalize ki_k R kc (R 3 (g r)) = kb at *
  generalize ki_k R kc (R 4 (g r)) = kd at *
  have cs := ky_23 p4
  have ka3 : 0 < pg_n (R 0 (g r)) → ka ≤ 3 := fun n => (one n (fun _ => True) trivial).2
  have kb3 : 1 < pg_n (R 0 (g r)) → kb ≤ 3 := fun n => (two n (fun _ => True) trivial).2
  have kd3 : 2 < pg_n (R 0 (g r)) → kd ≤ 3 := fun n => (thr n (fun _ => True) trivial).2
  clear p2 p3 p4 p5 p6 p7 p8 k3
  rcases cs with c | c | c | c | c | c | c | c | c | c | c | c | c | c | c | c | c | c | c | c | c | c | c <;> rw [c] at h0 h1 ka3 kb3 kd3 one two thr ⊢ <;> clear c
  all_goals (repeat (first | refine br_t (by decide : nI _ ≤ 2) ?_ | refine br_f (by decide : ¬ nI _ ≤ 2) ?_ | refine br_t (rfl : nI _ = _) ?_ | refine br_f (by decide : ¬ nI _ = _) ?_))
  all_goals first
    | exact h1 trivial
    | (refine ⟨hin, (one (by decide) _ ?_).1⟩
       have ka3 := ka3 (by decide)
       (repeat (first | refine br_t (rfl : nI _ = _) ?_ | refine br_f (by decide : ¬ nI _ = _) ?_))
       first
         | exact pk_eq ka 1 (fun a => h1 a) (fun a => h0 a)
         | exact pk_eq ka 2 (fun a => h1 a) (fun a => h0 a)
         | exact pk_eq ka 3 (fun a => h1 a) (fun a => h0 a)
         | (refine ⟨hin, (two (by decide) _ ?_).1⟩
            have kb3 := kb3 (by decide)
            (repeat (first | refine br_t (rfl : nI _ = _) ?_ | refine br_f (by decide : ¬ nI _ = _) ?_))
            first
              | exact pk_eq ka 2 (fun a => ⟨hin, (thr (by decide) _ (pk_eq kb kd (fun b => h1 ⟨a, b⟩) (fun b => h0 (fun q => b q.2)) rfl rfl (by omega) (by have := kd3 (by decide); omega))).1⟩) (fun a => h0 (fun q => a q.1))
              | exact pk_eq ka 1 (fun a => pk_eq kb 1 (fun b => h1 ⟨a, b⟩) (fun b => h0 (fun q => b q.2))) (fun a => h0 (fun q => a q.1))
              | exact pk_eq ka 2 (fun a => pk_eq kb 2 (fun b => h1 ⟨a, b⟩) (fun b => h0 (fun q => b q.2))) (fun a => h0 (fun q => a q.1))
              | exact pk_eq ka 1 (fun a => pk_eq kb 3 (fun b => h1 ⟨a, b⟩) (fun b => h0 (fun q => b q.2))) (fun a => h0 (fun q => a q.1))
              | exact pk_eq ka kb (fun a => pk_eq ka 3 (fun b => h0 (fun q => q.2 b)) (fun b => h1 ⟨a, b⟩)) (fun a => h0 (fun q => a q.1))
              | exact pk_eq ka kb (fun a => h1 a) (fun a => h0 a)))
end
end
section
-- Y: choices, clashes, kinds
def yl_P (P : Nat → Nat → Nat) (g : Nat → Nat) (ld cn nop nnm nA nB nC : Nat → Int32) : Prop :=
  pg_ok P ∧ rl_g P g ∧ (∀ f, f < 5 → ld f = if 0 < P 5 f then 1 else 0) ∧ (∀ f, f < 5 → 0 < P 5 f → cn f = nI (P 5 f)) ∧ (∀ r, ou_us P r → rl_nY P g nop nnm nA nB nC r)
theorem yl_S {P : Nat → Nat → Nat} {g : Nat → Nat} {ld cn nop nnm nA nB nC : Nat → Int32} (h : yl_P P g ld cn nop nnm nA nB nC) : ky_S P g (fun r => ou_us P r) nop nnm nA nB nC := by
  obtain ⟨p1, p2, p3, p4, p5⟩ := h
  intro r hr
  obtain ⟨n1, n2, n3, n4, n5⟩ := p5 r hr
  obtain ⟨g1, g2⟩ := p2.1 r hr
  obtain ⟨o1, o2, o3, o4⟩ := p1.2.2.2 _ g1
  refine ⟨by have := hr.1; omega, n1, n2, o1, fun q => (o3 q).1, fun n => ?_, fun n => ?_, fun n => ?_⟩
  · obtain ⟨a, a1, a2, a3⟩ := n3 n; exact ⟨a, a1, a2, a3, (o4 0 n).1⟩
  · obtain ⟨a, a1, a2, a3⟩ := n4 n; exact ⟨a, a1, a2, a3, (o4 1 n).1⟩
  · obtain ⟨a, a1, a2, a3⟩ := n5 n; exact ⟨a, a1, a2, a3, (o4 2 n).1⟩
theorem cy_d {c d : Nat} (hc : c < 243) (hd : 0 < d) (hd2 : d < 1000) : ((nI c / nI d) - (nI c / nI d) / 3 * 3) + 1 = nI (c / d % 3 + 1) := by
  rw [pk_div (by omega) hd (by omega)]
  have lt : c / d < 2 ^ 31 := Nat.lt_of_le_of_lt (Nat.div_le_self _ _) (by omega)
  have er : nI (c / d) - nI (c / d) / 3 * 3 = nI (c / d % 3) := pk_rem (d := 3) lt (by decide) (by decide)
  rw [er, nI_1]
section
variable {f_width f_length f_place f_toks f_nodes f_defs : Int32} {a_text a_tok a_tokNum a_tokPlace a_opened a_nOp a_nNum a_nPlace a_nA a_nB a_nC a_nLo a_nHi a_nLevel a_defName a_defPlace a_defRoot a_loaded a_count a_status : Nat → Int32} {a_number : Nat → Int64} {a_origin a_choice a_slotF a_slotX a_slotHeld : Nat → Int32} {P : Nat → Nat → Nat} {g : Nat → Nat} {kc : Nat → Nat}
theorem ch_Y {c : Nat} (hc : c < 243) {post : SY → Prop} (h : ∀ ch, kx_c (ki_c c) ch → post (f_width, f_length, f_place, f_toks, f_nodes, f_defs, a_text, a_tok, a_tokNum, a_tokPlace, a_opened, a_nOp, a_nNum, a_nPlace, a_nA, a_nB, a_nC, a_nLo, a_nHi, a_nLevel, a_defName, a_defPlace, a_defRoot, a_loaded, a_count, a_status, a_number, a_origin, ch, a_slotF, a_slotX, a_slotHeld)) : wpY_choose post (f_width, f_length, f_place, f_toks, f_nodes, f_defs, a_text, a_tok, a_tokNum, a_tokPlace, a_opened, a_nOp, a_nNum, a_nPlace, a_nA, a_nB, a_nC, a_nLo, a_nHi, a_nLevel, a_defName, a_defPlace, a_defRoot, a_loaded, a_count, a_status, a_number, a_origin, a_choice, a_slotF, a_slotX, a_slotHeld) (nI c) := by
  have e0 : (nI c - nI c / 3 * 3) + 1 = nI (c % 3 + 1) := by
    have er : nI c - nI c / 3 * 3 = nI (c % 3) := pk_rem (d := 3) (by omega) (by decide) (by decide)
    rw [er, nI_1]
  refine ⟨by decide, fun A eA => ⟨by decide, by decide, fun B eB => ⟨by decide, by decide, fun C eC => ⟨by decide, by decide, fun D eD => ⟨by decide, by decide, fun E eE => h E (fun f hf => ⟨?_, (ki_c_r c f).2⟩)⟩⟩⟩⟩⟩
  rw [e0] at eA
  have q3 : ((nI c / 3) - (nI c / 3) / 3 * 3) + 1 = nI (c / 3 % 3 + 1) := cy_d (d := 3) hc (by decide) (by decide)
  rw [q3] at eB
  have q9 : ((nI c / 9) - (nI c / 9) / 3 * 3) + 1 = nI (c / 9 % 3 + 1) := cy_d (d := 9) hc (by decide) (by decide)
  rw [q9] at eC
  have q27 : ((nI c / 27) - (nI c / 27) / 3 * 3) + 1 = nI (c / 27 % 3 + 1) := cy_d (d := 27) hc (by decide) (by decide)
  rw [q27] at eD
  have q81 : ((nI c / 81) - (nI c / 81) / 3 * 3) + 1 = nI (c / 81 % 3 + 1) := cy_d (d := 81) hc (by decide) (by decide)
  rw [q81] at eE
  subst eA eB eC eD eE
  have hh : f = 0 ∨ f = 1 ∨ f = 2 ∨ f = 3 ∨ f = 4 := by omega
  rcases hh with q | q | q | q | q <;> subst q
  · rw [pk_un (by decide), pk_un (by decide), pk_un (by decide), pk_un (by decide), pk_us]; unfold ki_c; rw [Nat.pow_zero, Nat.div_one]
  · rw [pk_un (by decide), pk_un (by decide), pk_un (by decide), pk_us]; rfl
  · rw [pk_un (by decide), pk_un (by decide), pk_us]; rfl
  · rw [pk_un (by decide), pk_us]; rfl
  · rw [pk_us]; rfl
theorem su_Y (hP : yl_P P g a_loaded a_count a_nOp a_nNum a_nA a_nB a_nC) (hc : kx_c kc a_choice) {out : Nat → Prop} {x1 : Int32}
    (hd : (x1 = 0 ∧ ∀ f, f < 5 → ¬ out f) ∨ (¬ x1 = 0 ∧ ∀ f, f < 5 → ∀ q : Int32 → Prop, (out f → ∀ i, i < 1000 → q (nI i)) → (¬ out f → q (-1)) → wpY_defOf q (f_width, f_length, f_place, f_toks, f_nodes, f_defs, a_text, a_tok, a_tokNum, a_tokPlace, a_opened, a_nOp, a_nNum, a_nPlace, a_nA, a_nB, a_nC, a_nLo, a_nHi, a_nLevel, a_defName, a_defPlace, a_defRoot, a_loaded, a_count, a_status, a_number, a_origin, a_choice, a_slotF, a_slotX, a_slotHeld) (nI f)))
    {post : Int32 → Prop} (h1 : la_ok P out kc → post 1) (h0 : ¬ la_ok P out kc → post 0) : wpY_suits post (f_width, f_length, f_place, f_toks, f_nodes, f_defs, a_text, a_tok, a_tokNum, a_tokPlace, a_opened, a_nOp, a_nNum, a_nPlace, a_nA, a_nB, a_nC, a_nLo, a_nHi, a_nLevel, a_defName, a_defPlace, a_defRoot, a_loaded, a_count, a_status, a_number, a_origin, a_choice, a_slotF, a_slotX, a_slotHeld) x1 := by
  have S := yl_S hP
  obtain ⟨p1, p2, p3, p4, p5⟩ := hP
  have key : ∀ d k, k + d = 120 → (∀ r, r < k → ou_us P r → ¬ out (r / 24) → lc_m P kc (g r) ∧ (r % 24 = 0 → ki_k P kc (g r) = kc (r / 24))) → ∀ n, d < n → wY_suits_2 post x1 f_width f_length f_place f_toks f_nodes f_defs a_text a_tok a_tokNum a_tokPlace a_opened a_nOp a_nNum a_nPlace a_nA a_nB a_nC a_nLo a_nHi a_nLevel a_defName a_defPlace a_defRoot a_loaded a_count a_status a_number a_origin a_choice a_slotF a_slotX a_slotHeld n (nI k) := by
    intro d
    induction d with
    | zero =>
      intro k hk hI n hn
      obtain ⟨n, rfl⟩ : ∃ w, n = w + 1 := ⟨n - 1, by omega⟩
      have : k = 120 := by omega
      subst this
      refine br_t (nI_le (a := 120) (by decide) (by decide)) (h1 (fun f hf hs ho => ⟨fun u h1 h2 => ?_, ?_⟩))
      · have h24 := p1.2.2.1 f
        have e : u / 24 = f := by omega
        have hu : ou_us P u := ⟨by omega, by rw [e]; omega⟩
        obtain ⟨r, r1, r2⟩ := p2.2.2.2 u hu
        have := (p2.1 r r1).2
        have e2 : r / 24 = f := by rw [← this, r2, e]
        have := (hI r r1.1 r1 (by rw [e2]; exact ho)).1
        rw [r2] at this; exact this
      · have e : f * 24 / 24 = f := by omega
        have hu : ou_us P (f * 24) := ⟨by omega, by rw [e]; omega⟩
        have := (hI (f * 24) (by omega) hu (by rw [e]; exact ho)).2 (by omega)
        rw [p2.2.1 f hf hs, e] at this; exact this
    | succ d ih =>
      intro k hk hI n hn
      obtain ⟨n, rfl⟩ : ∃ w, n = w + 1 := ⟨n - 1, by omega⟩
      have k120 : k < 120 := by omega
      have f5 : k / 24 < 5 := by omega
      have ed : nI k / 24 = nI (k / 24) := pk_div (d := 24) (by omega) (by decide) (by decide)
      have er : nI k - nI k / 24 * 24 = nI (k % 24) := pk_rem (d := 24) (by omega) (by decide) (by decide)
      have go : (ou_us P k → ¬ out (k / 24) → lc_m P kc (g k) ∧ (k % 24 = 0 → ki_k P kc (g k) = kc (k / 24))) → ∀ y, y = nI k + 1 → wY_suits_2 post x1 f_width f_length f_place f_toks f_nodes f_defs a_text a_tok a_tokNum a_tokPlace a_opened a_nOp a_nNum a_nPlace a_nA a_nB a_nC a_nLo a_nHi a_nLevel a_defName a_defPlace a_defRoot a_loaded a_count a_status a_number a_origin a_choice a_slotF a_slotX a_slotHeld n y := by
        intro hh y ey
        rw [ey, nI_1]
        refine ih (k + 1) (by omega) (fun r hr => ?_) n (by omega)
        by_cases e : r = k
        · subst e; exact hh
        · exact hI r (by omega)
      refine br_f (nI_ge (b := 120) k120 (by decide)) ⟨by decide, fun x3 e3 => ?_⟩
      rw [ed] at e3
      subst e3
      refine ⟨vp_in_nI f5 (by decide), ?_⟩
      rw [nI_clamp (by omega), p3 _ f5]
      by_cases hs : 0 < P 5 (k / 24)
      · rw [if_pos hs]
        refine bq_1 ⟨by decide, vp_in_nI f5 (by decide), ?_⟩
        rw [p4 _ f5 hs, er]
        have h24 := p1.2.2.1 (k / 24)
        refine pk_lt (k % 24) (P 5 (k / 24)) (fun c => ?_) (fun c => go (fun q => by have := q.2; omega))
        have hu : ou_us P k := ⟨k120, c⟩
        have body : ¬ out (k / 24) → wY_suits_57 post (wY_suits_2 post x1 f_width f_length f_place f_toks f_nodes f_defs a_text a_tok a_tokNum a_tokPlace a_opened a_nOp a_nNum a_nPlace a_nA a_nB a_nC a_nLo a_nHi a_nLevel a_defName a_defPlace a_defRoot a_loaded a_count a_status a_number a_origin a_choice a_slotF a_slotX a_slotHeld n) x1 (nI k) (nI (k / 24)) f_width f_length f_place f_toks f_nodes f_defs a_text a_tok a_tokNum a_tokPlace a_opened a_nOp a_nNum a_nPlace a_nA a_nB a_nC a_nLo a_nHi a_nLevel a_defName a_defPlace a_defRoot a_loaded a_count a_status a_number a_origin a_choice a_slotF a_slotX a_slotHeld := by
          intro ho
          have g24 := (p2.1 k hu).2
          have gu := (p2.1 k hu).1
          have nla : ¬ lc_m P kc (g k) → ¬ la_ok P out kc := fun nm q => by
            have h24 := p1.2.2.1 (k / 24)
            have := gu.2
            rw [g24] at this
            exact nm ((q (k / 24) f5 hs ho).1 (g k) (by omega) (by omega))
          refine ky_c S hc hu (fun met => bq_1 ⟨by decide, ?_⟩) (fun nmet => br_t rfl (h0 (nla nmet)))
          rw [er]
          refine pk_eq (k % 24) 0 (fun c0 => ?_) (fun c0 => go (fun _ _ => ⟨met, fun q => absurd q c0⟩))
          refine ky_k S hc hu ⟨vp_in_nI f5 (by decide), ?_⟩
          rw [nI_clamp (by omega), (hc _ f5).1]
          have b1 := ky_3 (kc := kc) S (fun f hf => (hc f hf).2) k hu
          have b2 := (hc _ f5).2
          refine pk_eq (ki_k P kc (g k)) (kc (k / 24)) (fun c1 => go (fun _ _ => ⟨met, fun _ => c1⟩)) (fun c1 => h0 (fun q => c1 ?_))
          have e : k = k / 24 * 24 := by omega
          have := (q (k / 24) f5 hs ho).2
          rw [← p2.2.1 _ f5 hs, ← e] at this
          exact this
        rcases hd with ⟨e, hno⟩ | ⟨ne, hdf⟩
        · exact br_t e (body (hno _ f5))
        · refine br_f ne (hdf _ f5 _ (fun ho i hi => br_f (nI_pos (by omega)) (go (fun _ q => absurd ho q))) (fun ho => br_t (by decide) (body ho)))
      · rw [if_neg hs]
        exact br_t rfl (go (fun q => by have := q.2; omega))
  exact ⟨_, key 120 0 rfl (fun r hr => by omega) 121 (by decide)⟩
-- kind
theorem kd_Y (hP : yl_P P g a_loaded a_count a_nOp a_nNum a_nA a_nB a_nC) {f : Nat} (hf : f < 5) (hs : 0 < P 5 f) {r : Nat} (hr : ki_r (rl_V P) 243 f r) {post : Int32 → SY → Prop} (h : ∀ ch, post (nI r) (f_width, f_length, f_place, f_toks, f_nodes, f_defs, a_text, a_tok, a_tokNum, a_tokPlace, a_opened, a_nOp, a_nNum, a_nPlace, a_nA, a_nB, a_nC, a_nLo, a_nHi, a_nLevel, a_defName, a_defPlace, a_defRoot, a_loaded, a_count, a_status, a_number, a_origin, ch, a_slotF, a_slotX, a_slotHeld)) : wpY_kind post (f_width, f_length, f_place, f_toks, f_nodes, f_defs, a_text, a_tok, a_tokNum, a_tokPlace, a_opened, a_nOp, a_nNum, a_nPlace, a_nA, a_nB, a_nC, a_nLo, a_nHi, a_nLevel, a_defName, a_defPlace, a_defRoot, a_loaded, a_count, a_status, a_number, a_origin, a_choice, a_slotF, a_slotX, a_slotHeld) (nI f) := by
  have h24 := hP.1.2.2.1
  have la : ∀ kc, la_ok P (fun _ => False) kc ↔ ki_ok P kc := fun kc => la_ki h24
  have key : ∀ d c x ch, c + d = 243 → ki_r (rl_V P) c f x → (x ≠ 0 → ∃ c0, c0 < c ∧ rl_V P c0 ∧ ki_c c0 f = x) → ∀ n, d < n → wY_kind_24 post (nI f) n (nI x) (nI c) f_width f_length f_place f_toks f_nodes f_defs a_text a_tok a_tokNum a_tokPlace a_opened a_nOp a_nNum a_nPlace a_nA a_nB a_nC a_nLo a_nHi a_nLevel a_defName a_defPlace a_defRoot a_loaded a_count a_status a_number a_origin ch a_slotF a_slotX a_slotHeld := by
    intro d
    induction d with
    | zero =>
      intro c x ch hc hx hw n hn
      obtain ⟨n, rfl⟩ : ∃ w, n = w + 1 := ⟨n - 1, by omega⟩
      have : c = 243 := by omega
      subst this
      have e := ki_r_u hr hx
      subst e
      exact br_t (nI_le (a := 243) (by decide) (by decide)) (h ch)
    | succ d ih =>
      intro c x ch hc hx hw n hn
      obtain ⟨n, rfl⟩ : ∃ w, n = w + 1 := ⟨n - 1, by omega⟩
      have x3 := fk_3 hx
      have kr := ki_c_r c f
      refine br_f (nI_ge (b := 243) (by omega) (by decide)) (ch_Y (by omega) (fun ch2 hch => ⟨vp_in_nI hf (by decide), ?_⟩))
      rw [nI_clamp (by omega), (hch f hf).1]
      have up : ∀ x2, ki_r (rl_V P) (c + 1) f x2 → (x2 ≠ 0 → ∃ c0, c0 < c + 1 ∧ rl_V P c0 ∧ ki_c c0 f = x2) → ∀ y, y = nI c + 1 → wY_kind_24 post (nI f) n (nI x2) y f_width f_length f_place f_toks f_nodes f_defs a_text a_tok a_tokNum a_tokPlace a_opened a_nOp a_nNum a_nPlace a_nA a_nB a_nC a_nLo a_nHi a_nLevel a_defName a_defPlace a_defRoot a_loaded a_count a_status a_number a_origin ch2 a_slotF a_slotX a_slotHeld := by
        intro x2 q1 q2 y ey
        rw [ey, nI_1]
        exact ih (c + 1) x2 ch2 (by omega) q1 q2 n (by omega)
      have mono : x ≠ 0 → ∃ c0, c0 < c + 1 ∧ rl_V P c0 ∧ ki_c c0 f = x := fun q => by
        obtain ⟨c0, a, b⟩ := hw q; exact ⟨c0, by omega, b⟩
      refine pk_eq (ki_c c f) x (fun e => up x ?_ mono) (fun e => ?_)
      · by_cases v : rl_V P c
        · have := ki_r_y hx v
          rw [if_pos (Or.inr e.symm), e] at this
          exact this
        · exact ki_r_n hx v
      · refine su_Y (out := fun _ => False) hP hch (Or.inl ⟨rfl, fun _ _ q => q⟩) (fun ok => bq_1 ?_) (fun nok => br_t rfl (up x (ki_r_n hx (fun q => nok ((la _).mpr q))) mono))
        have v : rl_V P c := (la _).mp ok
        refine pk_eq x 0 (fun e0 => ⟨vp_in_nI hf (by decide), fun y ey => ?_⟩) (fun e0 => ?_)
        · subst ey
          have := ki_r_y hx v
          rw [if_pos (Or.inl e0)] at this
          exact up (ki_c c f) this (fun _ => ⟨c, by omega, v, rfl⟩)
        · obtain ⟨c0, c1, c2, c3⟩ := hw e0
          have : ki_r (rl_V P) 243 f 1 := Or.inr (Or.inr ⟨rfl, c0, by omega, c2, c, by omega, v, by omega⟩)
          have e := ki_r_u hr this
          subst e
          exact h ch2
  have hin : vp_in (nI f) 5 := vp_in_nI hf (by decide)
  refine br_f (nI_pos (by omega)) (br_f (nI_nlt (a := 4) (by omega) (by omega)) ⟨hin, ?_⟩)
  rw [nI_clamp (by omega), hP.2.2.1 f hf, if_pos hs]
  exact bq_1 ⟨_, key 243 0 0 a_choice rfl (ki_r_0 _ _) (fun q => absurd rfl q) 244 (by decide)⟩
end
theorem tb_ex (Tk : List tz_T) (Q : Nat → Nat → Nat) (ds : List df_D) (e : Nat) (kc : Nat → Nat) (hb : ∀ p, tb_b Tk Q ds e kc p → p ≤ 200) : ∃ m, tb_R Tk Q ds e kc m := by
  by_cases h : ∃ p, tb_b Tk Q ds e kc p
  · obtain ⟨k, k1, k2⟩ := pk_least (fun p => tb_b Tk Q ds e kc p) h
    refine ⟨k, by have := hb k k1; omega, fun p hp => ?_, Or.inr k1⟩
    rcases Nat.lt_or_ge p k with q | q
    · exact absurd hp (k2 p q)
    · exact q
  · exact ⟨201, Nat.le_refl _, fun p hp => absurd ⟨p, hp⟩ h, Or.inl rfl⟩
theorem cl_ex (V : Nat → Prop) (M : Nat → Nat → Prop) (hM : ∀ c, ∃ m, M c m ∧ m ≤ 201 ∧ ∀ y, M c y → y = m) : ∃ r, cl_R V M r := by
  have st : ∀ n, ∃ m, cl_v V M n m := by
    intro n
    induction n with
    | zero => exact ⟨0, cl_0 V M⟩
    | succ n ih =>
      obtain ⟨m, hm⟩ := ih
      by_cases v : V n
      · obtain ⟨x, x1, x2, x3⟩ := hM n
        exact ⟨_, cl_y hm v x1 x2 x3⟩
      · exact ⟨m, cl_n hm v⟩
  by_cases h : ∃ c, c < 243 ∧ V c ∧ M c 201
  · exact ⟨none, Or.inl ⟨rfl, h⟩⟩
  · obtain ⟨m, hm⟩ := st 243
    refine ⟨some m, Or.inr ⟨m, rfl, ?_, h, hm⟩⟩
    rcases hm.2.2 with q | ⟨c, c1, c2, c3⟩
    · omega
    · have : m ≠ 201 := fun q => h ⟨c, c1, c2, q ▸ c3⟩
      have := hm.1
      omega
section
variable {f_width f_length f_place f_toks f_nodes f_defs : Int32} {a_text a_tok a_tokNum a_tokPlace a_opened a_nOp a_nNum a_nPlace a_nA a_nB a_nC a_nLo a_nHi a_nLevel a_defName a_defPlace a_defRoot a_loaded a_count a_status : Nat → Int32} {a_number : Nat → Int64} {a_origin a_choice a_slotF a_slotX a_slotHeld : Nat → Int32} {P : Nat → Nat → Nat} {g gl : Nat → Nat} {kc : Nat → Nat} {Tk : List tz_T} {Q : Nat → Nat → Nat} {ds : List df_D} {e : Nat}
theorem fb_S (I : ym_I Tk Q ds e g a_tok a_tokNum a_tokPlace a_defName a_defPlace a_defRoot a_nOp a_nNum a_nPlace a_nA a_nB a_nC a_nLo a_nHi a_nLevel) :
    ky_S Q g (fun r => 120 ≤ r ∧ r < e) a_nOp a_nNum a_nA a_nB a_nC ∧ (∀ r, 120 ≤ r → r < e → 120 ≤ g r ∧ g r < e ∧ a_nPlace r = nI (tt_p Tk (Q 9 (g r)))) ∧ (∀ u, 120 ≤ u → u < e → ∃ r, 120 ≤ r ∧ r < e ∧ g r = u) := by
  have I0 := I
  obtain ⟨i1, i2, i3, i4, i5, i6, i7, i8, i9⟩ := I
  have blk : ∀ r, 120 ≤ r → r < e → ∃ d : df_D, 120 ≤ d.2.1 ∧ d.2.2.1 ≤ e ∧ d.2.1 ≤ r ∧ r < d.2.2.1 ∧ yb_I (tt_k Tk) (tt_p Tk) Q Tk.length d.2.1 d.2.2.1 (Q 11 (d.2.2.1 - 1)) d.2.2.1 d.2.2.1 g a_nOp a_nNum a_nPlace a_nA a_nB a_nC a_nLo a_nHi a_nLevel := by
    intro r h1 h2
    obtain ⟨i, d, d1, d2, d3⟩ := md_n ds _ _ _ _ i4 r h1 h2
    have il : i < ds.length := by
      rcases Nat.lt_or_ge i ds.length with w | w
      · exact w
      · rw [List.getElem?_eq_none w] at d1; exact absurd d1 (by simp)
    obtain ⟨_, q2, q3, q4, q5⟩ := md_i ds _ _ _ _ i4 i d d1
    exact ⟨d, q4, q5, d2, d3, (i9 i d il d1).2.2⟩
  refine ⟨fun r ⟨h1, h2⟩ => ?_, fun r h1 h2 => ?_, fun u h1 h2 => ?_⟩
  · obtain ⟨d, d1, d2, d3, d4, y1, y2, y3, y4, y5, y6, y7⟩ := blk r h1 h2
    obtain ⟨z1, z2, z3, z4, z5, z6⟩ := y5 r d3 d4
    obtain ⟨w1, w2, w3, _⟩ := y4 r d3 d4
    obtain ⟨ok, _, p9⟩ := i6 (g r) (by omega) (by omega)
    have kd := yb_k ok w1
    have k13 := nd_13 ok.1
    have pop : pg_op (Q 0 (g r)) := by
      unfold pg_op
      rcases ok.1 with q | ⟨q, _⟩ | ⟨q, _⟩ | ⟨q, _⟩ | ⟨q, _⟩ | ⟨q, _⟩ <;> omega
    refine ⟨by omega, z1, z2, pop, fun q => ?_, fun n => ?_, fun n => ?_, fun n => ?_⟩
    · rw [ok.2.2.1]; exact (i2 _ p9).2.2 (k13.mp q)
    · obtain ⟨a, a1, a2, a3, a4⟩ := z4 n; exact ⟨a, a1, ⟨by omega, by omega⟩, a4, (kd 0 n).2.2.1⟩
    · obtain ⟨a, a1, a2, a3, a4⟩ := z5 n; exact ⟨a, a1, ⟨by omega, by omega⟩, a4, (kd 1 n).2.2.1⟩
    · obtain ⟨a, a1, a2, a3, a4⟩ := z6 n; exact ⟨a, a1, ⟨by omega, by omega⟩, a4, (kd 2 n).2.2.1⟩
  · obtain ⟨d, d1, d2, d3, d4, y1, y2, y3, y4, y5, y6, y7⟩ := blk r h1 h2
    obtain ⟨w1, w2, w3, _⟩ := y4 r d3 d4
    exact ⟨by omega, by omega, (y5 r d3 d4).2.2.1⟩
  · obtain ⟨d, d1, d2, d3, d4, y1, y2, y3, y4, y5, y6, y7⟩ := blk u h1 h2
    obtain ⟨r, r1, r2, r3⟩ := bf_sur y3 (by omega) d3 d4
    exact ⟨r, by omega, by omega, r3⟩
theorem fb_Y (I : ym_I Tk Q ds e g a_tok a_tokNum a_tokPlace a_defName a_defPlace a_defRoot a_nOp a_nNum a_nPlace a_nA a_nB a_nC a_nLo a_nHi a_nLevel) (hc : kx_c kc a_choice) {m : Nat} (hm : tb_R Tk Q ds e kc m) {post : Int32 → Prop} (h : post (nI (if m = 201 then 1000 else m))) :
    wpY_firstBad post (f_width, f_length, f_place, f_toks, nI e, nI ds.length, a_text, a_tok, a_tokNum, a_tokPlace, a_opened, a_nOp, a_nNum, a_nPlace, a_nA, a_nB, a_nC, a_nLo, a_nHi, a_nLevel, a_defName, a_defPlace, a_defRoot, a_loaded, a_count, a_status, a_number, a_origin, a_choice, a_slotF, a_slotX, a_slotHeld) := by
  obtain ⟨S, pl, sur⟩ := fb_S I
  have I0 := I
  obtain ⟨i1, i2, i3, i4, i5, i6, i7, i8, i9⟩ := I
  have b50 := xm_50 i4 i1
  have k3 := ky_3 (kc := kc) S (fun f hf => (hc f hf).2)
  have p200 : ∀ r, 120 ≤ r → r < e → tt_p Tk (Q 9 (g r)) < 200 := fun r h1 h2 => by
    obtain ⟨w1, w2, _⟩ := pl r h1 h2
    exact (i2 _ (i6 _ w1 w2).2.2).2.1
  -- the rest over the defs
  have l2 : ∀ dd i x, i + dd = ds.length → x ≤ 1000 → (x = 1000 ∨ tb_b Tk Q ds e kc x) → (∀ u, 120 ≤ u → u < e → ¬ lc_m Q kc u → x ≤ tt_p Tk (Q 9 u)) →
      (∀ j d, j < i → ds[j]? = some d → ki_k Q kc (d.2.2.1 - 1) ≠ kc (mn_f Tk ds j) → x ≤ tt_p Tk d.1) → ∀ n, dd < n → wY_firstBad_48 post f_width f_length f_place f_toks (nI e) (nI ds.length) a_text a_tok a_tokNum a_tokPlace a_opened a_nOp a_nNum a_nPlace a_nA a_nB a_nC a_nLo a_nHi a_nLevel a_defName a_defPlace a_defRoot a_loaded a_count a_status a_number a_origin a_choice a_slotF a_slotX a_slotHeld n (nI x) (nI i) := by
    intro dd
    induction dd with
    | zero =>
      intro i x hi hx hb hu hd n hn
      obtain ⟨n, rfl⟩ : ∃ w, n = w + 1 := ⟨n - 1, by omega⟩
      have ei : i = ds.length := by omega
      subst ei
      refine br_t (nI_le (Nat.le_refl _) (by omega)) ?_
      have all : ∀ p, tb_b Tk Q ds e kc p → x ≤ p := by
        intro p hp
        rcases hp with ⟨u, u1, u2, u3, u4⟩ | ⟨j, d, d1, d2, d3⟩
        · rw [u4]; exact hu u u1 u2 u3
        · rw [d3]
          have jl : j < ds.length := by
            rcases Nat.lt_or_ge j ds.length with w | w
            · exact w
            · rw [List.getElem?_eq_none w] at d1; exact absurd d1 (by simp)
          exact hd j d jl d1 d2
      have ex : x = if m = 201 then 1000 else m := by
        obtain ⟨m1, m2, m3⟩ := hm
        rcases hb with hb | hb <;> rcases m3 with m3 | m3
        · rw [if_pos m3, hb]
        · have := all m m3
          by_cases q : m = 201
          · rw [if_pos q, hb]
          · omega
        · have := m2 x hb
          have x200 : x ≤ 200 := by
            rcases hb with ⟨u, u1, u2, u3, u4⟩ | ⟨j, d, d1, d2, d3⟩
            · obtain ⟨r, r1, r2, r3⟩ := sur u u1 u2
              have := p200 r r1 r2
              rw [r3] at this; omega
            · obtain ⟨q1, q2, q3, q4, q5⟩ := md_i ds _ _ _ _ i4 j d d1
              have := q1.2.2.2.2.2.1.1
              have := (i2 d.1 (by omega)).2.1
              omega
          omega
        · have := m2 x hb
          have := all m m3
          by_cases q : m = 201
          · have x200 : x ≤ 200 := by
              rcases hb with ⟨u, u1, u2, u3, u4⟩ | ⟨j, d, d1, d2, d3⟩
              · obtain ⟨r, r1, r2, r3⟩ := sur u u1 u2
                have := p200 r r1 r2
                rw [r3] at this; omega
              · obtain ⟨q1, q2, q3, q4, q5⟩ := md_i ds _ _ _ _ i4 j d d1
                have := q1.2.2.2.2.2.1.1
                have := (i2 d.1 (by omega)).2.1
                omega
            omega
          · rw [if_neg q]; omega
      rw [ex]; exact h
    | succ dd ih =>
      intro i x hi hx hb hu hd n hn
      obtain ⟨n, rfl⟩ : ∃ w, n = w + 1 := ⟨n - 1, by omega⟩
      have il : i < ds.length := by omega
      obtain ⟨d, hs, hD, dT, sT, d120, de, fe, dN, dP, dR, dR2, f5, yb⟩ := ym_d I0 il
      have dpb := (i2 d.1 dT).2.1
      have hin : vp_in (nI i) 100 := vp_in_nI (by omega) (by decide)
      have FE := hD.2.2.2.2.2.2.2.1
      have nxt : ∀ x2, x2 ≤ 1000 → (x2 = 1000 ∨ tb_b Tk Q ds e kc x2) → x2 ≤ x → (ki_k Q kc (d.2.2.1 - 1) ≠ kc (mn_f Tk ds i) → x2 ≤ tt_p Tk d.1) → ∀ y, y = nI i + 1 → wY_firstBad_48 post f_width f_length f_place f_toks (nI e) (nI ds.length) a_text a_tok a_tokNum a_tokPlace a_opened a_nOp a_nNum a_nPlace a_nA a_nB a_nC a_nLo a_nHi a_nLevel a_defName a_defPlace a_defRoot a_loaded a_count a_status a_number a_origin a_choice a_slotF a_slotX a_slotHeld n (nI x2) y := by
        intro x2 q1 q2 q3 q4 y ey
        rw [ey, nI_1]
        refine ih (i + 1) x2 (by omega) q1 q2 (fun u u1 u2 u3 => Nat.le_trans q3 (hu u u1 u2 u3)) (fun j d2 hj hs2 hk => ?_) n (by omega)
        by_cases w : j = i
        · subst w
          rw [hs] at hs2
          have := Option.some.inj hs2
          subst this
          exact q4 hk
        · exact Nat.le_trans q3 (hd j d2 (by omega) hs2 hk)
      refine br_f (nI_ge il (by omega)) ⟨hin, ?_⟩
      rw [nI_clamp (by omega), dP]
      refine pk_le x (tt_p Tk d.1) (fun c => nxt x hx hb (Nat.le_refl _) (fun _ => c)) (fun c => ⟨vp_in_nI (by omega) (by decide), ?_⟩)
      rw [dR]
      have hg : g d.2.1 = d.2.2.1 - 1 := by have := yb.2.2.2.2.2.2; omega
      refine ky_k S hc (r := d.2.1) ⟨by omega, by omega⟩ ⟨hin, ?_⟩
      rw [dN]
      refine ⟨vp_in_nI f5 (by decide), ?_⟩
      rw [nI_clamp (by omega), (hc _ f5).1, hg]
      have b1 := k3 d.2.1 ⟨by omega, by omega⟩
      rw [hg] at b1
      have b2 := (hc _ f5).2
      refine pk_eq (ki_k Q kc (d.2.2.1 - 1)) (kc (mn_f Tk ds i)) (fun c2 => nxt x hx hb (Nat.le_refl _) (fun q => absurd c2 q)) (fun c2 => ⟨hin, fun y ey => ?_⟩)
      subst ey
      exact nxt _ (by omega) (Or.inr (Or.inr ⟨i, d, hs, c2, rfl⟩)) (by omega) (fun _ => Nat.le_refl _)
  have l1 : ∀ dd k x, k + dd = e → 120 ≤ k → x ≤ 1000 → (x = 1000 ∨ tb_b Tk Q ds e kc x) → (∀ r, 120 ≤ r → r < k → ¬ lc_m Q kc (g r) → x ≤ tt_p Tk (Q 9 (g r))) → ∀ n, dd < n → wY_firstBad_7 post f_width f_length f_place f_toks (nI e) (nI ds.length) a_text a_tok a_tokNum a_tokPlace a_opened a_nOp a_nNum a_nPlace a_nA a_nB a_nC a_nLo a_nHi a_nLevel a_defName a_defPlace a_defRoot a_loaded a_count a_status a_number a_origin a_choice a_slotF a_slotX a_slotHeld n (nI x) (nI k) := by
    intro dd
    induction dd with
    | zero =>
      intro k x hk h120 hx hb hr n hn
      obtain ⟨n, rfl⟩ : ∃ w, n = w + 1 := ⟨n - 1, by omega⟩
      have ek : k = e := by omega
      subst ek
      refine br_t (nI_le (Nat.le_refl _) (by omega)) ⟨_, l2 ds.length 0 x (by omega) hx hb (fun u u1 u2 u3 => ?_) (fun j d hj => by omega) _ (Nat.lt_succ_self _)⟩
      obtain ⟨r, r1, r2, r3⟩ := sur u u1 u2
      have := hr r r1 r2 (by rw [r3]; exact u3)
      rw [r3] at this; exact this
    | succ dd ih =>
      intro k x hk h120 hx hb hr n hn
      obtain ⟨n, rfl⟩ : ∃ w, n = w + 1 := ⟨n - 1, by omega⟩
      have ke : k < e := by omega
      have hin : vp_in (nI k) 320 := vp_in_nI (by omega) (by decide)
      obtain ⟨g1, g2, g3⟩ := pl k h120 ke
      have pb := p200 k h120 ke
      have nxt : ∀ x2, x2 ≤ 1000 → (x2 = 1000 ∨ tb_b Tk Q ds e kc x2) → x2 ≤ x → (¬ lc_m Q kc (g k) → x2 ≤ tt_p Tk (Q 9 (g k))) → ∀ y, y = nI k + 1 → wY_firstBad_7 post f_width f_length f_place f_toks (nI e) (nI ds.length) a_text a_tok a_tokNum a_tokPlace a_opened a_nOp a_nNum a_nPlace a_nA a_nB a_nC a_nLo a_nHi a_nLevel a_defName a_defPlace a_defRoot a_loaded a_count a_status a_number a_origin a_choice a_slotF a_slotX a_slotHeld n (nI x2) y := by
        intro x2 q1 q2 q3 q4 y ey
        rw [ey, nI_1]
        refine ih (k + 1) x2 (by omega) (by omega) q1 q2 (fun r r1 r2 r3 => ?_) n (by omega)
        by_cases w : r = k
        · subst w; exact q4 r3
        · exact Nat.le_trans q3 (hr r r1 (by omega) r3)
      refine br_f (nI_ge ke (by omega)) ⟨hin, ?_⟩
      rw [nI_clamp (by omega), g3]
      refine pk_le x (tt_p Tk (Q 9 (g k))) (fun c => nxt x hx hb (Nat.le_refl _) (fun _ => c)) (fun c => ?_)
      refine ky_c S hc (r := k) ⟨h120, ke⟩ (fun met => bq_1 (nxt x hx hb (Nat.le_refl _) (fun q => absurd met q))) (fun nm => br_t rfl ⟨hin, fun y ey => ?_⟩)
      subst ey
      exact nxt _ (by omega) (Or.inr (Or.inl ⟨g k, g1, g2, nm, rfl⟩)) (by omega) (fun _ => Nat.le_refl _)
  have le := md_le _ _ _ _ _ i4
  exact ⟨_, l1 (e - 120) 120 1000 (by omega) (Nat.le_refl _) (Nat.le_refl _) (Or.inl rfl) (fun r r1 r2 => by omega) _ (Nat.lt_succ_self _)⟩
theorem cl_Y (I : ym_I Tk Q ds e g a_tok a_tokNum a_tokPlace a_defName a_defPlace a_defRoot a_nOp a_nNum a_nPlace a_nA a_nB a_nC a_nLo a_nHi a_nLevel) (hP : yl_P P gl a_loaded a_count a_nOp a_nNum a_nA a_nB a_nC) (h200 : ∀ kc p, tb_b Tk Q ds e kc p → p ≤ 200) {r : Option Nat}
    (hR : cl_R (fun c => la_ok P (fun f => ∃ i, i < ds.length ∧ mn_f Tk ds i = f) (ki_c c)) (fun c => tb_R Tk Q ds e (ki_c c)) r) {post : Int32 → SY → Prop}
    (h1 : r = none → ∀ ch, post (-1) (f_width, f_length, f_place, f_toks, nI e, nI ds.length, a_text, a_tok, a_tokNum, a_tokPlace, a_opened, a_nOp, a_nNum, a_nPlace, a_nA, a_nB, a_nC, a_nLo, a_nHi, a_nLevel, a_defName, a_defPlace, a_defRoot, a_loaded, a_count, a_status, a_number, a_origin, ch, a_slotF, a_slotX, a_slotHeld)) (h2 : ∀ m, r = some m → m ≤ 200 → ∀ ch, post (nI m) (f_width, f_length, f_place, f_toks, nI e, nI ds.length, a_text, a_tok, a_tokNum, a_tokPlace, a_opened, a_nOp, a_nNum, a_nPlace, a_nA, a_nB, a_nC, a_nLo, a_nHi, a_nLevel, a_defName, a_defPlace, a_defRoot, a_loaded, a_count, a_status, a_number, a_origin, ch, a_slotF, a_slotX, a_slotHeld)) : wpY_clash post (f_width, f_length, f_place, f_toks, nI e, nI ds.length, a_text, a_tok, a_tokNum, a_tokPlace, a_opened, a_nOp, a_nNum, a_nPlace, a_nA, a_nB, a_nC, a_nLo, a_nHi, a_nLevel, a_defName, a_defPlace, a_defRoot, a_loaded, a_count, a_status, a_number, a_origin, a_choice, a_slotF, a_slotX, a_slotHeld) := by
  have b50 := xm_50 I.2.2.2.1 I.1
  have key : ∀ d c m ch, c + d = 243 → cl_v (fun c => la_ok P (fun f => ∃ i, i < ds.length ∧ mn_f Tk ds i = f) (ki_c c)) (fun c => tb_R Tk Q ds e (ki_c c)) c m → m ≤ 200 →
      (¬ ∃ c', c' < c ∧ la_ok P (fun f => ∃ i, i < ds.length ∧ mn_f Tk ds i = f) (ki_c c') ∧ tb_R Tk Q ds e (ki_c c') 201) → ∀ n, d < n → wY_clash_4 post n (nI m) (nI c) f_width f_length f_place f_toks (nI e) (nI ds.length) a_text a_tok a_tokNum a_tokPlace a_opened a_nOp a_nNum a_nPlace a_nA a_nB a_nC a_nLo a_nHi a_nLevel a_defName a_defPlace a_defRoot a_loaded a_count a_status a_number a_origin ch a_slotF a_slotX a_slotHeld := by
    intro d
    induction d with
    | zero =>
      intro c m ch hc hv hm hno n hn
      obtain ⟨n, rfl⟩ : ∃ w, n = w + 1 := ⟨n - 1, by omega⟩
      have : c = 243 := by omega
      subst this
      exact br_t (nI_le (a := 243) (by decide) (by decide)) (h2 m (cl_u hR (Or.inr ⟨m, rfl, hm, hno, hv⟩)) hm ch)
    | succ d ih =>
      intro c m ch hc hv hm hno n hn
      obtain ⟨n, rfl⟩ : ∃ w, n = w + 1 := ⟨n - 1, by omega⟩
      refine br_f (nI_ge (b := 243) (by omega) (by decide)) (ch_Y (by omega) (fun ch2 hch => ?_))
      refine su_Y (out := fun f => ∃ i, i < ds.length ∧ mn_f Tk ds i = f) hP hch (Or.inr ⟨by decide, fun f hf q q1 q2 => ym_of I hf (fun i hi hfi => q1 ⟨i, hi, hfi⟩ i (by omega)) q2⟩) (fun ok => bq_1 ?_) (fun nok => br_t rfl (fun y ey => ?_))
      · obtain ⟨x, hx⟩ := tb_ex Tk Q ds e (ki_c c) (h200 _)
        refine fb_Y I hch hx ?_
        have x201 := hx.1
        by_cases q : x = 201
        · rw [if_pos q]
          refine br_t rfl (h1 (cl_u hR (Or.inl ⟨rfl, c, by omega, ok, q ▸ hx⟩)) ch2)
        · rw [if_neg q]
          refine br_f (fun w => by have := (nI_eq (a := x) (b := 1000) (by omega) (by decide)).mp w; omega) ?_
          have st := cl_y hv ok hx x201 (fun y hy => tb_u (h200 _) hy hx)
          have no2 : ¬ ∃ c', c' < c + 1 ∧ la_ok P (fun f => ∃ i, i < ds.length ∧ mn_f Tk ds i = f) (ki_c c') ∧ tb_R Tk Q ds e (ki_c c') 201 := by
            rintro ⟨c', a, b, w⟩
            by_cases z : c' = c
            · subst z; exact q (tb_u (h200 _) hx w)
            · exact hno ⟨c', by omega, b, w⟩
          refine pk_le x m (fun z => fun y ey => ?_) (fun z => fun y ey => ?_)
          · rw [if_pos z] at st
            rw [ey, nI_1]
            exact ih (c + 1) m ch2 (by omega) st hm no2 n (by omega)
          · rw [if_neg (by omega)] at st
            rw [ey, nI_1]
            exact ih (c + 1) x ch2 (by omega) st (by omega) no2 n (by omega)
      · rw [ey, nI_1]
        refine ih (c + 1) m ch2 (by omega) (cl_n hv nok) hm (fun ⟨c', a, b, w⟩ => ?_) n (by omega)
        by_cases z : c' = c
        · subst z; exact nok b
        · exact hno ⟨c', by omega, b, w⟩
  exact ⟨_, key 243 0 0 a_choice rfl (cl_0 _ _) (by omega) (fun ⟨c', a, _⟩ => by omega) 244 (by decide)⟩
end
end
section
-- the rules, op by op
section
variable {P : Nat → Nat → Nat} {T : Nat → Option ou_O} {c : Nat} {o : ou_O}
theorem ru_l (h : ou_lf (P 0 (c / 6)) = true) : ou_rl P T c = some (ou_lv P c) := by unfold ou_rl; rw [if_pos h]
theorem ru_n (h : ¬ ou_lf (P 0 (c / 6)) = true) (ha : T (ou_ps P 2 c) = none) : ou_rl P T c = none := by unfold ou_rl; rw [if_neg h, ha]; rfl
theorem ru_s (h : ¬ ou_lf (P 0 (c / 6)) = true) (ha : T (ou_ps P 2 c) = some o) : ou_rl P T c = ou_go T (ou_md P c o) (P 0 (c / 6)) o := by unfold ou_rl; rw [if_neg h, ha]; rfl
theorem ru_e (h : ¬ ou_lf (P 0 (c / 6)) = true) (ha : T (ou_ps P 2 c) = some o) (h6 : P 0 (c / 6) ≠ 6) (h1 : ¬ o.1 = 1) : ou_rl P T c = some o := by
  rw [ru_s h ha]; simp [ou_md, h6, h1, ou_go]
theorem ru_6 (t : P 0 (c / 6) = 6) (ha : T (ou_ps P 2 c) = some o) : ou_rl P T c = if o.1 = 1 then some o else T (ou_ps P 3 c) := by
  rw [ru_s (by rw [t]; decide) ha]
  by_cases h1 : o.1 = 1
  · simp [ou_md, t, h1, ou_go]
  · simp [ou_md, t, h1, ou_go]
theorem ru_21 (t : P 0 (c / 6) = 21) (ha : T (ou_ps P 2 c) = some o) (h1 : o.1 = 1) : ou_rl P T c = if o.2.2 = 0 then some o else T (ou_ps P 3 c) := by
  rw [ru_s (by rw [t]; decide) ha]
  by_cases v : o.2.2 = 0
  · simp [ou_md, t, h1, v, ou_go]
  · simp [ou_md, t, h1, v, ou_go]
theorem ru_22 (t : P 0 (c / 6) = 22) (ha : T (ou_ps P 2 c) = some o) (h1 : o.1 = 1) : ou_rl P T c = if o.2.2 = 0 then T (ou_ps P 3 c) else some o := by
  rw [ru_s (by rw [t]; decide) ha]
  by_cases v : o.2.2 = 0
  · simp [ou_md, t, h1, v, ou_go]
  · simp [ou_md, t, h1, v, ou_go]
theorem ru_3 (t : P 0 (c / 6) = 3) (ha : T (ou_ps P 2 c) = some o) (h1 : o.1 = 1) : ou_rl P T c = if o.2.2 = 0 then T (ou_ps P 4 c) else T (ou_ps P 3 c) := by
  rw [ru_s (by rw [t]; decide) ha]
  by_cases v : o.2.2 = 0
  · simp [ou_md, t, h1, v, ou_go]
  · simp [ou_md, t, h1, v, ou_go]
theorem ru_28 (t : P 0 (c / 6) = 28) (ha : T (ou_ps P 2 c) = some o) (h1 : o.1 = 1) : ou_rl P T c = some (1, 1, -o.2.2) := by
  rw [ru_s (by rw [t]; decide) ha]; simp [ou_md, t, h1, ou_go]
theorem ru_23 (t : P 0 (c / 6) = 23 ∨ P 0 (c / 6) = 9) (ha : T (ou_ps P 2 c) = some o) (h1 : o.1 = 1) : ou_rl P T c = some (1, 2, if o.2.2 = 0 then 1 else 0) := by
  rcases t with t | t
  · rw [ru_s (by rw [t]; decide) ha]; simp [ou_md, t, h1, ou_go]
  · rw [ru_s (by rw [t]; decide) ha]; simp [ou_md, t, h1, ou_go]
theorem ru_7 (t : P 0 (c / 6) = 7) (ha : T (ou_ps P 2 c) = some o) (h1 : o.1 = 1) : ou_rl P T c = if o.2.2 = 0 then some (5, 0, 0) else T (ou_ps P 2 (ou_jn o.2.2)) := by
  rw [ru_s (by rw [t]; decide) ha]
  by_cases v : o.2.2 = 0
  · simp [ou_md, t, h1, v, ou_go]
  · simp [ou_md, t, h1, v, ou_go]
theorem ru_8 (t : P 0 (c / 6) = 8) (ha : T (ou_ps P 2 c) = some o) (h1 : o.1 = 1) : ou_rl P T c = if o.2.2 = 0 then some (5, 0, 0) else T (ou_ps P 3 (ou_jn o.2.2)) := by
  rw [ru_s (by rw [t]; decide) ha]
  by_cases v : o.2.2 = 0
  · simp [ou_md, t, h1, v, ou_go]
  · simp [ou_md, t, h1, v, ou_go]
theorem ru_13 (t : P 0 (c / 6) = 13) (ha : T (ou_ps P 2 c) = some o) (h1 : o.1 = 1) : ou_rl P T c = if o.2.2 < 0 ∨ lN (P 6 0) ≤ o.2.2 then some (4, 0, 0) else T (ou_cf P (P 1 (c / 6)) (ou_an o.2.2)) := by
  rw [ru_s (by rw [t]; decide) ha]
  by_cases v : o.2.2 < 0 ∨ lN (P 6 0) ≤ o.2.2
  · rw [if_pos v]; simp only [ou_md, t, h1, ou_go]; rw [if_pos v]; simp
  · rw [if_neg v]; simp only [ou_md, t, h1, ou_go]; rw [if_neg v]; simp
theorem ru_2 (t : 14 ≤ P 0 (c / 6) ∧ P 0 (c / 6) ≤ 20) (ha : T (ou_ps P 2 c) = some o) (h1 : o.1 = 1) : ou_rl P T c = (T (ou_ps P 3 c)).bind (fun o2 => if o2.1 = 1 then some (ou_ar (P 0 (c / 6)) o.2.2 o2.2.2) else some o2) := by
  have hl : ¬ ou_lf (P 0 (c / 6)) = true := by
    simp [ou_lf]; omega
  rw [ru_s hl ha]
  have hmd : ou_md P c o = (2, ou_ps P 3 c, o) := by
    unfold ou_md
    rw [if_neg (by omega), if_neg (by simp [h1]), if_neg (by omega), if_neg (by omega), if_neg (by omega), if_neg (by omega), if_neg (by omega), if_neg (by omega), if_neg (by omega), if_neg (by omega)]
  rw [hmd]; rfl
end
-- a table that is sound is typed, and its rules look at used cells
def tt_K (P : Nat → Nat → Nat) (c0 : Nat) : Nat → Nat := ki_k P (ki_c c0)
theorem ru_t {P : Nat → Nat → Nat} {T : Nat → Option ou_O} {c0 c : Nat} {o : ou_O} (hP : pg_ok P) (hv : rl_V P c0) (hT : ps_s P T) (h : T c = some o) : ty_o P (tt_K P c0) c o := by
  obtain ⟨k, hk⟩ := hT c o h
  exact ty_ev hP (ki_ty hP hv) k c o hk
theorem ru_p {P : Nat → Nat → Nat} {c j : Nat} (hP : pg_ok P) (hu : ou_uc P c) (hj : j < pg_n (P 0 (c / 6))) : ou_uc P (ou_ps P (2 + j) c) := by
  obtain ⟨_, _, _, h⟩ := hP.2.2.2 _ hu.1
  refine ⟨?_, by rw [ou_ps_m]; exact hu.2⟩
  rw [ou_ps_d]
  exact pg_pu hu.1 (h j hj).1 (h j hj).2
end
section
-- X settles a cell
section
variable {f_width f_textLength f_foundPlace f_tokenCount f_frameCount f_operandCount f_defCount f_nodeEnd : Int32} {a_text a_tokenCode a_tokenPlace a_frameCode a_framePlace a_operand a_defPlace a_defFirst a_defEnd a_nodeOp a_nodeNumber a_nodePlace a_nodeDepth a_nodeKind a_part a_size a_kindFound a_choice a_status : Nat → Int32} {a_result : Nat → Int64} {a_slotFunction a_slotArgument : Nat → Int32} {P : Nat → Nat → Nat} {T : Nat → Option ou_O} {c c0 : Nat}
theorem st_g {post : SX → Prop} (hc : c < 720) {v : Int64} {o : ou_O} (hr : ou_rl P T c = some o) (ho : o.1 = 1) (hv : o.2.2 = v) (h : ∀ st re, (∀ i, i ≠ c → st i = a_status i ∧ re i = a_result i) → (ou_rl P T c = none → st c = 2) → (∀ o, ou_rl P T c = some o → st c = nI o.1 ∧ (o.1 = 1 → re c = o.2.2)) → post (f_width, f_textLength, f_foundPlace, f_tokenCount, f_frameCount, f_operandCount, f_defCount, f_nodeEnd, a_text, a_tokenCode, a_tokenPlace, a_frameCode, a_framePlace, a_operand, a_defPlace, a_defFirst, a_defEnd, a_nodeOp, a_nodeNumber, a_nodePlace, a_nodeDepth, a_nodeKind, a_part, a_size, a_kindFound, a_choice, st, re, a_slotFunction, a_slotArgument)) : wpX_give post (f_width, f_textLength, f_foundPlace, f_tokenCount, f_frameCount, f_operandCount, f_defCount, f_nodeEnd, a_text, a_tokenCode, a_tokenPlace, a_frameCode, a_framePlace, a_operand, a_defPlace, a_defFirst, a_defEnd, a_nodeOp, a_nodeNumber, a_nodePlace, a_nodeDepth, a_nodeKind, a_part, a_size, a_kindFound, a_choice, a_status, a_result, a_slotFunction, a_slotArgument) (nI c) v := by
  have hin := vp_in_nI (n := c) (N := 720) hc (by decide)
  refine ⟨hin, fun A eA => ⟨hin, fun B eB => ?_⟩⟩
  rw [nI_clamp (by omega)] at eA eB
  subst eA eB
  refine h _ _ (fun i hi => ⟨pk_un hi, pk_uLn hi⟩) (fun q => by rw [hr] at q; exact absurd q (by simp)) (fun o2 q => ?_)
  rw [hr] at q
  have := Option.some.inj q
  subst this
  rw [pk_us, pk_uLs, ho]
  exact ⟨rfl, fun _ => hv.symm⟩
theorem st_s {post : SX → Prop} (hc : c < 720) {s : Nat} {o : ou_O} (hr : ou_rl P T c = some o) (ho : o.1 = s) (hs : s ≠ 1) (h : ∀ st re, (∀ i, i ≠ c → st i = a_status i ∧ re i = a_result i) → (ou_rl P T c = none → st c = 2) → (∀ o, ou_rl P T c = some o → st c = nI o.1 ∧ (o.1 = 1 → re c = o.2.2)) → post (f_width, f_textLength, f_foundPlace, f_tokenCount, f_frameCount, f_operandCount, f_defCount, f_nodeEnd, a_text, a_tokenCode, a_tokenPlace, a_frameCode, a_framePlace, a_operand, a_defPlace, a_defFirst, a_defEnd, a_nodeOp, a_nodeNumber, a_nodePlace, a_nodeDepth, a_nodeKind, a_part, a_size, a_kindFound, a_choice, st, re, a_slotFunction, a_slotArgument)) : vp_in (nI c) 720 ∧ ∀ A, A = upd a_status (nI c).toNatClampNeg (nI s) → post (f_width, f_textLength, f_foundPlace, f_tokenCount, f_frameCount, f_operandCount, f_defCount, f_nodeEnd, a_text, a_tokenCode, a_tokenPlace, a_frameCode, a_framePlace, a_operand, a_defPlace, a_defFirst, a_defEnd, a_nodeOp, a_nodeNumber, a_nodePlace, a_nodeDepth, a_nodeKind, a_part, a_size, a_kindFound, a_choice, A, a_result, a_slotFunction, a_slotArgument) := by
  have hin := vp_in_nI (n := c) (N := 720) hc (by decide)
  refine ⟨hin, fun A eA => ?_⟩
  rw [nI_clamp (by omega)] at eA
  subst eA
  refine h _ _ (fun i hi => ⟨pk_un hi, rfl⟩) (fun q => by rw [hr] at q; exact absurd q (by simp)) (fun o2 q => ?_)
  rw [hr] at q
  have := Option.some.inj q
  subst this
  rw [pk_us, ho]
  exact ⟨rfl, fun w => absurd w hs⟩
theorem st_c {post : SX → Prop} (hc : c < 720) {d : Nat} (hd : ou_uc P d) (hr : ou_rl P T c = T d) (ht : rl_tX P T a_status a_result) (h : ∀ st re, (∀ i, i ≠ c → st i = a_status i ∧ re i = a_result i) → (ou_rl P T c = none → st c = 2) → (∀ o, ou_rl P T c = some o → st c = nI o.1 ∧ (o.1 = 1 → re c = o.2.2)) → post (f_width, f_textLength, f_foundPlace, f_tokenCount, f_frameCount, f_operandCount, f_defCount, f_nodeEnd, a_text, a_tokenCode, a_tokenPlace, a_frameCode, a_framePlace, a_operand, a_defPlace, a_defFirst, a_defEnd, a_nodeOp, a_nodeNumber, a_nodePlace, a_nodeDepth, a_nodeKind, a_part, a_size, a_kindFound, a_choice, st, re, a_slotFunction, a_slotArgument)) : wpX_copy post (f_width, f_textLength, f_foundPlace, f_tokenCount, f_frameCount, f_operandCount, f_defCount, f_nodeEnd, a_text, a_tokenCode, a_tokenPlace, a_frameCode, a_framePlace, a_operand, a_defPlace, a_defFirst, a_defEnd, a_nodeOp, a_nodeNumber, a_nodePlace, a_nodeDepth, a_nodeKind, a_part, a_size, a_kindFound, a_choice, a_status, a_result, a_slotFunction, a_slotArgument) (nI c) (nI d) := by
  have hin := vp_in_nI (n := c) (N := 720) hc (by decide)
  have dl := ou_uc_lt hd
  have hid := vp_in_nI (n := d) (N := 720) dl (by decide)
  refine ⟨hid, hin, fun A eA => ⟨hid, hin, fun B eB => ?_⟩⟩
  rw [nI_clamp (n := c) (by omega), nI_clamp (n := d) (by omega)] at eA eB
  subst eA eB
  obtain ⟨t0, t1⟩ := ht d hd
  refine h _ _ (fun i hi => ⟨pk_un hi, pk_uLn hi⟩) (fun q => ?_) (fun o q => ?_)
  · rw [pk_us]; exact t0 (by rw [← hr]; exact q)
  · rw [pk_us, pk_uLs]; exact t1 o (by rw [← hr]; exact q)
theorem st_l {post : Int32 → Prop} {d j w : Nat} (hd : d < 720) (hre : a_result d = lN (j + 1)) (hj : j < 720) (hw : w < 2) {q : Nat} (hpt : a_part (j / 6 * 3 + w) = nI q) (hq : q < 120) (h : post (nI (q * 6 + j % 6))) : wpX_partOfList post (f_width, f_textLength, f_foundPlace, f_tokenCount, f_frameCount, f_operandCount, f_defCount, f_nodeEnd, a_text, a_tokenCode, a_tokenPlace, a_frameCode, a_framePlace, a_operand, a_defPlace, a_defFirst, a_defEnd, a_nodeOp, a_nodeNumber, a_nodePlace, a_nodeDepth, a_nodeKind, a_part, a_size, a_kindFound, a_choice, a_status, a_result, a_slotFunction, a_slotArgument) (nI d) (nI w) := by
  have hin := vp_in_nI (n := d) (N := 720) hd (by decide)
  refine ⟨hin, fun y ey => ⟨by decide, ?_⟩⟩
  rw [nI_clamp (by omega), hre] at ey
  have e1 : lN (j + 1) - 1 = lN j := by
    have : lN (j + 1) - lN 1 = lN (j + 1 - 1) := lN_sub (by omega)
    rw [Nat.add_sub_cancel] at this
    exact this
  rw [e1, lN_i] at ey
  subst ey
  have ed : nI j / 6 = nI (j / 6) := pk_div (d := 6) (by omega) (by decide) (by decide)
  have er : nI j - nI j / 6 * 6 = nI (j % 6) := pk_rem (d := 6) (by omega) (by decide) (by decide)
  have e3 : nI (j / 6) * 3 + nI w = nI (j / 6 * 3 + w) := by
    have : nI (j / 6) * 3 = nI (j / 6 * 3) := pk_mul _ 3
    rw [this, nI_add]
  rw [er, ed, e3]
  refine ⟨vp_in_nI (by omega) (by decide), by decide, ?_⟩
  rw [nI_clamp (by omega), hpt]
  have e6 : nI q * 6 + nI (j % 6) = nI (q * 6 + j % 6) := by
    have : nI q * 6 = nI (q * 6) := pk_mul _ 6
    rw [this, nI_add]
  rw [e6]; exact h
theorem st_x {u x : Nat} : nI u * 6 + nI x = nI (u * 6 + x) := by
  have : nI u * 6 = nI (u * 6) := pk_mul _ 6
  rw [this, nI_add]
theorem st_X (hP : xl_P P a_size a_nodeOp a_nodeNumber a_nodePlace a_part) (hw : f_width = nI (P 6 0)) (hv : rl_V P c0) (hT : ps_s P T) (ht : rl_tX P T a_status a_result) (hu : ou_uc P c) {post : SX → Prop} (h : ∀ st re, (∀ i, i ≠ c → st i = a_status i ∧ re i = a_result i) → (ou_rl P T c = none → st c = 2) → (∀ o, ou_rl P T c = some o → st c = nI o.1 ∧ (o.1 = 1 → re c = o.2.2)) → post (f_width, f_textLength, f_foundPlace, f_tokenCount, f_frameCount, f_operandCount, f_defCount, f_nodeEnd, a_text, a_tokenCode, a_tokenPlace, a_frameCode, a_framePlace, a_operand, a_defPlace, a_defFirst, a_defEnd, a_nodeOp, a_nodeNumber, a_nodePlace, a_nodeDepth, a_nodeKind, a_part, a_size, a_kindFound, a_choice, st, re, a_slotFunction, a_slotArgument)) : wpX_settle post (f_width, f_textLength, f_foundPlace, f_tokenCount, f_frameCount, f_operandCount, f_defCount, f_nodeEnd, a_text, a_tokenCode, a_tokenPlace, a_frameCode, a_framePlace, a_operand, a_defPlace, a_defFirst, a_defEnd, a_nodeOp, a_nodeNumber, a_nodePlace, a_nodeDepth, a_nodeKind, a_part, a_size, a_kindFound, a_choice, a_status, a_result, a_slotFunction, a_slotArgument) (nI (c / 6)) (nI (c % 6)) := by
  obtain ⟨p1, p2, p3, p4, p5⟩ := hP
  have cl := ou_uc_lt hu
  obtain ⟨n1, n2, n3, n4, n5⟩ := p4 _ hu.1
  obtain ⟨o1, o2, o3, o4⟩ := p1.2.2.2 _ hu.1
  have u120 := hu.1.1
  have hinu := vp_in_nI (n := c / 6) (N := 320) (by omega) (by decide)
  have ec : c / 6 * 6 + c % 6 = c := by omega
  have w6 := p1.2.1
  have kt := ki_ty p1 hv
  intro x3 e3
  rw [st_x, ec] at e3
  subst e3
  refine ⟨hinu, fun k ek => ?_⟩
  rw [nI_clamp (by omega), n1] at ek
  subst ek
  have e30 : nI (c / 6) * 3 = nI (c / 6 * 3) := pk_mul _ 3
  have e31 : nI (c / 6 * 3) + 1 = nI (c / 6 * 3 + 1) := nI_1 _
  have e32 : nI (c / 6 * 3) + 2 = nI (c / 6 * 3 + 2) := nI_add _ 2
  have eps : ∀ k, P k (c / 6) * 6 + c % 6 = ou_ps P k c := fun k => rfl
  -- the strict ones
  have strict : ¬ ou_lf (P 0 (c / 6)) = true → P 0 (c / 6) ≠ 6 → wpX_settleStrict (fun u => match u with | (f_width9, f_textLength9, f_foundPlace9, f_tokenCount9, f_frameCount9, f_operandCount9, f_defCount9, f_nodeEnd9, a_text9, a_tokenCode9, a_tokenPlace9, a_frameCode9, a_framePlace9, a_operand9, a_defPlace9, a_defFirst9, a_defEnd9, a_nodeOp9, a_nodeNumber9, a_nodePlace9, a_nodeDepth9, a_nodeKind9, a_part9, a_size9, a_kindFound9, a_choice9, a_status9, a_result9, a_slotFunction9, a_slotArgument9) => post (f_width9, f_textLength9, f_foundPlace9, f_tokenCount9, f_frameCount9, f_operandCount9, f_defCount9, f_nodeEnd9, a_text9, a_tokenCode9, a_tokenPlace9, a_frameCode9, a_framePlace9, a_operand9, a_defPlace9, a_defFirst9, a_defEnd9, a_nodeOp9, a_nodeNumber9, a_nodePlace9, a_nodeDepth9, a_nodeKind9, a_part9, a_size9, a_kindFound9, a_choice9, a_status9, a_result9, a_slotFunction9, a_slotArgument9)) (f_width, f_textLength, f_foundPlace, f_tokenCount, f_frameCount, f_operandCount, f_defCount, f_nodeEnd, a_text, a_tokenCode, a_tokenPlace, a_frameCode, a_framePlace, a_operand, a_defPlace, a_defFirst, a_defEnd, a_nodeOp, a_nodeNumber, a_nodePlace, a_nodeDepth, a_nodeKind, a_part, a_size, a_kindFound, a_choice, a_status, a_result, a_slotFunction, a_slotArgument) (nI (c / 6)) (nI (c % 6)) := by
    intro nl n6
    have pn : 0 < pg_n (P 0 (c / 6)) := by
      unfold pg_n
      split
      · omega
      · split
        · rename_i q; exact absurd (by rcases q with q | q | q | q | q <;> rw [q] <;> rfl) nl
        · split <;> omega
    have ua : ou_uc P (ou_ps P 2 c) := ru_p p1 hu pn
    have al := ou_uc_lt ua
    have hina := vp_in_nI (n := ou_ps P 2 c) (N := 720) al (by decide)
    obtain ⟨t0, t1⟩ := ht _ ua
    intro x3 e3
    rw [st_x, ec] at e3
    subst e3
    rw [e30]
    refine ⟨vp_in_nI (by omega) (by decide), fun x4 e4 => ⟨by rw [e31]; exact vp_in_nI (by omega) (by decide), fun x5 e5 => ⟨by rw [e32]; exact vp_in_nI (by omega) (by decide), fun x6 e6 => ?_⟩⟩⟩
    rw [nI_clamp (by omega), n3, st_x, eps] at e4
    rw [e31, nI_clamp (by omega), n4, st_x, eps] at e5
    rw [e32, nI_clamp (by omega), n5, st_x, eps] at e6
    subst e4 e5 e6
    refine ⟨hina, ?_⟩
    rw [nI_clamp (by omega)]
    cases ha : T (ou_ps P 2 c) with
    | none =>
      rw [t0 ha]
      exact br_f (by decide) (st_c cl ua (by rw [ru_n nl ha, ha]) ht h)
    | some o =>
      obtain ⟨s1, s2⟩ := t1 o ha
      have ty := ru_t p1 hv hT ha
      rw [s1]
      by_cases h1 : o.1 = 1
      · have re := s2 h1
        rw [h1]
        refine br_t rfl ⟨hinu, fun k ek => ?_⟩
        rw [nI_clamp (by omega), n1] at ek
        subst ek
        obtain ⟨_, ta, tb, tl⟩ : o.1 = 1 ∧ o.2.1 = tt_K P c0 (P 2 (c / 6)) ∧ (o.2.1 = 2 → o.2.2 = 0 ∨ o.2.2 = 1) ∧ (o.2.1 = 3 → o.2.2 = 0 ∨ ∃ j, j < 720 ∧ ou_uc P j ∧ P 0 (j / 6) = 24 ∧ o.2.2 = lN (j + 1)) := by
          rcases ty with ty | ty
          · rw [ou_ps_d] at ty; exact ty
          · have := ty.1; omega
        have met := hv.1 _ hu.1
        have cs := ky_23 o1
        have ub : 1 < pg_n (P 0 (c / 6)) → ou_uc P (ou_ps P 3 c) := fun q => ru_p (j := 1) p1 hu q
        have ud : 2 < pg_n (P 0 (c / 6)) → ou_uc P (ou_ps P 4 c) := fun q => ru_p (j := 2) p1 hu q
        have list : P 0 (c / 6) = 7 ∨ P 0 (c / 6) = 8 → ¬ o.2.2 = 0 → ∃ j, j < 720 ∧ ou_uc P j ∧ P 0 (j / 6) = 24 ∧ o.2.2 = lN (j + 1) := by
          intro q nz
          have m3 : tt_K P c0 (P 2 (c / 6)) = 3 := by
            rcases q with q | q <;> rw [q] at met <;> exact met
          rcases tl (by rw [ta]; exact m3) with z | z
          · exact absurd z nz
          · exact z
        have hdtl : ∀ w, (w = 0 ∧ P 0 (c / 6) = 7 ∨ w = 1 ∧ P 0 (c / 6) = 8) → wpX_settlePart (fun u => match u with | (f_width9, f_textLength9, f_foundPlace9, f_tokenCount9, f_frameCount9, f_operandCount9, f_defCount9, f_nodeEnd9, a_text9, a_tokenCode9, a_tokenPlace9, a_frameCode9, a_framePlace9, a_operand9, a_defPlace9, a_defFirst9, a_defEnd9, a_nodeOp9, a_nodeNumber9, a_nodePlace9, a_nodeDepth9, a_nodeKind9, a_part9, a_size9, a_kindFound9, a_choice9, a_status9, a_result9, a_slotFunction9, a_slotArgument9) => post (f_width9, f_textLength9, f_foundPlace9, f_tokenCount9, f_frameCount9, f_operandCount9, f_defCount9, f_nodeEnd9, a_text9, a_tokenCode9, a_tokenPlace9, a_frameCode9, a_framePlace9, a_operand9, a_defPlace9, a_defFirst9, a_defEnd9, a_nodeOp9, a_nodeNumber9, a_nodePlace9, a_nodeDepth9, a_nodeKind9, a_part9, a_size9, a_kindFound9, a_choice9, a_status9, a_result9, a_slotFunction9, a_slotArgument9)) (f_width, f_textLength, f_foundPlace, f_tokenCount, f_frameCount, f_operandCount, f_defCount, f_nodeEnd, a_text, a_tokenCode, a_tokenPlace, a_frameCode, a_framePlace, a_operand, a_defPlace, a_defFirst, a_defEnd, a_nodeOp, a_nodeNumber, a_nodePlace, a_nodeDepth, a_nodeKind, a_part, a_size, a_kindFound, a_choice, a_status, a_result, a_slotFunction, a_slotArgument) (nI c) (nI (ou_ps P 2 c)) (nI w) := by
          intro w hww
          refine ⟨hina, ?_⟩
          rw [nI_clamp (by omega), re]
          by_cases z : o.2.2 = 0
          · refine br_t z (st_s (s := 5) cl (o := (5, 0, 0)) ?_ rfl (by decide) h)
            rcases hww with ⟨_, q⟩ | ⟨_, q⟩
            · rw [ru_7 q ha h1, if_pos z]
            · rw [ru_8 q ha h1, if_pos z]
          · obtain ⟨j, j1, j2, j3, j4⟩ := list (by omega) z
            have nj := p4 _ j2.1
            have jl := j2.1.1
            refine br_f z ?_
            rcases hww with ⟨rfl, q⟩ | ⟨rfl, q⟩
            · have uj : ou_uc P (ou_ps P 2 j) := ru_p (j := 0) p1 j2 (by rw [j3]; decide)
              have b := uj.1.1
              rw [ou_ps_d] at b
              refine st_l al (re.trans j4) j1 (by omega) nj.2.2.1 b ?_
              exact st_c cl uj (by rw [ru_7 q ha h1, if_neg z, j4, ou_jn_e j1]; rfl) ht h
            · have uj : ou_uc P (ou_ps P 3 j) := ru_p (j := 1) p1 j2 (by rw [j3]; decide)
              have b := uj.1.1
              rw [ou_ps_d] at b
              refine st_l al (re.trans j4) j1 (by omega) nj.2.2.2.1 b ?_
              exact st_c cl uj (by rw [ru_8 q ha h1, if_neg z, j4, ou_jn_e j1]; rfl) ht h
        have two : 14 ≤ P 0 (c / 6) ∧ P 0 (c / 6) ≤ 20 → vp_in (nI (c / 6)) 320 ∧ wpX_settleTwoSided (fun u => match u with | (f_width9, f_textLength9, f_foundPlace9, f_tokenCount9, f_frameCount9, f_operandCount9, f_defCount9, f_nodeEnd9, a_text9, a_tokenCode9, a_tokenPlace9, a_frameCode9, a_framePlace9, a_operand9, a_defPlace9, a_defFirst9, a_defEnd9, a_nodeOp9, a_nodeNumber9, a_nodePlace9, a_nodeDepth9, a_nodeKind9, a_part9, a_size9, a_kindFound9, a_choice9, a_status9, a_result9, a_slotFunction9, a_slotArgument9) => post (f_width9, f_textLength9, f_foundPlace9, f_tokenCount9, f_frameCount9, f_operandCount9, f_defCount9, f_nodeEnd9, a_text9, a_tokenCode9, a_tokenPlace9, a_frameCode9, a_framePlace9, a_operand9, a_defPlace9, a_defFirst9, a_defEnd9, a_nodeOp9, a_nodeNumber9, a_nodePlace9, a_nodeDepth9, a_nodeKind9, a_part9, a_size9, a_kindFound9, a_choice9, a_status9, a_result9, a_slotFunction9, a_slotArgument9)) (f_width, f_textLength, f_foundPlace, f_tokenCount, f_frameCount, f_operandCount, f_defCount, f_nodeEnd, a_text, a_tokenCode, a_tokenPlace, a_frameCode, a_framePlace, a_operand, a_defPlace, a_defFirst, a_defEnd, a_nodeOp, a_nodeNumber, a_nodePlace, a_nodeDepth, a_nodeKind, a_part, a_size, a_kindFound, a_choice, a_status, a_result, a_slotFunction, a_slotArgument) (nI c) (a_nodeOp (nI (c / 6)).toNatClampNeg) (nI (ou_ps P 2 c)) (nI (ou_ps P 3 c)) := by
          intro q
          have uub := ub (by rw [nd_n2 (by omega)]; decide)
          have bl := ou_uc_lt uub
          have hinb := vp_in_nI (n := ou_ps P 3 c) (N := 720) bl (by decide)
          obtain ⟨b0, b1⟩ := ht _ uub
          have ru := ru_2 q ha h1
          refine ⟨hinu, hinb, ?_⟩
          rw [nI_clamp (n := ou_ps P 3 c) (by omega), nI_clamp (n := c / 6) (by omega), nI_clamp (n := ou_ps P 2 c) (by omega), n1]
          cases hb : T (ou_ps P 3 c) with
          | none =>
            rw [hb] at ru
            rw [b0 hb]
            exact br_f (by decide) (st_c cl uub (by rw [ru, hb]; rfl) ht h)
          | some o2 =>
            rw [hb] at ru
            obtain ⟨z1, z2⟩ := b1 o2 hb
            have ty2 := ru_t p1 hv hT hb
            rw [z1]
            by_cases g1 : o2.1 = 1
            · have re2 := z2 g1
              have ru : ou_rl P T c = some (ou_ar (P 0 (c / 6)) o.2.2 o2.2.2) := by rw [ru]; show (if o2.1 = 1 then _ else _) = _; rw [if_pos g1]
              rw [g1, re, re2]
              refine br_t rfl ⟨hina, fun x ex => ⟨hinb, fun y ey => ?_⟩⟩
              subst ex ey
              clear hdtl list ub ud tb tl met ty ty2
              have c7 : P 0 (c / 6) = 14 ∨ P 0 (c / 6) = 15 ∨ P 0 (c / 6) = 16 ∨ P 0 (c / 6) = 17 ∨ P 0 (c / 6) = 18 ∨ P 0 (c / 6) = 19 ∨ P 0 (c / 6) = 20 := by omega
              have m63 : ¬ (o2.2.2 = 0 ∧ (P 0 (c / 6) = 17 ∨ P 0 (c / 6) = 18)) → wX_settleTwoSided_63 (fun u => match u with | (f_width9, f_textLength9, f_foundPlace9, f_tokenCount9, f_frameCount9, f_operandCount9, f_defCount9, f_nodeEnd9, a_text9, a_tokenCode9, a_tokenPlace9, a_frameCode9, a_framePlace9, a_operand9, a_defPlace9, a_defFirst9, a_defEnd9, a_nodeOp9, a_nodeNumber9, a_nodePlace9, a_nodeDepth9, a_nodeKind9, a_part9, a_size9, a_kindFound9, a_choice9, a_status9, a_result9, a_slotFunction9, a_slotArgument9) => post (f_width9, f_textLength9, f_foundPlace9, f_tokenCount9, f_frameCount9, f_operandCount9, f_defCount9, f_nodeEnd9, a_text9, a_tokenCode9, a_tokenPlace9, a_frameCode9, a_framePlace9, a_operand9, a_defPlace9, a_defFirst9, a_defEnd9, a_nodeOp9, a_nodeNumber9, a_nodePlace9, a_nodeDepth9, a_nodeKind9, a_part9, a_size9, a_kindFound9, a_choice9, a_status9, a_result9, a_slotFunction9, a_slotArgument9)) (nI c) (nI (xc_t (P 0 (c / 6)))) o.2.2 o2.2.2 f_width f_textLength f_foundPlace f_tokenCount f_frameCount f_operandCount f_defCount f_nodeEnd a_text a_tokenCode a_tokenPlace a_frameCode a_framePlace a_operand a_defPlace a_defFirst a_defEnd a_nodeOp a_nodeNumber a_nodePlace a_nodeDepth a_nodeKind a_part a_size a_kindFound a_choice a_status a_result a_slotFunction a_slotArgument := by
                intro nz
                unfold ou_ar at ru
                rw [if_neg nz] at ru
                rcases c7 with z | z | z | z | z | z | z <;> rw [z] at ru nz ⊢
                · exact br_f (by decide) (br_f (by decide) (br_t rfl (st_g cl ru rfl rfl h)))
                · exact br_f (by decide) (br_f (by decide) (br_f (by decide) (br_t rfl (st_g cl ru rfl rfl h))))
                · exact br_f (by decide) (br_t rfl (st_g cl ru rfl rfl h))
                · exact br_f (by decide) (br_f (by decide) (br_f (by decide) (br_f (by decide) (br_t rfl ⟨fun q => nz ⟨q, Or.inl rfl⟩, st_g cl ru rfl rfl h⟩))))
                · exact br_t rfl ⟨fun q => nz ⟨q, Or.inr rfl⟩, st_g cl ru rfl rfl h⟩
                · refine br_f (by decide) (br_f (by decide) (br_f (by decide) (br_f (by decide) (br_f (by decide) (br_t rfl ?_)))))
                  by_cases w : o2.2.2 ≤ o.2.2
                  · exact br_t w (st_g cl ru rfl (by show (if o.2.2 < o2.2.2 then (1 : Int64) else 0) = 0; rw [if_neg (Int64.not_lt.mpr w)]) h)
                  · exact br_f w (st_g cl ru rfl (by show (if o.2.2 < o2.2.2 then (1 : Int64) else 0) = 1; rw [if_pos (Int64.not_le.mp w)]) h)
                · refine br_f (by decide) (br_f (by decide) (br_f (by decide) (br_f (by decide) (br_f (by decide) (br_f (by decide) ?_)))))
                  by_cases w : o.2.2 = o2.2.2
                  · exact br_t w (st_g cl ru rfl (by show (if o.2.2 = o2.2.2 then (1 : Int64) else 0) = 1; rw [if_pos w]) h)
                  · exact br_f w (st_g cl ru rfl (by show (if o.2.2 = o2.2.2 then (1 : Int64) else 0) = 0; rw [if_neg w]) h)
              by_cases zz : o2.2.2 = 0
              · refine br_t zz ?_
                by_cases d17 : P 0 (c / 6) = 17
                · have ru2 : ou_rl P T c = some (3, 0, 0) := by rw [ru]; unfold ou_ar; rw [if_pos ⟨zz, Or.inl d17⟩]
                  rw [d17]
                  exact br_t rfl (st_s (s := 3) cl ru2 rfl (by decide) h)
                · by_cases d18 : P 0 (c / 6) = 18
                  · have ru2 : ou_rl P T c = some (3, 0, 0) := by rw [ru]; unfold ou_ar; rw [if_pos ⟨zz, Or.inr d18⟩]
                    rw [d18]
                    exact br_f (by decide) (br_t rfl (st_s (s := 3) cl ru2 rfl (by decide) h))
                  · have m := m63 (fun w => w.2.elim d17 d18)
                    rcases c7 with z | z | z | z | z | z | z
                    · rw [z] at m ⊢; exact br_f (by decide) (br_f (by decide) m)
                    · rw [z] at m ⊢; exact br_f (by decide) (br_f (by decide) m)
                    · rw [z] at m ⊢; exact br_f (by decide) (br_f (by decide) m)
                    · exact absurd z d17
                    · exact absurd z d18
                    · rw [z] at m ⊢; exact br_f (by decide) (br_f (by decide) m)
                    · rw [z] at m ⊢; exact br_f (by decide) (br_f (by decide) m)
              · exact br_f zz (m63 (fun w => zz w.1))
            · have ru : ou_rl P T c = T (ou_ps P 3 c) := by rw [ru, hb]; show (if o2.1 = 1 then _ else _) = _; rw [if_neg g1]
              have o25 : o2.1 < 6 := by
                rcases ty2 with w | w
                · exact absurd w.1 g1
                · have := w.1; omega
              exact br_f (fun w => g1 ((nI_eq (b := 1) (by omega) (by decide)).mp w)) (st_c cl uub ru ht h)
        -- by the op
        rcases cs with q | q | q | q | q | q | q | q | q | q | q | q | q | q | q | q | q | q | q | q | q | q | q
        · exact absurd (by rw [q]; rfl) nl
        · exact absurd (by rw [q]; rfl) nl
        · exact absurd (by rw [q]; rfl) nl
        · exact absurd (by rw [q]; rfl) nl
        · exact absurd (by rw [q]; rfl) nl
        · -- if
          have b3 := ub (by rw [q]; decide)
          have b4 := ud (by rw [q]; decide)
          rw [q]
          refine br_f (by decide) (br_f (by decide) (br_f (by decide) (br_f (by decide) (br_f (by decide) (br_f (by decide) (br_t rfl ⟨hina, ?_⟩))))))
          rw [re]
          by_cases z : o.2.2 = 0
          · exact br_t z (st_c cl b4 (by rw [ru_3 q ha h1, if_pos z]) ht h)
          · exact br_f z (st_c cl b3 (by rw [ru_3 q ha h1, if_neg z]) ht h)
        · exact absurd q n6
        · -- hd
          have m := hdtl 0 (Or.inl ⟨rfl, q⟩)
          rw [q]
          exact br_f (by decide) (br_f (by decide) (br_f (by decide) (br_f (by decide) (br_f (by decide) (br_t rfl m)))))
        · -- tl
          have m := hdtl 1 (Or.inr ⟨rfl, q⟩)
          rw [q]
          exact br_f (by decide) (br_f (by decide) (br_f (by decide) (br_f (by decide) (br_f (by decide) (br_f (by decide) (br_f (by decide) (br_t rfl m)))))))
        · -- nul
          have r := ru_23 (Or.inr q) ha h1
          rw [q]
          refine br_f (by decide) (br_f (by decide) (br_f (by decide) (br_f (by decide) (br_f (by decide) (br_f (by decide) (br_f (by decide) (br_f (by decide) (br_t rfl ⟨hina, ?_⟩))))))))
          rw [nI_clamp (by omega), re]
          by_cases z : o.2.2 = 0
          · rw [if_pos z] at r; exact br_t z (st_g cl r rfl rfl h)
          · rw [if_neg z] at r; exact br_f z (st_g cl r rfl rfl h)
        · -- a call
          obtain ⟨f5, fs⟩ := o3 q
          have r := ru_13 q ha h1
          rw [q]
          refine br_f (by decide) (br_t rfl ⟨hinu, hina, ?_⟩)
          rw [re, nI_clamp (n := c / 6) (by omega), n2]
          have ew : f_width.toInt64 = lN (P 6 0) := by rw [hw]; exact nI_l (by omega)
          by_cases z : o.2.2 < 0
          · rw [if_pos (Or.inl z)] at r
            exact br_t z (st_s (s := 4) cl r rfl (by decide) h)
          · refine br_f z ?_
            rw [ew]
            by_cases z2 : lN (P 6 0) ≤ o.2.2
            · rw [if_pos (Or.inr z2)] at r
              exact br_f (Int64.not_lt.mpr z2) (st_s (s := 4) cl r rfl (by decide) h)
            · have nz : ¬ (o.2.2 < 0 ∨ lN (P 6 0) ≤ o.2.2) := fun w => w.elim z z2
              rw [if_neg nz] at r
              refine br_t (Int64.not_le.mp z2) ?_
              obtain ⟨x, x1, x2, x3⟩ := ou_arg (by omega) nz
              rw [x3] at r
              rw [x2, lN_i]
              refine ⟨vp_in_nI f5 (by decide), ?_⟩
              rw [nI_clamp (by omega), p3 _ f5]
              have uc := sl_cfl p1 f5 fs x1
              have e : (nI (P 1 (c / 6)) * 24 + nI (P 5 (P 1 (c / 6))) - 1) * 6 + nI x = nI (ou_cf P (P 1 (c / 6)) x) := by
                have a : nI (P 1 (c / 6)) * 24 = nI (P 1 (c / 6) * 24) := pk_mul _ 24
                rw [a, nI_add]
                have b : nI (P 1 (c / 6) * 24 + P 5 (P 1 (c / 6))) - 1 = nI (P 1 (c / 6) * 24 + P 5 (P 1 (c / 6)) - 1) := pk_sub (b := 1) (by omega)
                rw [b, st_x]; rfl
              rw [e]
              exact st_c cl uc r ht h
        · have m := two (by omega)
          rw [nI_clamp (by omega), n1, q] at m
          rw [nI_clamp (by omega), n1, q]
          exact br_f (by decide) (br_f (by decide) (br_f (by decide) (br_f (by decide) (br_f (by decide) (br_f (by decide) (br_f (by decide) (br_f (by decide) (br_f (by decide) m))))))))
        · have m := two (by omega)
          rw [nI_clamp (by omega), n1, q] at m
          rw [nI_clamp (by omega), n1, q]
          exact br_f (by decide) (br_f (by decide) (br_f (by decide) (br_f (by decide) (br_f (by decide) (br_f (by decide) (br_f (by decide) (br_f (by decide) (br_f (by decide) m))))))))
        · have m := two (by omega)
          rw [nI_clamp (by omega), n1, q] at m
          rw [nI_clamp (by omega), n1, q]
          exact br_f (by decide) (br_f (by decide) (br_f (by decide) (br_f (by decide) (br_f (by decide) (br_f (by decide) (br_f (by decide) (br_f (by decide) (br_f (by decide) m))))))))
        · have m := two (by omega)
          rw [nI_clamp (by omega), n1, q] at m
          rw [nI_clamp (by omega), n1, q]
          exact br_f (by decide) (br_f (by decide) (br_f (by decide) (br_f (by decide) (br_f (by decide) (br_f (by decide) (br_f (by decide) (br_f (by decide) (br_f (by decide) m))))))))
        · have m := two (by omega)
          rw [nI_clamp (by omega), n1, q] at m
          rw [nI_clamp (by omega), n1, q]
          exact br_f (by decide) (br_f (by decide) (br_f (by decide) (br_f (by decide) (br_f (by decide) (br_f (by decide) (br_f (by decide) (br_f (by decide) (br_f (by decide) m))))))))
        · have m := two (by omega)
          rw [nI_clamp (by omega), n1, q] at m
          rw [nI_clamp (by omega), n1, q]
          exact br_f (by decide) (br_f (by decide) (br_f (by decide) (br_f (by decide) (br_f (by decide) (br_f (by decide) (br_f (by decide) (br_f (by decide) (br_f (by decide) m))))))))
        · have m := two (by omega)
          rw [nI_clamp (by omega), n1, q] at m
          rw [nI_clamp (by omega), n1, q]
          exact br_f (by decide) (br_f (by decide) (br_f (by decide) (br_f (by decide) (br_f (by decide) (br_f (by decide) (br_f (by decide) (br_f (by decide) (br_f (by decide) m))))))))
        · -- and
          have b3 := ub (by rw [q]; decide)
          rw [q]
          refine br_f (by decide) (br_f (by decide) (br_f (by decide) (br_t rfl ⟨hina, ?_⟩)))
          rw [re]
          by_cases z : o.2.2 = 0
          · exact br_t z (st_c cl ua (by rw [ru_21 q ha h1, if_pos z, ha]) ht h)
          · exact br_f z (st_c cl b3 (by rw [ru_21 q ha h1, if_neg z]) ht h)
        · -- or
          have b3 := ub (by rw [q]; decide)
          rw [q]
          refine br_f (by decide) (br_f (by decide) (br_f (by decide) (br_f (by decide) (br_t rfl ⟨hina, ?_⟩))))
          rw [re]
          by_cases z : o.2.2 = 0
          · exact br_t z (st_c cl b3 (by rw [ru_22 q ha h1, if_pos z]) ht h)
          · exact br_f z (st_c cl ua (by rw [ru_22 q ha h1, if_neg z, ha]) ht h)
        · -- not
          have r := ru_23 (Or.inl q) ha h1
          rw [q]
          refine br_f (by decide) (br_f (by decide) (br_t rfl ⟨hina, ?_⟩))
          rw [nI_clamp (by omega), re]
          by_cases z : o.2.2 = 0
          · rw [if_pos z] at r; exact br_t z (st_g cl r rfl rfl h)
          · rw [if_neg z] at r; exact br_f z (st_g cl r rfl rfl h)
        · exact absurd (by rw [q]; rfl) nl
        · -- negate
          have r := ru_28 q ha h1
          rw [q]
          refine br_t rfl ⟨hina, ?_⟩
          rw [re]
          exact st_g cl r rfl rfl h
      · have o5 : o.1 < 6 := by
          rcases ty with w | w
          · exact absurd w.1 h1
          · have := w.1; omega
        exact br_f (fun w => h1 ((nI_eq (b := 1) (by omega) (by decide)).mp w)) (st_c cl ua (by rw [ru_e nl ha n6 h1, ha]) ht h)
  by_cases t6 : P 0 (c / 6) = 6
  · -- try
    have ua : ou_uc P (ou_ps P 2 c) := ru_p (j := 0) p1 hu (by rw [t6]; decide)
    have ub : ou_uc P (ou_ps P 3 c) := ru_p (j := 1) p1 hu (by rw [t6]; decide)
    have al := ou_uc_lt ua
    have hina := vp_in_nI (n := ou_ps P 2 c) (N := 720) al (by decide)
    obtain ⟨t0, t1⟩ := ht _ ua
    rw [t6]
    refine br_f (by decide) (br_f (by decide) (br_f (by decide) (br_f (by decide) (br_f (by decide) (br_t rfl ?_)))))
    intro x3 e3
    rw [st_x, ec] at e3
    subst e3
    rw [e30]
    refine ⟨vp_in_nI (by omega) (by decide), fun x4 e4 => ⟨by rw [e31]; exact vp_in_nI (by omega) (by decide), fun x5 e5 => ⟨?_, ?_⟩⟩⟩
    · rw [nI_clamp (by omega), n3, st_x, eps] at e4
      rw [e4]; exact hina
    · rw [nI_clamp (by omega), n3, st_x, eps] at e4
      rw [e31, nI_clamp (by omega), n4, st_x, eps] at e5
      subst e4 e5
      rw [nI_clamp (by omega)]
      cases ha : T (ou_ps P 2 c) with
      | none =>
        rw [t0 ha]
        exact br_f (by decide) ⟨hina, br_f (by decide) ⟨hina, br_f (by decide) (br_t rfl (st_c cl ua (by rw [ru_n (by rw [t6]; decide) ha, ha]) ht h))⟩⟩
      | some o =>
        obtain ⟨s1, s2⟩ := t1 o ha
        have ty := ru_t p1 hv hT ha
        have r := ru_6 t6 ha
        rw [s1]
        rcases ty with ty | ty
        · rw [if_pos ty.1] at r
          rw [ty.1]
          exact br_f (by decide) ⟨hina, br_f (by decide) ⟨hina, br_f (by decide) (br_t rfl (st_c cl ua (by rw [r, ha]) ht h))⟩⟩
        · rw [if_neg (by omega)] at r
          have cp : wX_settleTry_72 (fun u => match u with | (f_width9, f_textLength9, f_foundPlace9, f_tokenCount9, f_frameCount9, f_operandCount9, f_defCount9, f_nodeEnd9, a_text9, a_tokenCode9, a_tokenPlace9, a_frameCode9, a_framePlace9, a_operand9, a_defPlace9, a_defFirst9, a_defEnd9, a_nodeOp9, a_nodeNumber9, a_nodePlace9, a_nodeDepth9, a_nodeKind9, a_part9, a_size9, a_kindFound9, a_choice9, a_status9, a_result9, a_slotFunction9, a_slotArgument9) => post (f_width9, f_textLength9, f_foundPlace9, f_tokenCount9, f_frameCount9, f_operandCount9, f_defCount9, f_nodeEnd9, a_text9, a_tokenCode9, a_tokenPlace9, a_frameCode9, a_framePlace9, a_operand9, a_defPlace9, a_defFirst9, a_defEnd9, a_nodeOp9, a_nodeNumber9, a_nodePlace9, a_nodeDepth9, a_nodeKind9, a_part9, a_size9, a_kindFound9, a_choice9, a_status9, a_result9, a_slotFunction9, a_slotArgument9)) (nI c) (nI (ou_ps P 2 c)) (nI (ou_ps P 3 c)) f_width f_textLength f_foundPlace f_tokenCount f_frameCount f_operandCount f_defCount f_nodeEnd a_text a_tokenCode a_tokenPlace a_frameCode a_framePlace a_operand a_defPlace a_defFirst a_defEnd a_nodeOp a_nodeNumber a_nodePlace a_nodeDepth a_nodeKind a_part a_size a_kindFound a_choice a_status a_result a_slotFunction a_slotArgument := bq_1 (st_c cl ub r ht h)
          rcases ty.1 with w | w | w <;> rw [w]
          · exact br_t rfl cp
          · exact br_f (by decide) ⟨hina, br_t rfl cp⟩
          · exact br_f (by decide) ⟨hina, br_f (by decide) ⟨hina, br_t rfl cp⟩⟩
  · by_cases lf : ou_lf (P 0 (c / 6)) = true
    · have r := ru_l (T := T) lf
      have hh : P 0 (c / 6) = 1 ∨ P 0 (c / 6) = 2 ∨ P 0 (c / 6) = 10 ∨ P 0 (c / 6) = 11 ∨ P 0 (c / 6) = 12 ∨ P 0 (c / 6) = 24 := by
        simp [ou_lf] at lf; omega
      rcases hh with q | q | q | q | q | q <;> unfold ou_lv at r
      · rw [if_pos q] at r
        rw [q]
        refine br_t rfl ⟨hinu, ?_⟩
        have := o2 q
        rw [nI_clamp (by omega), n2, nI_l (by omega)]
        exact st_g cl r rfl rfl h
      · rw [if_neg (by omega), if_pos q] at r
        rw [q]
        refine br_f (by decide) (br_f (by decide) (br_t rfl ?_))
        rw [nI_l (by omega)]
        exact st_g cl r rfl rfl h
      · rw [if_neg (by omega), if_neg (by omega), if_pos q] at r
        rw [q]
        exact br_f (by decide) (br_f (by decide) (br_f (by decide) (br_f (by decide) (br_t rfl (st_g cl r rfl rfl h)))))
      · rw [if_neg (by omega), if_neg (by omega), if_neg (by omega), if_pos q] at r
        rw [q]
        exact br_f (by decide) (br_f (by decide) (br_f (by decide) (br_f (by decide) (br_f (by decide) (br_f (by decide) (br_t rfl (st_g cl r rfl rfl h)))))))
      · rw [if_neg (by omega), if_neg (by omega), if_neg (by omega), if_neg (by omega), if_pos q] at r
        rw [q]
        exact br_f (by decide) (br_f (by decide) (br_f (by decide) (br_t rfl (st_g cl r rfl rfl h))))
      · rw [if_neg (by omega), if_neg (by omega), if_neg (by omega), if_neg (by omega), if_neg (by omega)] at r
        rw [q]
        refine br_f (by decide) (br_t rfl ?_)
        rw [nI_1, nI_l (by omega)]
        exact st_g cl r rfl rfl h
    · have m := strict lf t6
      have cs := ky_23 o1
      rcases cs with q | q | q | q | q | q | q | q | q | q | q | q | q | q | q | q | q | q | q | q | q | q | q
      · exact absurd (by rw [q]; rfl) lf
      · exact absurd (by rw [q]; rfl) lf
      · exact absurd (by rw [q]; rfl) lf
      · exact absurd (by rw [q]; rfl) lf
      · exact absurd (by rw [q]; rfl) lf
      · rw [q]; exact br_f (by decide) (br_f (by decide) (br_f (by decide) (br_f (by decide) (br_f (by decide) (br_f (by decide) (br_f (by decide) m))))))
      · exact absurd q t6
      · rw [q]; exact br_f (by decide) (br_f (by decide) (br_f (by decide) (br_f (by decide) (br_f (by decide) (br_f (by decide) (br_f (by decide) m))))))
      · rw [q]; exact br_f (by decide) (br_f (by decide) (br_f (by decide) (br_f (by decide) (br_f (by decide) (br_f (by decide) (br_f (by decide) m))))))
      · rw [q]; exact br_f (by decide) (br_f (by decide) (br_f (by decide) (br_f (by decide) (br_f (by decide) (br_f (by decide) (br_f (by decide) m))))))
      · rw [q]; exact br_f (by decide) (br_f (by decide) (br_f (by decide) (br_f (by decide) (br_f (by decide) (br_f (by decide) (br_f (by decide) m))))))
      · rw [q]; exact br_f (by decide) (br_f (by decide) (br_f (by decide) (br_f (by decide) (br_f (by decide) (br_f (by decide) (br_f (by decide) m))))))
      · rw [q]; exact br_f (by decide) (br_f (by decide) (br_f (by decide) (br_f (by decide) (br_f (by decide) (br_f (by decide) (br_f (by decide) m))))))
      · rw [q]; exact br_f (by decide) (br_f (by decide) (br_f (by decide) (br_f (by decide) (br_f (by decide) (br_f (by decide) (br_f (by decide) m))))))
      · rw [q]; exact br_f (by decide) (br_f (by decide) (br_f (by decide) (br_f (by decide) (br_f (by decide) (br_f (by decide) (br_f (by decide) m))))))
      · rw [q]; exact br_f (by decide) (br_f (by decide) (br_f (by decide) (br_f (by decide) (br_f (by decide) (br_f (by decide) (br_f (by decide) m))))))
      · rw [q]; exact br_f (by decide) (br_f (by decide) (br_f (by decide) (br_f (by decide) (br_f (by decide) (br_f (by decide) (br_f (by decide) m))))))
      · rw [q]; exact br_f (by decide) (br_f (by decide) (br_f (by decide) (br_f (by decide) (br_f (by decide) (br_f (by decide) (br_f (by decide) m))))))
      · rw [q]; exact br_f (by decide) (br_f (by decide) (br_f (by decide) (br_f (by decide) (br_f (by decide) (br_f (by decide) (br_f (by decide) m))))))
      · rw [q]; exact br_f (by decide) (br_f (by decide) (br_f (by decide) (br_f (by decide) (br_f (by decide) (br_f (by decide) (br_f (by decide) m))))))
      · rw [q]; exact br_f (by decide) (br_f (by decide) (br_f (by decide) (br_f (by decide) (br_f (by decide) (br_f (by decide) (br_f (by decide) m))))))
      · exact absurd (by rw [q]; rfl) lf
      · rw [q]; exact br_f (by decide) (br_f (by decide) (br_f (by decide) (br_f (by decide) (br_f (by decide) (br_f (by decide) (br_f (by decide) m))))))
end
end
section
-- X finds all outcomes
theorem fo_t {P : Nat → Nat → Nat} {T : Nat → Option ou_O} {c : Nat} {st st2 : Nat → Int32} {re re2 : Nat → Int64} (hu : ou_uc P c) (hn : T c = none) (ht : rl_tX P T st re) (hk : ∀ i, i ≠ c → st2 i = st i ∧ re2 i = re i)
    (h0 : ou_rl P T c = none → st2 c = 2) (h1 : ∀ o, ou_rl P T c = some o → st2 c = nI o.1 ∧ (o.1 = 1 → re2 c = o.2.2)) : rl_tX P (ps_u P T c) st2 re2 := by
  intro d hd
  by_cases e : d = c
  · subst e
    rw [ps_us hn hu]
    exact ⟨h0, h1⟩
  · rw [ps_un e, (hk d e).1, (hk d e).2]
    exact ht d hd
section
variable {f_width f_textLength f_foundPlace f_tokenCount f_frameCount f_operandCount f_defCount f_nodeEnd : Int32} {a_text a_tokenCode a_tokenPlace a_frameCode a_framePlace a_operand a_defPlace a_defFirst a_defEnd a_nodeOp a_nodeNumber a_nodePlace a_nodeDepth a_nodeKind a_part a_size a_kindFound a_choice a_status : Nat → Int32} {a_result : Nat → Int64} {a_slotFunction a_slotArgument : Nat → Int32} {P : Nat → Nat → Nat} {c0 : Nat}
theorem iu_X (hP : xl_P P a_size a_nodeOp a_nodeNumber a_nodePlace a_part) (hw : f_width = nI (P 6 0)) {c : Nat} (hc : c < 720) {post : Int32 → Prop} (h1 : ou_uc P c → post 1) (h0 : ¬ ou_uc P c → post 0) : wpX_isInUse post (f_width, f_textLength, f_foundPlace, f_tokenCount, f_frameCount, f_operandCount, f_defCount, f_nodeEnd, a_text, a_tokenCode, a_tokenPlace, a_frameCode, a_framePlace, a_operand, a_defPlace, a_defFirst, a_defEnd, a_nodeOp, a_nodeNumber, a_nodePlace, a_nodeDepth, a_nodeKind, a_part, a_size, a_kindFound, a_choice, a_status, a_result, a_slotFunction, a_slotArgument) (nI c) := by
  obtain ⟨p1, p2, p3, p4, p5⟩ := hP
  have ed : nI c / 6 = nI (c / 6) := pk_div (d := 6) (by omega) (by decide) (by decide)
  have er : nI c - nI c / 6 * 6 = nI (c % 6) := pk_rem (d := 6) (by omega) (by decide) (by decide)
  have ed2 : nI (c / 6) / 24 = nI (c / 6 / 24) := pk_div (d := 24) (by omega) (by decide) (by decide)
  have er2 : nI (c / 6) - nI (c / 6) / 24 * 24 = nI (c / 6 % 24) := pk_rem (d := 24) (by omega) (by decide) (by decide)
  have w6 := p1.2.1
  have f5 : c / 6 / 24 < 5 := by omega
  refine ⟨by decide, fun y ey => ⟨by decide, ?_⟩⟩
  rw [ed] at ey
  subst ey
  rw [er, hw]
  refine pk_le (P 6 0) (c % 6) (fun q => h0 (fun w => by have := w.2; omega)) (fun q => ⟨by decide, by decide, ?_⟩)
  rw [er2, ed2]
  refine ⟨vp_in_nI f5 (by decide), ?_⟩
  have s24 := p1.2.2.1 (c / 6 / 24)
  rw [nI_clamp (by omega), p3 _ f5]
  exact pk_le (P 5 (c / 6 / 24)) (c / 6 % 24) (fun q2 => h0 (fun w => by have := w.1.2; omega)) (fun q2 => h1 ⟨⟨by omega, q2⟩, q⟩)
theorem fo_X (hP : xl_P P a_size a_nodeOp a_nodeNumber a_nodePlace a_part) (hw : f_width = nI (P 6 0)) (hv : rl_V P c0) {post : SX → Prop}
    (h : ∀ st re, rl_tX P (ou_E P) st re → post (f_width, f_textLength, f_foundPlace, f_tokenCount, f_frameCount, f_operandCount, f_defCount, f_nodeEnd, a_text, a_tokenCode, a_tokenPlace, a_frameCode, a_framePlace, a_operand, a_defPlace, a_defFirst, a_defEnd, a_nodeOp, a_nodeNumber, a_nodePlace, a_nodeDepth, a_nodeKind, a_part, a_size, a_kindFound, a_choice, st, re, a_slotFunction, a_slotArgument)) : wpX_findOutcomes post (f_width, f_textLength, f_foundPlace, f_tokenCount, f_frameCount, f_operandCount, f_defCount, f_nodeEnd, a_text, a_tokenCode, a_tokenPlace, a_frameCode, a_framePlace, a_operand, a_defPlace, a_defFirst, a_defEnd, a_nodeOp, a_nodeNumber, a_nodePlace, a_nodeDepth, a_nodeKind, a_part, a_size, a_kindFound, a_choice, a_status, a_result, a_slotFunction, a_slotArgument) := by
  have ls : ∀ (T : Nat → Option ou_O) (o : ou_O) d, ps_s P T → T d = some o → o.1 < 6 ∧ o.1 ≠ 2 := by
    intro T o d hT hd
    rcases ru_t hP.1 hv hT hd with q | q
    · omega
    · have := q.1; omega
  -- one pass
  have inner : ∀ (A : Nat → Option ou_O) (n26 : Nat) (x2 : Nat) (J : Int32 → Int32 → Int32 → Int32 → Int32 → Int32 → Int32 → Int32 → Int32 → Int32 → (Nat → Int32) → (Nat → Int32) → (Nat → Int32) → (Nat → Int32) → (Nat → Int32) → (Nat → Int32) → (Nat → Int32) → (Nat → Int32) → (Nat → Int32) → (Nat → Int32) → (Nat → Int32) → (Nat → Int32) → (Nat → Int32) → (Nat → Int32) → (Nat → Int32) → (Nat → Int32) → (Nat → Int32) → (Nat → Int32) → (Nat → Int32) → (Nat → Int64) → (Nat → Int32) → (Nat → Int32) → Prop),
      (∀ T st re (s : Prop) (x1 : Int32), ps_I P A (fun c => c < 720) T s → rl_tX P T st re → (s → x1 = 1) → (¬ s → x1 = 0) → J x1 (nI (x2 + 1)) f_width f_textLength f_foundPlace f_tokenCount f_frameCount f_operandCount f_defCount f_nodeEnd a_text a_tokenCode a_tokenPlace a_frameCode a_framePlace a_operand a_defPlace a_defFirst a_defEnd a_nodeOp a_nodeNumber a_nodePlace a_nodeDepth a_nodeKind a_part a_size a_kindFound a_choice st re a_slotFunction a_slotArgument) →
      ∀ d c T st re (s : Prop) (x1 : Int32), c + d = 720 → ps_I P A (fun i => i < c) T s → rl_tX P T st re → (s → x1 = 1) → (¬ s → x1 = 0) → ∀ n, d < n →
        wX_findOutcomes_41 post J (nI x2) n x1 (nI c) f_width f_textLength f_foundPlace f_tokenCount f_frameCount f_operandCount f_defCount f_nodeEnd a_text a_tokenCode a_tokenPlace a_frameCode a_framePlace a_operand a_defPlace a_defFirst a_defEnd a_nodeOp a_nodeNumber a_nodePlace a_nodeDepth a_nodeKind a_part a_size a_kindFound a_choice st re a_slotFunction a_slotArgument := by
    intro A n26 x2 J hJ d
    induction d with
    | zero =>
      intro c T st re s x1 hc I ht hs1 hs0 n hn
      obtain ⟨n, rfl⟩ : ∃ w, n = w + 1 := ⟨n - 1, by omega⟩
      have : c = 720 := by omega
      subst this
      refine br_t (nI_le (a := 720) (by decide) (by decide)) (fun y ey => ?_)
      rw [ey, nI_1]
      exact hJ T st re s x1 I ht hs1 hs0
    | succ d ih =>
      intro c T st re s x1 hc I ht hs1 hs0 n hn
      obtain ⟨n, rfl⟩ : ∃ w, n = w + 1 := ⟨n - 1, by omega⟩
      have c720 : c < 720 := by omega
      have hin := vp_in_nI (n := c) (N := 720) c720 (by decide)
      have skip : ¬ (T c = none ∧ ou_uc P c) → ∀ y, y = nI c + 1 → wX_findOutcomes_41 post J (nI x2) n x1 y f_width f_textLength f_foundPlace f_tokenCount f_frameCount f_operandCount f_defCount f_nodeEnd a_text a_tokenCode a_tokenPlace a_frameCode a_framePlace a_operand a_defPlace a_defFirst a_defEnd a_nodeOp a_nodeNumber a_nodePlace a_nodeDepth a_nodeKind a_part a_size a_kindFound a_choice st re a_slotFunction a_slotArgument := by
        intro hn2 y ey
        rw [ey, nI_1]
        have I2 := ps_st (Y := fun i => i < c + 1) (t := s) (c := c) I c720 (fun i hi => by
          by_cases e : i = c
          · exact Or.inr e
          · exact Or.inl (by omega)) ⟨fun q => Or.inl q, fun q => q.elim id (fun w => absurd ⟨w.1, w.2.1⟩ hn2)⟩
        rw [ps_uk hn2] at I2
        exact ih (c + 1) T st re s x1 (by omega) I2 ht hs1 hs0 n (by omega)
      refine br_f (nI_ge (b := 720) c720 (by decide)) ⟨hin, ?_⟩
      rw [nI_clamp (by omega)]
      refine br_c (fun e2 => ?_) (fun e2 => skip (fun q => e2 ((ht c q.2).1 q.1)))
      refine iu_X hP hw c720 (fun hu => bq_1 ⟨by decide, by decide, ?_⟩) (fun hu => br_t rfl (skip (fun q => hu q.2)))
      have tn : T c = none := by
        cases hh : T c with
        | none => rfl
        | some o =>
          have := (ht c hu).2 o hh
          rw [this.1] at e2
          have l := ls T o c I.1 hh
          have := (nI_eq (b := 2) (by omega) (by decide)).mp e2
          omega
      have ed : nI c / 6 = nI (c / 6) := pk_div (d := 6) (by omega) (by decide) (by decide)
      have er : nI c - nI c / 6 * 6 = nI (c % 6) := pk_rem (d := 6) (by omega) (by decide) (by decide)
      rw [er, ed]
      refine st_X (T := T) hP hw hv I.1 ht hu (fun st2 re2 hk h0 h1 => ⟨hin, ?_⟩)
      have ht2 := fo_t hu tn ht hk h0 h1
      have goY : ∀ i, i < c + 1 → i < c ∨ i = c := fun i hi => by omega
      cases hr : ou_rl P T c with
      | none =>
        refine br_t (h0 hr) (fun y ey z ez => ?_)
        have e0 : x1 ||| 0 = x1 := by simp
        rw [e0] at ey
        rw [nI_1] at ez
        subst ey ez
        refine ih (c + 1) _ st2 re2 s y (by omega) (ps_st (Y := fun i => i < c + 1) (t := s) I c720 goY ⟨fun q => Or.inl q, fun q => q.elim id (fun w => absurd hr w.2.2)⟩) ht2 hs1 hs0 n (by omega)
      | some o =>
        have so := (h1 o hr).1
        have l := ls (ps_u P T c) o c (ps_uS I.1) (by rw [ps_us tn hu]; exact hr)
        refine br_f (fun q => by rw [so] at q; have := (nI_eq (b := 2) (by omega) (by decide)).mp q; omega) (fun y ey z ez => ?_)
        have e1 : x1 ||| 1 = 1 := by
          by_cases q : s
          · rw [hs1 q]; decide
          · rw [hs0 q]; decide
        rw [e1] at ey
        rw [nI_1] at ez
        subst ey ez
        exact ih (c + 1) _ st2 re2 True 1 (by omega) (ps_st (Y := fun i => i < c + 1) (t := True) I c720 goY ⟨fun _ => Or.inr ⟨tn, hu, by rw [hr]; simp⟩, fun _ => trivial⟩) ht2 (fun _ => rfl) (fun q => absurd trivial q) n (by omega)
  -- the passes
  have outer : ∀ m T st re p, ps_s P T → rl_tX P T st re → ct_n (fun c => (T c).isNone) 720 ≤ m → p + m ≤ 720 → ∀ n, m + 1 < n →
      wX_findOutcomes_26 post n 1 (nI p) f_width f_textLength f_foundPlace f_tokenCount f_frameCount f_operandCount f_defCount f_nodeEnd a_text a_tokenCode a_tokenPlace a_frameCode a_framePlace a_operand a_defPlace a_defFirst a_defEnd a_nodeOp a_nodeNumber a_nodePlace a_nodeDepth a_nodeKind a_part a_size a_kindFound a_choice st re a_slotFunction a_slotArgument := by
    intro m
    induction m with
    | zero =>
      intro T st re p hT ht hm hp n hn
      obtain ⟨n, rfl⟩ : ∃ w, n = w + 1 + 1 := ⟨n - 2, by omega⟩
      refine br_f (nI_nlt (a := 720) (by omega) (by omega)) (bq_1 ⟨721, inner T 0 p _ (fun T2 st2 re2 s x1 I ht2 s1 s0 => ?_) 720 0 T st re False 0 rfl ⟨hT, fun _ _ q => q, fun q => q.elim, fun _ => ⟨rfl, fun c hc => by omega⟩⟩ ht (fun q => q.elim) (fun _ => rfl) 721 (by decide)⟩)
      have ns : ¬ s := fun q => by have := ps_n I q; omega
      obtain ⟨e, cl⟩ := I.2.2.2 ns
      have cl2 : ∀ c, ou_uc P c → T2 c = none → ou_rl P T2 c = none := fun c hu q => by
        rw [e] at q ⊢; exact cl c (ou_uc_lt hu) hu q
      rw [s0 ns]
      have E := ps_f I.1 cl2
      rw [E] at ht2
      exact br_c (fun _ => h st2 re2 ht2) (fun _ => br_t rfl (h st2 re2 ht2))
    | succ m ih =>
      intro T st re p hT ht hm hp n hn
      obtain ⟨n, rfl⟩ : ∃ w, n = w + 1 + 1 := ⟨n - 2, by omega⟩
      refine br_f (nI_nlt (a := 720) (by omega) (by omega)) (bq_1 ⟨721, inner T 0 p _ (fun T2 st2 re2 s x1 I ht2 s1 s0 => ?_) 720 0 T st re False 0 rfl ⟨hT, fun _ _ q => q, fun q => q.elim, fun _ => ⟨rfl, fun c hc => by omega⟩⟩ ht (fun q => q.elim) (fun _ => rfl) 721 (by decide)⟩)
      by_cases q : s
      · have := ps_n I q
        rw [s1 q]
        exact ih T2 st2 re2 (p + 1) I.1 ht2 (by omega) (by omega) (n + 1) (by omega)
      · obtain ⟨e, cl⟩ := I.2.2.2 q
        have cl2 : ∀ c, ou_uc P c → T2 c = none → ou_rl P T2 c = none := fun c hu q => by
          rw [e] at q ⊢; exact cl c (ou_uc_lt hu) hu q
        rw [s0 q]
        have E := ps_f I.1 cl2
        rw [E] at ht2
        exact br_c (fun _ => h st2 re2 ht2) (fun _ => br_t rfl (h st2 re2 ht2))
  -- the table is cleared
  have clr : ∀ d c st, c + d = 720 → (∀ i, i < c → st i = 2) → ∀ n, d < n → wX_findOutcomes_2 post f_width f_textLength f_foundPlace f_tokenCount f_frameCount f_operandCount f_defCount f_nodeEnd n (nI c) a_text a_tokenCode a_tokenPlace a_frameCode a_framePlace a_operand a_defPlace a_defFirst a_defEnd a_nodeOp a_nodeNumber a_nodePlace a_nodeDepth a_nodeKind a_part a_size a_kindFound a_choice st a_result a_slotFunction a_slotArgument := by
    intro d
    induction d with
    | zero =>
      intro c st hc hs n hn
      obtain ⟨n, rfl⟩ : ∃ w, n = w + 1 := ⟨n - 1, by omega⟩
      have : c = 720 := by omega
      subst this
      exact br_t (nI_le (a := 720) (by decide) (by decide)) ⟨_, outer 720 (fun _ => none) st a_result 0 (fun c o q => absurd q (by simp)) (fun c hu => ⟨fun _ => hs c (ou_uc_lt hu), fun o q => absurd q (by simp)⟩) (ct_le _ _) (by omega) 722 (by decide)⟩
    | succ d ih =>
      intro c st hc hs n hn
      obtain ⟨n, rfl⟩ : ∃ w, n = w + 1 := ⟨n - 1, by omega⟩
      refine br_f (nI_ge (b := 720) (by omega) (by decide)) ⟨vp_in_nI (by omega) (by decide), fun A eA y ey => ?_⟩
      rw [nI_clamp (by omega)] at eA
      rw [nI_1] at ey
      subst eA ey
      refine ih (c + 1) _ (by omega) (fun i hi => ?_) n (by omega)
      by_cases e : i = c
      · rw [e, pk_us]
      · rw [pk_un e]; exact hs i (by omega)
  exact ⟨_, clr 720 0 a_status rfl (fun i hi => by omega) 721 (by decide)⟩
end
end
section
-- Y finds a cell
def yo_P (P : Nat → Nat → Nat) (g : Nat → Nat) (o : ou_O) (s : Int32) (n : Int64) (q : Int32) : Prop :=
  s = nI o.1 ∧ (o.1 = 1 → (o.2.1 ≠ 3 → n = o.2.2) ∧ (o.2.1 = 3 → (o.2.2 = 0 → n = 0) ∧ (o.2.2 ≠ 0 → n = 1 ∧ ∃ k, ou_uc P k ∧ q = nI k ∧ rl_gc g k = ou_jn o.2.2)))
section
variable {f_width f_length f_place f_toks f_nodes f_defs : Int32} {a_text a_tok a_tokNum a_tokPlace a_opened a_nOp a_nNum a_nPlace a_nA a_nB a_nC a_nLo a_nHi a_nLevel a_defName a_defPlace a_defRoot a_loaded a_count a_status : Nat → Int32} {a_number : Nat → Int64} {a_origin a_choice a_slotF a_slotX a_slotHeld : Nat → Int32} {P : Nat → Nat → Nat} {T : Nat → Option ou_O} {d c0 : Nat} {g : Nat → Nat} {post : SY → Prop}
theorem fd_d (hd : d < 720) {o : ou_O} {v : Int64} (hr : ou_rl P T (rl_gc g d) = some o) (ho : yo_P P g o 1 v (a_origin d)) (h : ∀ st nu og, (∀ i, i ≠ d → st i = a_status i ∧ nu i = a_number i ∧ og i = a_origin i) → (ou_rl P T (rl_gc g d) = none → st d = 0) → (∀ o, ou_rl P T (rl_gc g d) = some o → yo_P P g o (st d) (nu d) (og d)) → post (f_width, f_length, f_place, f_toks, f_nodes, f_defs, a_text, a_tok, a_tokNum, a_tokPlace, a_opened, a_nOp, a_nNum, a_nPlace, a_nA, a_nB, a_nC, a_nLo, a_nHi, a_nLevel, a_defName, a_defPlace, a_defRoot, a_loaded, a_count, st, nu, og, a_choice, a_slotF, a_slotX, a_slotHeld)) : wpY_done post (f_width, f_length, f_place, f_toks, f_nodes, f_defs, a_text, a_tok, a_tokNum, a_tokPlace, a_opened, a_nOp, a_nNum, a_nPlace, a_nA, a_nB, a_nC, a_nLo, a_nHi, a_nLevel, a_defName, a_defPlace, a_defRoot, a_loaded, a_count, a_status, a_number, a_origin, a_choice, a_slotF, a_slotX, a_slotHeld) (nI d) v := by
  have hin := vp_in_nI (n := d) (N := 720) hd (by decide)
  refine ⟨hin, fun A eA => ⟨hin, fun B eB => ?_⟩⟩
  rw [nI_clamp (by omega)] at eA eB
  subst eA eB
  refine h _ _ _ (fun i hi => ⟨pk_un hi, pk_uLn hi, rfl⟩) (fun q => by rw [hr] at q; exact absurd q (by simp)) (fun o2 q => ?_)
  rw [hr] at q
  have := Option.some.inj q
  subst this
  rw [pk_us, pk_uLs]; exact ho
theorem fd_s (hd : d < 720) {o : ou_O} {s : Nat} (hr : ou_rl P T (rl_gc g d) = some o) (ho : o.1 = s) (hs : s ≠ 1) (h : ∀ st nu og, (∀ i, i ≠ d → st i = a_status i ∧ nu i = a_number i ∧ og i = a_origin i) → (ou_rl P T (rl_gc g d) = none → st d = 0) → (∀ o, ou_rl P T (rl_gc g d) = some o → yo_P P g o (st d) (nu d) (og d)) → post (f_width, f_length, f_place, f_toks, f_nodes, f_defs, a_text, a_tok, a_tokNum, a_tokPlace, a_opened, a_nOp, a_nNum, a_nPlace, a_nA, a_nB, a_nC, a_nLo, a_nHi, a_nLevel, a_defName, a_defPlace, a_defRoot, a_loaded, a_count, st, nu, og, a_choice, a_slotF, a_slotX, a_slotHeld)) : vp_in (nI d) 720 ∧ ∀ A, A = upd a_status (nI d).toNatClampNeg (nI s) → post (f_width, f_length, f_place, f_toks, f_nodes, f_defs, a_text, a_tok, a_tokNum, a_tokPlace, a_opened, a_nOp, a_nNum, a_nPlace, a_nA, a_nB, a_nC, a_nLo, a_nHi, a_nLevel, a_defName, a_defPlace, a_defRoot, a_loaded, a_count, A, a_number, a_origin, a_choice, a_slotF, a_slotX, a_slotHeld) := by
  have hin := vp_in_nI (n := d) (N := 720) hd (by decide)
  refine ⟨hin, fun A eA => ?_⟩
  rw [nI_clamp (by omega)] at eA
  subst eA
  refine h _ _ _ (fun i hi => ⟨pk_un hi, rfl, rfl⟩) (fun q => by rw [hr] at q; exact absurd q (by simp)) (fun o2 q => ?_)
  rw [hr] at q
  have := Option.some.inj q
  subst this
  rw [pk_us]
  exact ⟨by rw [ho], fun q => absurd (ho ▸ q) hs⟩
theorem fd_c (hd : d < 720) {e : Nat} (he : ou_uc P e) (hr : ou_rl P T (rl_gc g d) = T (rl_gc g e)) (ht : rl_tY P g T a_status a_number a_origin) (h : ∀ st nu og, (∀ i, i ≠ d → st i = a_status i ∧ nu i = a_number i ∧ og i = a_origin i) → (ou_rl P T (rl_gc g d) = none → st d = 0) → (∀ o, ou_rl P T (rl_gc g d) = some o → yo_P P g o (st d) (nu d) (og d)) → post (f_width, f_length, f_place, f_toks, f_nodes, f_defs, a_text, a_tok, a_tokNum, a_tokPlace, a_opened, a_nOp, a_nNum, a_nPlace, a_nA, a_nB, a_nC, a_nLo, a_nHi, a_nLevel, a_defName, a_defPlace, a_defRoot, a_loaded, a_count, st, nu, og, a_choice, a_slotF, a_slotX, a_slotHeld)) : wpY_same post (f_width, f_length, f_place, f_toks, f_nodes, f_defs, a_text, a_tok, a_tokNum, a_tokPlace, a_opened, a_nOp, a_nNum, a_nPlace, a_nA, a_nB, a_nC, a_nLo, a_nHi, a_nLevel, a_defName, a_defPlace, a_defRoot, a_loaded, a_count, a_status, a_number, a_origin, a_choice, a_slotF, a_slotX, a_slotHeld) (nI d) (nI e) := by
  have hin := vp_in_nI (n := d) (N := 720) hd (by decide)
  have el := ou_uc_lt he
  have hie := vp_in_nI (n := e) (N := 720) el (by decide)
  refine ⟨hie, hin, fun A eA => ⟨hie, hin, fun B eB => ⟨hie, hin, fun C eC => ?_⟩⟩⟩
  rw [nI_clamp (n := d) (by omega), nI_clamp (n := e) (by omega)] at eA eB eC
  subst eA eB eC
  obtain ⟨t0, t1⟩ := ht e he
  refine h _ _ _ (fun i hi => ⟨pk_un hi, pk_uLn hi, pk_un hi⟩) (fun q => ?_) (fun o q => ?_)
  · rw [pk_us]; exact t0 (by rw [← hr]; exact q)
  · rw [pk_us, pk_uLs, pk_us]; exact t1 o (by rw [← hr]; exact q)
theorem fd_Y (hP : yl_P P g a_loaded a_count a_nOp a_nNum a_nA a_nB a_nC) (hw : f_width = nI (P 6 0)) (hv : rl_V P c0) (hT : ps_s P T) (ht : rl_tY P g T a_status a_number a_origin) (hu : ou_uc P d) (hn : T (rl_gc g d) = none)
    (h : ∀ st nu og, (∀ i, i ≠ d → st i = a_status i ∧ nu i = a_number i ∧ og i = a_origin i) → (ou_rl P T (rl_gc g d) = none → st d = 0) → (∀ o, ou_rl P T (rl_gc g d) = some o → yo_P P g o (st d) (nu d) (og d)) → post (f_width, f_length, f_place, f_toks, f_nodes, f_defs, a_text, a_tok, a_tokNum, a_tokPlace, a_opened, a_nOp, a_nNum, a_nPlace, a_nA, a_nB, a_nC, a_nLo, a_nHi, a_nLevel, a_defName, a_defPlace, a_defRoot, a_loaded, a_count, st, nu, og, a_choice, a_slotF, a_slotX, a_slotHeld)) : wpY_find post (f_width, f_length, f_place, f_toks, f_nodes, f_defs, a_text, a_tok, a_tokNum, a_tokPlace, a_opened, a_nOp, a_nNum, a_nPlace, a_nA, a_nB, a_nC, a_nLo, a_nHi, a_nLevel, a_defName, a_defPlace, a_defRoot, a_loaded, a_count, a_status, a_number, a_origin, a_choice, a_slotF, a_slotX, a_slotHeld) (nI (d / 6)) (nI (d % 6)) (nI d) := by
  obtain ⟨p1, p2, p3, p4, p5⟩ := hP
  have dl := ou_uc_lt hu
  have hid := vp_in_nI (n := d) (N := 720) dl (by decide)
  obtain ⟨gu, g24⟩ := p2.1 _ hu.1
  obtain ⟨n1, n2, n3, n4, n5⟩ := p5 _ hu.1
  obtain ⟨o1, o2, o3, o4⟩ := p1.2.2.2 _ gu
  have cd : rl_gc g d / 6 = g (d / 6) := by unfold rl_gc; omega
  have cm : rl_gc g d % 6 = d % 6 := by unfold rl_gc; omega
  have huc : ou_uc P (rl_gc g d) := by unfold ou_uc; rw [cd, cm]; exact ⟨gu, hu.2⟩
  have ccl := ou_uc_lt huc
  have u120 := hu.1.1
  have w6 := p1.2.1
  have hinr := vp_in_nI (n := d / 6) (N := 320) (by omega) (by decide)
  have x6 : ∀ a : Nat, nI a * 6 + nI (d % 6) = nI (a * 6 + d % 6) := fun a => st_x
  -- a part's cell
  have cell : ∀ k a, ou_us P a → g a = P k (g (d / 6)) → ou_uc P (a * 6 + d % 6) ∧ rl_gc g (a * 6 + d % 6) = ou_ps P k (rl_gc g d) := by
    intro k a ha hg
    have e1 : (a * 6 + d % 6) / 6 = a := by omega
    have e2 : (a * 6 + d % 6) % 6 = d % 6 := by omega
    refine ⟨⟨by rw [e1]; exact ha, by rw [e2]; exact hu.2⟩, ?_⟩
    unfold ou_ps
    rw [cd, cm]
    unfold rl_gc
    rw [e1, e2, hg]
  refine ⟨hinr, fun t et => ?_⟩
  rw [nI_clamp (by omega), n1] at et
  subst et
  have t28 : P 0 (g (d / 6)) ≤ 28 := o1.2.1
  have ne : ∀ {a b : Nat}, a ≤ 28 → b ≤ 28 → a ≠ b → ¬ nI a = nI b := fun h1 h2 h3 q => h3 ((nI_eq (by omega) (by omega)).mp q)
  by_cases lf : ou_lf (P 0 (g (d / 6))) = true
  · have r := ru_l (P := P) (T := T) (c := rl_gc g d) (by rw [cd]; exact lf)
    have hh : P 0 (g (d / 6)) = 1 ∨ P 0 (g (d / 6)) = 2 ∨ P 0 (g (d / 6)) = 10 ∨ P 0 (g (d / 6)) = 11 ∨ P 0 (g (d / 6)) = 12 ∨ P 0 (g (d / 6)) = 24 := by
      simp [ou_lf] at lf; omega
    unfold ou_lv at r
    rw [cd, cm] at r
    rcases hh with q | q | q | q | q | q
    · rw [if_pos q] at r
      rw [q]
      refine br_t rfl ⟨hinr, ?_⟩
      have := o2 q
      rw [nI_clamp (by omega), n2, nI_l (by omega)]
      exact fd_d dl r ⟨rfl, fun _ => ⟨fun _ => rfl, fun q => absurd q (by simp)⟩⟩ h
    · rw [if_neg (by omega), if_pos q] at r
      rw [q]
      refine br_f (by decide) (br_t rfl ?_)
      rw [nI_l (by omega)]
      exact fd_d dl r ⟨rfl, fun _ => ⟨fun _ => rfl, fun q => absurd q (by simp)⟩⟩ h
    · rw [if_neg (by omega), if_neg (by omega), if_pos q] at r
      rw [q]
      refine br_f (by decide) (br_f (by decide) (br_f (by decide) (br_f (by decide) (br_t rfl (br_f (by decide) ?_)))))
      refine fd_d dl r ⟨rfl, fun _ => ⟨fun q => absurd rfl q, fun _ => ⟨fun _ => rfl, fun q => absurd rfl q⟩⟩⟩ (fun st nu og k1 k2 k3 => ⟨hid, fun A eA => ?_⟩)
      rw [nI_clamp (by omega)] at eA
      subst eA
      refine h st nu _ (fun i hi => ⟨(k1 i hi).1, (k1 i hi).2.1, by rw [pk_un hi]; exact (k1 i hi).2.2⟩) k2 (fun o q2 => ?_)
      have k := k3 o q2
      rw [r] at q2
      have := Option.some.inj q2
      subst this
      exact ⟨k.1, fun w => ⟨(k.2 w).1, fun w2 => ⟨((k.2 w).2 w2).1, fun w3 => absurd rfl w3⟩⟩⟩
    · rw [if_neg (by omega), if_neg (by omega), if_neg (by omega), if_pos q] at r
      rw [q]
      refine br_f (by decide) (br_f (by decide) (br_t rfl (br_t rfl ?_)))
      exact fd_d dl r ⟨rfl, fun _ => ⟨fun _ => rfl, fun q => absurd q (by simp)⟩⟩ h
    · rw [if_neg (by omega), if_neg (by omega), if_neg (by omega), if_neg (by omega), if_pos q] at r
      rw [q]
      refine br_f (by decide) (br_f (by decide) (br_f (by decide) (br_t rfl (br_f (by decide) ?_))))
      exact fd_d dl r ⟨rfl, fun _ => ⟨fun _ => rfl, fun q => absurd q (by simp)⟩⟩ h
    · rw [if_neg (by omega), if_neg (by omega), if_neg (by omega), if_neg (by omega), if_neg (by omega)] at r
      rw [q]
      refine br_f (by decide) (br_f (by decide) (br_f (by decide) (br_f (by decide) (br_f (by decide) (br_t rfl (br_t rfl ?_))))))
      have nz : lN (rl_gc g d + 1) ≠ 0 := fun w => by
        have w : lN (rl_gc g d + 1) = lN 0 := w
        rw [lN_eq (by omega) (by omega)] at w; omega
      -- number first, then the origin
      refine ⟨hid, fun A eA => ⟨hid, fun B eB => ⟨hid, fun C eC => ?_⟩⟩⟩
      rw [nI_clamp (by omega)] at eA eB eC
      subst eA eB eC
      refine h _ _ _ (fun i hi => ⟨pk_un hi, pk_uLn hi, pk_un hi⟩) (fun q2 => by rw [r] at q2; exact absurd q2 (by simp)) (fun o q2 => ?_)
      rw [r] at q2
      have := Option.some.inj q2
      subst this
      rw [pk_us, pk_uLs, pk_us]
      exact ⟨rfl, fun _ => ⟨fun w => absurd rfl w, fun _ => ⟨fun w => absurd w nz, fun _ => ⟨rfl, d, hu, rfl, (ou_jn_e ccl).symm⟩⟩⟩⟩
  · have nl : ¬ ou_lf (P 0 (rl_gc g d / 6)) = true := by rw [cd]; exact lf
    have pn : 0 < pg_n (P 0 (g (d / 6))) := by
      unfold pg_n
      split
      · omega
      · split
        · rename_i q; exact absurd (by rcases q with q | q | q | q | q <;> rw [q] <;> rfl) lf
        · split <;> omega
    obtain ⟨a, a1, a2, a3⟩ := n3 pn
    obtain ⟨ua, ca⟩ := cell 2 a a2 a3
    have al := ou_uc_lt ua
    have hina := vp_in_nI (n := a * 6 + d % 6) (N := 720) al (by decide)
    obtain ⟨t0, t1⟩ := ht _ ua
    rw [ca] at t0 t1
    have strict : ∀ q : SY → Prop, True := fun _ => trivial
    have l1 : P 0 (g (d / 6)) ≠ 1 ∧ P 0 (g (d / 6)) ≠ 2 ∧ P 0 (g (d / 6)) ≠ 11 ∧ P 0 (g (d / 6)) ≠ 12 ∧ P 0 (g (d / 6)) ≠ 10 ∧ P 0 (g (d / 6)) ≠ 24 := by
      refine ⟨?_, ?_, ?_, ?_, ?_, ?_⟩ <;> intro q <;> exact lf (by rw [q]; rfl)
    refine br_f (ne (b := 1) t28 (by decide) l1.1) (br_f (ne (b := 2) t28 (by decide) l1.2.1) (br_f (ne (b := 11) t28 (by decide) l1.2.2.1) (br_f (ne (b := 12) t28 (by decide) l1.2.2.2.1) (br_f (ne (b := 10) t28 (by decide) l1.2.2.2.2.1) (br_f (ne (b := 24) t28 (by decide) l1.2.2.2.2.2) ⟨hinr, fun x5 e5 => ?_⟩)))))
    rw [nI_clamp (by omega), a1, x6] at e5
    subst e5
    refine ⟨hina, ?_⟩
    rw [nI_clamp (by omega)]
    cases ha : T (ou_ps P 2 (rl_gc g d)) with
    | none =>
      rw [t0 ha]
      refine br_t rfl (h _ _ _ (fun i hi => ⟨rfl, rfl, rfl⟩) (fun _ => (ht d hu).1 hn) (fun o q => ?_))
      rw [ru_n nl ha] at q; exact absurd q (by simp)
    | some o =>
      obtain ⟨s1, s2⟩ := t1 o ha
      have ty := ru_t p1 hv hT ha
      have o16 : 0 < o.1 ∧ o.1 < 6 := by
        rcases ty with w | w
        · omega
        · have := w.1; omega
      rw [s1]
      refine br_f (nI_ne0 o16.1 (by omega)) ?_
      have gb : 1 < pg_n (P 0 (g (d / 6))) → ∃ b, a_nB (d / 6) = nI b ∧ ou_uc P (b * 6 + d % 6) ∧ rl_gc g (b * 6 + d % 6) = ou_ps P 3 (rl_gc g d) := by
        intro q
        obtain ⟨b, b1, b2, b3⟩ := n4 q
        obtain ⟨b4, b5⟩ := cell 3 b b2 b3
        exact ⟨b, b1, b4, b5⟩
      have gcc : 2 < pg_n (P 0 (g (d / 6))) → ∃ b, a_nC (d / 6) = nI b ∧ ou_uc P (b * 6 + d % 6) ∧ rl_gc g (b * 6 + d % 6) = ou_ps P 4 (rl_gc g d) := by
        intro q
        obtain ⟨b, b1, b2, b3⟩ := n5 q
        obtain ⟨b4, b5⟩ := cell 4 b b2 b3
        exact ⟨b, b1, b4, b5⟩
      by_cases t6 : P 0 (g (d / 6)) = 6
      · obtain ⟨b, b1, b2, b3⟩ := gb (by rw [t6]; decide)
        have r := ru_6 (c := rl_gc g d) (by rw [cd]; exact t6) ha
        rw [t6]
        refine br_t rfl ⟨hina, ?_⟩
        refine pk_eq o.1 1 (fun q => ?_) (fun q => ⟨hinr, ?_⟩)
        · rw [if_pos q] at r
          exact fd_c dl ua (by rw [r, ca, ha]) ht h
        · rw [if_neg q] at r
          rw [nI_clamp (by omega), b1, x6]
          exact fd_c dl b2 (by rw [r, b3]) ht h
      · refine br_f (ne (b := 6) t28 (by decide) t6) ⟨hina, ?_⟩
        refine pk_eq o.1 1 (fun h1 => ?_) (fun h1 => ⟨hina, ?_⟩)
        · obtain ⟨sn, sl⟩ := s2 h1
          obtain ⟨_, ta, tb, tl⟩ : o.1 = 1 ∧ o.2.1 = tt_K P c0 (P 2 (g (d / 6))) ∧ (o.2.1 = 2 → o.2.2 = 0 ∨ o.2.2 = 1) ∧ (o.2.1 = 3 → o.2.2 = 0 ∨ ∃ j, j < 720 ∧ ou_uc P j ∧ P 0 (j / 6) = 24 ∧ o.2.2 = lN (j + 1)) := by
            rcases ty with ty | ty
            · rw [ou_ps_d, cd] at ty; exact ty
            · have := ty.1; omega
          have met := hv.1 _ gu
          have sn2 : o.2.1 ≠ 3 → a_number (a * 6 + d % 6) = o.2.2 := sn
          have ab : ∀ k, tt_K P c0 (P 2 (g (d / 6))) = k → o.2.1 = k := fun k e => ta.trans e
          have cs := ky_23 o1
          have e0 : (0 : Int32).toInt64 = 0 := by decide
          have e1 : (1 : Int32).toInt64 = 1 := by decide
          -- hd, tl, nul
          have ofl : (P 0 (g (d / 6)) = 7 ∨ P 0 (g (d / 6)) = 8 ∨ P 0 (g (d / 6)) = 9) → wY_find_347 post (nI d) (nI (P 0 (g (d / 6)))) (nI (a * 6 + d % 6)) f_width f_length f_place f_toks f_nodes f_defs a_text a_tok a_tokNum a_tokPlace a_opened a_nOp a_nNum a_nPlace a_nA a_nB a_nC a_nLo a_nHi a_nLevel a_defName a_defPlace a_defRoot a_loaded a_count a_status a_number a_origin a_choice a_slotF a_slotX a_slotHeld := by
            intro q
            have m3 : tt_K P c0 (P 2 (g (d / 6))) = 3 := by
              rcases q with q | q | q <;> rw [q] at met <;> exact met
            have tag := ab 3 m3
            obtain ⟨l0, l1⟩ := sl tag
            refine ⟨hina, fun x4 e4 => ⟨by decide, fun x5 e5 => ?_⟩⟩
            rw [nI_clamp (by omega)] at e4
            by_cases z : o.2.2 = 0
            · have nu := l0 z
              rcases q with q | q | q
              · have r := ru_7 (c := rl_gc g d) (by rw [cd]; exact q) ha h1
                rw [if_pos z] at r
                rw [q]
                refine br_f (by decide) ⟨hina, ?_⟩
                rw [nI_clamp (by omega), nu]
                exact br_t rfl (fd_s (s := 5) dl r rfl (by decide) h)
              · have r := ru_8 (c := rl_gc g d) (by rw [cd]; exact q) ha h1
                rw [if_pos z] at r
                rw [q]
                refine br_f (by decide) ⟨hina, ?_⟩
                rw [nI_clamp (by omega), nu]
                exact br_t rfl (fd_s (s := 5) dl r rfl (by decide) h)
              · have r := ru_23 (c := rl_gc g d) (Or.inr (by rw [cd]; exact q)) ha h1
                rw [if_pos z] at r
                rw [q]
                refine br_t rfl ⟨hina, ?_⟩
                rw [nI_clamp (by omega), nu]
                exact fd_d dl r ⟨rfl, fun _ => ⟨fun _ => by decide, fun w => absurd w (by simp)⟩⟩ h
            · obtain ⟨nu, k, k1, k2, k3⟩ := l1 z
              obtain ⟨j, j1, j2, j3, j4⟩ : ∃ j, j < 720 ∧ ou_uc P j ∧ P 0 (j / 6) = 24 ∧ o.2.2 = lN (j + 1) := by
                rcases tl tag with w | w
                · exact absurd w z
                · exact w
              have jn : ou_jn o.2.2 = j := by rw [j4, ou_jn_e j1]
              rw [jn] at k3
              have kl := ou_uc_lt k1
              have ed : nI k / 6 = nI (k / 6) := pk_div (d := 6) (by omega) (by decide) (by decide)
              have er : nI k - nI k / 6 * 6 = nI (k % 6) := pk_rem (d := 6) (by omega) (by decide) (by decide)
              rw [k2] at e4
              subst e4
              rw [ed] at e5
              subst e5
              have gk : g (k / 6) = j / 6 := by unfold rl_gc at k3; omega
              have km : k % 6 = j % 6 := by unfold rl_gc at k3; omega
              obtain ⟨_, _, m3, m4, _⟩ := p5 _ k1.1
              have hink := vp_in_nI (n := k / 6) (N := 320) (by have := k1.1.1; omega) (by decide)
              have pcell : ∀ i b, ou_us P b → g b = P i (g (k / 6)) → ou_uc P (b * 6 + k % 6) ∧ rl_gc g (b * 6 + k % 6) = ou_ps P i j := by
                intro i b hb hg
                have f1 : (b * 6 + k % 6) / 6 = b := by omega
                have f2 : (b * 6 + k % 6) % 6 = k % 6 := by omega
                refine ⟨⟨by rw [f1]; exact hb, by rw [f2]; exact k1.2⟩, ?_⟩
                unfold rl_gc ou_ps
                rw [f1, f2, hg, gk, km]
              rcases q with q | q | q
              · have r := ru_7 (c := rl_gc g d) (by rw [cd]; exact q) ha h1
                rw [if_neg z, jn] at r
                obtain ⟨b, b1, b2, b3⟩ := m3 (by rw [gk, j3]; decide)
                obtain ⟨b4, b5⟩ := pcell 2 b b2 b3
                rw [q]
                refine br_f (by decide) ⟨hina, ?_⟩
                rw [nI_clamp (by omega), nu]
                refine br_f (by decide) (br_t rfl ⟨hink, by decide, ?_⟩)
                rw [nI_clamp (by omega), b1, er, st_x]
                exact fd_c dl b4 (by rw [r, b5]) ht h
              · have r := ru_8 (c := rl_gc g d) (by rw [cd]; exact q) ha h1
                rw [if_neg z, jn] at r
                obtain ⟨b, b1, b2, b3⟩ := m4 (by rw [gk, j3]; decide)
                obtain ⟨b4, b5⟩ := pcell 3 b b2 b3
                rw [q]
                refine br_f (by decide) ⟨hina, ?_⟩
                rw [nI_clamp (by omega), nu]
                refine br_f (by decide) (br_f (by decide) ⟨hink, by decide, ?_⟩)
                rw [nI_clamp (by omega), b1, er, st_x]
                exact fd_c dl b4 (by rw [r, b5]) ht h
              · have r := ru_23 (c := rl_gc g d) (Or.inr (by rw [cd]; exact q)) ha h1
                rw [if_neg z] at r
                rw [q]
                refine br_t rfl ⟨hina, ?_⟩
                rw [nI_clamp (by omega), nu]
                exact fd_d dl r ⟨rfl, fun _ => ⟨fun _ => by decide, fun w => absurd w (by simp)⟩⟩ h
          have two : 14 ≤ P 0 (g (d / 6)) ∧ P 0 (g (d / 6)) ≤ 20 → vp_in (nI (d / 6)) 320 ∧ wpY_twoSides (fun u => match u with | (f_width9, f_length9, f_place9, f_toks9, f_nodes9, f_defs9, a_text9, a_tok9, a_tokNum9, a_tokPlace9, a_opened9, a_nOp9, a_nNum9, a_nPlace9, a_nA9, a_nB9, a_nC9, a_nLo9, a_nHi9, a_nLevel9, a_defName9, a_defPlace9, a_defRoot9, a_loaded9, a_count9, a_status9, a_number9, a_origin9, a_choice9, a_slotF9, a_slotX9, a_slotHeld9) => post (f_width9, f_length9, f_place9, f_toks9, f_nodes9, f_defs9, a_text9, a_tok9, a_tokNum9, a_tokPlace9, a_opened9, a_nOp9, a_nNum9, a_nPlace9, a_nA9, a_nB9, a_nC9, a_nLo9, a_nHi9, a_nLevel9, a_defName9, a_defPlace9, a_defRoot9, a_loaded9, a_count9, a_status9, a_number9, a_origin9, a_choice9, a_slotF9, a_slotX9, a_slotHeld9)) (f_width, f_length, f_place, f_toks, f_nodes, f_defs, a_text, a_tok, a_tokNum, a_tokPlace, a_opened, a_nOp, a_nNum, a_nPlace, a_nA, a_nB, a_nC, a_nLo, a_nHi, a_nLevel, a_defName, a_defPlace, a_defRoot, a_loaded, a_count, a_status, a_number, a_origin, a_choice, a_slotF, a_slotX, a_slotHeld) (nI (P 0 (g (d / 6)))) (nI d) (nI (a * 6 + d % 6)) (a_nB (nI (d / 6)).toNatClampNeg * 6 + nI (d % 6)) := by
            intro q
            obtain ⟨b, b1, b2, b3⟩ := gb (by rw [nd_n2 (by omega)]; decide)
            have bl := ou_uc_lt b2
            have hinb := vp_in_nI (n := b * 6 + d % 6) (N := 720) bl (by decide)
            obtain ⟨u0, u1⟩ := ht _ b2
            rw [b3] at u0 u1
            have ru := ru_2 (c := rl_gc g d) (by rw [cd]; exact q) ha h1
            rw [cd] at ru
            have kinds : tt_K P c0 (P 2 (g (d / 6))) ≠ 3 ∧ tt_K P c0 (P 3 (g (d / 6))) ≠ 3 := by
              have c7 : P 0 (g (d / 6)) = 14 ∨ P 0 (g (d / 6)) = 15 ∨ P 0 (g (d / 6)) = 16 ∨ P 0 (g (d / 6)) = 17 ∨ P 0 (g (d / 6)) = 18 ∨ P 0 (g (d / 6)) = 19 ∨ P 0 (g (d / 6)) = 20 := by omega
              have k1 : (14 ≤ P 0 (g (d / 6)) ∧ P 0 (g (d / 6)) ≤ 19) → tt_K P c0 (P 2 (g (d / 6))) = 1 ∧ tt_K P c0 (P 3 (g (d / 6))) = 1 := by
                intro w
                have c6 : P 0 (g (d / 6)) = 14 ∨ P 0 (g (d / 6)) = 15 ∨ P 0 (g (d / 6)) = 16 ∨ P 0 (g (d / 6)) = 17 ∨ P 0 (g (d / 6)) = 18 ∨ P 0 (g (d / 6)) = 19 := by omega
                rcases c6 with z | z | z | z | z | z <;> rw [z] at met <;> exact met
              by_cases e20 : P 0 (g (d / 6)) = 20
              · rw [e20] at met
                have met : tt_K P c0 (P 2 (g (d / 6))) = tt_K P c0 (P 3 (g (d / 6))) ∧ tt_K P c0 (P 2 (g (d / 6))) ≠ 3 := met
                exact ⟨met.2, by rw [← met.1]; exact met.2⟩
              · have := k1 (by omega)
                rw [this.1, this.2]; decide
            have na := sn2 (by rw [ta]; exact kinds.1)
            refine ⟨hinr, ?_⟩
            rw [nI_clamp (n := d / 6) (by omega), b1, x6]
            refine ⟨hina, fun x ex => ⟨hinb, fun y ey => ⟨hinb, ?_⟩⟩⟩
            rw [nI_clamp (by omega), na] at ex
            rw [nI_clamp (by omega)] at ey ⊢
            cases hb : T (ou_ps P 3 (rl_gc g d)) with
            | none =>
              rw [hb] at ru
              have ru : ou_rl P T (rl_gc g d) = none := ru
              rw [u0 hb]
              refine br_f (by decide) ⟨hinb, hid, fun A eA => ?_⟩
              rw [nI_clamp (by omega)] at eA
              subst eA
              refine h _ _ _ (fun i hi => ⟨pk_un hi, rfl, rfl⟩) (fun _ => pk_us) (fun o q => by rw [ru] at q; exact absurd q (by simp))
            | some o2 =>
              rw [hb] at ru
              obtain ⟨z1, z2⟩ := u1 o2 hb
              have ty2 := ru_t p1 hv hT hb
              rw [z1]
              have o26 : o2.1 < 6 := by
                rcases ty2 with w | w
                · omega
                · have := w.1; omega
              refine pk_eq o2.1 1 (fun g1 => ?_) (fun g1 => ⟨hinb, hid, fun A eA => ?_⟩)
              · have t2 : o2.2.1 = tt_K P c0 (P 3 (g (d / 6))) := by
                  rcases ty2 with w | w
                  · rw [ou_ps_d, cd] at w; exact w.2.1
                  · have := w.1; omega
                have nb := (z2 g1).1 (by rw [t2]; exact kinds.2)
                rw [nb] at ey
                subst ex ey
                have ru : ou_rl P T (rl_gc g d) = some (ou_ar (P 0 (g (d / 6))) o.2.2 o2.2.2) := by rw [ru]; show (if o2.1 = 1 then _ else _) = _; rw [if_pos g1]
                have c7 : P 0 (g (d / 6)) = 14 ∨ P 0 (g (d / 6)) = 15 ∨ P 0 (g (d / 6)) = 16 ∨ P 0 (g (d / 6)) = 17 ∨ P 0 (g (d / 6)) = 18 ∨ P 0 (g (d / 6)) = 19 ∨ P 0 (g (d / 6)) = 20 := by omega
                clear ofl met
                have yy : ∀ v : Int64, yo_P P g (1, 1, v) 1 v (a_origin d) := fun v => ⟨rfl, fun _ => ⟨fun _ => rfl, fun w => absurd w (by simp)⟩⟩
                have y2 : ∀ v : Int64, yo_P P g (1, 2, v) 1 v (a_origin d) := fun v => ⟨rfl, fun _ => ⟨fun _ => rfl, fun w => absurd w (by simp)⟩⟩
                unfold ou_ar at ru
                rcases c7 with z | z | z | z | z | z | z <;> rw [z] at ru ⊢
                · rw [if_neg (by omega)] at ru
                  exact br_t rfl (fd_d dl ru (yy _) h)
                · rw [if_neg (by omega)] at ru
                  exact br_f (by decide) (br_t rfl (fd_d dl ru (yy _) h))
                · rw [if_neg (by omega)] at ru
                  exact br_f (by decide) (br_f (by decide) (br_t rfl (fd_d dl ru (yy _) h)))
                · refine br_f (by decide) (br_f (by decide) (br_f (by decide) (br_f (by decide) (br_f (by decide) ?_))))
                  by_cases w : o2.2.2 = 0
                  · rw [if_pos ⟨w, Or.inl rfl⟩] at ru
                    exact br_t w (fd_s (s := 3) dl ru rfl (by decide) h)
                  · rw [if_neg (fun q => w q.1)] at ru
                    exact br_f w (br_t rfl ⟨w, fd_d dl ru (yy _) h⟩)
                · refine br_f (by decide) (br_f (by decide) (br_f (by decide) (br_f (by decide) (br_f (by decide) ?_))))
                  by_cases w : o2.2.2 = 0
                  · rw [if_pos ⟨w, Or.inr rfl⟩] at ru
                    exact br_t w (fd_s (s := 3) dl ru rfl (by decide) h)
                  · rw [if_neg (fun q => w q.1)] at ru
                    exact br_f w (br_f (by decide) ⟨w, fd_d dl ru (yy _) h⟩)
                · rw [if_neg (by omega)] at ru
                  refine br_f (by decide) (br_f (by decide) (br_f (by decide) (br_t rfl ?_)))
                  have ru : ou_rl P T (rl_gc g d) = some (1, 2, if o.2.2 < o2.2.2 then 1 else 0) := ru
                  by_cases w : o2.2.2 ≤ o.2.2
                  · rw [if_neg (Int64.not_lt.mpr w)] at ru
                    exact br_t w (fd_d dl ru (y2 _) h)
                  · rw [if_pos (Int64.not_le.mp w)] at ru
                    exact br_f w (fd_d dl ru (y2 _) h)
                · rw [if_neg (by omega)] at ru
                  refine br_f (by decide) (br_f (by decide) (br_f (by decide) (br_f (by decide) (br_t rfl ?_))))
                  have ru : ou_rl P T (rl_gc g d) = some (1, 2, if o.2.2 = o2.2.2 then 1 else 0) := ru
                  by_cases w : o.2.2 = o2.2.2
                  · rw [if_pos w] at ru
                    exact br_t w (fd_d dl ru (y2 _) h)
                  · rw [if_neg w] at ru
                    exact br_f w (fd_d dl ru (y2 _) h)
              · have ru : ou_rl P T (rl_gc g d) = some o2 := by rw [ru]; show (if o2.1 = 1 then _ else _) = _; rw [if_neg g1]
                exact (fd_s dl ru rfl g1 h).2 A (by rw [eA])
          have andor : (P 0 (g (d / 6)) = 21 ∨ P 0 (g (d / 6)) = 22) → wY_find_278 post (nI (d / 6)) (nI (d % 6)) (nI d) (nI (P 0 (g (d / 6)))) (nI (a * 6 + d % 6)) f_width f_length f_place f_toks f_nodes f_defs a_text a_tok a_tokNum a_tokPlace a_opened a_nOp a_nNum a_nPlace a_nA a_nB a_nC a_nLo a_nHi a_nLevel a_defName a_defPlace a_defRoot a_loaded a_count a_status a_number a_origin a_choice a_slotF a_slotX a_slotHeld := by
            intro q
            have m2 : tt_K P c0 (P 2 (g (d / 6))) = 2 := by
              rcases q with q | q <;> rw [q] at met <;> exact met.1
            have tag := ab 2 m2
            have nu := sn2 (by rw [tag]; decide)
            obtain ⟨b, b1, b2, b3⟩ := gb (by rcases q with q | q <;> rw [q] <;> decide)
            have cpa : ou_rl P T (rl_gc g d) = some o → wY_find_320 post (nI (a * 6 + d % 6)) (nI d) f_width f_length f_place f_toks f_nodes f_defs a_text a_tok a_tokNum a_tokPlace a_opened a_nOp a_nNum a_nPlace a_nA a_nB a_nC a_nLo a_nHi a_nLevel a_defName a_defPlace a_defRoot a_loaded a_count a_status a_number a_origin a_choice a_slotF a_slotX a_slotHeld := fun r => fd_c dl ua (by rw [r, ca, ha]) ht h
            have cpb : ou_rl P T (rl_gc g d) = T (ou_ps P 3 (rl_gc g d)) → vp_in (nI (d / 6)) 320 ∧ wY_find_320 post (a_nB (nI (d / 6)).toNatClampNeg * 6 + nI (d % 6)) (nI d) f_width f_length f_place f_toks f_nodes f_defs a_text a_tok a_tokNum a_tokPlace a_opened a_nOp a_nNum a_nPlace a_nA a_nB a_nC a_nLo a_nHi a_nLevel a_defName a_defPlace a_defRoot a_loaded a_count a_status a_number a_origin a_choice a_slotF a_slotX a_slotHeld := fun r => ⟨hinr, by rw [nI_clamp (by omega), b1, x6]; exact fd_c dl b2 (by rw [r, b3]) ht h⟩
            refine ⟨hina, ?_⟩
            rw [nI_clamp (by omega), nu]
            rcases q with q | q
            · have r := ru_21 (c := rl_gc g d) (by rw [cd]; exact q) ha h1
              rw [q]
              refine br_t rfl ?_
              rcases tb tag with v | v
              · rw [if_pos v] at r
                exact br_t (by rw [v]; decide) (cpa r)
              · rw [if_neg (by rw [v]; decide)] at r
                exact br_f (by rw [v]; decide) (cpb r)
            · have r := ru_22 (c := rl_gc g d) (by rw [cd]; exact q) ha h1
              rw [q]
              refine br_f (by decide) ?_
              rcases tb tag with v | v
              · rw [if_pos v] at r
                exact br_f (by rw [v]; decide) (cpb r)
              · rw [if_neg (by rw [v]; decide)] at r
                exact br_t (by rw [v]; decide) (cpa r)
          rcases cs with q | q | q | q | q | q | q | q | q | q | q | q | q | q | q | q | q | q | q | q | q | q | q
          · exact absurd q l1.1
          · exact absurd q l1.2.1
          · exact absurd q l1.2.2.2.2.1
          · exact absurd q l1.2.2.1
          · exact absurd q l1.2.2.2.1
          · -- if
            rw [q] at met
            have tag := ab 2 met.1
            have nu := sn2 (by rw [tag]; decide)
            obtain ⟨b, b1, b2, b3⟩ := gb (by rw [q]; decide)
            obtain ⟨e, f1, f2, f3⟩ := gcc (by rw [q]; decide)
            have r := ru_3 (c := rl_gc g d) (by rw [cd]; exact q) ha h1
            rw [q]
            refine br_t rfl ⟨hina, ?_⟩
            rw [nu]
            rcases tb tag with v | v
            · rw [if_pos v] at r
              refine br_f (by rw [v]; decide) ⟨hinr, ?_⟩
              rw [nI_clamp (by omega), f1, x6]
              exact fd_c dl f2 (by rw [r, f3]) ht h
            · rw [if_neg (by rw [v]; decide)] at r
              refine br_t v ⟨hinr, ?_⟩
              rw [nI_clamp (by omega), b1, x6]
              exact fd_c dl b2 (by rw [r, b3]) ht h
          · exact absurd q t6
          · have m := ofl (Or.inl q)
            rw [q] at m ⊢
            exact br_f (by decide) (br_f (by decide) (br_f (by decide) (br_t rfl m)))
          · have m := ofl (Or.inr (Or.inl q))
            rw [q] at m ⊢
            exact br_f (by decide) (br_f (by decide) (br_f (by decide) (br_f (by decide) (br_t rfl m))))
          · have m := ofl (Or.inr (Or.inr q))
            rw [q] at m ⊢
            exact br_f (by decide) (br_f (by decide) (br_f (by decide) (br_f (by decide) (br_f (by decide) (br_t rfl m)))))
          · -- a call
            rw [q] at met
            have tag := ab 1 met
            have nu := sn2 (by rw [tag]; decide)
            obtain ⟨f5, fs⟩ := o3 q
            have r := ru_13 (c := rl_gc g d) (by rw [cd]; exact q) ha h1
            rw [cd] at r
            have ew : f_width.toInt64 = lN (P 6 0) := by rw [hw]; exact nI_l (by omega)
            rw [q]
            refine br_f (by decide) (br_f (by decide) (br_f (by decide) (br_f (by decide) (br_f (by decide) (br_f (by decide) (br_t rfl ⟨hina, ?_⟩))))))
            rw [nu]
            by_cases z : o.2.2 < 0
            · rw [if_pos (Or.inl z)] at r
              exact br_t z (fd_s (s := 4) dl r rfl (by decide) h)
            · refine br_f z ⟨hina, ?_⟩
              rw [ew]
              by_cases z2 : lN (P 6 0) ≤ o.2.2
              · rw [if_pos (Or.inr z2)] at r
                exact br_f (Int64.not_lt.mpr z2) (fd_s (s := 4) dl r rfl (by decide) h)
              · have nz : ¬ (o.2.2 < 0 ∨ lN (P 6 0) ≤ o.2.2) := fun w => w.elim z z2
                rw [if_neg nz] at r
                obtain ⟨x, x1, x2, x3⟩ := ou_arg (by omega) nz
                rw [x3] at r
                refine br_t (Int64.not_le.mp z2) ⟨hinr, hina, ?_⟩
                rw [nI_clamp (by omega), n2, x2, lN_i]
                obtain ⟨gy, uy⟩ := sl_gy p1 p2 f5 fs x1
                have e144 : nI (P 1 (g (d / 6))) * 144 + nI x = nI (P 1 (g (d / 6)) * 144 + x) := by
                  have : nI (P 1 (g (d / 6))) * 144 = nI (P 1 (g (d / 6)) * 144) := pk_mul _ 144
                  rw [this, nI_add]
                rw [e144]
                exact fd_c dl uy (by rw [r, gy]) ht h
          · have m := two (by omega)
            rw [q] at m ⊢
            exact br_f (by decide) (br_f (by decide) (br_f (by decide) (br_f (by decide) (br_f (by decide) (br_f (by decide) (br_f (by decide) (br_f (by decide) (br_f (by decide) m))))))))
          · have m := two (by omega)
            rw [q] at m ⊢
            exact br_f (by decide) (br_f (by decide) (br_f (by decide) (br_f (by decide) (br_f (by decide) (br_f (by decide) (br_f (by decide) (br_f (by decide) (br_f (by decide) m))))))))
          · have m := two (by omega)
            rw [q] at m ⊢
            exact br_f (by decide) (br_f (by decide) (br_f (by decide) (br_f (by decide) (br_f (by decide) (br_f (by decide) (br_f (by decide) (br_f (by decide) (br_f (by decide) m))))))))
          · have m := two (by omega)
            rw [q] at m ⊢
            exact br_f (by decide) (br_f (by decide) (br_f (by decide) (br_f (by decide) (br_f (by decide) (br_f (by decide) (br_f (by decide) (br_f (by decide) (br_f (by decide) m))))))))
          · have m := two (by omega)
            rw [q] at m ⊢
            exact br_f (by decide) (br_f (by decide) (br_f (by decide) (br_f (by decide) (br_f (by decide) (br_f (by decide) (br_f (by decide) (br_f (by decide) (br_f (by decide) m))))))))
          · have m := two (by omega)
            rw [q] at m ⊢
            exact br_f (by decide) (br_f (by decide) (br_f (by decide) (br_f (by decide) (br_f (by decide) (br_f (by decide) (br_f (by decide) (br_f (by decide) (br_f (by decide) m))))))))
          · have m := two (by omega)
            rw [q] at m ⊢
            exact br_f (by decide) (br_f (by decide) (br_f (by decide) (br_f (by decide) (br_f (by decide) (br_f (by decide) (br_f (by decide) (br_f (by decide) (br_f (by decide) m))))))))
          · have m := andor (Or.inl q)
            rw [q] at m ⊢
            exact br_f (by decide) (br_t rfl m)
          · have m := andor (Or.inr q)
            rw [q] at m ⊢
            exact br_f (by decide) (br_f (by decide) (br_t rfl m))
          · -- not
            rw [q] at met
            have tag := ab 2 met
            have nu := sn2 (by rw [tag]; decide)
            have r := ru_23 (c := rl_gc g d) (Or.inl (by rw [cd]; exact q)) ha h1
            rw [q]
            refine br_f (by decide) (br_f (by decide) (br_f (by decide) (br_f (by decide) (br_f (by decide) (br_f (by decide) (br_f (by decide) (br_f (by decide) (br_t rfl (br_f (by decide) ⟨hina, ?_⟩)))))))))
            rw [nI_clamp (by omega), nu]
            rcases tb tag with v | v
            · rw [if_pos v] at r
              exact fd_d dl r ⟨rfl, fun _ => ⟨fun _ => by rw [v]; decide, fun w => absurd w (by simp)⟩⟩ h
            · rw [if_neg (by rw [v]; decide)] at r
              exact fd_d dl r ⟨rfl, fun _ => ⟨fun _ => by rw [v]; decide, fun w => absurd w (by simp)⟩⟩ h
          · exact absurd q l1.2.2.2.2.2
          · -- negate
            rw [q] at met
            have tag := ab 1 met
            have nu := sn2 (by rw [tag]; decide)
            have r := ru_28 (c := rl_gc g d) (by rw [cd]; exact q) ha h1
            rw [q]
            refine br_f (by decide) (br_f (by decide) (br_f (by decide) (br_f (by decide) (br_f (by decide) (br_f (by decide) (br_f (by decide) (br_t rfl (br_t rfl ⟨hina, ?_⟩))))))))
            rw [nI_clamp (by omega), nu]
            exact fd_d dl r ⟨rfl, fun _ => ⟨fun _ => rfl, fun w => absurd w (by simp)⟩⟩ h
        · have r := ru_e nl ha (by rw [cd]; exact t6) h1
          exact fd_s dl r rfl h1 h
end
end
section
-- Y sweeps and solves
section
variable {f_width f_length f_place f_toks f_nodes f_defs : Int32} {a_text a_tok a_tokNum a_tokPlace a_opened a_nOp a_nNum a_nPlace a_nA a_nB a_nC a_nLo a_nHi a_nLevel a_defName a_defPlace a_defRoot a_loaded a_count a_status : Nat → Int32} {a_number : Nat → Int64} {a_origin a_choice a_slotF a_slotX a_slotHeld : Nat → Int32} {P : Nat → Nat → Nat} {c0 : Nat} {g : Nat → Nat}
theorem so_t {T : Nat → Option ou_O} {d : Nat} {st st2 : Nat → Int32} {nu nu2 : Nat → Int64} {og og2 : Nat → Int32} (hg : rl_g P g) (hu : ou_uc P d) (huc : ou_uc P (rl_gc g d)) (hn : T (rl_gc g d) = none) (ht : rl_tY P g T st nu og)
    (hk : ∀ i, i ≠ d → st2 i = st i ∧ nu2 i = nu i ∧ og2 i = og i) (h0 : ou_rl P T (rl_gc g d) = none → st2 d = 0) (h1 : ∀ o, ou_rl P T (rl_gc g d) = some o → yo_P P g o (st2 d) (nu2 d) (og2 d)) : rl_tY P g (ps_u P T (rl_gc g d)) st2 nu2 og2 := by
  intro e he
  by_cases q : e = d
  · subst q
    rw [ps_us hn huc]
    exact ⟨h0, h1⟩
  · have ne : rl_gc g e ≠ rl_gc g d := by
      intro w
      apply q
      unfold rl_gc at w
      have a : g (e / 6) = g (d / 6) := by omega
      have b := hg.2.2.1 _ _ he.1 hu.1 a
      omega
    rw [ps_un ne, (hk e q).1, (hk e q).2.1, (hk e q).2.2]
    exact ht e he
theorem so_Y (hP : yl_P P g a_loaded a_count a_nOp a_nNum a_nA a_nB a_nC) (hw : f_width = nI (P 6 0)) (hv : rl_V P c0) {post : SY → Prop}
    (h : ∀ st nu og, rl_tY P g (ou_E P) st nu og → post (f_width, f_length, f_place, f_toks, f_nodes, f_defs, a_text, a_tok, a_tokNum, a_tokPlace, a_opened, a_nOp, a_nNum, a_nPlace, a_nA, a_nB, a_nC, a_nLo, a_nHi, a_nLevel, a_defName, a_defPlace, a_defRoot, a_loaded, a_count, st, nu, og, a_choice, a_slotF, a_slotX, a_slotHeld)) : wpY_solve post (f_width, f_length, f_place, f_toks, f_nodes, f_defs, a_text, a_tok, a_tokNum, a_tokPlace, a_opened, a_nOp, a_nNum, a_nPlace, a_nA, a_nB, a_nC, a_nLo, a_nHi, a_nLevel, a_defName, a_defPlace, a_defRoot, a_loaded, a_count, a_status, a_number, a_origin, a_choice, a_slotF, a_slotX, a_slotHeld) := by
  have hP0 := hP
  obtain ⟨p1, p2, p3, p4, p5⟩ := hP
  have ls : ∀ (T : Nat → Option ou_O) (o : ou_O) d, ps_s P T → T d = some o → o.1 < 6 ∧ 0 < o.1 := by
    intro T o d hT hd
    rcases ru_t p1 hv hT hd with q | q
    · omega
    · have := q.1; omega
  have w6 := p1.2.1
  have gcu : ∀ d, ou_uc P d → ou_uc P (rl_gc g d) := by
    intro d hu
    have cd : rl_gc g d / 6 = g (d / 6) := by unfold rl_gc; omega
    have cm : rl_gc g d % 6 = d % 6 := by unfold rl_gc; omega
    unfold ou_uc; rw [cd, cm]; exact ⟨(p2.1 _ hu.1).1, hu.2⟩
  -- a sweep
  have sweep : ∀ (A : Nat → Option ou_O) (post2 : Int32 → SY → Prop),
      (∀ T st nu og (s : Prop) (x1 : Int32), ps_I P A (fun c => ∃ d, d < 720 ∧ ou_uc P d ∧ rl_gc g d = c) T s → rl_tY P g T st nu og → (s → x1 = 1) → (¬ s → x1 = 0) → post2 x1 (f_width, f_length, f_place, f_toks, f_nodes, f_defs, a_text, a_tok, a_tokNum, a_tokPlace, a_opened, a_nOp, a_nNum, a_nPlace, a_nA, a_nB, a_nC, a_nLo, a_nHi, a_nLevel, a_defName, a_defPlace, a_defRoot, a_loaded, a_count, st, nu, og, a_choice, a_slotF, a_slotX, a_slotHeld)) →
      ∀ k d T st nu og (s : Prop) (x1 : Int32), d + k = 720 → ps_I P A (fun c => ∃ i, i < d ∧ ou_uc P i ∧ rl_gc g i = c) T s → rl_tY P g T st nu og → (s → x1 = 1) → (¬ s → x1 = 0) → ∀ n, k < n →
        wY_sweep_4 post2 n x1 (nI d) f_width f_length f_place f_toks f_nodes f_defs a_text a_tok a_tokNum a_tokPlace a_opened a_nOp a_nNum a_nPlace a_nA a_nB a_nC a_nLo a_nHi a_nLevel a_defName a_defPlace a_defRoot a_loaded a_count st nu og a_choice a_slotF a_slotX a_slotHeld := by
    intro A post2 hp k
    induction k with
    | zero =>
      intro d T st nu og s x1 hd I ht hs1 hs0 n hn
      obtain ⟨n, rfl⟩ : ∃ w, n = w + 1 := ⟨n - 1, by omega⟩
      have : d = 720 := by omega
      subst this
      refine br_t (nI_le (a := 720) (by decide) (by decide)) ⟨?_, hp T st nu og s x1 I ht hs1 hs0⟩
      by_cases q : s
      · rw [hs1 q]; rfl
      · rw [hs0 q]; rfl
    | succ k ih =>
      intro d T st nu og s x1 hd I ht hs1 hs0 n hn
      obtain ⟨n, rfl⟩ : ∃ w, n = w + 1 := ⟨n - 1, by omega⟩
      have d720 : d < 720 := by omega
      have hid := vp_in_nI (n := d) (N := 720) d720 (by decide)
      have ed : nI d / 6 = nI (d / 6) := pk_div (d := 6) (by omega) (by decide) (by decide)
      have er : nI d - nI d / 6 * 6 = nI (d % 6) := pk_rem (d := 6) (by omega) (by decide) (by decide)
      have ed2 : nI (d / 6) / 24 = nI (d / 6 / 24) := pk_div (d := 24) (by omega) (by decide) (by decide)
      have er2 : nI (d / 6) - nI (d / 6) / 24 * 24 = nI (d / 6 % 24) := pk_rem (d := 24) (by omega) (by decide) (by decide)
      have f5 : d / 6 / 24 < 5 := by omega
      have hin5 := vp_in_nI (n := d / 6 / 24) (N := 5) f5 (by decide)
      have skip : (ou_uc P d → T (rl_gc g d) ≠ none) → ∀ y, y = nI d + 1 → wY_sweep_4 post2 n x1 y f_width f_length f_place f_toks f_nodes f_defs a_text a_tok a_tokNum a_tokPlace a_opened a_nOp a_nNum a_nPlace a_nA a_nB a_nC a_nLo a_nHi a_nLevel a_defName a_defPlace a_defRoot a_loaded a_count st nu og a_choice a_slotF a_slotX a_slotHeld := by
        intro hh y ey
        rw [ey, nI_1]
        refine ih (d + 1) T st nu og s x1 (by omega) ⟨I.1, I.2.1, I.2.2.1, fun ns => ?_⟩ ht hs1 hs0 n (by omega)
        obtain ⟨e, cl⟩ := I.2.2.2 ns
        refine ⟨e, fun c ⟨i, i1, i2, i3⟩ hu ha => ?_⟩
        by_cases q : i = d
        · subst q
          rw [← e, ← i3] at ha
          exact absurd ha (hh i2)
        · exact cl c ⟨i, by omega, i2, i3⟩ hu ha
      refine br_f (nI_ge (b := 720) d720 (by decide)) ⟨by decide, fun x3 e3 => ⟨by decide, fun x4 e4 => ⟨hid, ?_⟩⟩⟩
      rw [ed] at e3
      rw [er] at e4
      subst e3 e4
      rw [nI_clamp (by omega)]
      refine br_c (fun e0 => ?_) (fun e0 => skip (fun hu q => e0 ((ht d hu).1 q)))
      refine pk_le (P 6 0) (d % 6) (fun q => skip (fun hu => by have := hu.2; omega)) (fun q => ⟨by decide, ?_⟩) hw
      rw [er2, ed2]
      refine ⟨hin5, ?_⟩
      rw [nI_clamp (n := d / 6 / 24) (by omega), p3 _ f5]
      by_cases hs : 0 < P 5 (d / 6 / 24)
      · rw [if_pos hs]
        have s24 := p1.2.2.1 (d / 6 / 24)
        refine bq_1 ⟨by decide, by decide, hin5, ?_⟩
        rw [p4 _ f5 hs]
        refine pk_lt (d / 6 % 24) (P 5 (d / 6 / 24)) (fun q2 => ?_) (fun q2 => skip (fun hu => by have := hu.1.2; omega))
        have hu : ou_uc P d := ⟨⟨by omega, q2⟩, q⟩
        have tn : T (rl_gc g d) = none := by
          cases hh : T (rl_gc g d) with
          | none => rfl
          | some o =>
            have := ((ht d hu).2 o hh).1
            rw [this] at e0
            have l := ls T o _ I.1 hh
            exact absurd e0 (nI_ne0 l.2 (by omega))
        refine fd_Y (T := T) hP0 hw hv I.1 ht hu tn (fun st2 nu2 og2 hk h0 h1 => ?_)
        have huc := gcu d hu
        have ccl := ou_uc_lt huc
        have ht2 := so_t p2 hu huc tn ht hk h0 h1
        have goY : ∀ c, (∃ i, i < d + 1 ∧ ou_uc P i ∧ rl_gc g i = c) → (∃ i, i < d ∧ ou_uc P i ∧ rl_gc g i = c) ∨ c = rl_gc g d := by
          rintro c ⟨i, i1, i2, i3⟩
          by_cases e : i = d
          · exact Or.inr (by rw [← i3, e])
          · exact Or.inl ⟨i, by omega, i2, i3⟩
        cases hr : ou_rl P T (rl_gc g d) with
        | none =>
          have I2 := ps_st (Y := fun c => ∃ i, i < d + 1 ∧ ou_uc P i ∧ rl_gc g i = c) (t := s) I ccl goY ⟨fun q => Or.inl q, fun q => q.elim id (fun w => absurd hr w.2.2)⟩
          by_cases q : s
          · rw [hs1 q]
            refine bq_1 (fun y ey => ?_)
            rw [ey, nI_1]
            exact ih (d + 1) _ st2 nu2 og2 s 1 (by omega) I2 ht2 (fun _ => rfl) (fun w => absurd q w) n (by omega)
          · rw [hs0 q]
            refine br_t rfl ⟨hid, br_t (h0 hr) (fun y ey => ?_)⟩
            rw [ey, nI_1]
            exact ih (d + 1) _ st2 nu2 og2 s 0 (by omega) I2 ht2 (fun w => absurd w q) (fun _ => rfl) n (by omega)
        | some o =>
          have so := (h1 o hr).1
          have l := ls (ps_u P T (rl_gc g d)) o _ (ps_uS I.1) (by rw [ps_us tn huc]; exact hr)
          have I2 := ps_st (Y := fun c => ∃ i, i < d + 1 ∧ ou_uc P i ∧ rl_gc g i = c) (t := True) I ccl goY ⟨fun _ => Or.inr ⟨tn, huc, by rw [hr]; simp⟩, fun _ => trivial⟩
          have fin : ∀ y, y = nI d + 1 → wY_sweep_4 post2 n 1 y f_width f_length f_place f_toks f_nodes f_defs a_text a_tok a_tokNum a_tokPlace a_opened a_nOp a_nNum a_nPlace a_nA a_nB a_nC a_nLo a_nHi a_nLevel a_defName a_defPlace a_defRoot a_loaded a_count st2 nu2 og2 a_choice a_slotF a_slotX a_slotHeld := by
            intro y ey
            rw [ey, nI_1]
            exact ih (d + 1) _ st2 nu2 og2 True 1 (by omega) I2 ht2 (fun _ => rfl) (fun w => absurd trivial w) n (by omega)
          by_cases q : s
          · rw [hs1 q]
            exact bq_1 fin
          · rw [hs0 q]
            exact br_t rfl ⟨hid, br_f (by rw [so]; exact nI_ne0 l.2 (by omega)) fin⟩
      · rw [if_neg hs]
        exact br_t rfl (skip (fun hu => by have := hu.1.2; omega))
  -- the sweeps
  have closed : ∀ T, ps_s P T → (∀ c, (∃ d, d < 720 ∧ ou_uc P d ∧ rl_gc g d = c) → ou_uc P c → T c = none → ou_rl P T c = none) → T = ou_E P := by
    intro T hT hc
    refine ps_f hT (fun c hu q => hc c ?_ hu q)
    obtain ⟨r, r1, r2⟩ := p2.2.2.2 _ hu.1
    have b := r1.1
    have b2 := hu.2
    have e1 : (r * 6 + c % 6) / 6 = r := by omega
    have e2 : (r * 6 + c % 6) % 6 = c % 6 := by omega
    refine ⟨r * 6 + c % 6, by omega, ⟨by rw [e1]; exact r1, by rw [e2]; exact b2⟩, ?_⟩
    unfold rl_gc
    rw [e1, e2, r2]; omega
  have outer : ∀ m T st nu og p, ps_s P T → rl_tY P g T st nu og → ct_n (fun c => (T c).isNone) 720 ≤ m → p + m ≤ 720 → ∀ n, m + 1 < n →
      wY_solve_26 post n 1 (nI p) f_width f_length f_place f_toks f_nodes f_defs a_text a_tok a_tokNum a_tokPlace a_opened a_nOp a_nNum a_nPlace a_nA a_nB a_nC a_nLo a_nHi a_nLevel a_defName a_defPlace a_defRoot a_loaded a_count st nu og a_choice a_slotF a_slotX a_slotHeld := by
    intro m
    induction m with
    | zero =>
      intro T st nu og p hT ht hm hp n hn
      obtain ⟨n, rfl⟩ : ∃ w, n = w + 1 + 1 := ⟨n - 2, by omega⟩
      have z := ct_0 (Nat.le_zero.mp hm)
      have E := closed T hT (fun c _ hu q => by have := z c (ou_uc_lt hu); rw [q] at this; exact absurd this (by decide))
      have ht0 := ht
      rw [E] at ht
      refine br_c (fun _ => h st nu og ht) (fun lt => bq_1 ?_)
      refine ⟨721, sweep T _ (fun T2 st2 nu2 og2 s x1 I ht2 s1 s0 => fun y ey => ?_) 720 0 T st nu og False 0 rfl ⟨hT, fun _ _ q => q, fun q => q.elim, fun _ => ⟨rfl, fun c hc => by obtain ⟨d, d1, _⟩ := hc; omega⟩⟩ ht0 (fun q => q.elim) (fun _ => rfl) 721 (by decide)⟩
      have ns : ¬ s := fun q => by have := ps_n I q; omega
      obtain ⟨e, cl⟩ := I.2.2.2 ns
      have E2 := closed T2 I.1 (fun c a b w => by rw [e] at w ⊢; exact cl c a b w)
      rw [E2] at ht2
      rw [s0 ns]
      exact br_c (fun _ => h st2 nu2 og2 ht2) (fun _ => br_t rfl (h st2 nu2 og2 ht2))
    | succ m ih =>
      intro T st nu og p hT ht hm hp n hn
      obtain ⟨n, rfl⟩ : ∃ w, n = w + 1 + 1 := ⟨n - 2, by omega⟩
      refine br_f (nI_ge (b := 720) (by omega) (by decide)) (bq_1 ⟨721, sweep T _ (fun T2 st2 nu2 og2 s x1 I ht2 s1 s0 => fun y ey => ?_) 720 0 T st nu og False 0 rfl ⟨hT, fun _ _ q => q, fun q => q.elim, fun _ => ⟨rfl, fun c hc => by obtain ⟨d, d1, _⟩ := hc; omega⟩⟩ ht (fun q => q.elim) (fun _ => rfl) 721 (by decide)⟩)
      rw [ey, nI_1]
      by_cases q : s
      · have := ps_n I q
        rw [s1 q]
        exact ih T2 st2 nu2 og2 (p + 1) I.1 ht2 (by omega) (by omega) (n + 1) (by omega)
      · obtain ⟨e, cl⟩ := I.2.2.2 q
        have E2 := closed T2 I.1 (fun c a b w => by rw [e] at w ⊢; exact cl c a b w)
        rw [E2] at ht2
        rw [s0 q]
        exact br_c (fun _ => h st2 nu2 og2 ht2) (fun _ => br_t rfl (h st2 nu2 og2 ht2))
  have clr : ∀ k c st, c + k = 720 → (∀ i, i < c → st i = 0) → ∀ n, k < n → wY_solve_2 post f_width f_length f_place f_toks f_nodes f_defs n (nI c) a_text a_tok a_tokNum a_tokPlace a_opened a_nOp a_nNum a_nPlace a_nA a_nB a_nC a_nLo a_nHi a_nLevel a_defName a_defPlace a_defRoot a_loaded a_count st a_number a_origin a_choice a_slotF a_slotX a_slotHeld := by
    intro k
    induction k with
    | zero =>
      intro c st hc hs n hn
      obtain ⟨n, rfl⟩ : ∃ w, n = w + 1 := ⟨n - 1, by omega⟩
      have : c = 720 := by omega
      subst this
      exact br_t (nI_le (a := 720) (by decide) (by decide)) ⟨_, outer 720 (fun _ => none) st a_number a_origin 0 (fun c o q => absurd q (by simp)) (fun d hu => ⟨fun _ => hs d (ou_uc_lt hu), fun o q => absurd q (by simp)⟩) (ct_le _ _) (by omega) 722 (by decide)⟩
    | succ k ih =>
      intro c st hc hs n hn
      obtain ⟨n, rfl⟩ : ∃ w, n = w + 1 := ⟨n - 1, by omega⟩
      refine br_f (nI_ge (b := 720) (by omega) (by decide)) ⟨vp_in_nI (by omega) (by decide), fun A eA y ey => ?_⟩
      rw [nI_clamp (by omega)] at eA
      rw [nI_1] at ey
      subst eA ey
      refine ih (c + 1) _ (by omega) (fun i hi => ?_) n (by omega)
      by_cases e : i = c
      · rw [e, pk_us]
      · rw [pk_un e]; exact hs i (by omega)
  exact ⟨_, clr 720 0 a_status rfl (fun i hi => by omega) 721 (by decide)⟩
end
end
section
-- THE NEW PROGRAM
noncomputable def np_d (Tk : List tz_T) (ds : List df_D) (f : Nat) : Option df_D :=
  @dite _ (∃ (i : Nat) (d : df_D), ds[i]? = some d ∧ mn_f Tk ds i = f) (Classical.propDecidable _) (fun h => some h.choose_spec.choose) (fun _ => none)
theorem np_s {Tk : List tz_T} {ds : List df_D} (hu : ∀ i j, i < ds.length → j < ds.length → mn_f Tk ds i = mn_f Tk ds j → i = j) {i : Nat} {d : df_D} (h : ds[i]? = some d) : np_d Tk ds (mn_f Tk ds i) = some d := by
  unfold np_d
  have hh : ∃ (j : Nat) (c : df_D), ds[j]? = some c ∧ mn_f Tk ds j = mn_f Tk ds i := ⟨i, d, h, rfl⟩
  rw [dif_pos hh]
  have q := hh.choose_spec.choose_spec
  have il : ∀ (i : Nat) (d : df_D), ds[i]? = some d → i < ds.length := by
    intro i d q
    rcases Nat.lt_or_ge i ds.length with w | w
    · exact w
    · rw [List.getElem?_eq_none w] at q; exact absurd q (by simp)
  have e := hu _ _ (il _ _ q.1) (il _ _ h) q.2
  have key : ∀ (j : Nat) (c : df_D), ds[j]? = some c → j = i → c = d := fun j c a b => by subst b; rw [h] at a; exact (Option.some.inj a).symm
  exact congrArg some (key _ _ q.1 e)
theorem np_n {Tk : List tz_T} {ds : List df_D} {f : Nat} (h : ¬ ∃ i, i < ds.length ∧ mn_f Tk ds i = f) : np_d Tk ds f = none := by
  unfold np_d
  rw [dif_neg]
  rintro ⟨i, d, h1, h2⟩
  refine h ⟨i, ?_, h2⟩
  rcases Nat.lt_or_ge i ds.length with w | w
  · exact w
  · rw [List.getElem?_eq_none w] at h1; exact absurd h1 (by simp)
noncomputable def np_P (P : Nat → Nat → Nat) (Tk : List tz_T) (Q : Nat → Nat → Nat) (ds : List df_D) : Nat → Nat → Nat := fun k x =>
  if k = 6 then P 6 x else
  if k = 5 then (match np_d Tk ds x with | some d => d.2.2.1 - d.2.1 | none => P 5 x) else
  match np_d Tk ds (x / 24) with
  | some d => if k ≤ 1 then Q k (d.2.1 + x % 24) else Q k (d.2.1 + x % 24) + x / 24 * 24 - d.2.1
  | none => P k x
section
variable {P : Nat → Nat → Nat} {Tk : List tz_T} {Q : Nat → Nat → Nat} {ds : List df_D} {f k : Nat} {d : df_D}
theorem np_6 : np_P P Tk Q ds 6 = P 6 := by funext x; rfl
theorem np_5s (h : np_d Tk ds f = some d) : np_P P Tk Q ds 5 f = d.2.2.1 - d.2.1 := by
  unfold np_P; rw [if_neg (by decide), if_pos rfl, h]
theorem np_5n (h : np_d Tk ds f = none) : np_P P Tk Q ds 5 f = P 5 f := by
  unfold np_P; rw [if_neg (by decide), if_pos rfl, h]
theorem np_ks {x : Nat} (hk : k < 5) (h : np_d Tk ds (x / 24) = some d) : np_P P Tk Q ds k x = if k ≤ 1 then Q k (d.2.1 + x % 24) else Q k (d.2.1 + x % 24) + x / 24 * 24 - d.2.1 := by
  unfold np_P; rw [if_neg (by omega), if_neg (by omega), h]
theorem np_kn {x : Nat} (hk : k < 5) (h : np_d Tk ds (x / 24) = none) : np_P P Tk Q ds k x = P k x := by
  unfold np_P; rw [if_neg (by omega), if_neg (by omega), h]
end
-- what load has checked
def np_H (P : Nat → Nat → Nat) (Tk : List tz_T) (Q : Nat → Nat → Nat) (ds : List df_D) (e : Nat) : Prop :=
  pg_ok P ∧ rl_le P ∧ (∀ i j, i < ds.length → j < ds.length → mn_f Tk ds i = mn_f Tk ds j → i = j) ∧
  (∀ (i : Nat) (d : df_D), ds[i]? = some d → i < ds.length ∧ mn_f Tk ds i < 5 ∧ d.2.1 < d.2.2.1 ∧ d.2.2.1 - d.2.1 ≤ 24 ∧ 120 ≤ d.2.1 ∧ d.2.2.1 ≤ e ∧
    ∀ u, d.2.1 ≤ u → u < d.2.2.1 → pg_op (Q 0 u) ∧ (Q 0 u = 1 → Q 1 u < 1000000000) ∧ (Q 0 u = 13 → Q 1 u < 5 ∧ ((∃ j, j < ds.length ∧ mn_f Tk ds j = Q 1 u) ∨ 0 < P 5 (Q 1 u))) ∧
      (d.2.1 ≤ Q 2 u ∧ Q 2 u ≤ u) ∧ (d.2.1 ≤ Q 3 u ∧ Q 3 u ≤ u) ∧ (d.2.1 ≤ Q 4 u ∧ Q 4 u ≤ u) ∧ (∀ j, j < pg_n (Q 0 u) → Q (2 + j) u < u))
section
variable {P : Nat → Nat → Nat} {Tk : List tz_T} {Q : Nat → Nat → Nat} {ds : List df_D} {e : Nat}
theorem np_c (H : np_H P Tk Q ds e) (f : Nat) : (∃ i d, ds[i]? = some d ∧ mn_f Tk ds i = f ∧ np_d Tk ds f = some d) ∨ ((¬ ∃ i, i < ds.length ∧ mn_f Tk ds i = f) ∧ np_d Tk ds f = none) := by
  by_cases h : ∃ i, i < ds.length ∧ mn_f Tk ds i = f
  · obtain ⟨i, h1, h2⟩ := h
    have hs : ds[i]? = some ds[i] := List.getElem?_eq_getElem h1
    exact Or.inl ⟨i, ds[i], hs, h2, h2 ▸ np_s H.2.2.1 hs⟩
  · exact Or.inr ⟨h, np_n h⟩
theorem np_pos (H : np_H P Tk Q ds e) {f : Nat} (h : 0 < P 5 f ∨ ∃ i, i < ds.length ∧ mn_f Tk ds i = f) : 0 < np_P P Tk Q ds 5 f := by
  rcases np_c H f with ⟨i, d, h1, h2, h3⟩ | ⟨h1, h2⟩
  · rw [np_5s h3]; have := (H.2.2.2 i d h1).2.2.1; omega
  · rw [np_5n h2]
    rcases h with h | h
    · exact h
    · exact absurd h h1
theorem np_us (H : np_H P Tk Q ds e) {u : Nat} (hu : ou_us (np_P P Tk Q ds) u) : (∃ i d, ds[i]? = some d ∧ mn_f Tk ds i = u / 24 ∧ np_d Tk ds (u / 24) = some d ∧ u % 24 < d.2.2.1 - d.2.1) ∨ ((¬ ∃ i, i < ds.length ∧ mn_f Tk ds i = u / 24) ∧ np_d Tk ds (u / 24) = none ∧ ou_us P u) := by
  obtain ⟨h1, h2⟩ := hu
  rcases np_c H (u / 24) with ⟨i, d, a, b, c⟩ | ⟨a, b⟩
  · rw [np_5s c] at h2; exact Or.inl ⟨i, d, a, b, c, h2⟩
  · rw [np_5n b] at h2; exact Or.inr ⟨a, b, h1, h2⟩
theorem np_ok (H : np_H P Tk Q ds e) : pg_ok (np_P P Tk Q ds) ∧ rl_le (np_P P Tk Q ds) := by
  have H0 := H
  obtain ⟨hP, hle, hu, hd⟩ := H
  refine ⟨⟨by rw [np_6]; exact hP.1, by rw [np_6]; exact hP.2.1, fun f => ?_, fun u us => ?_⟩, fun u us => ?_⟩
  · rcases np_c H0 f with ⟨i, d, h1, h2, h3⟩ | ⟨h1, h2⟩
    · rw [np_5s h3]; exact (hd i d h1).2.2.2.1
    · rw [np_5n h2]; exact hP.2.2.1 f
  · rcases np_us H0 us with ⟨i, d, h1, h2, h3, h4⟩ | ⟨h1, h2, h3⟩
    · obtain ⟨_, f5, FE, s24, d120, de, nd⟩ := hd i d h1
      obtain ⟨q1, q2, q3, ⟨q4, q5⟩, ⟨q6, q7⟩, ⟨q8, q9⟩, q10⟩ := nd (d.2.1 + u % 24) (by omega) (by omega)
      have k0 : np_P P Tk Q ds 0 u = Q 0 (d.2.1 + u % 24) := np_ks (by decide) h3
      have k1 : np_P P Tk Q ds 1 u = Q 1 (d.2.1 + u % 24) := np_ks (by decide) h3
      unfold pg_nd
      rw [k0, k1]
      refine ⟨q1, q2, fun q => ⟨(q3 q).1, np_pos H0 ((q3 q).2.symm)⟩, fun j hj => ?_⟩
      have n3 : pg_n (Q 0 (d.2.1 + u % 24)) ≤ 3 := by unfold pg_n; repeat' split
                                                      all_goals omega
      have kj : np_P P Tk Q ds (2 + j) u = Q (2 + j) (d.2.1 + u % 24) + u / 24 * 24 - d.2.1 := by
        rw [np_ks (by omega) h3, if_neg (by omega)]
      have lt := q10 j hj
      have ge : d.2.1 ≤ Q (2 + j) (d.2.1 + u % 24) := by
        have : j = 0 ∨ j = 1 ∨ j = 2 := by omega
        rcases this with z | z | z <;> subst z
        · exact q4
        · exact q6
        · exact q8
      rw [kj]
      omega
    · have k0 : np_P P Tk Q ds 0 u = P 0 u := np_kn (by decide) h2
      have k1 : np_P P Tk Q ds 1 u = P 1 u := np_kn (by decide) h2
      obtain ⟨q1, q2, q3, q4⟩ := hP.2.2.2 u h3
      unfold pg_nd
      rw [k0, k1]
      refine ⟨q1, q2, fun q => ⟨(q3 q).1, np_pos H0 (Or.inl (q3 q).2)⟩, fun j hj => ?_⟩
      have n3 : pg_n (P 0 u) ≤ 3 := by unfold pg_n; repeat' split
                                       all_goals omega
      rw [np_kn (by omega) h2]
      exact q4 j hj
  · rcases np_us H0 us with ⟨i, d, h1, h2, h3, h4⟩ | ⟨h1, h2, h3⟩
    · obtain ⟨_, f5, FE, s24, d120, de, nd⟩ := hd i d h1
      obtain ⟨q1, q2, q3, ⟨q4, q5⟩, ⟨q6, q7⟩, ⟨q8, q9⟩, q10⟩ := nd (d.2.1 + u % 24) (by omega) (by omega)
      have k2 : np_P P Tk Q ds 2 u = Q 2 (d.2.1 + u % 24) + u / 24 * 24 - d.2.1 := np_ks (by decide) h3
      have k3 : np_P P Tk Q ds 3 u = Q 3 (d.2.1 + u % 24) + u / 24 * 24 - d.2.1 := np_ks (by decide) h3
      have k4 : np_P P Tk Q ds 4 u = Q 4 (d.2.1 + u % 24) + u / 24 * 24 - d.2.1 := np_ks (by decide) h3
      rw [k2, k3, k4]
      omega
    · rw [np_kn (k := 2) (by decide) h2, np_kn (k := 3) (by decide) h2, np_kn (k := 4) (by decide) h2]
      exact hle u h3
-- the kinds of the new program's nodes
theorem np_k (H : np_H P Tk Q ds e) {kc : Nat → Nat} {i : Nat} {d : df_D} (hs : ds[i]? = some d) : ∀ k, k < d.2.2.1 - d.2.1 → ki_k (np_P P Tk Q ds) kc (mn_f Tk ds i * 24 + k) = ki_k Q kc (d.2.1 + k) := by
  obtain ⟨hok, _⟩ := np_ok H
  have hd := np_s H.2.2.1 hs
  obtain ⟨_, f5, FE, s24, d120, de, nd⟩ := H.2.2.2 i d hs
  have clQ : ki_cl Q (fun u => d.2.1 ≤ u ∧ u < d.2.2.1) := by
    intro u hu j hj
    obtain ⟨q1, q2, q3, ⟨q4, q5⟩, ⟨q6, q7⟩, ⟨q8, q9⟩, q10⟩ := nd u hu.1 hu.2
    have n3 : pg_n (Q 0 u) ≤ 3 := by unfold pg_n; repeat' split
                                     all_goals omega
    have lt := q10 j hj
    refine ⟨lt, ?_, by omega⟩
    have : j = 0 ∨ j = 1 ∨ j = 2 := by omega
    rcases this with z | z | z <;> subst z
    · exact q4
    · exact q6
    · exact q8
  intro k hk
  have e1 : (mn_f Tk ds i * 24 + k) / 24 = mn_f Tk ds i := by omega
  have us : ou_us (np_P P Tk Q ds) (mn_f Tk ds i * 24 + k) := ⟨by omega, by rw [e1, np_5s hd]; omega⟩
  have := ki_u (P := np_P P Tk Q ds) (kc := kc) (S := fun u => mn_f Tk ds i * 24 ≤ u ∧ u < mn_f Tk ds i * 24 + (d.2.2.1 - d.2.1)) (K := fun u => ki_k Q kc (d.2.1 + (u - mn_f Tk ds i * 24))) (by
    intro u hu j hj
    have eu : u / 24 = mn_f Tk ds i := by omega
    have uu : ou_us (np_P P Tk Q ds) u := ⟨by omega, by rw [eu, np_5s hd]; omega⟩
    obtain ⟨_, _, _, o4⟩ := hok.2.2.2 u uu
    have := o4 j hj
    exact ⟨this.1, by omega, by omega⟩) (mn_f Tk ds i * 24 + k) ⟨by omega, by omega⟩ (by
    intro v _ hv
    have ev : v / 24 = mn_f Tk ds i := by omega
    have em : v % 24 = v - mn_f Tk ds i * 24 := by omega
    have hd2 : np_d Tk ds (v / 24) = some d := by rw [ev]; exact hd
    obtain ⟨q1, q2, q3, ⟨q4, q5⟩, ⟨q6, q7⟩, ⟨q8, q9⟩, q10⟩ := nd (d.2.1 + (v - mn_f Tk ds i * 24)) (by omega) (by omega)
    have k0 : np_P P Tk Q ds 0 v = Q 0 (d.2.1 + (v - mn_f Tk ds i * 24)) := by rw [← em]; exact np_ks (by decide) hd2
    have k1 : np_P P Tk Q ds 1 v = Q 1 (d.2.1 + (v - mn_f Tk ds i * 24)) := by rw [← em]; exact np_ks (by decide) hd2
    have k2 : np_P P Tk Q ds 2 v = Q 2 (d.2.1 + (v - mn_f Tk ds i * 24)) + v / 24 * 24 - d.2.1 := by rw [← em]; exact np_ks (by decide) hd2
    have k3 : np_P P Tk Q ds 3 v = Q 3 (d.2.1 + (v - mn_f Tk ds i * 24)) + v / 24 * 24 - d.2.1 := by rw [← em]; exact np_ks (by decide) hd2
    rw [k0, k1, k2, k3]
    have a2 : d.2.1 + (Q 2 (d.2.1 + (v - mn_f Tk ds i * 24)) + v / 24 * 24 - d.2.1 - mn_f Tk ds i * 24) = Q 2 (d.2.1 + (v - mn_f Tk ds i * 24)) := by omega
    have a3 : d.2.1 + (Q 3 (d.2.1 + (v - mn_f Tk ds i * 24)) + v / 24 * 24 - d.2.1 - mn_f Tk ds i * 24) = Q 3 (d.2.1 + (v - mn_f Tk ds i * 24)) := by omega
    rw [a2, a3]
    exact ki_e clQ ⟨by omega, by omega⟩)
  rw [← this]
  rw [Nat.add_sub_cancel_left]
theorem np_v (H : np_H P Tk Q ds e) {kc : Nat → Nat} (hl : la_ok P (fun f => ∃ i, i < ds.length ∧ mn_f Tk ds i = f) kc) (ht : ∀ p, ¬ tb_b Tk Q ds e kc p) : ki_ok (np_P P Tk Q ds) kc := by
  obtain ⟨hok, hle⟩ := np_ok H
  have H0 := H
  obtain ⟨hP, hle0, hu, hd⟩ := H
  -- kept nodes
  have keep : ∀ u, (ou_us P u ∧ np_d Tk ds (u / 24) = none) → ki_k (np_P P Tk Q ds) kc u = ki_k P kc u := by
    have cl : ∀ R : Nat → Nat → Nat, (∀ u, ou_us P u → np_d Tk ds (u / 24) = none → ∀ k, k < 5 → R k u = P k u) → ki_cl R (fun u => ou_us P u ∧ np_d Tk ds (u / 24) = none) := by
      intro R hR u ⟨h1, h2⟩ j hj
      rw [hR u h1 h2 0 (by decide)] at hj
      have n3 : pg_n (P 0 u) ≤ 3 := by unfold pg_n; repeat' split
                                       all_goals omega
      rw [hR u h1 h2 (2 + j) (by omega)]
      obtain ⟨_, _, _, o4⟩ := hP.2.2.2 u h1
      have := o4 j hj
      exact ⟨this.1, pg_pu h1 this.1 this.2, by rw [this.2]; exact h2⟩
    have c1 := cl (np_P P Tk Q ds) (fun u h1 h2 k hk => np_kn hk h2)
    have c2 := cl P (fun u h1 h2 k hk => rfl)
    intro u hu
    exact ki_ag c1 c2 (fun v hv => ⟨np_kn (by decide) hv.2, np_kn (by decide) hv.2, fun _ => np_kn (by decide) hv.2, fun _ => np_kn (by decide) hv.2⟩) u hu
  refine ⟨fun u us => ?_, fun f hf hs => ?_⟩
  · rcases np_us H0 us with ⟨i, d, h1, h2, h3, h4⟩ | ⟨h1, h2, h3⟩
    · obtain ⟨_, f5, FE, s24, d120, de, nd⟩ := hd i d h1
      obtain ⟨q1, q2, q3, ⟨q4, q5⟩, ⟨q6, q7⟩, ⟨q8, q9⟩, q10⟩ := nd (d.2.1 + u % 24) (by omega) (by omega)
      have k0 : np_P P Tk Q ds 0 u = Q 0 (d.2.1 + u % 24) := np_ks (by decide) h3
      have k2 : np_P P Tk Q ds 2 u = Q 2 (d.2.1 + u % 24) + u / 24 * 24 - d.2.1 := np_ks (by decide) h3
      have k3 : np_P P Tk Q ds 3 u = Q 3 (d.2.1 + u % 24) + u / 24 * 24 - d.2.1 := np_ks (by decide) h3
      have k4 : np_P P Tk Q ds 4 u = Q 4 (d.2.1 + u % 24) + u / 24 * 24 - d.2.1 := np_ks (by decide) h3
      have tr : ∀ v, d.2.1 ≤ v → v < d.2.2.1 → ki_k (np_P P Tk Q ds) kc (v + u / 24 * 24 - d.2.1) = ki_k Q kc v := by
        intro v v1 v2
        have := np_k H0 (kc := kc) h1 (v - d.2.1) (by omega)
        rw [h2, (by omega : u / 24 * 24 + (v - d.2.1) = v + u / 24 * 24 - d.2.1), (by omega : d.2.1 + (v - d.2.1) = v)] at this
        exact this
      rw [k0, k2, k3, k4, tr _ q4 (by omega), tr _ q6 (by omega), tr _ q8 (by omega)]
      exact Classical.byContradiction (fun w => ht _ (Or.inl ⟨d.2.1 + u % 24, by omega, by omega, w, rfl⟩))
    · have f5 : u / 24 < 5 := by have := h3.1; omega
      have s24 := hP.2.2.1 (u / 24)
      have us2 := h3.2
      have m := (hl (u / 24) f5 (by omega) h1).1 u (by omega) (by omega)
      obtain ⟨⟨a1, a2⟩, ⟨b1, b2⟩, ⟨c1, c2⟩⟩ := hle0 u h3
      have us3 : ∀ v, v ≤ u → v / 24 = u / 24 → ou_us P v ∧ np_d Tk ds (v / 24) = none := fun v v1 v2 => ⟨⟨by have := h3.1; omega, by rw [v2]; omega⟩, by rw [v2]; exact h2⟩
      rw [np_kn (k := 0) (by decide) h2, np_kn (k := 2) (by decide) h2, np_kn (k := 3) (by decide) h2, np_kn (k := 4) (by decide) h2, keep _ (us3 _ a1 a2), keep _ (us3 _ b1 b2), keep _ (us3 _ c1 c2)]
      exact m
  · rcases np_c H0 f with ⟨i, d, h1, h2, h3⟩ | ⟨h1, h2⟩
    · obtain ⟨_, f5, FE, s24, d120, de, nd⟩ := hd i d h1
      rw [np_5s h3]
      have := np_k H0 (kc := kc) h1 (d.2.2.1 - d.2.1 - 1) (by omega)
      rw [h2, (by omega : f * 24 + (d.2.2.1 - d.2.1 - 1) = f * 24 + (d.2.2.1 - d.2.1) - 1), (by omega : d.2.1 + (d.2.2.1 - d.2.1 - 1) = d.2.2.1 - 1)] at this
      rw [this]
      exact Classical.byContradiction (fun w => ht _ (Or.inr ⟨i, d, h1, by rw [h2]; exact w, rfl⟩))
    · rw [np_5n h2] at hs ⊢
      have s24 := hP.2.2.1 f
      have ef : (f * 24 + P 5 f - 1) / 24 = f := by omega
      rw [keep _ ⟨⟨by omega, by rw [ef]; omega⟩, by rw [ef]; exact h2⟩]
      exact (hl f hf hs h1).2
end
end
section
-- X installs the new program
theorem in_s {v a b : Nat} (h : b ≤ v) : nI v + (nI a - nI b) = nI (v + a - b) := by
  have e1 : nI (v + a - b) = nI (v - b) + nI a := by rw [nI_add]; congr 1; omega
  have e2 : nI v = nI (v - b) + nI b := by rw [nI_add]; congr 1; omega
  rw [e1, e2]
  grind
def in_e (u : Nat) (no nn pt no2 nn2 pt2 : Nat → Int32) : Prop := no2 u = no u ∧ nn2 u = nn u ∧ pt2 (u * 3) = pt (u * 3) ∧ pt2 (u * 3 + 1) = pt (u * 3 + 1) ∧ pt2 (u * 3 + 2) = pt (u * 3 + 2)
theorem in_et {u : Nat} {no nn pt no2 nn2 pt2 no3 nn3 pt3 : Nat → Int32} (h : in_e u no nn pt no2 nn2 pt2) (g : in_e u no2 nn2 pt2 no3 nn3 pt3) : in_e u no nn pt no3 nn3 pt3 := by
  obtain ⟨h1, h2, h3, h4, h5⟩ := h
  obtain ⟨g1, g2, g3, g4, g5⟩ := g
  exact ⟨g1.trans h1, g2.trans h2, g3.trans h3, g4.trans h4, g5.trans h5⟩
def in_r (Q : Nat → Nat → Nat) (f F j : Nat) (no nn pt : Nat → Int32) : Prop :=
  no (f * 24 + j) = nI (xc_t (Q 0 (F + j))) ∧ nn (f * 24 + j) = nI (Q 1 (F + j)) ∧ pt ((f * 24 + j) * 3) = nI (Q 2 (F + j) + f * 24 - F) ∧ pt ((f * 24 + j) * 3 + 1) = nI (Q 3 (F + j) + f * 24 - F) ∧ pt ((f * 24 + j) * 3 + 2) = nI (Q 4 (F + j) + f * 24 - F)
def in_R (Q : Nat → Nat → Nat) (f F k : Nat) (no0 nn0 pt0 no nn pt : Nat → Int32) : Prop :=
  (∀ j, j < k → in_r Q f F j no nn pt) ∧ ∀ u, (u < f * 24 ∨ f * 24 + k ≤ u) → in_e u no0 nn0 pt0 no nn pt
theorem in_Rs {Q : Nat → Nat → Nat} {f F k : Nat} {no0 nn0 pt0 no nn pt : Nat → Int32} {x0 x1 p0 p1 p2 : Int32} (h : in_R Q f F k no0 nn0 pt0 no nn pt)
    (e0 : x0 = nI (xc_t (Q 0 (F + k)))) (e1 : x1 = nI (Q 1 (F + k))) (e2 : p0 = nI (Q 2 (F + k) + f * 24 - F)) (e3 : p1 = nI (Q 3 (F + k) + f * 24 - F)) (e4 : p2 = nI (Q 4 (F + k) + f * 24 - F)) :
    in_R Q f F (k + 1) no0 nn0 pt0 (upd no (f * 24 + k) x0) (upd nn (f * 24 + k) x1) (upd (upd (upd pt ((f * 24 + k) * 3 + 0) p0) ((f * 24 + k) * 3 + 1) p1) ((f * 24 + k) * 3 + 2) p2) := by
  obtain ⟨h1, h2⟩ := h
  refine ⟨fun j hj => ?_, fun u hu => ?_⟩
  · unfold in_r
    by_cases q : j = k
    · subst q
      refine ⟨pk_us.trans e0, pk_us.trans e1, ?_, ?_, pk_us.trans e4⟩
      · rw [pk_un (by omega), pk_un (by omega)]; exact (pk_us (k := (f * 24 + j) * 3)).trans e2
      · rw [pk_un (by omega)]; exact pk_us.trans e3
    · rw [pk_un (by omega), pk_un (by omega), pk_un (by omega), pk_un (by omega), pk_un (by omega), pk_un (by omega), pk_un (by omega), pk_un (by omega), pk_un (by omega), pk_un (by omega), pk_un (by omega)]
      exact h1 j (by omega)
  · refine in_et (h2 u (by omega)) ?_
    unfold in_e
    rw [pk_un (by omega), pk_un (by omega), pk_un (by omega), pk_un (by omega), pk_un (by omega), pk_un (by omega), pk_un (by omega), pk_un (by omega), pk_un (by omega), pk_un (by omega), pk_un (by omega)]
    exact ⟨rfl, rfl, rfl, rfl, rfl⟩
section
variable {f_width f_textLength f_foundPlace f_tokenCount f_frameCount f_operandCount f_defCount f_nodeEnd : Int32} {a_text a_tokenCode a_tokenPlace a_frameCode a_framePlace a_operand a_defPlace a_defFirst a_defEnd a_nodeOp a_nodeNumber a_nodePlace a_nodeDepth a_nodeKind a_part a_size a_kindFound a_choice a_status : Nat → Int32} {a_result : Nat → Int64} {a_slotFunction a_slotArgument : Nat → Int32} {L : Nat} {tx : Nat → Nat} {Tk : List tz_T} {Q : Nat → Nat → Nat} {ds : List df_D} {e : Nat} {P : Nat → Nat → Nat}
theorem in_103 {x1 : Int32} {a F v w p0 p1 p2 : Nat} {post : SX → Prop} {J2 J55 : Int32 → (Nat → Int32) → (Nat → Int32) → (Nat → Int32) → (Nat → Int32) → (Nat → Int32) → (Nat → Int32) → (Nat → Int32) → (Nat → Int32) → (Nat → Int32) → (Nat → Int32) → (Nat → Int32) → (Nat → Int32) → (Nat → Int32) → (Nat → Int32) → (Nat → Int32) → (Nat → Int32) → (Nat → Int32) → (Nat → Int32) → (Nat → Int32) → (Nat → Int64) → (Nat → Int32) → (Nat → Int32) → Prop} (hv : v < 320) (h120 : 120 ≤ v) (hw : w < 120)
    (e0 : a_part (v * 3 + 0) = nI p0) (e1 : a_part (v * 3 + 1) = nI p1) (e2 : a_part (v * 3 + 2) = nI p2) (l0 : F ≤ p0) (l1 : F ≤ p1) (l2 : F ≤ p2)
    (h : J55 (nI (v + 1)) a_text a_tokenCode a_tokenPlace a_frameCode a_framePlace a_operand a_defPlace a_defFirst a_defEnd a_nodeOp a_nodeNumber a_nodePlace a_nodeDepth a_nodeKind (upd (upd (upd a_part (w * 3 + 0) (nI (p0 + a - F))) (w * 3 + 1) (nI (p1 + a - F))) (w * 3 + 2) (nI (p2 + a - F))) a_size a_kindFound a_choice a_status a_result a_slotFunction a_slotArgument) :
    wX_install_103 post J2 J55 x1 (nI a - nI F) (nI v) (nI w) f_width f_textLength f_foundPlace f_tokenCount f_frameCount f_operandCount f_defCount f_nodeEnd 4 0 a_text a_tokenCode a_tokenPlace a_frameCode a_framePlace a_operand a_defPlace a_defFirst a_defEnd a_nodeOp a_nodeNumber a_nodePlace a_nodeDepth a_nodeKind a_part a_size a_kindFound a_choice a_status a_result a_slotFunction a_slotArgument := by
  have st : ∀ n j p (pt : Nat → Int32), j < 3 → pt (v * 3 + j) = nI p → F ≤ p → wX_install_103 post J2 J55 x1 (nI a - nI F) (nI v) (nI w) f_width f_textLength f_foundPlace f_tokenCount f_frameCount f_operandCount f_defCount f_nodeEnd n (nI (j + 1)) a_text a_tokenCode a_tokenPlace a_frameCode a_framePlace a_operand a_defPlace a_defFirst a_defEnd a_nodeOp a_nodeNumber a_nodePlace a_nodeDepth a_nodeKind (upd pt (w * 3 + j) (nI (p + a - F))) a_size a_kindFound a_choice a_status a_result a_slotFunction a_slotArgument →
      wX_install_103 post J2 J55 x1 (nI a - nI F) (nI v) (nI w) f_width f_textLength f_foundPlace f_tokenCount f_frameCount f_operandCount f_defCount f_nodeEnd (n + 1) (nI j) a_text a_tokenCode a_tokenPlace a_frameCode a_framePlace a_operand a_defPlace a_defFirst a_defEnd a_nodeOp a_nodeNumber a_nodePlace a_nodeDepth a_nodeKind pt a_size a_kindFound a_choice a_status a_result a_slotFunction a_slotArgument := by
    intro n j p pt hj hp hF g
    refine br_f (nI_ge (b := 3) hj (by decide)) ?_
    rw [ad_3, ad_3]
    refine ⟨vp_in_nI (by omega) (by decide), vp_in_nI (by omega) (by decide), fun A eA y ey => ?_⟩
    rw [nI_clamp (by omega), nI_clamp (by omega), hp, in_s hF] at eA
    rw [nI_1] at ey
    subst eA ey
    exact g
  refine st 3 0 p0 _ (by decide) e0 l0 (st 2 1 p1 _ (by decide) (by rw [pk_un (by omega)]; exact e1) l1 (st 1 2 p2 _ (by decide) (by rw [pk_un (by omega), pk_un (by omega)]; exact e2) l2 ?_))
  refine br_t (by decide) (fun y ey => ?_)
  rw [nI_1] at ey
  subst ey
  exact h
theorem in_55 (I : xm_I L tx Tk Q ds e a_text a_defPlace a_defFirst a_defEnd a_nodeOp a_nodeNumber a_nodePlace a_nodeDepth a_part) (H : np_H P Tk Q ds e) {i : Nat} {d : df_D} (hs : ds[i]? = some d) {post : SX → Prop} {J2 : Int32 → (Nat → Int32) → (Nat → Int32) → (Nat → Int32) → (Nat → Int32) → (Nat → Int32) → (Nat → Int32) → (Nat → Int32) → (Nat → Int32) → (Nat → Int32) → (Nat → Int32) → (Nat → Int32) → (Nat → Int32) → (Nat → Int32) → (Nat → Int32) → (Nat → Int32) → (Nat → Int32) → (Nat → Int32) → (Nat → Int32) → (Nat → Int32) → (Nat → Int64) → (Nat → Int32) → (Nat → Int32) → Prop}
    (h : ∀ no nn pt, in_R Q (mn_f Tk ds i) d.2.1 (d.2.2.1 - d.2.1) a_nodeOp a_nodeNumber a_part no nn pt → J2 (nI (i + 1)) a_text a_tokenCode a_tokenPlace a_frameCode a_framePlace a_operand a_defPlace a_defFirst a_defEnd no nn a_nodePlace a_nodeDepth a_nodeKind pt a_size a_kindFound a_choice a_status a_result a_slotFunction a_slotArgument) :
    ∃ n, wX_install_55 post J2 (nI i) (nI (mn_f Tk ds i * 24) - nI d.2.1) f_width f_textLength f_foundPlace f_tokenCount f_frameCount f_operandCount f_defCount f_nodeEnd n (nI d.2.1) a_text a_tokenCode a_tokenPlace a_frameCode a_framePlace a_operand a_defPlace a_defFirst a_defEnd a_nodeOp a_nodeNumber a_nodePlace a_nodeDepth a_nodeKind a_part a_size a_kindFound a_choice a_status a_result a_slotFunction a_slotArgument := by
  obtain ⟨il, f5, FE, s24, d120, de, nd⟩ := H.2.2.2 i d hs
  have e320 := I.2.2.2.2.2
  have dA := I.2.2.2.2.1 i d hs
  have b50 := xm_50 I.2.2.1 (by have := I.2.1.1; have := I.2.1.2.1; omega)
  have key : ∀ r v no nn pt, v + r = d.2.2.1 → d.2.1 ≤ v → in_R Q (mn_f Tk ds i) d.2.1 (v - d.2.1) a_nodeOp a_nodeNumber a_part no nn pt → ∀ n, r < n →
      wX_install_55 post J2 (nI i) (nI (mn_f Tk ds i * 24) - nI d.2.1) f_width f_textLength f_foundPlace f_tokenCount f_frameCount f_operandCount f_defCount f_nodeEnd n (nI v) a_text a_tokenCode a_tokenPlace a_frameCode a_framePlace a_operand a_defPlace a_defFirst a_defEnd no nn a_nodePlace a_nodeDepth a_nodeKind pt a_size a_kindFound a_choice a_status a_result a_slotFunction a_slotArgument := by
    intro r
    induction r with
    | zero =>
      intro v no nn pt hv hF R n hn
      obtain ⟨n, rfl⟩ : ∃ m, n = m + 1 := ⟨n - 1, by omega⟩
      have ev : v = d.2.2.1 := by omega
      subst ev
      refine ⟨vp_in_nI (by omega) (by decide), ?_⟩
      rw [nI_clamp (by omega), dA.2.2]
      refine br_t (nI_le (Nat.le_refl _) (by omega)) (fun y ey => ?_)
      rw [ey, nI_1]
      exact h no nn pt R
    | succ r ih =>
      intro v no nn pt hv hF R n hn
      obtain ⟨n, rfl⟩ : ∃ m, n = m + 1 := ⟨n - 1, by omega⟩
      refine ⟨vp_in_nI (by omega) (by decide), ?_⟩
      rw [nI_clamp (by omega), dA.2.2]
      refine br_f (nI_ge (by omega) (by omega)) (fun y ey => ?_)
      rw [in_s hF] at ey
      have eT : v + mn_f Tk ds i * 24 - d.2.1 = mn_f Tk ds i * 24 + (v - d.2.1) := by omega
      rw [eT] at ey
      subst ey
      have hin : vp_in (nI v) 320 := vp_in_nI (by omega) (by decide)
      have hit : vp_in (nI (mn_f Tk ds i * 24 + (v - d.2.1))) 320 := vp_in_nI (by omega) (by decide)
      obtain ⟨okk, _, _, rk⟩ := I.2.2.2.1.2 v (by omega) (by omega)
      obtain ⟨q1, q2, q3, ⟨q4, q5⟩, ⟨q6, q7⟩, ⟨q8, q9⟩, q10⟩ := nd v hF (by omega)
      obtain ⟨r1, r2, r3, r4, r5, r6, r7⟩ := rk
      obtain ⟨t1, t2, t3, t4, t5⟩ := R.2 v (by omega)
      refine ⟨hin, hit, fun A eA => ⟨hin, hit, fun B eB => ⟨4, ?_⟩⟩⟩
      rw [nI_clamp (by omega), nI_clamp (by omega)] at eA eB
      subst eA eB
      have ev : v = d.2.1 + (v - d.2.1) := (Nat.add_sub_of_le hF).symm
      clear q3
      refine in_103 (w := mn_f Tk ds i * 24 + (v - d.2.1)) (by omega) (by omega) (by omega) (t3.trans r5) (t4.trans r6) (t5.trans r7) q4 q6 q8 ?_
      have es : v - d.2.1 + 1 = v + 1 - d.2.1 := by omega
      refine ih (v + 1) _ _ _ (by omega) (by omega) (es ▸ in_Rs R ?_ ?_ ?_ ?_ ?_) n (by omega)
      · rw [← ev]; exact t1.trans r1
      · rw [← ev]; exact t2.trans r2
      · rw [← ev]
      · rw [← ev]
      · rw [← ev]
  exact ⟨_, key (d.2.2.1 - d.2.1) d.2.1 _ _ _ (by omega) (Nat.le_refl _) ⟨fun j hj => by omega, fun u _ => ⟨rfl, rfl, rfl, rfl, rfl⟩⟩ _ (Nat.lt_succ_self _)⟩
theorem in_X (I : xm_I L tx Tk Q ds e a_text a_defPlace a_defFirst a_defEnd a_nodeOp a_nodeNumber a_nodePlace a_nodeDepth a_part) (H : np_H P Tk Q ds e) (hX : xl_P P a_size a_nodeOp a_nodeNumber a_nodePlace a_part) {post : SX → Prop}
    (h : ∀ sz no nn pt, xl_P (np_P P Tk Q ds) sz no nn a_nodePlace pt → post (f_width, f_textLength, f_foundPlace, f_tokenCount, f_frameCount, f_operandCount, nI ds.length, f_nodeEnd, a_text, a_tokenCode, a_tokenPlace, a_frameCode, a_framePlace, a_operand, a_defPlace, a_defFirst, a_defEnd, no, nn, a_nodePlace, a_nodeDepth, a_nodeKind, pt, sz, a_kindFound, a_choice, a_status, a_result, a_slotFunction, a_slotArgument)) : wpX_install post (f_width, f_textLength, f_foundPlace, f_tokenCount, f_frameCount, f_operandCount, nI ds.length, f_nodeEnd, a_text, a_tokenCode, a_tokenPlace, a_frameCode, a_framePlace, a_operand, a_defPlace, a_defFirst, a_defEnd, a_nodeOp, a_nodeNumber, a_nodePlace, a_nodeDepth, a_nodeKind, a_part, a_size, a_kindFound, a_choice, a_status, a_result, a_slotFunction, a_slotArgument) := by
  have b50 := xm_50 I.2.2.1 (by have := I.2.1.1; have := I.2.1.2.1; omega)
  obtain ⟨p1, p2, p3, p4, p5⟩ := hX
  have key : ∀ r i sz no nn pt, i + r = ds.length → (∀ f, f < 5 → ((∃ j, j < i ∧ mn_f Tk ds j = f) → sz f = nI (np_P P Tk Q ds 5 f)) ∧ ((¬ ∃ j, j < i ∧ mn_f Tk ds j = f) → sz f = a_size f)) →
      (∀ u, ou_us (np_P P Tk Q ds) u → (∃ j, j < i ∧ mn_f Tk ds j = u / 24) → rl_nX (np_P P Tk Q ds) no nn pt u) → (∀ u, (¬ ∃ j, j < i ∧ mn_f Tk ds j = u / 24) → in_e u a_nodeOp a_nodeNumber a_part no nn pt) → ∀ n, r < n →
      wX_install_2 post f_width f_textLength f_foundPlace f_tokenCount f_frameCount f_operandCount (nI ds.length) f_nodeEnd n (nI i) a_text a_tokenCode a_tokenPlace a_frameCode a_framePlace a_operand a_defPlace a_defFirst a_defEnd no nn a_nodePlace a_nodeDepth a_nodeKind pt sz a_kindFound a_choice a_status a_result a_slotFunction a_slotArgument := by
    intro r
    induction r with
    | zero =>
      intro i sz no nn pt hi s1 s2 s3 n hn
      obtain ⟨n, rfl⟩ : ∃ m, n = m + 1 := ⟨n - 1, by omega⟩
      have ei : i = ds.length := by omega
      subst ei
      refine br_t (nI_le (Nat.le_refl _) (by omega)) (h sz no nn pt ?_)
      obtain ⟨k1, k2⟩ := np_ok H
      refine ⟨k1, k2, fun f hf => ?_, fun u hu => ?_, p5⟩
      · by_cases q : ∃ j, j < ds.length ∧ mn_f Tk ds j = f
        · exact (s1 f hf).1 q
        · rw [(s1 f hf).2 q, np_5n (np_n q)]; exact p3 f hf
      · rcases np_us H hu with ⟨j, d, h1, h2, h3, h4⟩ | ⟨h1, h2, h3⟩
        · exact s2 u hu ⟨j, (H.2.2.2 j d h1).1, h2⟩
        · obtain ⟨t1, t2, t3, t4, t5⟩ := s3 u h1
          obtain ⟨g1, g2, g3, g4, g5⟩ := p4 u h3
          unfold rl_nX
          rw [np_kn (k := 0) (by decide) h2, np_kn (k := 1) (by decide) h2, np_kn (k := 2) (by decide) h2, np_kn (k := 3) (by decide) h2, np_kn (k := 4) (by decide) h2]
          exact ⟨t1.trans g1, t2.trans g2, t3.trans g3, t4.trans g4, t5.trans g5⟩
    | succ r ih =>
      intro i sz no nn pt hi s1 s2 s3 n hn
      obtain ⟨n, rfl⟩ : ∃ m, n = m + 1 := ⟨n - 1, by omega⟩
      have il : i < ds.length := by omega
      have hs : ds[i]? = some ds[i] := List.getElem?_eq_getElem il
      generalize ds[i] = d at hs
      obtain ⟨_, f5, FE, s24, d120, de, nd⟩ := H.2.2.2 i d hs
      have f5a : ∀ j, j < ds.length → mn_f Tk ds j < 5 := fun j hj => (xm_f5 I hj).1
      have keep : ∀ u, 120 ≤ u → in_e u a_nodeOp a_nodeNumber a_part no nn pt := fun u hu => s3 u (fun ⟨j, j1, j2⟩ => by have := f5a j (by omega); omega)
      have I2 : xm_I L tx Tk Q ds e a_text a_defPlace a_defFirst a_defEnd no nn a_nodePlace a_nodeDepth pt := by
        obtain ⟨i1, i2, i3, i4, i5, i6⟩ := I
        refine ⟨i1, i2, i3, ⟨i4.1, fun u h1 h2 => ?_⟩, i5, i6⟩
        obtain ⟨g1, g2, g3, r1, r2, r3, r4, r5, r6, r7⟩ := i4.2 u h1 h2
        obtain ⟨t1, t2, t3, t4, t5⟩ := keep u h1
        exact ⟨g1, g2, g3, t1.trans r1, t2.trans r2, r3, r4, t3.trans r5, t4.trans r6, t5.trans r7⟩
      have dA := I.2.2.2.2.1 i d hs
      have hin : vp_in (nI i) 200 := vp_in_nI (by omega) (by decide)
      refine br_f (nI_ge il (by omega)) (xm_fn I2 il ⟨hin, fun y ey => ⟨hin, hin, vp_in_nI f5 (by decide), fun S eS => ⟨hin, fun z ez => ?_⟩⟩⟩)
      have e24 : nI (mn_f Tk ds i) * 24 = nI (mn_f Tk ds i * 24) := pk_mul _ 24
      rw [nI_clamp (by omega), dA.2.1, e24] at ey
      rw [nI_clamp (by omega), nI_clamp (by omega), dA.2.1, dA.2.2, pk_sub (by omega)] at eS
      rw [nI_clamp (by omega), dA.2.1] at ez
      subst ey eS ez
      refine in_55 I2 H hs (fun no2 nn2 pt2 R => ?_)
      have nw : ¬ ∃ j, j < i ∧ mn_f Tk ds j = mn_f Tk ds i := fun ⟨j, j1, j2⟩ => by have := H.2.2.1 j i (by omega) il j2; omega
      have hd := np_s H.2.2.1 hs
      refine ih (i + 1) _ no2 nn2 pt2 (by omega) (fun f hf => ⟨fun ⟨j, j1, j2⟩ => ?_, fun q => ?_⟩) (fun u hu ⟨j, j1, j2⟩ => ?_) (fun u q => ?_) n (by omega)
      · by_cases w : f = mn_f Tk ds i
        · subst w
          rw [pk_us, np_5s hd]
        · rw [pk_un w]
          exact (s1 f hf).1 ⟨j, by rcases Nat.lt_or_ge j i with z | z; exact z; exact absurd (by rw [← j2]; congr 1; omega) w, j2⟩
      · have w : f ≠ mn_f Tk ds i := fun w => q ⟨i, by omega, w.symm⟩
        rw [pk_un w]
        exact (s1 f hf).2 (fun ⟨j, j1, j2⟩ => q ⟨j, by omega, j2⟩)
      · by_cases w : u / 24 = mn_f Tk ds i
        · have hd2 : np_d Tk ds (u / 24) = some d := by rw [w]; exact hd
          have us := hu.2
          rw [w, np_5s hd] at us
          have em : mn_f Tk ds i * 24 + u % 24 = u := by omega
          have := R.1 (u % 24) us
          unfold in_r at this
          rw [em] at this
          unfold rl_nX
          rw [np_ks (k := 0) (by decide) hd2, np_ks (k := 1) (by decide) hd2, np_ks (k := 2) (by decide) hd2, np_ks (k := 3) (by decide) hd2, np_ks (k := 4) (by decide) hd2, w]
          exact this
        · obtain ⟨t1, t2, t3, t4, t5⟩ := R.2 u (by have := H.2.2.2 i d hs; omega)
          have ji : j < i := by rcases Nat.lt_or_ge j i with z | z; exact z; exact absurd (by rw [← j2]; congr 1; omega) w
          obtain ⟨g1, g2, g3, g4, g5⟩ := s2 u hu ⟨j, ji, j2⟩
          exact ⟨t1.trans g1, t2.trans g2, t3.trans g3, t4.trans g4, t5.trans g5⟩
      · have w : u / 24 ≠ mn_f Tk ds i := fun w => q ⟨i, by omega, w.symm⟩
        exact in_et (s3 u (fun ⟨j, j1, j2⟩ => q ⟨j, by omega, j2⟩)) (R.2 u (by omega))
  exact ⟨_, key ds.length 0 _ _ _ _ (by omega) (fun f _ => ⟨fun ⟨j, j1, _⟩ => absurd j1 (by omega), fun _ => rfl⟩) (fun u _ ⟨j, j1, _⟩ => absurd j1 (by omega)) (fun u _ => ⟨rfl, rfl, rfl, rfl, rfl⟩) _ (Nat.lt_succ_self _)⟩
end
end
section
-- Y stores the new program
noncomputable def np_g (Tk : List tz_T) (ds : List df_D) (g gl : Nat → Nat) : Nat → Nat := fun r =>
  match np_d Tk ds (r / 24) with
  | some d => g (d.2.1 + r % 24) + r / 24 * 24 - d.2.1
  | none => gl r
section
variable {P : Nat → Nat → Nat} {Tk : List tz_T} {Q : Nat → Nat → Nat} {ds : List df_D} {e : Nat} {g gl : Nat → Nat}
theorem np_gs {r : Nat} {d : df_D} (h : np_d Tk ds (r / 24) = some d) : np_g Tk ds g gl r = g (d.2.1 + r % 24) + r / 24 * 24 - d.2.1 := by
  unfold np_g; rw [h]
theorem np_gn {r : Nat} (h : np_d Tk ds (r / 24) = none) : np_g Tk ds g gl r = gl r := by
  unfold np_g; rw [h]
-- what is known of g within a def
def np_G (Q : Nat → Nat → Nat) (ds : List df_D) (g : Nat → Nat) : Prop := ∀ (i : Nat) (d : df_D), ds[i]? = some d → bf_B Q d.2.1 d.2.2.1 d.2.2.1 d.2.2.1 g ∧ g d.2.1 + 1 = d.2.2.1 ∧ ∀ j, d.2.1 ≤ j → j < d.2.2.1 → d.2.1 ≤ g j ∧ g j < d.2.2.1
theorem np_gg (H : np_H P Tk Q ds e) (G : np_G Q ds g) (hl : rl_g P gl) : rl_g (np_P P Tk Q ds) (np_g Tk ds g gl) := by
  have H0 := H
  obtain ⟨hP, hle, hu, hd⟩ := H
  obtain ⟨l1, l2, l3, l4⟩ := hl
  have c1 : ∀ r, ou_us (np_P P Tk Q ds) r → ou_us (np_P P Tk Q ds) (np_g Tk ds g gl r) ∧ np_g Tk ds g gl r / 24 = r / 24 := by
    intro r hr
    rcases np_us H0 hr with ⟨i, d, h1, h2, h3, h4⟩ | ⟨h1, h2, h3⟩
    · have s24 := (hd i d h1).2.2.2.1
      have := (G i d h1).2.2 (d.2.1 + r % 24) (by omega) (by omega)
      have r120 := hr.1
      have eg : np_g Tk ds g gl r / 24 = r / 24 := by rw [np_gs h3]; omega
      refine ⟨⟨by rw [np_gs h3]; omega, ?_⟩, eg⟩
      rw [eg, np_5s h3, np_gs h3]
      omega
    · obtain ⟨a, b⟩ := l1 r h3
      have eg : np_g Tk ds g gl r / 24 = r / 24 := by rw [np_gn h2]; exact b
      refine ⟨⟨by rw [np_gn h2]; exact a.1, ?_⟩, eg⟩
      rw [eg, np_5n h2, np_gn h2]
      have := a.2
      rw [b] at this
      exact this
  refine ⟨c1, fun f hf hs => ?_, fun r s hr hs he => ?_, fun u us => ?_⟩
  · have e1 : f * 24 / 24 = f := by omega
    have e2 : f * 24 % 24 = 0 := by omega
    rcases np_c H0 f with ⟨i, d, h1, h2, h3⟩ | ⟨h1, h2⟩
    · have := (G i d h1).2.1
      have := (hd i d h1).2.2.1
      rw [np_gs (d := d) (by rw [e1]; exact h3), e1, e2, np_5s h3, Nat.add_zero]
      omega
    · rw [np_gn (by rw [e1]; exact h2), np_5n h2]
      rw [np_5n h2] at hs
      exact l2 f hf hs
  · have q : r / 24 = s / 24 := by rw [← (c1 r hr).2, ← (c1 s hs).2, he]
    rcases np_us H0 hr with ⟨i, d, h1, h2, h3, h4⟩ | ⟨h1, h2, h3⟩
    · have h3s : np_d Tk ds (s / 24) = some d := by rw [← q]; exact h3
      have ss := hs.2
      rw [np_5s h3s] at ss
      rw [np_gs h3, np_gs h3s] at he
      have g1 := (G i d h1).2.2 (d.2.1 + r % 24) (by omega) (by omega)
      have g2 := (G i d h1).2.2 (d.2.1 + s % 24) (by omega) (by omega)
      have ge : g (d.2.1 + r % 24) = g (d.2.1 + s % 24) := by omega
      have : r % 24 = s % 24 := by
        rcases Nat.lt_trichotomy (r % 24) (s % 24) with w | w | w
        · exact absurd ge (bf_inj (G i d h1).1 (by omega) (by omega) (by omega))
        · exact w
        · exact absurd ge.symm (bf_inj (G i d h1).1 (by omega) (by omega) (by omega))
      omega
    · have h2s : np_d Tk ds (s / 24) = none := by rw [← q]; exact h2
      rw [np_gn h2, np_gn h2s] at he
      have ss := hs.2
      rw [np_5n h2s] at ss
      exact l3 r s h3 ⟨hs.1, ss⟩ he
  · rcases np_us H0 us with ⟨i, d, h1, h2, h3, h4⟩ | ⟨h1, h2, h3⟩
    · have s24 := (hd i d h1).2.2.2.1
      have u120 := us.1
      obtain ⟨j, j1, j2, j3⟩ := bf_sur (G i d h1).1 (by have := (hd i d h1).2.2.1; omega) (c := d.2.1 + u % 24) (by omega) (by omega)
      have e1 : (u / 24 * 24 + (j - d.2.1)) / 24 = u / 24 := by omega
      have e2 : (u / 24 * 24 + (j - d.2.1)) % 24 = j - d.2.1 := by omega
      refine ⟨u / 24 * 24 + (j - d.2.1), ⟨by omega, by rw [e1, e2, np_5s h3]; omega⟩, ?_⟩
      rw [np_gs (d := d) (by rw [e1]; exact h3), e1, e2, Nat.add_sub_of_le j1, j3]
      omega
    · obtain ⟨r, r1, r2⟩ := l4 u h3
      have er : r / 24 = u / 24 := by rw [← (l1 r r1).2, r2]
      have hr : np_d Tk ds (r / 24) = none := by rw [er]; exact h2
      exact ⟨r, ⟨r1.1, by rw [np_5n hr]; exact r1.2⟩, by rw [np_gn hr]; exact r2⟩
end
def st_e (u : Nat) (no nn na nb nc no2 nn2 na2 nb2 nc2 : Nat → Int32) : Prop := no2 u = no u ∧ nn2 u = nn u ∧ na2 u = na u ∧ nb2 u = nb u ∧ nc2 u = nc u
theorem st_et {u : Nat} {no nn na nb nc no2 nn2 na2 nb2 nc2 no3 nn3 na3 nb3 nc3 : Nat → Int32} (h : st_e u no nn na nb nc no2 nn2 na2 nb2 nc2) (k : st_e u no2 nn2 na2 nb2 nc2 no3 nn3 na3 nb3 nc3) : st_e u no nn na nb nc no3 nn3 na3 nb3 nc3 := by
  obtain ⟨h1, h2, h3, h4, h5⟩ := h
  obtain ⟨g1, g2, g3, g4, g5⟩ := k
  exact ⟨g1.trans h1, g2.trans h2, g3.trans h3, g4.trans h4, g5.trans h5⟩
def st_r (f F j : Nat) (no nn na nb nc no2 nn2 na2 nb2 nc2 : Nat → Int32) : Prop :=
  no2 (f * 24 + j) = no (F + j) ∧ nn2 (f * 24 + j) = nn (F + j) ∧ na2 (f * 24 + j) = na (F + j) + (nI (f * 24) - nI F) ∧ nb2 (f * 24 + j) = nb (F + j) + (nI (f * 24) - nI F) ∧ nc2 (f * 24 + j) = nc (F + j) + (nI (f * 24) - nI F)
def st_R (f F k : Nat) (no nn na nb nc no2 nn2 na2 nb2 nc2 : Nat → Int32) : Prop :=
  (∀ j, j < k → st_r f F j no nn na nb nc no2 nn2 na2 nb2 nc2) ∧ ∀ u, (u < f * 24 ∨ f * 24 + k ≤ u) → st_e u no nn na nb nc no2 nn2 na2 nb2 nc2
theorem st_Rs {f F k : Nat} {no nn na nb nc no2 nn2 na2 nb2 nc2 : Nat → Int32} (hF : f * 24 + k ≤ F) (h : st_R f F k no nn na nb nc no2 nn2 na2 nb2 nc2) :
    st_R f F (k + 1) no nn na nb nc (upd no2 (f * 24 + k) (no2 (F + k))) (upd nn2 (f * 24 + k) (nn2 (F + k))) (upd na2 (f * 24 + k) (na2 (F + k) + (nI (f * 24) - nI F))) (upd nb2 (f * 24 + k) (nb2 (F + k) + (nI (f * 24) - nI F))) (upd nc2 (f * 24 + k) (nc2 (F + k) + (nI (f * 24) - nI F))) := by
  obtain ⟨h1, h2⟩ := h
  refine ⟨fun j hj => ?_, fun u hu => ?_⟩
  · by_cases q : j = k
    · subst q
      obtain ⟨e1, e2, e3, e4, e5⟩ := h2 (F + j) (by omega)
      refine ⟨pk_us.trans e1, pk_us.trans e2, ?_, ?_, ?_⟩
      · rw [pk_us, e3]
      · rw [pk_us, e4]
      · rw [pk_us, e5]
    · unfold st_r
      rw [pk_un (by omega), pk_un (by omega), pk_un (by omega), pk_un (by omega), pk_un (by omega)]
      exact h1 j (by omega)
  · refine st_et (h2 u (by omega)) ?_
    unfold st_e
    rw [pk_un (by omega), pk_un (by omega), pk_un (by omega), pk_un (by omega), pk_un (by omega)]
    exact ⟨rfl, rfl, rfl, rfl, rfl⟩
section
variable {f_width f_length f_place f_toks f_nodes f_defs : Int32} {a_text a_tok a_tokNum a_tokPlace a_opened a_nOp a_nNum a_nPlace a_nA a_nB a_nC a_nLo a_nHi a_nLevel a_defName a_defPlace a_defRoot a_loaded a_count a_status : Nat → Int32} {a_number : Nat → Int64} {a_origin a_choice a_slotF a_slotX a_slotHeld : Nat → Int32} {Tk : List tz_T} {Q : Nat → Nat → Nat} {ds : List df_D} {e : Nat} {g gl : Nat → Nat} {P : Nat → Nat → Nat} {c0 : Nat}
theorem st_Y {i f F E : Nat} (hi : i < 100) (hn : a_defName i = nI f) (hr : a_defRoot i = nI F) (hr2 : a_defRoot (i + 1) = nI E) (hf : f < 5) (h120 : 120 ≤ F) (hFE : F < E) (hE : E ≤ 320) (h24 : E - F ≤ 24) {post : SY → Prop}
    (h : ∀ no nn na nb nc, st_R f F (E - F) a_nOp a_nNum a_nA a_nB a_nC no nn na nb nc → post (f_width, f_length, f_place, f_toks, f_nodes, f_defs, a_text, a_tok, a_tokNum, a_tokPlace, a_opened, no, nn, a_nPlace, na, nb, nc, a_nLo, a_nHi, a_nLevel, a_defName, a_defPlace, a_defRoot, upd a_loaded f 1, upd a_count f (nI (E - F)), a_status, a_number, a_origin, a_choice, a_slotF, a_slotX, a_slotHeld)) : wpY_store post (f_width, f_length, f_place, f_toks, f_nodes, f_defs, a_text, a_tok, a_tokNum, a_tokPlace, a_opened, a_nOp, a_nNum, a_nPlace, a_nA, a_nB, a_nC, a_nLo, a_nHi, a_nLevel, a_defName, a_defPlace, a_defRoot, a_loaded, a_count, a_status, a_number, a_origin, a_choice, a_slotF, a_slotX, a_slotHeld) (nI i) := by
  refine ⟨vp_in_nI hi (by decide), fun x ex => ⟨vp_in_nI (by omega) (by decide), fun y ey => ?_⟩⟩
  rw [nI_clamp (by omega), hn] at ex
  rw [nI_clamp (by omega), hr] at ey
  subst ex ey
  refine ⟨vp_in_nI hf (by decide), fun A eA => ?_⟩
  rw [nI_1]
  refine ⟨vp_in_nI (by omega) (by decide), vp_in_nI hf (by decide), fun B eB => ?_⟩
  have b1 : vp_nar .boolean 1 = 1 := by decide
  rw [nI_clamp (by omega), b1] at eA
  rw [nI_clamp (by omega), nI_clamp (by omega), hr2, pk_sub (by omega)] at eB
  subst eA eB
  have key : ∀ r k no nn na nb nc, k + r = E - F → st_R f F k a_nOp a_nNum a_nA a_nB a_nC no nn na nb nc → ∀ n, r < n →
      wY_store_40 post (nI f) (nI F) f_width f_length f_place f_toks f_nodes f_defs n (nI k) a_text a_tok a_tokNum a_tokPlace a_opened no nn a_nPlace na nb nc a_nLo a_nHi a_nLevel a_defName a_defPlace a_defRoot (upd a_loaded f 1) (upd a_count f (nI (E - F))) a_status a_number a_origin a_choice a_slotF a_slotX a_slotHeld := by
    intro r
    induction r with
    | zero =>
      intro k no nn na nb nc hk R n hn
      obtain ⟨n, rfl⟩ : ∃ m, n = m + 1 := ⟨n - 1, by omega⟩
      have ek : k = E - F := by omega
      subst ek
      refine ⟨vp_in_nI hf (by decide), ?_⟩
      rw [nI_clamp (by omega), pk_us]
      exact br_t (nI_le (Nat.le_refl _) (by omega)) (h no nn na nb nc R)
    | succ r ih =>
      intro k no nn na nb nc hk R n hn
      obtain ⟨n, rfl⟩ : ∃ m, n = m + 1 := ⟨n - 1, by omega⟩
      refine ⟨vp_in_nI hf (by decide), ?_⟩
      rw [nI_clamp (by omega), pk_us]
      have e24 : nI f * 24 = nI (f * 24) := pk_mul _ 24
      refine br_f (nI_ge (by omega) (by omega)) (fun x ex y ey => ?_)
      rw [e24, nI_add] at ex
      rw [e24] at ey
      subst ex ey
      rw [nI_add]
      have hin : vp_in (nI (F + k)) 320 := vp_in_nI (by omega) (by decide)
      have hit : vp_in (nI (f * 24 + k)) 320 := vp_in_nI (by omega) (by decide)
      refine ⟨hin, hit, fun A eA => ⟨hin, hit, fun B eB => ⟨hin, hit, fun C eC => ⟨hin, hit, fun D eD => ⟨hin, hit, fun Z eZ z ez => ?_⟩⟩⟩⟩⟩
      rw [nI_clamp (n := f * 24 + k) (by omega), nI_clamp (n := F + k) (by omega)] at eA eB eC eD eZ
      rw [nI_1] at ez
      subst eA eB eC eD eZ ez
      exact ih (k + 1) _ _ _ _ _ (by omega) (st_Rs (by omega) R) n (by omega)
  exact ⟨_, key (E - F) 0 _ _ _ _ _ (by omega) ⟨fun j hj => by omega, fun u _ => ⟨rfl, rfl, rfl, rfl, rfl⟩⟩ _ (Nat.lt_succ_self _)⟩
theorem st_G (I : ym_I Tk Q ds e g a_tok a_tokNum a_tokPlace a_defName a_defPlace a_defRoot a_nOp a_nNum a_nPlace a_nA a_nB a_nC a_nLo a_nHi a_nLevel) : np_G Q ds g := by
  intro i d hs
  have il : i < ds.length := by
    rcases Nat.lt_or_ge i ds.length with w | w
    · exact w
    · rw [List.getElem?_eq_none w] at hs; exact absurd hs (by simp)
  obtain ⟨d2, hs2, hD, dT, sT, d120, de, fe, dN, dP, dR, dR2, f5, yb⟩ := ym_d I il
  rw [hs] at hs2
  have := Option.some.inj hs2
  subst this
  obtain ⟨y1, y2, y3, y4, y5, y6, y7⟩ := yb
  refine ⟨y3, y7, fun j h1 h2 => ?_⟩
  have := y4 j h1 h2
  omega
theorem sto_l (I : ym_I Tk Q ds e g a_tok a_tokNum a_tokPlace a_defName a_defPlace a_defRoot a_nOp a_nNum a_nPlace a_nA a_nB a_nC a_nLo a_nHi a_nLevel) (H : np_H P Tk Q ds e) (hY : yl_P P gl a_loaded a_count a_nOp a_nNum a_nA a_nB a_nC)
    (hw : f_width = nI (P 6 0)) (hv : rl_V (np_P P Tk Q ds) c0) {post : Int32 → SY → Prop}
    (h : ∀ ld cn no nn na nb nc st nu og, yl_P (np_P P Tk Q ds) (np_g Tk ds g gl) ld cn no nn na nb nc → rl_tY (np_P P Tk Q ds) (np_g Tk ds g gl) (ou_E (np_P P Tk Q ds)) st nu og →
      post 1 (f_width, 0, -1, f_toks, f_nodes, nI ds.length, a_text, a_tok, a_tokNum, a_tokPlace, a_opened, no, nn, a_nPlace, na, nb, nc, a_nLo, a_nHi, a_nLevel, a_defName, a_defPlace, a_defRoot, ld, cn, st, nu, og, a_choice, a_slotF, a_slotX, a_slotHeld)) :
    ∃ n, wY_load_181 post n 0 f_width f_length f_place f_toks f_nodes (nI ds.length) a_text a_tok a_tokNum a_tokPlace a_opened a_nOp a_nNum a_nPlace a_nA a_nB a_nC a_nLo a_nHi a_nLevel a_defName a_defPlace a_defRoot a_loaded a_count a_status a_number a_origin a_choice a_slotF a_slotX a_slotHeld := by
  have G := st_G I
  have b50 := xm_50 I.2.2.2.1 I.1
  have e320 := I.2.2.2.2.1
  obtain ⟨p1, p2, p3, p4, p5⟩ := hY
  have key : ∀ r i ld cn no nn na nb nc, i + r = ds.length → (∀ f, f < 5 → ((∃ j, j < i ∧ mn_f Tk ds j = f) → ld f = 1 ∧ cn f = nI (np_P P Tk Q ds 5 f)) ∧ ((¬ ∃ j, j < i ∧ mn_f Tk ds j = f) → ld f = a_loaded f ∧ cn f = a_count f)) →
      (∀ u, ou_us (np_P P Tk Q ds) u → (∃ j, j < i ∧ mn_f Tk ds j = u / 24) → rl_nY (np_P P Tk Q ds) (np_g Tk ds g gl) no nn na nb nc u) → (∀ u, (¬ ∃ j, j < i ∧ mn_f Tk ds j = u / 24) → st_e u a_nOp a_nNum a_nA a_nB a_nC no nn na nb nc) → ∀ n, r < n →
      wY_load_181 post n (nI i) f_width f_length f_place f_toks f_nodes (nI ds.length) a_text a_tok a_tokNum a_tokPlace a_opened no nn a_nPlace na nb nc a_nLo a_nHi a_nLevel a_defName a_defPlace a_defRoot ld cn a_status a_number a_origin a_choice a_slotF a_slotX a_slotHeld := by
    intro r
    induction r with
    | zero =>
      intro i ld cn no nn na nb nc hi s1 s2 s3 n hn
      obtain ⟨n, rfl⟩ : ∃ m, n = m + 1 := ⟨n - 1, by omega⟩
      have ei : i = ds.length := by omega
      subst ei
      obtain ⟨k1, k2⟩ := np_ok H
      have yl : yl_P (np_P P Tk Q ds) (np_g Tk ds g gl) ld cn no nn na nb nc := by
        refine ⟨k1, np_gg H G p2, fun f hf => ?_, fun f hf hs => ?_, fun u hu => ?_⟩
        · by_cases q : ∃ j, j < ds.length ∧ mn_f Tk ds j = f
          · rw [((s1 f hf).1 q).1, if_pos (np_pos H (Or.inr q))]
          · rw [((s1 f hf).2 q).1, np_5n (np_n q)]; exact p3 f hf
        · by_cases q : ∃ j, j < ds.length ∧ mn_f Tk ds j = f
          · exact ((s1 f hf).1 q).2
          · rw [np_5n (np_n q)] at hs ⊢
            rw [((s1 f hf).2 q).2]; exact p4 f hf hs
        · rcases np_us H hu with ⟨j, d, h1, h2, h3, h4⟩ | ⟨h1, h2, h3⟩
          · exact s2 u hu ⟨j, (H.2.2.2 j d h1).1, h2⟩
          · obtain ⟨t1, t2, t3, t4, t5⟩ := s3 u h1
            obtain ⟨g1, g2, g3, g4, g5⟩ := p5 u h3
            obtain ⟨l1, l2⟩ := p2.1 u h3
            have hg : np_d Tk ds (gl u / 24) = none := by rw [l2]; exact h2
            have lift : ∀ a, ou_us P a → a / 24 = u / 24 → ou_us (np_P P Tk Q ds) a ∧ np_g Tk ds g gl a = gl a := by
              intro a ha q
              have qa : np_d Tk ds (a / 24) = none := by rw [q]; exact h2
              exact ⟨⟨ha.1, by rw [np_5n qa]; exact ha.2⟩, np_gn qa⟩
            obtain ⟨_, _, _, o4⟩ := p1.2.2.2 _ l1
            have kid : ∀ a j, j < pg_n (P 0 (gl u)) → ou_us P a → gl a = P (2 + j) (gl u) → a / 24 = u / 24 := by
              intro a j hj ha q
              rw [← (p2.1 a ha).2, q, (o4 j hj).2, l2]
            unfold rl_nY
            rw [np_gn h2, np_kn (k := 0) (by decide) hg, np_kn (k := 1) (by decide) hg, np_kn (k := 2) (by decide) hg, np_kn (k := 3) (by decide) hg, np_kn (k := 4) (by decide) hg]
            refine ⟨t1.trans g1, t2.trans g2, fun m => ?_, fun m => ?_, fun m => ?_⟩
            · obtain ⟨a, a1, a2, a3⟩ := g3 m
              obtain ⟨z1, z2⟩ := lift a a2 (kid a 0 m a2 a3)
              exact ⟨a, t3.trans a1, z1, z2.trans a3⟩
            · obtain ⟨a, a1, a2, a3⟩ := g4 m
              obtain ⟨z1, z2⟩ := lift a a2 (kid a 1 m a2 a3)
              exact ⟨a, t4.trans a1, z1, z2.trans a3⟩
            · obtain ⟨a, a1, a2, a3⟩ := g5 m
              obtain ⟨z1, z2⟩ := lift a a2 (kid a 2 m a2 a3)
              exact ⟨a, t5.trans a1, z1, z2.trans a3⟩
      exact br_t (nI_le (Nat.le_refl _) (by omega)) (so_Y yl (by rw [np_6]; exact hw) hv (fun st nu og ht => h ld cn no nn na nb nc st nu og yl ht))
    | succ r ih =>
      intro i ld cn no nn na nb nc hi s1 s2 s3 n hn
      obtain ⟨n, rfl⟩ : ∃ m, n = m + 1 := ⟨n - 1, by omega⟩
      have il : i < ds.length := by omega
      obtain ⟨d, hs, hD, dT, sT, d120, de, fe, dN, dP, dR, dR2, f5, yb⟩ := ym_d I il
      obtain ⟨_, _, FE, s24, _, _, nd⟩ := H.2.2.2 i d hs
      have f5a : ∀ j, j < ds.length → mn_f Tk ds j < 5 := fun j hj => by obtain ⟨_, _, _, _, _, _, _, _, _, _, _, _, q, _⟩ := ym_d I hj; exact q
      have nw : ¬ ∃ j, j < i ∧ mn_f Tk ds j = mn_f Tk ds i := fun ⟨j, j1, j2⟩ => by have := H.2.2.1 j i (by omega) il j2; omega
      have hd := np_s H.2.2.1 hs
      refine br_f (nI_ge il (by omega)) (st_Y (by omega) dN dR dR2 f5 d120 FE (by omega) s24 (fun no2 nn2 na2 nb2 nc2 R => fun y ey => ?_))
      rw [ey, nI_1]
      have jlt : ∀ f j, j < i + 1 → mn_f Tk ds j = f → f ≠ mn_f Tk ds i → j < i := by
        intro f j j1 j2 w
        rcases Nat.lt_or_ge j i with z | z
        · exact z
        · exact absurd (by rw [← j2]; congr 1; omega) w
      refine ih (i + 1) _ _ no2 nn2 na2 nb2 nc2 (by omega) (fun f hf => ⟨fun ⟨j, j1, j2⟩ => ?_, fun q => ?_⟩) (fun u hu ⟨j, j1, j2⟩ => ?_) (fun u q => ?_) n (by omega)
      · by_cases w : f = mn_f Tk ds i
        · subst w
          rw [pk_us, pk_us, np_5s hd]
          exact ⟨rfl, rfl⟩
        · rw [pk_un w, pk_un w]
          exact (s1 f hf).1 ⟨j, jlt f j j1 j2 w, j2⟩
      · have w : f ≠ mn_f Tk ds i := fun w => q ⟨i, by omega, w.symm⟩
        rw [pk_un w, pk_un w]
        exact (s1 f hf).2 (fun ⟨j, j1, j2⟩ => q ⟨j, by omega, j2⟩)
      · by_cases w : u / 24 = mn_f Tk ds i
        · have hd2 : np_d Tk ds (u / 24) = some d := by rw [w]; exact hd
          have us := hu.2
          rw [w, np_5s hd] at us
          have em : mn_f Tk ds i * 24 + u % 24 = u := by omega
          obtain ⟨r1, r2, r3, r4, r5⟩ := R.1 (u % 24) us
          rw [em] at r1 r2 r3 r4 r5
          obtain ⟨t1, t2, t3, t4, t5⟩ := s3 (d.2.1 + u % 24) (fun ⟨j, j1, j2⟩ => by have := f5a j (by omega); omega)
          obtain ⟨b1, b2⟩ := (G i d hs).2.2 (d.2.1 + u % 24) (by omega) (by omega)
          have eg : np_g Tk ds g gl u = g (d.2.1 + u % 24) + u / 24 * 24 - d.2.1 := np_gs hd2
          have eg2 : np_g Tk ds g gl u / 24 = u / 24 := by rw [eg]; omega
          have eg3 : d.2.1 + np_g Tk ds g gl u % 24 = g (d.2.1 + u % 24) := by rw [eg]; omega
          have hdg : np_d Tk ds (np_g Tk ds g gl u / 24) = some d := by rw [eg2]; exact hd2
          have k0 : np_P P Tk Q ds 0 (np_g Tk ds g gl u) = Q 0 (g (d.2.1 + u % 24)) := by rw [← eg3]; exact np_ks (by decide) hdg
          have k1 : np_P P Tk Q ds 1 (np_g Tk ds g gl u) = Q 1 (g (d.2.1 + u % 24)) := by rw [← eg3]; exact np_ks (by decide) hdg
          have k2 : np_P P Tk Q ds 2 (np_g Tk ds g gl u) = Q 2 (g (d.2.1 + u % 24)) + u / 24 * 24 - d.2.1 := by rw [← eg3, ← eg2]; exact np_ks (by decide) hdg
          have k3 : np_P P Tk Q ds 3 (np_g Tk ds g gl u) = Q 3 (g (d.2.1 + u % 24)) + u / 24 * 24 - d.2.1 := by rw [← eg3, ← eg2]; exact np_ks (by decide) hdg
          have k4 : np_P P Tk Q ds 4 (np_g Tk ds g gl u) = Q 4 (g (d.2.1 + u % 24)) + u / 24 * 24 - d.2.1 := by rw [← eg3, ← eg2]; exact np_ks (by decide) hdg
          have lift : ∀ a, d.2.1 ≤ a → a < d.2.2.1 → ou_us (np_P P Tk Q ds) (a + u / 24 * 24 - d.2.1) ∧ np_g Tk ds g gl (a + u / 24 * 24 - d.2.1) = g a + u / 24 * 24 - d.2.1 := by
            intro a a1 a2
            have ea : (a + u / 24 * 24 - d.2.1) / 24 = u / 24 := by omega
            have em : (a + u / 24 * 24 - d.2.1) % 24 = a - d.2.1 := by omega
            have hda : np_d Tk ds ((a + u / 24 * 24 - d.2.1) / 24) = some d := by rw [ea]; exact hd2
            refine ⟨⟨by have := hu.1; omega, by rw [ea, np_5s hd2, em]; omega⟩, ?_⟩
            rw [np_gs hda, ea, em, Nat.add_sub_of_le a1]
          obtain ⟨y1, y2, y3, y4, y5, y6, y7⟩ := yb
          obtain ⟨z1, z2, z3, z4, z5, z6⟩ := y5 (d.2.1 + u % 24) (by omega) (by omega)
          unfold rl_nY
          rw [k0, k1, k2, k3, k4]
          refine ⟨r1.trans (t1.trans z1), r2.trans (t2.trans z2), fun m => ?_, fun m => ?_, fun m => ?_⟩
          · obtain ⟨a, a1, a2, a3, a4⟩ := z4 m
            obtain ⟨v1, v2⟩ := lift a a2 a3
            exact ⟨_, by rw [r3, t3, a1, in_s a2, ← w], v1, by rw [v2, a4]⟩
          · obtain ⟨a, a1, a2, a3, a4⟩ := z5 m
            obtain ⟨v1, v2⟩ := lift a a2 a3
            exact ⟨_, by rw [r4, t4, a1, in_s a2, ← w], v1, by rw [v2, a4]⟩
          · obtain ⟨a, a1, a2, a3, a4⟩ := z6 m
            obtain ⟨v1, v2⟩ := lift a a2 a3
            exact ⟨_, by rw [r5, t5, a1, in_s a2, ← w], v1, by rw [v2, a4]⟩
        · obtain ⟨t1, t2, t3, t4, t5⟩ := R.2 u (by have := s24; omega)
          obtain ⟨g1, g2, g3, g4, g5⟩ := s2 u hu ⟨j, jlt _ j j1 j2 w, j2⟩
          exact ⟨t1.trans g1, t2.trans g2, fun m => by rw [t3]; exact g3 m, fun m => by rw [t4]; exact g4 m, fun m => by rw [t5]; exact g5 m⟩
      · have w : u / 24 ≠ mn_f Tk ds i := fun w => q ⟨i, by omega, w.symm⟩
        exact st_et (s3 u (fun ⟨j, j1, j2⟩ => q ⟨j, by omega, j2⟩)) (R.2 u (by omega))
  exact ⟨_, key ds.length 0 _ _ _ _ _ _ _ (by omega) (fun f _ => ⟨fun ⟨j, j1, _⟩ => absurd j1 (by omega), fun _ => ⟨rfl, rfl⟩⟩) (fun u _ ⟨j, j1, _⟩ => absurd j1 (by omega)) (fun u _ => ⟨rfl, rfl, rfl, rfl, rfl⟩) _ (Nat.lt_succ_self _)⟩
end
end
section
-- LOAD on X
theorem ld_n1 {L : Nat} {tx : Nat → Nat} {Tk : List tz_T} (hK : xp_T L tx Tk) {i : Nat} (hi : i < Tk.length) (h : tt_k Tk i = 1) : tt_n Tk i < 1000000000 := by
  obtain ⟨h1, h2, h3, _⟩ := hK.2.2 i hi
  rw [h3]
  rw [h2] at h
  by_cases d : tz_dg (tx (tt_p Tk i)) = true
  · have hn : tz_nm tx L (tt_p Tk i) = tz_n tx (tt_p Tk i) (tz_end tx L (tt_p Tk i) - tt_p Tk i) := by unfold tz_nm; rw [if_pos d]
    have he := tz_el (tx := tx) h1
    have ee : tz_end tx L (tt_p Tk i) = tz_e tx L tz_dg (L + 1) (tt_p Tk i + 1) := by unfold tz_end; rw [if_pos d]
    have hR := tz_eR tx L tz_dg (L + 1) (tt_p Tk i + 1) (by omega)
    rw [← ee] at hR
    obtain ⟨r1, r2, r3⟩ := hR
    have l9 : tz_end tx L (tt_p Tk i) - tt_p Tk i ≤ 9 := by
      unfold tz_kd at h
      rw [if_pos d] at h
      by_cases q : tz_end tx L (tt_p Tk i) - tt_p Tk i ≤ 9
      · exact q
      · rw [if_neg q] at h; omega
    rw [hn]
    have b := tz_nb (tx := tx) (p := tt_p Tk i) (tz_end tx L (tt_p Tk i) - tt_p Tk i) (fun j hj => by
      by_cases z : j = 0
      · rw [z]; exact d
      · exact (r2 (tt_p Tk i + j) (by omega) (by omega)).2)
    exact Nat.lt_of_lt_of_le b (Nat.pow_le_pow_right (by decide) l9 : 10 ^ _ ≤ 10 ^ 9)
  · unfold tz_nm
    rw [if_neg d]
    unfold tz_kd at h
    rw [if_neg d] at h
    split
    · omega
    · omega
theorem ld_H {L : Nat} {tx : Nat → Nat} {Tk : List tz_T} {Q : Nat → Nat → Nat} {ds : List df_D} {e : Nat} {tt dp df de no nn np nd pt : Nat → Int32} {P : Nat → Nat → Nat} (I : xm_I L tx Tk Q ds e tt dp df de no nn np nd pt) (hP : pg_ok P) (hle : rl_le P)
    (ho : ck_R Q (mn_f Tk ds) ds none) (hu : uk_R Tk P (mn_f Tk ds) ds.length none) : np_H P Tk Q ds e := by
  have ho : ∀ i, i < ds.length → ck_f Q (mn_f Tk ds) ds i 1 := by
    rcases ho with ⟨_, q⟩ | ⟨_, _, q, _⟩
    · exact q
    · exact absurd q (by simp)
  have hu : ∀ i, i < Tk.length → ¬ uk_t Tk P (mn_f Tk ds) ds.length i := by
    rcases hu with ⟨_, q⟩ | ⟨_, q, _⟩
    · exact q
    · exact absurd q (by simp)
  have c1 : ∀ i d, i < ds.length → ds[i]? = some d → (¬ ∃ j, j < i ∧ mn_f Tk ds j = mn_f Tk ds i) ∧ d.2.2.1 - d.2.1 ≤ 24 := by
    intro i d hi hs
    obtain ⟨c, h1, h2⟩ := ho i hi
    rw [hs] at h1
    have := Option.some.inj h1
    subst this
    rcases h2 with ⟨_, q⟩ | ⟨a, ⟨_, q⟩ | ⟨b, _⟩⟩
    · omega
    · omega
    · exact ⟨a, by omega⟩
  refine ⟨hP, hle, fun i j hi hj he => ?_, fun i d hs => ?_⟩
  · have si : ds[i]? = some ds[i] := List.getElem?_eq_getElem hi
    have sj : ds[j]? = some ds[j] := List.getElem?_eq_getElem hj
    rcases Nat.lt_trichotomy i j with w | w | w
    · exact absurd ⟨i, w, he⟩ (c1 j _ hj sj).1
    · exact w
    · exact absurd ⟨j, w, he.symm⟩ (c1 i _ hi si).1
  · have il : i < ds.length := by
      rcases Nat.lt_or_ge i ds.length with w | w
      · exact w
      · rw [List.getElem?_eq_none w] at hs; exact absurd hs (by simp)
    obtain ⟨f5, d2, hs2, hD, dT, sT, d120, de2, fe⟩ := xm_f5 I il
    rw [hs] at hs2
    have := Option.some.inj hs2
    subst this
    obtain ⟨⟨s1, s2, s3⟩, s4⟩ := tb_S I hs
    refine ⟨il, f5, s1, (c1 i d il hs).2, d120, de2, fun u h1 h2 => ?_⟩
    obtain ⟨n1, n2, n3, n4, n5, n6, n7, n8⟩ := s3 u h1 h2
    obtain ⟨okk, _, p9, rk⟩ := I.2.2.2.1.2 u (by omega) (by omega)
    have k13 := nd_13 okk.1
    refine ⟨n2.1, fun q => ?_, fun q => ⟨n2.2.1 q, ?_⟩, ⟨n5, n2.2.2.1⟩, ⟨n6, n2.2.2.2.1⟩, ⟨n7, n2.2.2.2.2⟩, n8⟩
    · rw [okk.2.2.1]
      refine ld_n1 I.2.1 p9 ?_
      rcases okk.1 with ⟨g1, g2, _⟩ | ⟨g1, _⟩ | ⟨g1, _⟩ | ⟨g1, _⟩ | ⟨g1, _⟩ | ⟨g1, _⟩
      · rw [g2]; exact q
      all_goals omega
    · rw [okk.2.2.1]
      have nu := hu _ p9
      by_cases w : ∃ j, j < ds.length ∧ mn_f Tk ds j = tt_n Tk (Q 9 u)
      · exact Or.inl w
      · refine Or.inr (Nat.pos_of_ne_zero (fun z => nu ⟨k13.mp q, w, z⟩))
theorem ld_V {L : Nat} {tx : Nat → Nat} {Tk : List tz_T} {Q : Nat → Nat → Nat} {ds : List df_D} {e : Nat} {tt dp df de no nn np nd pt : Nat → Int32} {P : Nat → Nat → Nat} (I : xm_I L tx Tk Q ds e tt dp df de no nn np nd pt) (H : np_H P Tk Q ds e)
    (hc : cl_R (fun c => la_ok P (fun f => ∃ i, i < ds.length ∧ mn_f Tk ds i = f) (ki_c c)) (fun c => tb_R Tk Q ds e (ki_c c)) none) : ∃ c, c < 243 ∧ rl_V (np_P P Tk Q ds) c := by
  rcases hc with ⟨_, c, c1, c2, c3⟩ | ⟨_, q, _⟩
  · refine ⟨c, c1, np_v H c2 (fun p hp => ?_)⟩
    have a := tb_200 I p hp
    have b := c3.2.1 p hp
    omega
  · exact absurd q (by simp)
theorem ld_c {Tk : List tz_T} {Q : Nat → Nat → Nat} {ds : List df_D} {i r : Nat} (ho : ck_R Q (mn_f Tk ds) ds (some (i, r))) : r = 4 ∨ r = 5 ∨ r = 6 := by
  rcases ho with ⟨q, _⟩ | ⟨i2, r2, q, _, n1, ⟨d, _, h⟩, _⟩
  · exact absurd q (by simp)
  · have := Prod.mk.inj (Option.some.inj q)
    obtain ⟨rfl, rfl⟩ := this
    rcases h with ⟨_, h⟩ | ⟨_, ⟨_, h⟩ | ⟨_, ⟨_, h⟩ | ⟨_, h⟩⟩⟩ <;> omega
section
variable {f_width f_textLength f_foundPlace f_tokenCount f_frameCount f_operandCount f_defCount f_nodeEnd : Int32} {a_text a_tokenCode a_tokenPlace a_frameCode a_framePlace a_operand a_defPlace a_defFirst a_defEnd a_nodeOp a_nodeNumber a_nodePlace a_nodeDepth a_nodeKind a_part a_size a_kindFound a_choice a_status : Nat → Int32} {a_result : Nat → Int64} {a_slotFunction a_slotArgument : Nat → Int32} {L : Nat} {tx : Nat → Nat} {Tk : List tz_T} {Q : Nat → Nat → Nat} {ds : List df_D} {e : Nat} {P : Nat → Nat → Nat}
theorem ld_15 (I : xm_I L tx Tk Q ds e a_text a_defPlace a_defFirst a_defEnd a_nodeOp a_nodeNumber a_nodePlace a_nodeDepth a_part) (hX : xl_P P a_size a_nodeOp a_nodeNumber a_nodePlace a_part) (hw : f_width = nI (P 6 0))
    (hmo : ∀ i j, i < j → j < Tk.length → tt_p Tk i < tt_p Tk j) {o : Option (Nat × Nat)} (ho : ck_R Q (mn_f Tk ds) ds o) {o2 : Option Nat} (hu : uk_R Tk P (mn_f Tk ds) ds.length o2) {o3 : Option Nat}
    (hc : cl_R (fun c => la_ok P (fun f => ∃ i, i < ds.length ∧ mn_f Tk ds i = f) (ki_c c)) (fun c => tb_R Tk Q ds e (ki_c c)) o3) {post : Int32 → SX → Prop}
    (b1 : ∀ i r, o = some (i, r) → ∀ d, ds[i]? = some d → post (nI r) (f_width, f_textLength, nI (tt_p Tk d.1), f_tokenCount, f_frameCount, f_operandCount, nI ds.length, nI e, a_text, a_tokenCode, a_tokenPlace, a_frameCode, a_framePlace, a_operand, a_defPlace, a_defFirst, a_defEnd, a_nodeOp, a_nodeNumber, a_nodePlace, a_nodeDepth, a_nodeKind, a_part, a_size, a_kindFound, a_choice, a_status, a_result, a_slotFunction, a_slotArgument))
    (b2 : o = none → ∀ i, o2 = some i → post 7 (f_width, f_textLength, nI (tt_p Tk i), f_tokenCount, f_frameCount, f_operandCount, nI ds.length, nI e, a_text, a_tokenCode, a_tokenPlace, a_frameCode, a_framePlace, a_operand, a_defPlace, a_defFirst, a_defEnd, a_nodeOp, a_nodeNumber, a_nodePlace, a_nodeDepth, a_nodeKind, a_part, a_size, a_kindFound, a_choice, a_status, a_result, a_slotFunction, a_slotArgument))
    (b3 : o = none → o2 = none → ∀ m, o3 = some m → ∀ nk ch, post 8 (f_width, f_textLength, nI m, f_tokenCount, f_frameCount, f_operandCount, nI ds.length, nI e, a_text, a_tokenCode, a_tokenPlace, a_frameCode, a_framePlace, a_operand, a_defPlace, a_defFirst, a_defEnd, a_nodeOp, a_nodeNumber, a_nodePlace, a_nodeDepth, nk, a_part, a_size, a_kindFound, ch, a_status, a_result, a_slotFunction, a_slotArgument))
    (b4 : o = none → o2 = none → o3 = none → ∀ sz no nn pt kf nk ch st re, xl_P (np_P P Tk Q ds) sz no nn a_nodePlace pt → (∀ f, f < 5 → ∃ r, kf f = nI r ∧ ki_r (rl_V (np_P P Tk Q ds)) 243 f r) → rl_tX (np_P P Tk Q ds) (ou_E (np_P P Tk Q ds)) st re →
      post 1 (f_width, 0, -1, f_tokenCount, f_frameCount, f_operandCount, nI ds.length, nI e, a_text, a_tokenCode, a_tokenPlace, a_frameCode, a_framePlace, a_operand, a_defPlace, a_defFirst, a_defEnd, no, nn, a_nodePlace, a_nodeDepth, nk, pt, sz, kf, ch, st, re, a_slotFunction, a_slotArgument)) :
    wX_load_15 post 1 f_width f_textLength f_foundPlace f_tokenCount f_frameCount f_operandCount (nI ds.length) (nI e) a_text a_tokenCode a_tokenPlace a_frameCode a_framePlace a_operand a_defPlace a_defFirst a_defEnd a_nodeOp a_nodeNumber a_nodePlace a_nodeDepth a_nodeKind a_part a_size a_kindFound a_choice a_status a_result a_slotFunction a_slotArgument := by
  refine br_t rfl (xm_defs I ho (fun q => ?_) (fun i r q d hs => ?_))
  · refine br_t rfl (xm_calls I hX.2.2.1 hX.1.2.2.1 hmo hu (fun q2 => ?_) (fun i q2 => ?_))
    · refine br_t rfl (ck_X I hmo hX hc (fun q3 nk ch => ?_) (fun m q3 nk ch => ?_))
      · subst q q2 q3
        have H := ld_H I hX.1 hX.2.1 ho hu
        obtain ⟨c0, c1, c2⟩ := ld_V I H hc
        refine br_t rfl (in_X I H hX (fun sz no nn pt xl => ?_))
        refine fk_X xl (fun kf nk2 ch2 hk => ?_)
        refine fo_X xl (by rw [np_6]; exact hw) c2 (fun st re ht => ?_)
        exact b4 rfl rfl rfl sz no nn pt kf nk2 ch2 st re xl hk ht
      · exact br_f (by decide) (b3 q q2 m q3 nk ch)
    · exact br_f (by decide) (br_f (by decide) (b2 q i q2))
  · subst q
    have rr := ld_c ho
    have n1 : nI r ≠ 1 := fun q => by have := (nI_eq (a := r) (b := 1) (by omega) (by decide)).mp q; omega
    exact br_f n1 (br_f n1 (br_f n1 (b1 i r rfl d hs)))
end
end
section
-- LOAD on Y
section
variable {f_width f_length f_place f_toks f_nodes f_defs : Int32} {a_text a_tok a_tokNum a_tokPlace a_opened a_nOp a_nNum a_nPlace a_nA a_nB a_nC a_nLo a_nHi a_nLevel a_defName a_defPlace a_defRoot a_loaded a_count a_status : Nat → Int32} {a_number : Nat → Int64} {a_origin a_choice a_slotF a_slotX a_slotHeld : Nat → Int32} {L : Nat} {tx : Nat → Nat} {Tk : List tz_T} {Q : Nat → Nat → Nat} {ds : List df_D} {e : Nat} {P : Nat → Nat → Nat} {g : Nat → Nat} {post : Int32 → SY → Prop}
theorem ld_Y2 (hT : tx_P L tx a_text) {f : Nat} (hC : tz_C tx L 0 Tk (some f)) (h : ∀ m tc tn tp, post 2 (f_width, nI L, nI f, m, f_nodes, f_defs, a_text, tc, tn, tp, a_opened, a_nOp, a_nNum, a_nPlace, a_nA, a_nB, a_nC, a_nLo, a_nHi, a_nLevel, a_defName, a_defPlace, a_defRoot, a_loaded, a_count, a_status, a_number, a_origin, a_choice, a_slotF, a_slotX, a_slotHeld)) : wpY_load post (f_width, nI L, f_place, f_toks, f_nodes, f_defs, a_text, a_tok, a_tokNum, a_tokPlace, a_opened, a_nOp, a_nNum, a_nPlace, a_nA, a_nB, a_nC, a_nLo, a_nHi, a_nLevel, a_defName, a_defPlace, a_defRoot, a_loaded, a_count, a_status, a_number, a_origin, a_choice, a_slotF, a_slotX, a_slotHeld) := by
  refine sy_scan (f_toks := f_toks) hT hC (fun q => absurd q (by simp)) (fun f2 q fL m tc tn tp => ?_)
  have := Option.some.inj q
  subst this
  have L2 := hT.1
  exact br_f (nI_nlt (b := 0) (by omega) (by omega)) (h m tc tn tp)
theorem ld_Y3 (hT : tx_P L tx a_text) (hC : tz_C tx L 0 Tk none) (hK : xp_T L tx Tk) {i : Nat} (hR : ms_R (tt_k Tk) Tk.length (some i))
    (h : ∀ tc tn tp opd, post 3 (f_width, nI L, nI (if i < Tk.length then tt_p Tk i else L), nI Tk.length, f_nodes, f_defs, a_text, tc, tn, tp, opd, a_nOp, a_nNum, a_nPlace, a_nA, a_nB, a_nC, a_nLo, a_nHi, a_nLevel, a_defName, a_defPlace, a_defRoot, a_loaded, a_count, a_status, a_number, a_origin, a_choice, a_slotF, a_slotX, a_slotHeld)) : wpY_load post (f_width, nI L, f_place, f_toks, f_nodes, f_defs, a_text, a_tok, a_tokNum, a_tokPlace, a_opened, a_nOp, a_nNum, a_nPlace, a_nA, a_nB, a_nC, a_nLo, a_nHi, a_nLevel, a_defName, a_defPlace, a_defRoot, a_loaded, a_count, a_status, a_number, a_origin, a_choice, a_slotF, a_slotX, a_slotHeld) := by
  refine sy_scan (f_toks := f_toks) hT hC (fun _ tc tn tp hTY => ?_) (fun f2 q => absurd q (by simp))
  refine br_t (by decide) (mf_Y hK hTY hR (fun q => absurd q (by simp)) (fun i2 q le opd => ?_))
  have := Option.some.inj q
  subst this
  have L2 := hT.1
  have TL := hK.1
  refine br_f (nI_nlt (b := 0) (by omega) (by omega)) (pk_le Tk.length i (fun c => ?_) (fun c => ⟨vp_in_nI (by omega) (by decide), ?_⟩))
  · have hh := h tc tn tp opd
    rw [if_neg (by omega)] at hh
    exact hh
  · rw [nI_clamp (by omega), (hTY i c).2.2]
    have hh := h tc tn tp opd
    rw [if_pos c] at hh
    exact hh
theorem ld_Y58 (hT : tx_P L tx a_text) (hC : tz_C tx L 0 Tk none) (hK : xp_T L tx Tk) (hR : ms_R (tt_k Tk) Tk.length none) (hM : md_F (tt_k Tk) Q ds 0 120 Tk.length e) (hE : e ≤ 320)
    (hok : ∀ u, 120 ≤ u → u < e → nd_ok (tt_k Tk) (tt_n Tk) Q u ∧ Q 11 u < 2 ^ 30 ∧ Q 9 u < Tk.length)
    (h : ∀ g tc tn tp opd dn dpl drt nop nnm npl nA nB nC nLo nHi nLv, ym_I Tk Q ds e g tc tn tp dn dpl drt nop nnm npl nA nB nC nLo nHi nLv → rd_L 120 a_nOp a_nNum a_nPlace a_nA a_nB a_nC a_nLo a_nHi a_nLevel nop nnm npl nA nB nC nLo nHi nLv →
      ∃ n, wY_load_58 post f_width (nI L) f_place (nI Tk.length) (nI e) (nI ds.length) a_text tc tn tp opd nop nnm npl nA nB nC nLo nHi nLv dn dpl drt a_loaded a_count a_status a_number a_origin a_choice a_slotF a_slotX a_slotHeld n 0) : wpY_load post (f_width, nI L, f_place, f_toks, f_nodes, f_defs, a_text, a_tok, a_tokNum, a_tokPlace, a_opened, a_nOp, a_nNum, a_nPlace, a_nA, a_nB, a_nC, a_nLo, a_nHi, a_nLevel, a_defName, a_defPlace, a_defRoot, a_loaded, a_count, a_status, a_number, a_origin, a_choice, a_slotF, a_slotX, a_slotHeld) := by
  have L2 := hT.1
  have TL := hK.1
  refine sy_scan (f_toks := f_toks) hT hC (fun _ tc tn tp hTY => ?_) (fun f2 q => absurd q (by simp))
  refine br_t (by decide) (mf_Y hK hTY hR (fun _ opd => ?_) (fun i2 q => absurd q (by simp)))
  refine br_t (by decide) (rd_Y (by omega) hTY (fun i hi => (hK.2.2 i hi).2.2.2.2) hE hM (fun u h1 h2 => ⟨(hok u h1 h2).1, (hok u h1 h2).2.1⟩) (fun g dn dpl drt nop nnm npl nA nB nC nLo nHi nLv h1 h2 h3 h4 => ?_))
  exact h g tc tn tp opd dn dpl drt nop nnm npl nA nB nC nLo nHi nLv ⟨by omega, fun i hi => ⟨(hK.2.2 i hi).2.2.2.2, by have := (hK.2.2 i hi).1; omega, xp_n5 hT hK hi⟩, hTY, hM, hE, hok, h1, h2, h3⟩ h4
theorem ld_58f (I : ym_I Tk Q ds e g a_tok a_tokNum a_tokPlace a_defName a_defPlace a_defRoot a_nOp a_nNum a_nPlace a_nA a_nB a_nC a_nLo a_nHi a_nLevel) {i r : Nat} (hR : ck_R Q (mn_f Tk ds) ds (some (i, r))) {d : df_D} (hs : ds[i]? = some d) (h : post (nI r) (f_width, f_length, nI (tt_p Tk d.1), f_toks, f_nodes, nI ds.length, a_text, a_tok, a_tokNum, a_tokPlace, a_opened, a_nOp, a_nNum, a_nPlace, a_nA, a_nB, a_nC, a_nLo, a_nHi, a_nLevel, a_defName, a_defPlace, a_defRoot, a_loaded, a_count, a_status, a_number, a_origin, a_choice, a_slotF, a_slotX, a_slotHeld)) :
    ∃ n, wY_load_58 post f_width f_length f_place f_toks f_nodes (nI ds.length) a_text a_tok a_tokNum a_tokPlace a_opened a_nOp a_nNum a_nPlace a_nA a_nB a_nC a_nLo a_nHi a_nLevel a_defName a_defPlace a_defRoot a_loaded a_count a_status a_number a_origin a_choice a_slotF a_slotX a_slotHeld n 0 := by
  have b50 := xm_50 I.2.2.2.1 I.1
  have rr := ld_c hR
  have n1 : nI r ≠ 1 := fun q => by have := (nI_eq (a := r) (b := 1) (by omega) (by decide)).mp q; omega
  rcases hR with ⟨q, _⟩ | ⟨i2, r2, q, il, _, hc, hj⟩
  · exact absurd q (by simp)
  · obtain ⟨rfl, rfl⟩ := Prod.mk.inj (Option.some.inj q)
    have key : ∀ k j, j + k = i → ∀ n, k < n → wY_load_58 post f_width f_length f_place f_toks f_nodes (nI ds.length) a_text a_tok a_tokNum a_tokPlace a_opened a_nOp a_nNum a_nPlace a_nA a_nB a_nC a_nLo a_nHi a_nLevel a_defName a_defPlace a_defRoot a_loaded a_count a_status a_number a_origin a_choice a_slotF a_slotX a_slotHeld n (nI j) := by
      intro k
      induction k with
      | zero =>
        intro j hk n hn
        obtain ⟨n, rfl⟩ : ∃ m, n = m + 1 := ⟨n - 1, by omega⟩
        have ej : j = i := by omega
        subst ej
        refine br_f (nI_ge il (by omega)) (ym_sz I il hc (br_f n1 ⟨vp_in_nI (by omega) (by decide), ?_⟩))
        obtain ⟨d2, hs2, hD, dT, sT, d120, de, fe, dN, dP, _⟩ := ym_d I il
        rw [hs] at hs2
        have := Option.some.inj hs2
        subst this
        rw [nI_clamp (by omega), dP]
        exact h
      | succ k ih =>
        intro j hk n hn
        obtain ⟨n, rfl⟩ : ∃ m, n = m + 1 := ⟨n - 1, by omega⟩
        have jl : j < ds.length := by omega
        refine br_f (nI_ge jl (by omega)) (ym_sz I jl (hj j (by omega)) (br_t rfl (fun y ey => ?_)))
        rw [ey, nI_1]
        exact ih (j + 1) (by omega) n (by omega)
    exact ⟨_, key i 0 (by omega) _ (Nat.lt_succ_self _)⟩
theorem ld_58 (I : ym_I Tk Q ds e g a_tok a_tokNum a_tokPlace a_defName a_defPlace a_defRoot a_nOp a_nNum a_nPlace a_nA a_nB a_nC a_nLo a_nHi a_nLevel) (hR : ck_R Q (mn_f Tk ds) ds none) (h : ∃ n, wY_load_97 post f_width f_length f_place f_toks f_nodes (nI ds.length) a_text a_tok a_tokNum a_tokPlace a_opened a_nOp a_nNum a_nPlace a_nA a_nB a_nC a_nLo a_nHi a_nLevel a_defName a_defPlace a_defRoot a_loaded a_count a_status a_number a_origin a_choice a_slotF a_slotX a_slotHeld n 0) :
    ∃ n, wY_load_58 post f_width f_length f_place f_toks f_nodes (nI ds.length) a_text a_tok a_tokNum a_tokPlace a_opened a_nOp a_nNum a_nPlace a_nA a_nB a_nC a_nLo a_nHi a_nLevel a_defName a_defPlace a_defRoot a_loaded a_count a_status a_number a_origin a_choice a_slotF a_slotX a_slotHeld n 0 := by
  have b50 := xm_50 I.2.2.2.1 I.1
  rcases hR with ⟨_, hj⟩ | ⟨i2, r2, q, _⟩
  · have key : ∀ k j, j + k = ds.length → ∀ n, k < n → wY_load_58 post f_width f_length f_place f_toks f_nodes (nI ds.length) a_text a_tok a_tokNum a_tokPlace a_opened a_nOp a_nNum a_nPlace a_nA a_nB a_nC a_nLo a_nHi a_nLevel a_defName a_defPlace a_defRoot a_loaded a_count a_status a_number a_origin a_choice a_slotF a_slotX a_slotHeld n (nI j) := by
      intro k
      induction k with
      | zero =>
        intro j hk n hn
        obtain ⟨n, rfl⟩ : ∃ m, n = m + 1 := ⟨n - 1, by omega⟩
        have ej : j = ds.length := by omega
        subst ej
        exact br_t (nI_le (Nat.le_refl _) (by omega)) h
      | succ k ih =>
        intro j hk n hn
        obtain ⟨n, rfl⟩ : ∃ m, n = m + 1 := ⟨n - 1, by omega⟩
        have jl : j < ds.length := by omega
        refine br_f (nI_ge jl (by omega)) (ym_sz I jl (hj j jl) (br_t rfl (fun y ey => ?_)))
        rw [ey, nI_1]
        exact ih (j + 1) (by omega) n (by omega)
    exact ⟨_, key ds.length 0 (by omega) _ (Nat.lt_succ_self _)⟩
  · exact absurd q (by simp)
-- one name
theorem ld_nm (I : ym_I Tk Q ds e g a_tok a_tokNum a_tokPlace a_defName a_defPlace a_defRoot a_nOp a_nNum a_nPlace a_nA a_nB a_nC a_nLo a_nHi a_nLevel) (hld : ∀ f, f < 5 → a_loaded f = if 0 < P 5 f then 1 else 0) {j n : Nat} (jl : j < Tk.length) 
    (h0 : ¬ uk_t Tk P (mn_f Tk ds) ds.length j → wY_load_97 post f_width f_length f_place (nI Tk.length) f_nodes (nI ds.length) a_text a_tok a_tokNum a_tokPlace a_opened a_nOp a_nNum a_nPlace a_nA a_nB a_nC a_nLo a_nHi a_nLevel a_defName a_defPlace a_defRoot a_loaded a_count a_status a_number a_origin a_choice a_slotF a_slotX a_slotHeld n (nI (j + 1)))
    (h1 : uk_t Tk P (mn_f Tk ds) ds.length j → post 7 (f_width, f_length, nI (tt_p Tk j), nI Tk.length, f_nodes, nI ds.length, a_text, a_tok, a_tokNum, a_tokPlace, a_opened, a_nOp, a_nNum, a_nPlace, a_nA, a_nB, a_nC, a_nLo, a_nHi, a_nLevel, a_defName, a_defPlace, a_defRoot, a_loaded, a_count, a_status, a_number, a_origin, a_choice, a_slotF, a_slotX, a_slotHeld)) :
    wY_load_97 post f_width f_length f_place (nI Tk.length) f_nodes (nI ds.length) a_text a_tok a_tokNum a_tokPlace a_opened a_nOp a_nNum a_nPlace a_nA a_nB a_nC a_nLo a_nHi a_nLevel a_defName a_defPlace a_defRoot a_loaded a_count a_status a_number a_origin a_choice a_slotF a_slotX a_slotHeld (n + 1) (nI j) := by
  have I0 := I
  obtain ⟨i1, i2, i3, _⟩ := I0
  obtain ⟨t1, t2, t3⟩ := i3 j jl
  obtain ⟨k27, p200, n5⟩ := i2 j jl
  have b50 := xm_50 I.2.2.2.1 I.1
  have hin : vp_in (nI j) 200 := vp_in_nI (by omega) (by decide)
  refine br_f (nI_ge jl (by omega)) ⟨hin, ?_⟩
  rw [nI_clamp (by omega), t1]
  refine pk_eq (tt_k Tk j) 13 (fun c => ⟨hin, ?_⟩) (fun c => fun y ey => by rw [ey, nI_1]; exact h0 (fun q => c q.1))
  have n5 := n5 c
  rw [t2]
  refine ⟨vp_in_nI n5 (by decide), ?_⟩
  rw [nI_clamp (by omega), hld _ n5]
  by_cases w : 0 < P 5 (tt_n Tk j)
  · rw [if_pos w]
    exact bq_1 (fun y ey => by rw [ey, nI_1]; exact h0 (fun q => by have := q.2.2; omega))
  · rw [if_neg w]
    refine br_t rfl ⟨hin, ym_of I n5 (fun i il fi => ?_) (fun no => ?_)⟩
    · exact br_t (nI_le (Nat.zero_le _) (by omega)) (fun y ey => by rw [ey, nI_1]; exact h0 (fun q => q.2.1 ⟨i, il, fi⟩))
    · refine br_f (by decide) ⟨hin, ?_⟩
      rw [t3]
      exact h1 ⟨c, no, by omega⟩
theorem ld_97f (I : ym_I Tk Q ds e g a_tok a_tokNum a_tokPlace a_defName a_defPlace a_defRoot a_nOp a_nNum a_nPlace a_nA a_nB a_nC a_nLo a_nHi a_nLevel) (hld : ∀ f, f < 5 → a_loaded f = if 0 < P 5 f then 1 else 0) {i : Nat} (hR : uk_R Tk P (mn_f Tk ds) ds.length (some i))
    (h : post 7 (f_width, f_length, nI (tt_p Tk i), nI Tk.length, f_nodes, nI ds.length, a_text, a_tok, a_tokNum, a_tokPlace, a_opened, a_nOp, a_nNum, a_nPlace, a_nA, a_nB, a_nC, a_nLo, a_nHi, a_nLevel, a_defName, a_defPlace, a_defRoot, a_loaded, a_count, a_status, a_number, a_origin, a_choice, a_slotF, a_slotX, a_slotHeld)) : ∃ n, wY_load_97 post f_width f_length f_place (nI Tk.length) f_nodes (nI ds.length) a_text a_tok a_tokNum a_tokPlace a_opened a_nOp a_nNum a_nPlace a_nA a_nB a_nC a_nLo a_nHi a_nLevel a_defName a_defPlace a_defRoot a_loaded a_count a_status a_number a_origin a_choice a_slotF a_slotX a_slotHeld n 0 := by
  rcases hR with ⟨q, _⟩ | ⟨i2, q, il, hu, hj⟩
  · exact absurd q (by simp)
  · have := Option.some.inj q
    subst this
    have key : ∀ k j, j + k = i → ∀ n, k < n → wY_load_97 post f_width f_length f_place (nI Tk.length) f_nodes (nI ds.length) a_text a_tok a_tokNum a_tokPlace a_opened a_nOp a_nNum a_nPlace a_nA a_nB a_nC a_nLo a_nHi a_nLevel a_defName a_defPlace a_defRoot a_loaded a_count a_status a_number a_origin a_choice a_slotF a_slotX a_slotHeld n (nI j) := by
      intro k
      induction k with
      | zero =>
        intro j hk n hn
        obtain ⟨n, rfl⟩ : ∃ m, n = m + 1 := ⟨n - 1, by omega⟩
        have ej : j = i := by omega
        subst ej
        exact ld_nm I hld il (fun q => absurd hu q) (fun _ => h)
      | succ k ih =>
        intro j hk n hn
        obtain ⟨n, rfl⟩ : ∃ m, n = m + 1 := ⟨n - 1, by omega⟩
        exact ld_nm I hld (by omega) (fun _ => ih (j + 1) (by omega) n (by omega)) (fun q => absurd q (hj j (by omega)))
    exact ⟨_, key i 0 (by omega) _ (Nat.lt_succ_self _)⟩
theorem ld_97 (I : ym_I Tk Q ds e g a_tok a_tokNum a_tokPlace a_defName a_defPlace a_defRoot a_nOp a_nNum a_nPlace a_nA a_nB a_nC a_nLo a_nHi a_nLevel) {gl : Nat → Nat} (hP : yl_P P gl a_loaded a_count a_nOp a_nNum a_nA a_nB a_nC) (h200 : ∀ kc p, tb_b Tk Q ds e kc p → p ≤ 200) (hR : uk_R Tk P (mn_f Tk ds) ds.length none) {o3 : Option Nat}
    (hc : cl_R (fun c => la_ok P (fun f => ∃ i, i < ds.length ∧ mn_f Tk ds i = f) (ki_c c)) (fun c => tb_R Tk Q ds e (ki_c c)) o3)
    (h8 : ∀ m, o3 = some m → ∀ ch, post 8 (f_width, f_length, nI m, nI Tk.length, nI e, nI ds.length, a_text, a_tok, a_tokNum, a_tokPlace, a_opened, a_nOp, a_nNum, a_nPlace, a_nA, a_nB, a_nC, a_nLo, a_nHi, a_nLevel, a_defName, a_defPlace, a_defRoot, a_loaded, a_count, a_status, a_number, a_origin, ch, a_slotF, a_slotX, a_slotHeld))
    (h1 : o3 = none → ∀ ch, ∃ n, wY_load_181 post n 0 f_width f_length f_place (nI Tk.length) (nI e) (nI ds.length) a_text a_tok a_tokNum a_tokPlace a_opened a_nOp a_nNum a_nPlace a_nA a_nB a_nC a_nLo a_nHi a_nLevel a_defName a_defPlace a_defRoot a_loaded a_count a_status a_number a_origin ch a_slotF a_slotX a_slotHeld) : ∃ n, wY_load_97 post f_width f_length f_place (nI Tk.length) (nI e) (nI ds.length) a_text a_tok a_tokNum a_tokPlace a_opened a_nOp a_nNum a_nPlace a_nA a_nB a_nC a_nLo a_nHi a_nLevel a_defName a_defPlace a_defRoot a_loaded a_count a_status a_number a_origin a_choice a_slotF a_slotX a_slotHeld n 0 := by
  have T2 := I.1
  rcases hR with ⟨_, hj⟩ | ⟨i2, q, _⟩
  · have key : ∀ k j, j + k = Tk.length → ∀ n, k < n → wY_load_97 post f_width f_length f_place (nI Tk.length) (nI e) (nI ds.length) a_text a_tok a_tokNum a_tokPlace a_opened a_nOp a_nNum a_nPlace a_nA a_nB a_nC a_nLo a_nHi a_nLevel a_defName a_defPlace a_defRoot a_loaded a_count a_status a_number a_origin a_choice a_slotF a_slotX a_slotHeld n (nI j) := by
      intro k
      induction k with
      | zero =>
        intro j hk n hn
        obtain ⟨n, rfl⟩ : ∃ m, n = m + 1 := ⟨n - 1, by omega⟩
        have ej : j = Tk.length := by omega
        subst ej
        refine br_t (nI_le (Nat.le_refl _) (by omega)) (cl_Y I hP h200 hc (fun q ch => ?_) (fun m q m2 ch => ?_))
        · exact br_t (by decide) (h1 q ch)
        · exact br_f (nI_nlt (b := 0) (by omega) (by omega)) (h8 m q ch)
      | succ k ih =>
        intro j hk n hn
        obtain ⟨n, rfl⟩ : ∃ m, n = m + 1 := ⟨n - 1, by omega⟩
        exact ld_nm I hP.2.2.1 (by omega) (fun _ => ih (j + 1) (by omega) n (by omega)) (fun q => absurd q (hj j (by omega)))
    exact ⟨_, key Tk.length 0 (by omega) _ (Nat.lt_succ_self _)⟩
  · exact absurd q (by simp)
end
end
section
-- LOAD
theorem lo_X {P : Nat → Nat → Nat} {sz no nn np pt no0 nn0 np0 pt0 : Nat → Int32} (hK : xp_K no0 nn0 np0 pt0 no nn np pt) (h : xl_P P sz no0 nn0 np0 pt0) : xl_P P sz no nn np pt := by
  obtain ⟨h1, h2, h3, h4, h5⟩ := h
  refine ⟨h1, h2, h3, fun u hu => ?_, fun u hu => ?_⟩
  · obtain ⟨k1, k2, k3⟩ := hK.1 u hu.1
    obtain ⟨g1, g2, g3, g4, g5⟩ := h4 u hu
    have u1 := hu.1
    exact ⟨k1.trans g1, k2.trans g2, (hK.2 _ (by omega)).trans g3, (hK.2 _ (by omega)).trans g4, (hK.2 _ (by omega)).trans g5⟩
  · exact (hK.1 u hu).2.2.trans (h5 u hu)
theorem lo_Y {P : Nat → Nat → Nat} {g : Nat → Nat} {ld cn nop nnm npl nA nB nC nLo nHi nLv a_nOp a_nNum a_nPlace a_nA a_nB a_nC a_nLo a_nHi a_nLevel : Nat → Int32} (hL : rd_L 120 a_nOp a_nNum a_nPlace a_nA a_nB a_nC a_nLo a_nHi a_nLevel nop nnm npl nA nB nC nLo nHi nLv) (h : yl_P P g ld cn a_nOp a_nNum a_nA a_nB a_nC) : yl_P P g ld cn nop nnm nA nB nC := by
  obtain ⟨h1, h2, h3, h4, h5⟩ := h
  refine ⟨h1, h2, h3, h4, fun r hr => ?_⟩
  obtain ⟨k1, k2, k3, k4, k5, k6, _⟩ := hL r hr.1
  obtain ⟨g1, g2, g3, g4, g5⟩ := h5 r hr
  exact ⟨k1.trans g1, k2.trans g2, fun n => by rw [k4]; exact g3 n, fun n => by rw [k5]; exact g4 n, fun n => by rw [k6]; exact g5 n⟩
theorem i_vc_load {k : Nat} {u : SX} {v : SY} (I : i_Rel k u v) (hk : k + 4 ≤ 2049) : wpX_load (fun r u' => wpY_load (fun r' v' => r' = r ∧ i_Rel (k + 4) u' v') v) u := by
  obtain ⟨P, L, tx, pl, sl, gl, hG, hX, hY⟩ := I
  obtain ⟨f_width, f_textLength, f_foundPlace, f_tokenCount, f_frameCount, f_operandCount, f_defCount, f_nodeEnd, a_text, a_tokenCode, a_tokenPlace, a_frameCode, a_framePlace, a_operand, a_defPlace, a_defFirst, a_defEnd, a_nodeOp, a_nodeNumber, a_nodePlace, a_nodeDepth, a_nodeKind, a_part, a_size, a_kindFound, a_choice, a_status, a_result, a_slotFunction, a_slotArgument⟩ := u
  obtain ⟨f_width2, f_length2, f_place2, f_toks2, f_nodes2, f_defs2, a_text2, a_tok2, a_tokNum2, a_tokPlace2, a_opened2, a_nOp2, a_nNum2, a_nPlace2, a_nA2, a_nB2, a_nC2, a_nLo2, a_nHi2, a_nLevel2, a_defName2, a_defPlace2, a_defRoot2, a_loaded2, a_count2, a_status2, a_number2, a_origin2, a_choice2, a_slotF2, a_slotX2, a_slotHeld2⟩ := v
  obtain ⟨x1, x2, x3, x4, x5, x6, x7, x8, x9, x10⟩ := hX
  obtain ⟨y1, y2, y3, y4, y5, y6, y7, y8, y9, y10⟩ := hY
  obtain ⟨g1, g2, g3, g4, g5, g6⟩ := hG
  subst x2 y2
  have hTX : tx_P L tx a_text := ⟨g3, fun i hi => ⟨x4 i hi, g4 i hi⟩⟩
  have hTY : tx_P L tx a_text2 := ⟨g3, fun i hi => ⟨y4 i hi, g4 i hi⟩⟩
  have hxl : xl_P P a_size a_nodeOp a_nodeNumber a_nodePlace a_part := ⟨g1, g5, x5, x6, x7⟩
  have hyl : yl_P P gl a_loaded2 a_count2 a_nOp2 a_nNum2 a_nA2 a_nB2 a_nC2 := ⟨g1, y8, y5, y6, y7⟩
  obtain ⟨Tk, e0, hC⟩ := tz_ex tx L L 0 (by omega)
  have hK := xp_Ti hC g3
  have L2 := g3
  have TL := hK.1
  -- what stands in the relation when nothing is taken in
  have relF : ∀ (pl2 : Int32) (no nn np pt nd nk ch : Nat → Int32) (f1 f2 f3 f4 f5 : Int32) (b1 b2 b3 b4 b5 b6 b7 b8 : Nat → Int32) (t1 t2 t3 : Int32) (c1 c2 c3 c4 nop nnm npl nA nB nC nLo nHi nLv c5 c6 c7 c8 : Nat → Int32),
      xp_K a_nodeOp a_nodeNumber a_nodePlace a_part no nn np pt → rd_L 120 a_nOp2 a_nNum2 a_nPlace2 a_nA2 a_nB2 a_nC2 a_nLo2 a_nHi2 a_nLevel2 nop nnm npl nA nB nC nLo nHi nLv →
      i_Rel (k + 4) (f_width, nI L, pl2, f1, f2, f3, f4, f5, a_text, b1, b2, b3, b4, b5, b6, b7, b8, no, nn, np, nd, nk, pt, a_size, a_kindFound, ch, a_status, a_result, a_slotFunction, a_slotArgument)
        (f_width2, nI L, pl2, t1, t2, t3, a_text2, c1, c2, c3, c4, nop, nnm, npl, nA, nB, nC, nLo, nHi, nLv, c5, c6, c7, a_loaded2, a_count2, a_status2, a_number2, a_origin2, c8, a_slotF2, a_slotX2, a_slotHeld2) := by
    intro pl2 no nn np pt nd nk ch f1 f2 f3 f4 f5 b1 b2 b3 b4 b5 b6 b7 b8 t1 t2 t3 c1 c2 c3 c4 nop nnm npl nA nB nC nLo nHi nLv c5 c6 c7 c8 kX kY
    obtain ⟨q1, q2, q3, q4, q5⟩ := lo_X kX hxl
    obtain ⟨r1, r2, r3, r4, r5⟩ := lo_Y kY hyl
    exact ⟨P, L, tx, pl2, sl, gl, ⟨g1, g2, g3, g4, g5, g6⟩, ⟨x1, rfl, rfl, x4, q3, q4, q5, x8, x9, x10⟩, ⟨y1, rfl, rfl, y4, r3, r4, r5, r2, y9, y10⟩⟩
  have kX0 : xp_K a_nodeOp a_nodeNumber a_nodePlace a_part a_nodeOp a_nodeNumber a_nodePlace a_part := ⟨fun u _ => ⟨rfl, rfl, rfl⟩, fun _ _ => rfl⟩
  have kY0 : rd_L 120 a_nOp2 a_nNum2 a_nPlace2 a_nA2 a_nB2 a_nC2 a_nLo2 a_nHi2 a_nLevel2 a_nOp2 a_nNum2 a_nPlace2 a_nA2 a_nB2 a_nC2 a_nLo2 a_nHi2 a_nLevel2 := fun j _ => ⟨rfl, rfl, rfl, rfl, rfl, rfl, rfl, rfl, rfl⟩
  obtain ⟨r, hR⟩ := ms_ex (tt_k Tk) Tk.length
  refine tx_Xc (f_tokenCount := f_tokenCount) hTX hC _ (fun q tc tp hTc => ?_) (fun f q fL m tc tp => ?_)
  · subst q
    refine br_t rfl (pr_X hTX hK hTc hR (fun q fcn ocn dcn nen fc fp op dp df de no nn np nd pt hA => ?_) (fun i q fcn ocn dcn nen fc fp op dp df de no nn np nd pt kX => ?_))
    · subst q
      obtain ⟨Q, e, F, fr, fs, ops, dl, hB, hS⟩ := hA
      obtain ⟨d1, d2, d3, d4, hN, kX, hdA, hle, hee, hdl, hms⟩ := hB
      have hS : fs = [] ∧ ops = [] ∧ df_C (tt_k Tk) Q dl Tk.length e := by
        rcases hS with ⟨_, s1, s2, s3⟩ | ⟨q, _⟩ | ⟨q, _⟩
        · exact ⟨s1, s2, s3⟩
        · omega
        · omega
      obtain ⟨s1, s2, s3⟩ := hS
      subst s1 s2
      have hM := md_of dl _ _ s3 [] _ _ ⟨rfl, rfl⟩
      rw [List.append_nil] at hM
      have e320 : e ≤ 320 := by rw [List.length_nil] at hee; omega
      have hdA2 := df_Af dl hdA
      have dlen : dl.length = dl.reverse.length := (List.length_reverse).symm
      rw [dlen] at d3
      generalize dl.reverse = ds at hM hdA2 d3
      subst d3 d4
      have IX : xm_I L tx Tk Q ds e a_text dp df de no nn np nd pt := ⟨hTX, hK, hM, hN, hdA2, e320⟩
      have hxl2 := lo_X kX hxl
      have hmo : ∀ i j, i < j → j < Tk.length → tt_p Tk i < tt_p Tk j := by
        intro i j hij hj
        have si : Tk[i]? = some Tk[i] := List.getElem?_eq_getElem (by omega)
        have sj : Tk[j]? = some Tk[j] := List.getElem?_eq_getElem hj
        have := tz_Cm Tk 0 none hC i j _ _ hij si sj
        rw [(tt_s si).2.2, (tt_s sj).2.2]
        exact this
      obtain ⟨o, ho⟩ := ck_Rex Q (mn_f Tk ds) ds
      obtain ⟨o2, hu⟩ := uk_ex Tk P (mn_f Tk ds) ds.length
      have h200 : ∀ kc p, tb_b Tk Q ds e kc p → p ≤ 200 := fun kc => tb_200 IX
      obtain ⟨o3, hc⟩ := cl_ex (fun c => la_ok P (fun f => ∃ i, i < ds.length ∧ mn_f Tk ds i = f) (ki_c c)) (fun c => tb_R Tk Q ds e (ki_c c)) (fun c => by
        obtain ⟨m, hm⟩ := tb_ex Tk Q ds e (ki_c c) (h200 (ki_c c))
        exact ⟨m, hm, hm.1, fun y hy => tb_u (h200 (ki_c c)) hy hm⟩)
      have hok : ∀ u, 120 ≤ u → u < e → nd_ok (tt_k Tk) (tt_n Tk) Q u ∧ Q 11 u < 2 ^ 30 ∧ Q 9 u < Tk.length := fun u h1 h2 => by
        obtain ⟨z1, z2, z3, _⟩ := hN.2 u h1 h2
        exact ⟨z1, by omega, z3⟩
      refine ld_15 IX hxl2 x1 hmo ho hu hc (fun i rr q d hs => ?_) (fun q i q2 => ?_) (fun q q2 m q3 nk ch => ?_) (fun q q2 q3 sz no2 nn2 pt2 kf nk ch st re xl hkf ht => ?_)
      · subst q
        refine ld_Y58 hTY hC hK hR hM e320 hok (fun g tc2 tn2 tp2 opd dn dpl drt nop nnm npl nA nB nC nLo nHi nLv IY kY => ld_58f IY ho hs ⟨rfl, ?_⟩)
        exact relF _ _ _ _ _ _ _ _ _ _ _ _ _ _ _ _ _ _ _ _ _ _ _ _ _ _ _ _ _ _ _ _ _ _ _ _ _ _ _ _ _ kX kY
      · subst q q2
        refine ld_Y58 hTY hC hK hR hM e320 hok (fun g tc2 tn2 tp2 opd dn dpl drt nop nnm npl nA nB nC nLo nHi nLv IY kY => ld_58 IY ho (ld_97f IY y5 hu ⟨rfl, ?_⟩))
        exact relF _ _ _ _ _ _ _ _ _ _ _ _ _ _ _ _ _ _ _ _ _ _ _ _ _ _ _ _ _ _ _ _ _ _ _ _ _ _ _ _ _ kX kY
      · subst q q2 q3
        refine ld_Y58 hTY hC hK hR hM e320 hok (fun g tc2 tn2 tp2 opd dn dpl drt nop nnm npl nA nB nC nLo nHi nLv IY kY => ld_58 IY ho (ld_97 IY (lo_Y kY hyl) h200 hu hc (fun m2 q ch2 => ?_) (fun q => absurd q (by simp))))
        have := Option.some.inj q
        subst this
        exact ⟨rfl, relF _ _ _ _ _ _ _ _ _ _ _ _ _ _ _ _ _ _ _ _ _ _ _ _ _ _ _ _ _ _ _ _ _ _ _ _ _ _ _ _ _ kX kY⟩
      · subst q q2 q3
        have H := ld_H IX g1 g5 ho hu
        obtain ⟨c0, c1, c2⟩ := ld_V IX H hc
        refine ld_Y58 hTY hC hK hR hM e320 hok (fun g tc2 tn2 tp2 opd dn dpl drt nop nnm npl nA nB nC nLo nHi nLv IY kY => ld_58 IY ho (ld_97 IY (lo_Y kY hyl) h200 hu hc (fun m2 q => absurd q (by simp)) (fun _ ch2 => ?_)))
        refine sto_l IY H (lo_Y kY hyl) y1 c2 (fun ld cn no3 nn3 na3 nb3 nc3 st3 nu3 og3 yl3 ht3 => ⟨rfl, ?_⟩)
        obtain ⟨q1, q2, q3, q4, q5⟩ := xl
        obtain ⟨r1, r2, r3, r4, r5⟩ := yl3
        refine ⟨np_P P Tk Q ds, 0, tx, -1, sl, np_g Tk ds g gl, ⟨q1, ⟨c0, c1, c2⟩, by omega, fun i hi => absurd hi (Nat.not_lt_zero i), q2, fun s hs f x hsl => ?_⟩, ⟨?_, rfl, rfl, fun i hi => absurd hi (Nat.not_lt_zero i), q3, q4, q5, fun f hf _ => hkf f hf, ht, x10⟩, ⟨?_, rfl, rfl, fun i hi => absurd hi (Nat.not_lt_zero i), r3, r4, r5, r2, ht3, y10⟩⟩
        · obtain ⟨z1, z2, z3⟩ := g6 s hs f x hsl
          exact ⟨z1, np_pos H (Or.inl z2), by rw [np_6]; exact z3⟩
        · rw [np_6]; exact x1
        · rw [np_6]; exact y1
    · subst q
      refine br_f (by decide) (br_f (by decide) (br_f (by decide) (br_f (by decide) ?_)))
      refine ld_Y3 hTY hC hK hR (fun tc2 tn2 tp2 opd => ⟨rfl, ?_⟩)
      exact relF _ _ _ _ _ _ _ _ _ _ _ _ _ _ _ _ _ _ _ _ _ _ _ _ _ _ _ _ _ _ _ _ _ _ _ _ _ _ _ _ _ kX kY0
  · subst q
    refine br_f (by decide) (br_f (by decide) (br_f (by decide) (br_f (by decide) (br_f (by decide) ?_))))
    refine ld_Y2 hTY hC (fun m2 tc2 tn2 tp2 => ⟨rfl, ?_⟩)
    exact relF _ _ _ _ _ _ _ _ _ _ _ _ _ _ _ _ _ _ _ _ _ _ _ _ _ _ _ _ _ _ _ _ _ _ _ _ _ _ _ _ _ kX0 kY0
end
section
-- LISTS: walking along second parts
noncomputable def wk_c (P : Nat → Nat → Nat) (c : Nat) : Nat := match ou_E P c with
  | none => 0
  | some o => if o.1 = 1 then (if o.2.2 = 0 then 1 else 2) else 0
noncomputable def wk_j (P : Nat → Nat → Nat) (c : Nat) : Nat := match ou_E P c with
  | none => 0
  | some o => ou_jn o.2.2
noncomputable def wk (P : Nat → Nat → Nat) (c : Nat) : Nat → Nat
  | 0 => c
  | n + 1 => if wk_c P (wk P c n) = 2 then ou_ps P 3 (wk_j P (wk P c n)) else wk P c n
section
variable {P : Nat → Nat → Nat} {c0 : Nat} {c : Nat}
theorem wk_s (h : wk_c P c = 2) : ou_ps P 3 (wk_j P c) = ou_ps P 3 (wk_j P c) := rfl
theorem wk_st {c n : Nat} (h : wk_c P (wk P c n) ≠ 2) : ∀ m, wk P c (n + m) = wk P c n := by
  intro m
  induction m with
  | zero => rfl
  | succ m ih =>
    show (if wk_c P (wk P c (n + m)) = 2 then _ else wk P c (n + m)) = wk P c n
    rw [ih, if_neg h]
theorem wk_su {c n : Nat} (h : wk_c P (wk P c n) = 2) : wk P c (n + 1) = ou_ps P 3 (wk_j P (wk P c n)) := if_pos h
theorem wk_3 (c : Nat) : wk_c P c = 0 ∨ wk_c P c = 1 ∨ wk_c P c = 2 := by
  unfold wk_c
  cases ou_E P c with
  | none => exact Or.inl rfl
  | some o =>
    dsimp only
    split
    · split
      · exact Or.inr (Or.inl rfl)
      · exact Or.inr (Or.inr rfl)
    · exact Or.inl rfl
theorem wk_0 (hP : pg_ok P) (hv : rl_V P c0) (h : wk_c P c = 0) : sl_k P c ≠ 1 ∧ (∀ o, ou_E P c = some o → o.1 ≠ 1) := by
  unfold wk_c at h
  unfold sl_k
  cases hE : ou_E P c with
  | none => exact ⟨by decide, fun o q => absurd q (by simp)⟩
  | some o =>
    rw [hE] at h
    dsimp only at h
    have n1 : o.1 ≠ 1 := by
      intro q
      rw [if_pos q] at h
      split at h <;> omega
    refine ⟨?_, fun o2 q => by rw [← Option.some.inj q]; exact n1⟩
    have t := ru_t (T := ou_E P) hP hv (fun d p q => ou_E_s.mp q) hE
    have l : o.1 < 6 := by
      rcases t with t | t
      · have := t.1; omega
      · have := t.1; omega
    intro q
    exact n1 ((nI_eq (a := o.1) (b := 1) (by omega) (by decide)).mp q)
theorem wk_1 (h : wk_c P c = 1) : ∃ o, ou_E P c = some o ∧ o.1 = 1 ∧ o.2.2 = 0 := by
  unfold wk_c at h
  cases hE : ou_E P c with
  | none => rw [hE] at h; exact absurd h (by decide)
  | some o =>
    rw [hE] at h
    dsimp only at h
    by_cases a : o.1 = 1
    · rw [if_pos a] at h
      by_cases b : o.2.2 = 0
      · exact ⟨o, rfl, a, b⟩
      · rw [if_neg b] at h; omega
    · rw [if_neg a] at h; omega
theorem wk_2 (hP : pg_ok P) (hv : rl_V P c0) (h3 : tt_K P c0 (c / 6) = 3) (h : wk_c P c = 2) : ∃ o, ou_E P c = some o ∧ o.1 = 1 ∧ o.2.1 = 3 ∧ o.2.2 ≠ 0 ∧ o.2.2 = lN (wk_j P c + 1) ∧ wk_j P c < 720 ∧ ou_uc P (wk_j P c) ∧ P 0 (wk_j P c / 6) = 24 ∧ ou_jn o.2.2 = wk_j P c := by
  unfold wk_c at h
  cases hE : ou_E P c with
  | none => rw [hE] at h; exact absurd h (by decide)
  | some o =>
    rw [hE] at h
    dsimp only at h
    by_cases a : o.1 = 1
    · rw [if_pos a] at h
      by_cases b : o.2.2 = 0
      · rw [if_pos b] at h; omega
      · have t := ru_t (T := ou_E P) hP hv (fun d p q => ou_E_s.mp q) hE
        have ej : wk_j P c = ou_jn o.2.2 := by unfold wk_j; rw [hE]
        rcases t with ⟨_, t2, _, t4⟩ | t
        · rcases t4 (by rw [t2]; exact h3) with q | ⟨j, j1, j2, j3, j4⟩
          · exact absurd q b
          · have e2 : ou_jn o.2.2 = j := by rw [j4, ou_jn_e j1]
            rw [ej, e2]
            exact ⟨o, rfl, a, by rw [t2]; exact h3, b, j4, j1, j2, j3, e2⟩
        · have := t.1; omega
    · rw [if_neg a] at h; omega
theorem wk_p (hP : pg_ok P) (hv : rl_V P c0) {j : Nat} (hu : ou_uc P j) (h24 : P 0 (j / 6) = 24) : ou_uc P (ou_ps P 2 j) ∧ tt_K P c0 (ou_ps P 2 j / 6) = 1 ∧ ou_uc P (ou_ps P 3 j) ∧ tt_K P c0 (ou_ps P 3 j / 6) = 3 := by
  have hm := hv.1 _ hu.1
  rw [h24] at hm
  simp [ki_m] at hm
  refine ⟨ru_p (j := 0) hP hu (by rw [h24]; decide), ?_, ru_p (j := 1) hP hu (by rw [h24]; decide), ?_⟩
  · rw [ou_ps_d]; exact hm.1
  · rw [ou_ps_d]; exact hm.2
theorem wk_in (hP : pg_ok P) (hv : rl_V P c0) (hu : ou_uc P c) (h3 : tt_K P c0 (c / 6) = 3) : ∀ n, ou_uc P (wk P c n) ∧ tt_K P c0 (wk P c n / 6) = 3 := by
  intro n
  induction n with
  | zero => exact ⟨hu, h3⟩
  | succ n ih =>
    by_cases q : wk_c P (wk P c n) = 2
    · rw [wk_su q]
      obtain ⟨o, _, _, _, _, _, _, j2, j3, _⟩ := wk_2 hP hv ih.2 q
      have := wk_p hP hv j2 j3
      exact ⟨this.2.2.1, this.2.2.2⟩
    · rw [wk_st q 1]; exact ih
end
-- X
section
variable {f_width f_textLength f_foundPlace f_tokenCount f_frameCount f_operandCount f_defCount f_nodeEnd : Int32} {a_text a_tokenCode a_tokenPlace a_frameCode a_framePlace a_operand a_defPlace a_defFirst a_defEnd a_nodeOp a_nodeNumber a_nodePlace a_nodeDepth a_nodeKind a_part a_size a_kindFound a_choice a_status : Nat → Int32} {a_result : Nat → Int64} {a_slotFunction a_slotArgument : Nat → Int32} {P : Nat → Nat → Nat} {c0 : Nat}
theorem wk_X0 (hv : rl_V P c0) (hP : xl_P P a_size a_nodeOp a_nodeNumber a_nodePlace a_part) (ht : rl_tX P (ou_E P) a_status a_result) {c : Nat} (hu : ou_uc P c) (h3 : tt_K P c0 (c / 6) = 3) :
    a_status c = sl_k P c ∧ (wk_c P c = 0 → sl_k P c ≠ 1) ∧ (wk_c P c = 1 → sl_k P c = 1 ∧ a_result c = 0) ∧
    (wk_c P c = 2 → sl_k P c = 1 ∧ a_result c ≠ 0 ∧ ∀ w, w < 2 → ∀ (post : Int32 → Prop), post (nI (ou_ps P (2 + w) (wk_j P c))) → wpX_partOfList post (f_width, f_textLength, f_foundPlace, f_tokenCount, f_frameCount, f_operandCount, f_defCount, f_nodeEnd, a_text, a_tokenCode, a_tokenPlace, a_frameCode, a_framePlace, a_operand, a_defPlace, a_defFirst, a_defEnd, a_nodeOp, a_nodeNumber, a_nodePlace, a_nodeDepth, a_nodeKind, a_part, a_size, a_kindFound, a_choice, a_status, a_result, a_slotFunction, a_slotArgument) (nI c) (nI w)) := by
  have hl := ou_uc_lt hu
  refine ⟨sl_k2 hP.1 hu ht, fun q => (wk_0 hP.1 hv q).1, fun q => ?_, fun q => ?_⟩
  · obtain ⟨o, o1, o2, o3⟩ := wk_1 q
    refine ⟨by unfold sl_k; rw [o1]; show nI o.1 = 1; rw [o2]; rfl, ?_⟩
    rw [((ht c hu).2 o o1).2 o2]; exact o3
  · obtain ⟨o, o1, o2, o3, o4, o5, j1, j2, j3, _⟩ := wk_2 hP.1 hv h3 q
    have re : a_result c = o.2.2 := ((ht c hu).2 o o1).2 o2
    refine ⟨by unfold sl_k; rw [o1]; show nI o.1 = 1; rw [o2]; rfl, by rw [re]; exact o4, fun w hw post h => ?_⟩
    obtain ⟨n1, n2, n3, n4, n5⟩ := hP.2.2.2.1 _ j2.1
    have pw : a_part (wk_j P c / 6 * 3 + w) = nI (P (2 + w) (wk_j P c / 6)) ∧ P (2 + w) (wk_j P c / 6) < 120 := by
      obtain ⟨_, _, _, o4⟩ := hP.1.2.2.2 _ j2.1
      have n2 : pg_n (P 0 (wk_j P c / 6)) = 2 := by rw [j3]; decide
      have := o4 w (by omega)
      have := j2.1.1
      refine ⟨?_, by omega⟩
      have : w = 0 ∨ w = 1 := by omega
      rcases this with z | z <;> subst z
      · exact n3
      · exact n4
    exact st_l hl (re.trans o5) j1 hw pw.1 pw.2 h
theorem wk_X (hv : rl_V P c0) (hP : xl_P P a_size a_nodeOp a_nodeNumber a_nodePlace a_part) (ht : rl_tX P (ou_E P) a_status a_result) {c : Nat} (hu : ou_uc P c) (h3 : tt_K P c0 (c / 6) = 3) {k : Nat} (hk : k < 100) {post : Int32 → Prop} (h : post (nI (wk P c k))) :
    ∃ n, wX_passParts_11 post (nI k) f_width f_textLength f_foundPlace f_tokenCount f_frameCount f_operandCount f_defCount f_nodeEnd a_text a_tokenCode a_tokenPlace a_frameCode a_framePlace a_operand a_defPlace a_defFirst a_defEnd a_nodeOp a_nodeNumber a_nodePlace a_nodeDepth a_nodeKind a_part a_size a_kindFound a_choice a_status a_result a_slotFunction a_slotArgument n (nI c) 0 := by
  have key : ∀ r i, i + r = k → ∀ n, r < n → wX_passParts_11 post (nI k) f_width f_textLength f_foundPlace f_tokenCount f_frameCount f_operandCount f_defCount f_nodeEnd a_text a_tokenCode a_tokenPlace a_frameCode a_framePlace a_operand a_defPlace a_defFirst a_defEnd a_nodeOp a_nodeNumber a_nodePlace a_nodeDepth a_nodeKind a_part a_size a_kindFound a_choice a_status a_result a_slotFunction a_slotArgument n (nI (wk P c i)) (nI i) := by
    intro r
    induction r with
    | zero =>
      intro i hi n hn
      obtain ⟨n, rfl⟩ : ∃ m, n = m + 1 := ⟨n - 1, by omega⟩
      have ei : i = k := by omega
      subst ei
      exact br_t (nI_le (Nat.le_refl _) (by omega)) h
    | succ r ih =>
      intro i hi n hn
      obtain ⟨n, rfl⟩ : ∃ m, n = m + 1 := ⟨n - 1, by omega⟩
      obtain ⟨w1, w2⟩ := wk_in hP.1 hv hu h3 i
      obtain ⟨z0, z1, z2, z3⟩ := wk_X0 hv hP ht w1 w2
      have hl := ou_uc_lt w1
      have hin : vp_in (nI (wk P c i)) 720 := vp_in_nI hl (by decide)
      have stop : wk_c P (wk P c i) ≠ 2 → post (nI (wk P c i)) := fun q => by
        have := wk_st q r.succ
        rw [(by omega : i + r.succ = k)] at this
        rw [← this]; exact h
      refine br_f (nI_ge (by omega) (by omega)) ⟨hin, ?_⟩
      rw [nI_clamp (by omega), z0]
      rcases wk_3 (P := P) (wk P c i) with q | q | q
      · exact br_f (z1 q) (stop (by omega))
      · exact br_t (z2 q).1 ⟨hin, br_t (z2 q).2 (stop (by omega))⟩
      · refine br_t (z3 q).1 ⟨hin, br_f (z3 q).2.1 ((z3 q).2.2 1 (by decide) _ (fun y ey => ?_))⟩
        rw [ey, nI_1]
        have := ih (i + 1) (by omega) n (by omega)
        rw [wk_su q] at this
        exact this
  exact ⟨_, key k 0 (by omega) _ (Nat.lt_succ_self _)⟩
end
-- Y
section
variable {f_width f_length f_place f_toks f_nodes f_defs : Int32} {a_text a_tok a_tokNum a_tokPlace a_opened a_nOp a_nNum a_nPlace a_nA a_nB a_nC a_nLo a_nHi a_nLevel a_defName a_defPlace a_defRoot a_loaded a_count a_status : Nat → Int32} {a_number : Nat → Int64} {a_origin a_choice a_slotF a_slotX a_slotHeld : Nat → Int32} {P : Nat → Nat → Nat} {c0 : Nat} {g : Nat → Nat}
theorem wk_Y0 (hv : rl_V P c0) (hP : yl_P P g a_loaded a_count a_nOp a_nNum a_nA a_nB a_nC) (ht : rl_tY P g (ou_E P) a_status a_number a_origin) {d : Nat} (hd : ou_uc P d) (h3 : tt_K P c0 (rl_gc g d / 6) = 3) :
    (wk_c P (rl_gc g d) = 0 → a_status d ≠ 1) ∧ (wk_c P (rl_gc g d) = 1 → a_status d = 1 ∧ a_number d = 0) ∧
    (wk_c P (rl_gc g d) = 2 → a_status d = 1 ∧ a_number d = 1 ∧ ∃ q a b, a_origin d = nI q ∧ q < 720 ∧ a_nA (q / 6) = nI a ∧ a_nB (q / 6) = nI b ∧ ou_uc P (a * 6 + q % 6) ∧ ou_uc P (b * 6 + q % 6) ∧ rl_gc g (a * 6 + q % 6) = ou_ps P 2 (wk_j P (rl_gc g d)) ∧ rl_gc g (b * 6 + q % 6) = ou_ps P 3 (wk_j P (rl_gc g d))) := by
  obtain ⟨t0, t1⟩ := ht d hd
  refine ⟨fun q => ?_, fun q => ?_, fun q => ?_⟩
  · have w := (wk_0 hP.1 hv q).2
    cases hE : ou_E P (rl_gc g d) with
    | none => rw [t0 hE]; decide
    | some o =>
      have n1 := w o hE
      have t := ru_t (T := ou_E P) hP.1 hv (fun d p q => ou_E_s.mp q) hE
      have l : o.1 < 6 := by
        rcases t with t | t
        · have := t.1; omega
        · have := t.1; omega
      rw [(t1 o hE).1]
      intro z
      exact n1 ((nI_eq (a := o.1) (b := 1) (by omega) (by decide)).mp z)
  · obtain ⟨o, o1, o2, o3⟩ := wk_1 q
    obtain ⟨s1, s2⟩ := t1 o o1
    have t := ru_t (T := ou_E P) hP.1 hv (fun d p q => ou_E_s.mp q) o1
    have tag : o.2.1 = 3 := by
      rcases t with ⟨_, t2, _⟩ | t
      · rw [t2]; exact h3
      · have := t.1; omega
    refine ⟨by rw [s1, o2]; rfl, ((s2 o2).2 tag).1 o3⟩
  · obtain ⟨o, o1, o2, o3, o4, o5, j1, j2, j3, j4⟩ := wk_2 hP.1 hv h3 q
    obtain ⟨s1, s2⟩ := t1 o o1
    obtain ⟨nu1, p, pu, pe, pj⟩ := ((s2 o2).2 o3).2 o4
    rw [j4] at pj
    refine ⟨by rw [s1, o2]; rfl, nu1, ?_⟩
    have pl := ou_uc_lt pu
    have e6 : wk_j P (rl_gc g d) / 6 = g (p / 6) ∧ wk_j P (rl_gc g d) % 6 = p % 6 := by rw [← pj]; unfold rl_gc; omega
    obtain ⟨n1, n2, n3, n4, n5⟩ := hP.2.2.2.2 _ pu.1
    rw [← e6.1, j3] at n3 n4
    obtain ⟨a, a1, a2, a3⟩ := n3 (by decide)
    obtain ⟨b, b1, b2, b3⟩ := n4 (by decide)
    have ea : (a * 6 + p % 6) / 6 = a ∧ (a * 6 + p % 6) % 6 = p % 6 := by omega
    have eb : (b * 6 + p % 6) / 6 = b ∧ (b * 6 + p % 6) % 6 = p % 6 := by omega
    refine ⟨p, a, b, pe, pl, a1, b1, ⟨by rw [ea.1]; exact a2, by rw [ea.2]; exact pu.2⟩, ⟨by rw [eb.1]; exact b2, by rw [eb.2]; exact pu.2⟩, ?_, ?_⟩
    · unfold rl_gc ou_ps; rw [ea.1, ea.2, a3]; show P 2 (wk_j P (rl_gc g d) / 6) * 6 + p % 6 = P 2 (wk_j P (rl_gc g d) / 6) * 6 + wk_j P (rl_gc g d) % 6; rw [e6.2]
    · unfold rl_gc ou_ps; rw [eb.1, eb.2, b3]; show P 3 (wk_j P (rl_gc g d) / 6) * 6 + p % 6 = P 3 (wk_j P (rl_gc g d) / 6) * 6 + wk_j P (rl_gc g d) % 6; rw [e6.2]
theorem wk_Y (hv : rl_V P c0) (hP : yl_P P g a_loaded a_count a_nOp a_nNum a_nA a_nB a_nC) (ht : rl_tY P g (ou_E P) a_status a_number a_origin) {f x : Nat} (hu : ou_uc P (f * 144 + x)) (h3 : tt_K P c0 (rl_gc g (f * 144 + x) / 6) = 3) {k : Nat} (hk : k < 100) {post : Int32 → Prop}
    (h : ∀ d, ou_uc P d → rl_gc g d = wk P (rl_gc g (f * 144 + x)) k → post (nI d)) : wpY_passed post (f_width, f_length, f_place, f_toks, f_nodes, f_defs, a_text, a_tok, a_tokNum, a_tokPlace, a_opened, a_nOp, a_nNum, a_nPlace, a_nA, a_nB, a_nC, a_nLo, a_nHi, a_nLevel, a_defName, a_defPlace, a_defRoot, a_loaded, a_count, a_status, a_number, a_origin, a_choice, a_slotF, a_slotX, a_slotHeld) (nI f) (nI x) (nI k) := by
  have guc : ∀ d, ou_uc P d → ou_uc P (rl_gc g d) := by
    intro d hd
    have hw := hP.1.2.1
    have e : rl_gc g d / 6 = g (d / 6) ∧ rl_gc g d % 6 = d % 6 := by unfold rl_gc; omega
    exact ⟨by rw [e.1]; exact (hP.2.1.1 _ hd.1).1, by rw [e.2]; exact hd.2⟩
  have key : ∀ r i d, i + r = k → ou_uc P d → rl_gc g d = wk P (rl_gc g (f * 144 + x)) i → ∀ n, r < n → wY_passed_12 post (nI k) f_width f_length f_place f_toks f_nodes f_defs a_text a_tok a_tokNum a_tokPlace a_opened a_nOp a_nNum a_nPlace a_nA a_nB a_nC a_nLo a_nHi a_nLevel a_defName a_defPlace a_defRoot a_loaded a_count a_status a_number a_origin a_choice a_slotF a_slotX a_slotHeld n (nI d) (nI i) := by
    intro r
    induction r with
    | zero =>
      intro i d hi hd he n hn
      obtain ⟨n, rfl⟩ : ∃ m, n = m + 1 := ⟨n - 1, by omega⟩
      have ei : i = k := by omega
      subst ei
      exact br_t (nI_le (Nat.le_refl _) (by omega)) (h d hd he)
    | succ r ih =>
      intro i d hi hd he n hn
      obtain ⟨n, rfl⟩ : ∃ m, n = m + 1 := ⟨n - 1, by omega⟩
      obtain ⟨w1, w2⟩ := wk_in hP.1 hv (guc _ hu) h3 i
      rw [← he] at w1 w2
      obtain ⟨z1, z2, z3⟩ := wk_Y0 hv hP ht hd w2
      have hl := ou_uc_lt hd
      have hin : vp_in (nI d) 720 := vp_in_nI hl (by decide)
      have stop : wk_c P (rl_gc g d) ≠ 2 → post (nI d) := fun q => by
        rw [he] at q
        have := wk_st q r.succ
        rw [(by omega : i + r.succ = k)] at this
        exact h d hd (he.trans this.symm)
      refine br_f (nI_ge (by omega) (by omega)) ⟨hin, ?_⟩
      rw [nI_clamp (by omega)]
      rcases wk_3 (P := P) (rl_gc g d) with q | q | q
      · exact br_f (z1 q) (stop (by omega))
      · exact br_t (z2 q).1 ⟨hin, br_f (by rw [(z2 q).2]; decide) (stop (by omega))⟩
      · obtain ⟨s1, s2, p, a, b, e1, e2, e3, e4, e5, e6, e7, e8⟩ := z3 q
        refine br_t s1 ⟨hin, br_t s2 ⟨hin, by decide, ?_⟩⟩
        rw [e1]
        have ed : nI p / 6 = nI (p / 6) := pk_div (d := 6) (by omega) (by decide) (by decide)
        have er : nI p - nI p / 6 * 6 = nI (p % 6) := pk_rem (d := 6) (by omega) (by decide) (by decide)
        rw [er, ed]
        refine ⟨vp_in_nI (by omega) (by decide), hin, by decide, fun y ey z ez => ?_⟩
        rw [nI_clamp (by omega), e4, st_x] at ey
        rw [nI_1] at ez
        subst ey ez
        refine ih (i + 1) _ (by omega) e6 ?_ n (by omega)
        rw [he] at q e8
        rw [e8, wk_su q]
  refine fun y ey => ?_
  have e144 : nI f * 144 + nI x = nI (f * 144 + x) := by
    have : nI f * 144 = nI (f * 144) := pk_mul _ 144
    rw [this, nI_add]
  rw [e144] at ey
  subst ey
  exact ⟨_, key k 0 _ (by omega) hu rfl _ (Nat.lt_succ_self _)⟩
theorem to_Y (hv : rl_V P c0) (hP : yl_P P g a_loaded a_count a_nOp a_nNum a_nA a_nB a_nC) (ht : rl_tY P g (ou_E P) a_status a_number a_origin) {d : Nat} (hd : ou_uc P d) {post : Int32 → Prop} (h : post (sl_k P (rl_gc g d))) : wpY_told post (f_width, f_length, f_place, f_toks, f_nodes, f_defs, a_text, a_tok, a_tokNum, a_tokPlace, a_opened, a_nOp, a_nNum, a_nPlace, a_nA, a_nB, a_nC, a_nLo, a_nHi, a_nLevel, a_defName, a_defPlace, a_defRoot, a_loaded, a_count, a_status, a_number, a_origin, a_choice, a_slotF, a_slotX, a_slotHeld) (nI d) := by
  have hl := ou_uc_lt hd
  have hin : vp_in (nI d) 720 := vp_in_nI hl (by decide)
  obtain ⟨t0, t1⟩ := ht d hd
  refine ⟨hin, ?_⟩
  rw [nI_clamp (by omega)]
  unfold sl_k at h
  cases hE : ou_E P (rl_gc g d) with
  | none => rw [hE] at h; exact br_t (t0 hE) h
  | some o =>
    rw [hE] at h
    have t := ru_t (T := ou_E P) hP.1 hv (fun d p q => ou_E_s.mp q) hE
    have l : 0 < o.1 ∧ o.1 < 6 := by
      rcases t with t | t
      · have := t.1; omega
      · have := t.1; omega
    rw [(t1 o hE).1]
    exact br_f (nI_ne0 l.1 (by omega)) ⟨hin, h⟩
end
end
section
-- QUESTIONS
section
variable {P : Nat → Nat → Nat} {L : Nat} {tx : Nat → Nat} {pl : Int32} {sl : Nat → Option (Nat × Nat)} {g : Nat → Nat}
theorem qu_xl {f_width f_textLength f_foundPlace f_tokenCount f_frameCount f_operandCount f_defCount f_nodeEnd a_text a_tokenCode a_tokenPlace a_frameCode a_framePlace a_operand a_defPlace a_defFirst a_defEnd a_nodeOp a_nodeNumber a_nodePlace a_nodeDepth a_nodeKind a_part a_size a_kindFound a_choice a_status a_result a_slotFunction a_slotArgument : _} (hG : rl_G P L tx sl) (hX : rl_X P L tx pl sl (f_width, f_textLength, f_foundPlace, f_tokenCount, f_frameCount, f_operandCount, f_defCount, f_nodeEnd, a_text, a_tokenCode, a_tokenPlace, a_frameCode, a_framePlace, a_operand, a_defPlace, a_defFirst, a_defEnd, a_nodeOp, a_nodeNumber, a_nodePlace, a_nodeDepth, a_nodeKind, a_part, a_size, a_kindFound, a_choice, a_status, a_result, a_slotFunction, a_slotArgument)) : xl_P P a_size a_nodeOp a_nodeNumber a_nodePlace a_part := by
  obtain ⟨x1, x2, x3, x4, x5, x6, x7, x8, x9, x10⟩ := hX
  exact ⟨hG.1, hG.2.2.2.2.1, x5, x6, x7⟩
theorem qu_yl {f_width f_length f_place f_toks f_nodes f_defs a_text a_tok a_tokNum a_tokPlace a_opened a_nOp a_nNum a_nPlace a_nA a_nB a_nC a_nLo a_nHi a_nLevel a_defName a_defPlace a_defRoot a_loaded a_count a_status a_number a_origin a_choice a_slotF a_slotX a_slotHeld : _} (hG : rl_G P L tx sl) (hY : rl_Y P L tx pl sl g (f_width, f_length, f_place, f_toks, f_nodes, f_defs, a_text, a_tok, a_tokNum, a_tokPlace, a_opened, a_nOp, a_nNum, a_nPlace, a_nA, a_nB, a_nC, a_nLo, a_nHi, a_nLevel, a_defName, a_defPlace, a_defRoot, a_loaded, a_count, a_status, a_number, a_origin, a_choice, a_slotF, a_slotX, a_slotHeld)) : yl_P P g a_loaded a_count a_nOp a_nNum a_nA a_nB a_nC := by
  obtain ⟨y1, y2, y3, y4, y5, y6, y7, y8, y9, y10⟩ := hY
  exact ⟨hG.1, y8, y5, y6, y7⟩
theorem qu_k3 (hP : pg_ok P) {f x r : Nat} (hf : f < 5) (hs : 0 < P 5 f) (hx : x < P 6 0) (hr : ki_r (rl_V P) 243 f r) (h : r = 3) {c0 : Nat} (hc : c0 < 243) (hv : rl_V P c0) : tt_K P c0 (ou_cf P f x / 6) = 3 := by
  have hw := hP.2.1
  rw [ou_cf_d (by omega)]
  show ki_k P (ki_c c0) _ = 3
  rw [hv.2 f hf hs]
  rcases hr with ⟨q, _⟩ | ⟨c, _, _, _, q⟩ | ⟨q, _⟩
  · omega
  · rw [q c0 hc hv]; exact h
  · omega
-- a cell that is done has the kind that is found
theorem qu_kd (hP : pg_ok P) {f x r : Nat} (hf : f < 5) (hs : 0 < P 5 f) (hx : x < P 6 0) (hr : ki_r (rl_V P) 243 f r) (he : ∃ c, c < 243 ∧ rl_V P c) {o : ou_O} (ho : ou_E P (ou_cf P f x) = some o) (h1 : o.1 = 1) : o.2.1 = r := by
  have hw := hP.2.1
  have all : ∀ c, rl_V P c → o.2.1 = ki_c c f := by
    intro c hv
    have t := ru_t (T := ou_E P) hP hv (fun d p q => ou_E_s.mp q) ho
    rcases t with ⟨_, t2, _⟩ | t
    · rw [t2, ou_cf_d (by omega)]
      exact hv.2 f hf hs
    · have := t.1; omega
  rcases hr with ⟨_, q⟩ | ⟨c, c1, c2, c3, _⟩ | ⟨_, c, c1, c2, d, d1, d2, d3⟩
  · obtain ⟨c, c1, c2⟩ := he
    exact absurd c2 (q c c1)
  · rw [all c c2]; exact c3
  · exact absurd ((all c c2).symm.trans (all d d2)) d3
theorem qu_kY {f_width f_length f_place f_toks f_nodes f_defs a_text a_tok a_tokNum a_tokPlace a_opened a_nOp a_nNum a_nPlace a_nA a_nB a_nC a_nLo a_nHi a_nLevel a_defName a_defPlace a_defRoot a_loaded a_count a_status a_number a_origin a_choice a_slotF a_slotX a_slotHeld : _} (hG : rl_G P L tx sl) (hY : rl_Y P L tx pl sl g (f_width, f_length, f_place, f_toks, f_nodes, f_defs, a_text, a_tok, a_tokNum, a_tokPlace, a_opened, a_nOp, a_nNum, a_nPlace, a_nA, a_nB, a_nC, a_nLo, a_nHi, a_nLevel, a_defName, a_defPlace, a_defRoot, a_loaded, a_count, a_status, a_number, a_origin, a_choice, a_slotF, a_slotX, a_slotHeld)) {p : Int32} {post : Int32 → SY → Prop} (h0 : sl_d P p = none → post 0 (f_width, f_length, f_place, f_toks, f_nodes, f_defs, a_text, a_tok, a_tokNum, a_tokPlace, a_opened, a_nOp, a_nNum, a_nPlace, a_nA, a_nB, a_nC, a_nLo, a_nHi, a_nLevel, a_defName, a_defPlace, a_defRoot, a_loaded, a_count, a_status, a_number, a_origin, a_choice, a_slotF, a_slotX, a_slotHeld))
    (h1 : ∀ f r ch, sl_d P p = some f → ki_r (rl_V P) 243 f r → post (nI r) (f_width, f_length, f_place, f_toks, f_nodes, f_defs, a_text, a_tok, a_tokNum, a_tokPlace, a_opened, a_nOp, a_nNum, a_nPlace, a_nA, a_nB, a_nC, a_nLo, a_nHi, a_nLevel, a_defName, a_defPlace, a_defRoot, a_loaded, a_count, a_status, a_number, a_origin, ch, a_slotF, a_slotX, a_slotHeld)) (hk : ∀ f, sl_d P p = some f → ∃ r, ki_r (rl_V P) 243 f r) : wpY_kind post (f_width, f_length, f_place, f_toks, f_nodes, f_defs, a_text, a_tok, a_tokNum, a_tokPlace, a_opened, a_nOp, a_nNum, a_nPlace, a_nA, a_nB, a_nC, a_nLo, a_nHi, a_nLevel, a_defName, a_defPlace, a_defRoot, a_loaded, a_count, a_status, a_number, a_origin, a_choice, a_slotF, a_slotX, a_slotHeld) p := by
  have yl := qu_yl hG hY
  cases hd : sl_d P p with
  | some f =>
    obtain ⟨f5, rfl, fs⟩ := sl_ds hd
    obtain ⟨r, hr⟩ := hk f hd
    exact kd_Y yl f5 fs hr (fun ch => h1 f r ch hd hr)
  | none =>
    have no := h0 hd
    by_cases a : p < 0
    · exact br_t a no
    · refine br_f a ?_
      by_cases b : 4 < p
      · exact br_t b no
      · refine br_f b ?_
        have nab : ¬ (p < 0 ∨ 5 ≤ p) := fun q => q.elim a b
        obtain ⟨s, hs, e, e2⟩ := sl_in (n := 5) (by decide) nab
        have e3 : sl_d P p = if P 5 s = 0 then none else some s := by unfold sl_d; rw [if_neg nab, e2]
        have z : P 5 s = 0 := by
          by_cases z : P 5 s = 0
          · exact z
          · rw [e3, if_neg z] at hd; exact absurd hd (by simp)
        refine ⟨by rw [e]; exact vp_in_nI hs (by decide), ?_⟩
        rw [e2, yl.2.2.1 s hs, if_neg (by omega)]
        exact br_t rfl no
end
theorem i_vc_kind {k : Nat} {u : SX} {v : SY} (I : i_Rel k u v) (hk : k + 4 ≤ 2049) (v1 : Int32) : wpX_kind (fun r => wpY_kind (fun r' v' => r' = r ∧ i_Rel (k + 4) u v') v v1) u v1 := by
  have I0 := I
  obtain ⟨P, L, tx, pl, sl, g, hG, hX, hY⟩ := I
  have hX0 := hX
  have hY0 := hY
  obtain ⟨f_width, f_textLength, f_foundPlace, f_tokenCount, f_frameCount, f_operandCount, f_defCount, f_nodeEnd, a_text, a_tokenCode, a_tokenPlace, a_frameCode, a_framePlace, a_operand, a_defPlace, a_defFirst, a_defEnd, a_nodeOp, a_nodeNumber, a_nodePlace, a_nodeDepth, a_nodeKind, a_part, a_size, a_kindFound, a_choice, a_status, a_result, a_slotFunction, a_slotArgument⟩ := u
  obtain ⟨f_width2, f_length2, f_place2, f_toks2, f_nodes2, f_defs2, a_text2, a_tok2, a_tokNum2, a_tokPlace2, a_opened2, a_nOp2, a_nNum2, a_nPlace2, a_nA2, a_nB2, a_nC2, a_nLo2, a_nHi2, a_nLevel2, a_defName2, a_defPlace2, a_defRoot2, a_loaded2, a_count2, a_status2, a_number2, a_origin2, a_choice2, a_slotF2, a_slotX2, a_slotHeld2⟩ := v
  obtain ⟨x1, x2, x3, x4, x5, x6, x7, x8, x9, x10⟩ := hX
  obtain ⟨y1, y2, y3, y4, y5, y6, y7, y8, y9, y10⟩ := hY
  unfold wpX_kind
  refine sl_Xd hG hX0 (fun hd => br_t rfl ?_) (fun f hd => bq_1 ?_)
  · refine qu_kY hG hY0 (fun _ => ⟨rfl, I0⟩) (fun f r ch q => ?_) (fun f q => ?_)
    · rw [hd] at q; exact absurd q (by simp)
    · rw [hd] at q; exact absurd q (by simp)
  · obtain ⟨f5, rfl, fs⟩ := sl_ds hd
    obtain ⟨r, kr, hr⟩ := x8 f f5 fs
    refine ⟨vp_in_nI f5 (by decide), ?_⟩
    rw [nI_clamp (by omega), kr]
    refine qu_kY hG hY0 (fun q => ?_) (fun f2 r2 ch q hr2 => ?_) (fun f2 q => ?_)
    · rw [hd] at q; exact absurd q (by simp)
    · rw [hd] at q
      have := Option.some.inj q
      subst this
      rw [ki_r_u hr hr2]
      exact ⟨rfl, P, L, tx, pl, sl, g, hG, hX0, ⟨y1, y2, y3, y4, y5, y6, y7, y8, y9, y10⟩⟩
    · rw [hd] at q
      have := Option.some.inj q
      subst this
      exact ⟨r, hr⟩
theorem i_vc_value {k : Nat} {u : SX} {v : SY} (I : i_Rel k u v) (hk : k + 4 ≤ 2049) (v1 : Int32) (v2 : Int32) : wpX_value (fun r => wpY_value (fun r' => r' = r ∧ i_Rel (k + 4) u v) v v1 v2) u v1 v2 := by
  have I0 := I
  obtain ⟨P, L, tx, pl, sl, g, hG, hX, hY⟩ := I
  have hX0 := hX
  have hY0 := hY
  obtain ⟨f_width, f_textLength, f_foundPlace, f_tokenCount, f_frameCount, f_operandCount, f_defCount, f_nodeEnd, a_text, a_tokenCode, a_tokenPlace, a_frameCode, a_framePlace, a_operand, a_defPlace, a_defFirst, a_defEnd, a_nodeOp, a_nodeNumber, a_nodePlace, a_nodeDepth, a_nodeKind, a_part, a_size, a_kindFound, a_choice, a_status, a_result, a_slotFunction, a_slotArgument⟩ := u
  obtain ⟨f_width2, f_length2, f_place2, f_toks2, f_nodes2, f_defs2, a_text2, a_tok2, a_tokNum2, a_tokPlace2, a_opened2, a_nOp2, a_nNum2, a_nPlace2, a_nA2, a_nB2, a_nC2, a_nLo2, a_nHi2, a_nLevel2, a_defName2, a_defPlace2, a_defRoot2, a_loaded2, a_count2, a_status2, a_number2, a_origin2, a_choice2, a_slotF2, a_slotX2, a_slotHeld2⟩ := v
  obtain ⟨x1, x2, x3, x4, x5, x6, x7, x8, x9, x10⟩ := hX
  obtain ⟨y1, y2, y3, y4, y5, y6, y7, y8, y9, y10⟩ := hY
  unfold wpX_value
  refine sl_Xc hG hX0 (fun hd => br_t rfl ?_) (fun f x hd => bq_1 ?_)
  · unfold wpY_value
    refine sl_Yl hG hY0 (fun _ => br_f (by decide) ⟨rfl, I0⟩) (fun f x q => ?_)
    rw [hd] at q; exact absurd q (by simp)
  · obtain ⟨f5, rfl, fs, fx, rfl⟩ := sl_cs hG.1.2.1 hd
    have hw := hG.1.2.1
    have hu := sl_cfl hG.1 f5 fs fx
    have hl := ou_uc_lt hu
    have hin : vp_in (nI (ou_cf P f x)) 720 := vp_in_nI hl (by decide)
    obtain ⟨gy, ud⟩ := sl_gy hG.1 y8 f5 fs fx
    obtain ⟨t0, t1⟩ := y9 _ ud
    rw [gy] at t0 t1
    have dl := ou_uc_lt ud
    have e144 : nI f * 144 + nI x = nI (f * 144 + x) := by
      have : nI f * 144 = nI (f * 144) := pk_mul _ 144
      rw [this, nI_add]
    have yy : ∀ r : Int64, (sl_k P (ou_cf P f x) = 1 → a_number2 (f * 144 + x) = r) → (sl_k P (ou_cf P f x) ≠ 1 → r = 0) → wpY_value (fun r' => r' = r ∧ i_Rel (k + 4) (f_width, f_textLength, f_foundPlace, f_tokenCount, f_frameCount, f_operandCount, f_defCount, f_nodeEnd, a_text, a_tokenCode, a_tokenPlace, a_frameCode, a_framePlace, a_operand, a_defPlace, a_defFirst, a_defEnd, a_nodeOp, a_nodeNumber, a_nodePlace, a_nodeDepth, a_nodeKind, a_part, a_size, a_kindFound, a_choice, a_status, a_result, a_slotFunction, a_slotArgument) (f_width2, f_length2, f_place2, f_toks2, f_nodes2, f_defs2, a_text2, a_tok2, a_tokNum2, a_tokPlace2, a_opened2, a_nOp2, a_nNum2, a_nPlace2, a_nA2, a_nB2, a_nC2, a_nLo2, a_nHi2, a_nLevel2, a_defName2, a_defPlace2, a_defRoot2, a_loaded2, a_count2, a_status2, a_number2, a_origin2, a_choice2, a_slotF2, a_slotX2, a_slotHeld2)) (f_width2, f_length2, f_place2, f_toks2, f_nodes2, f_defs2, a_text2, a_tok2, a_tokNum2, a_tokPlace2, a_opened2, a_nOp2, a_nNum2, a_nPlace2, a_nA2, a_nB2, a_nC2, a_nLo2, a_nHi2, a_nLevel2, a_defName2, a_defPlace2, a_defRoot2, a_loaded2, a_count2, a_status2, a_number2, a_origin2, a_choice2, a_slotF2, a_slotX2, a_slotHeld2) (nI f) (nI x) := by
      intro r a b
      unfold wpY_value
      refine sl_Yl hG hY0 (fun q => ?_) (fun f2 x2 q => ?_)
      · rw [hd] at q; exact absurd q (by simp)
      · rw [hd] at q
        obtain ⟨rfl, rfl⟩ := Prod.mk.inj (Option.some.inj q)
        by_cases z : sl_k P (ou_cf P f x) = 1
        · refine br_t z ?_
          rw [e144]
          refine ⟨vp_in_nI dl (by decide), ?_⟩
          rw [nI_clamp (by omega)]
          exact ⟨a z, I0⟩
        · exact br_f z ⟨(b z).symm, I0⟩
    refine sl_Xf hG hX0 f5 fs ⟨hin, ?_⟩
    rw [nI_clamp (by omega), sl_k2 hG.1 hu x9]
    by_cases z : sl_k P (ou_cf P f x) = 1
    · obtain ⟨r, kr, hr⟩ := x8 f f5 fs
      refine br_t z ⟨vp_in_nI f5 (by decide), ?_⟩
      rw [nI_clamp (by omega), kr]
      have hE : ∃ o, ou_E P (ou_cf P f x) = some o ∧ o.1 = 1 := by
        unfold sl_k at z
        cases hE : ou_E P (ou_cf P f x) with
        | none => rw [hE] at z; exact absurd z (by decide)
        | some o =>
          rw [hE] at z
          obtain ⟨c0, _, hc0⟩ := hG.2.1
          have t := ru_t (T := ou_E P) hG.1 hc0 (fun d p q => ou_E_s.mp q) hE
          have l : o.1 < 6 := by
            rcases t with t | t
            · have := t.1; omega
            · have := t.1; omega
          exact ⟨o, rfl, (nI_eq (a := o.1) (b := 1) (by omega) (by decide)).mp z⟩
      obtain ⟨o, oE, o1⟩ := hE
      have tag := qu_kd hG.1 f5 fs fx hr hG.2.1 oE o1
      have re : a_result (ou_cf P f x) = o.2.2 := ((x9 _ hu).2 o oE).2 o1
      have nu := (t1 o oE).2 o1
      have r3 := fk_3 hr
      refine pk_eq r 3 (fun c => ⟨hin, ?_⟩) (fun c => ⟨hin, ?_⟩)
      · rw [re]
        have tt : o.2.1 = 3 := tag.trans c
        by_cases w : o.2.2 = 0
        · exact br_t w (yy 0 (fun _ => (nu.2 tt).1 w) (fun n => absurd z n))
        · exact br_f w (yy 1 (fun _ => ((nu.2 tt).2 w).1) (fun n => absurd z n))
      · rw [re]
        exact yy _ (fun _ => nu.1 (by rw [tag]; exact c)) (fun n => absurd z n)
    · exact br_f z (yy 0 (fun n => absurd n z) (fun _ => rfl))
end
section
-- ITEMS and LENGTHS
-- the cell an item stands in: none where the list has ended
noncomputable def el_c (P : Nat → Nat → Nat) (c k : Nat) : Option Nat :=
  if wk_c P (wk P c k) = 2 then some (ou_ps P 2 (wk_j P (wk P c k))) else if wk_c P (wk P c k) = 1 then none else some (wk P c k)
-- whether (f, x) is a cell of a list
def el_l (P : Nat → Nat → Nat) (p q : Int32) (o : Option (Nat × Nat)) : Prop :=
  (o = none ∧ (sl_c P p q = none ∨ ∃ f x r, sl_c P p q = some (f, x) ∧ ki_r (rl_V P) 243 f r ∧ r ≠ 3)) ∨ (∃ f x, o = some (f, x) ∧ sl_c P p q = some (f, x) ∧ ki_r (rl_V P) 243 f 3)
section
variable {P : Nat → Nat → Nat} {L : Nat} {tx : Nat → Nat} {pl : Int32} {sl : Nat → Option (Nat × Nat)} {g : Nat → Nat}
theorem el_u {p q : Int32} {o o2 : Option (Nat × Nat)} (h : el_l P p q o) (h2 : el_l P p q o2) : o = o2 := by
  rcases h with ⟨h1, h⟩ | ⟨f, x, h1, h, hr⟩ <;> rcases h2 with ⟨g1, k⟩ | ⟨f2, x2, g1, k, kr⟩
  · rw [h1, g1]
  · rcases h with h | ⟨f, x, r, h, hr, n3⟩
    · rw [h] at k; exact absurd k (by simp)
    · rw [h] at k
      obtain ⟨rfl, rfl⟩ := Prod.mk.inj (Option.some.inj k)
      exact absurd (ki_r_u hr kr) n3
  · rcases k with k | ⟨f2, x2, r, k, kr, n3⟩
    · rw [h] at k; exact absurd k (by simp)
    · rw [h] at k
      obtain ⟨rfl, rfl⟩ := Prod.mk.inj (Option.some.inj k)
      exact absurd (ki_r_u kr hr) n3
  · rw [h1, g1]; rw [h] at k; exact k
theorem el_X {f_width f_textLength f_foundPlace f_tokenCount f_frameCount f_operandCount f_defCount f_nodeEnd a_text a_tokenCode a_tokenPlace a_frameCode a_framePlace a_operand a_defPlace a_defFirst a_defEnd a_nodeOp a_nodeNumber a_nodePlace a_nodeDepth a_nodeKind a_part a_size a_kindFound a_choice a_status a_result a_slotFunction a_slotArgument : _} (hG : rl_G P L tx sl) (hX : rl_X P L tx pl sl (f_width, f_textLength, f_foundPlace, f_tokenCount, f_frameCount, f_operandCount, f_defCount, f_nodeEnd, a_text, a_tokenCode, a_tokenPlace, a_frameCode, a_framePlace, a_operand, a_defPlace, a_defFirst, a_defEnd, a_nodeOp, a_nodeNumber, a_nodePlace, a_nodeDepth, a_nodeKind, a_part, a_size, a_kindFound, a_choice, a_status, a_result, a_slotFunction, a_slotArgument)) {p q : Int32} {post : Int32 → Prop} (h0 : el_l P p q none → post 0) (h1 : ∀ f x, el_l P p q (some (f, x)) → post 1) : wpX_isListCell post (f_width, f_textLength, f_foundPlace, f_tokenCount, f_frameCount, f_operandCount, f_defCount, f_nodeEnd, a_text, a_tokenCode, a_tokenPlace, a_frameCode, a_framePlace, a_operand, a_defPlace, a_defFirst, a_defEnd, a_nodeOp, a_nodeNumber, a_nodePlace, a_nodeDepth, a_nodeKind, a_part, a_size, a_kindFound, a_choice, a_status, a_result, a_slotFunction, a_slotArgument) p q := by
  have hX0 := hX
  obtain ⟨x1, x2, x3, x4, x5, x6, x7, x8, x9, x10⟩ := hX
  unfold wpX_isListCell
  refine sl_Xc hG hX0 (fun hd => br_t rfl (h0 (Or.inl ⟨rfl, Or.inl hd⟩))) (fun f x hd => bq_1 ?_)
  obtain ⟨f5, rfl, fs, fx, rfl⟩ := sl_cs hG.1.2.1 hd
  obtain ⟨r, kr, hr⟩ := x8 f f5 fs
  refine ⟨vp_in_nI f5 (by decide), ?_⟩
  rw [nI_clamp (by omega), kr]
  have r3 := fk_3 hr
  exact pk_eq r 3 (fun c => h1 f x (Or.inr ⟨f, x, rfl, hd, c ▸ hr⟩)) (fun c => h0 (Or.inl ⟨rfl, Or.inr ⟨f, x, r, hd, hr, c⟩⟩))
-- what a cell of a list is
theorem el_w (hG : rl_G P L tx sl) {p q : Int32} {f x : Nat} (h : el_l P p q (some (f, x))) : f < 5 ∧ p = nI f ∧ 0 < P 5 f ∧ x < P 6 0 ∧ q = nI x ∧ sl_c P p q = some (f, x) ∧ ki_r (rl_V P) 243 f 3 ∧ ∃ c0, c0 < 243 ∧ rl_V P c0 ∧ ou_uc P (ou_cf P f x) ∧ tt_K P c0 (ou_cf P f x / 6) = 3 := by
  rcases h with ⟨h1, _⟩ | ⟨f2, x2, h1, h, hr⟩
  · exact absurd h1 (by simp)
  · obtain ⟨rfl, rfl⟩ := Prod.mk.inj (Option.some.inj h1)
    obtain ⟨f5, e1, fs, fx, e2⟩ := sl_cs hG.1.2.1 h
    obtain ⟨c0, c1, c2⟩ := hG.2.1
    exact ⟨f5, e1, fs, fx, e2, h, hr, c0, c1, c2, sl_cfl hG.1 f5 fs fx, qu_k3 hG.1 f5 fs fx hr rfl c1 c2⟩
theorem el_Xp {f_width f_textLength f_foundPlace f_tokenCount f_frameCount f_operandCount f_defCount f_nodeEnd a_text a_tokenCode a_tokenPlace a_frameCode a_framePlace a_operand a_defPlace a_defFirst a_defEnd a_nodeOp a_nodeNumber a_nodePlace a_nodeDepth a_nodeKind a_part a_size a_kindFound a_choice a_status a_result a_slotFunction a_slotArgument : _} (hG : rl_G P L tx sl) (hX : rl_X P L tx pl sl (f_width, f_textLength, f_foundPlace, f_tokenCount, f_frameCount, f_operandCount, f_defCount, f_nodeEnd, a_text, a_tokenCode, a_tokenPlace, a_frameCode, a_framePlace, a_operand, a_defPlace, a_defFirst, a_defEnd, a_nodeOp, a_nodeNumber, a_nodePlace, a_nodeDepth, a_nodeKind, a_part, a_size, a_kindFound, a_choice, a_status, a_result, a_slotFunction, a_slotArgument)) {p q : Int32} {f x k : Nat} (h : el_l P p q (some (f, x))) (hk : k < 100) {post : Int32 → Prop} (hp : post (nI (wk P (ou_cf P f x) k))) : wpX_passParts post (f_width, f_textLength, f_foundPlace, f_tokenCount, f_frameCount, f_operandCount, f_defCount, f_nodeEnd, a_text, a_tokenCode, a_tokenPlace, a_frameCode, a_framePlace, a_operand, a_defPlace, a_defFirst, a_defEnd, a_nodeOp, a_nodeNumber, a_nodePlace, a_nodeDepth, a_nodeKind, a_part, a_size, a_kindFound, a_choice, a_status, a_result, a_slotFunction, a_slotArgument) p q (nI k) := by
  obtain ⟨f5, rfl, fs, fx, rfl, hc, hr, c0, c1, c2, hu, h3⟩ := el_w hG h
  have hX0 := hX
  have xl := qu_xl hG hX
  obtain ⟨x1, x2, x3, x4, x5, x6, x7, x8, x9, x10⟩ := hX
  unfold wpX_passParts
  exact sl_Xf hG hX0 f5 fs (wk_X c2 xl x9 hu h3 hk hp)
theorem el_Xi {f_width f_textLength f_foundPlace f_tokenCount f_frameCount f_operandCount f_defCount f_nodeEnd a_text a_tokenCode a_tokenPlace a_frameCode a_framePlace a_operand a_defPlace a_defFirst a_defEnd a_nodeOp a_nodeNumber a_nodePlace a_nodeDepth a_nodeKind a_part a_size a_kindFound a_choice a_status a_result a_slotFunction a_slotArgument : _} (hG : rl_G P L tx sl) (hX : rl_X P L tx pl sl (f_width, f_textLength, f_foundPlace, f_tokenCount, f_frameCount, f_operandCount, f_defCount, f_nodeEnd, a_text, a_tokenCode, a_tokenPlace, a_frameCode, a_framePlace, a_operand, a_defPlace, a_defFirst, a_defEnd, a_nodeOp, a_nodeNumber, a_nodePlace, a_nodeDepth, a_nodeKind, a_part, a_size, a_kindFound, a_choice, a_status, a_result, a_slotFunction, a_slotArgument)) {p q t : Int32} {post : Int32 → Prop} (h0 : el_l P p q none ∨ t < 0 ∨ 31 < t → post 0)
    (h1 : ∀ f x k, el_l P p q (some (f, x)) → t = nI k → k ≤ 31 → (el_c P (ou_cf P f x) k = none → post 5) ∧ (∀ d, el_c P (ou_cf P f x) k = some d → post (sl_k P d))) : wpX_item post (f_width, f_textLength, f_foundPlace, f_tokenCount, f_frameCount, f_operandCount, f_defCount, f_nodeEnd, a_text, a_tokenCode, a_tokenPlace, a_frameCode, a_framePlace, a_operand, a_defPlace, a_defFirst, a_defEnd, a_nodeOp, a_nodeNumber, a_nodePlace, a_nodeDepth, a_nodeKind, a_part, a_size, a_kindFound, a_choice, a_status, a_result, a_slotFunction, a_slotArgument) p q t := by
  unfold wpX_item
  refine el_X hG hX (fun h => br_t rfl (h0 (Or.inl h))) (fun f x h => bq_1 ?_)
  by_cases a : t < 0
  · exact br_t a (h0 (Or.inr (Or.inl a)))
  · refine br_f a ?_
    by_cases b : t ≤ 31
    · refine br_t b ?_
      have hh : ∃ k, k ≤ 31 ∧ t = nI k := by
        rcases pk_ix t (n := 32) (by decide) with w | w | ⟨j, hj, e⟩
        · exact absurd w a
        · have : (32 : Int32) ≤ 31 := Int32.le_trans w b
          exact absurd this (by decide)
        · exact ⟨j, by omega, e⟩
      obtain ⟨k, k31, rfl⟩ := hh
      obtain ⟨g0, g1⟩ := h1 f x k h rfl k31
      refine el_Xp hG hX h (by omega) ?_
      obtain ⟨f5, rfl, fs, fx, rfl, hc, hr, c0, c1, c2, hu, h3⟩ := el_w hG h
      have xl := qu_xl hG hX
      obtain ⟨x1, x2, x3, x4, x5, x6, x7, x8, x9, x10⟩ := hX
      obtain ⟨w1, w2⟩ := wk_in hG.1 c2 hu h3 k
      obtain ⟨z0, z1, z2, z3⟩ := wk_X0 c2 xl x9 w1 w2
      have hl := ou_uc_lt w1
      have hin : vp_in (nI (wk P (ou_cf P f x) k)) 720 := vp_in_nI hl (by decide)
      refine ⟨hin, ?_⟩
      rw [nI_clamp (by omega), z0]
      rcases wk_3 (P := P) (wk P (ou_cf P f x) k) with q | q | q
      · refine br_f (z1 q) ⟨hin, g1 _ ?_⟩
        unfold el_c; rw [if_neg (by omega), if_neg (by omega)]
      · refine br_t (z2 q).1 ⟨hin, br_t (z2 q).2 (g0 ?_)⟩
        unfold el_c; rw [if_neg (by omega), if_pos q]
      · refine br_t (z3 q).1 ⟨hin, br_f (z3 q).2.1 ((z3 q).2.2 0 (by decide) _ ?_)⟩
        obtain ⟨o, _, _, _, _, _, _, j2, j3, _⟩ := wk_2 hG.1 c2 w2 q
        have pu := (wk_p hG.1 c2 j2 j3).1
        have pl2 := ou_uc_lt pu
        show vp_in (nI (ou_ps P 2 (wk_j P (wk P (ou_cf P f x) k)))) 720 ∧ _
        have e20 : ou_ps P (2 + 0) (wk_j P (wk P (ou_cf P f x) k)) = ou_ps P 2 (wk_j P (wk P (ou_cf P f x) k)) := rfl
        rw [e20]
        refine ⟨vp_in_nI pl2 (by decide), ?_⟩
        rw [nI_clamp (by omega), sl_k2 hG.1 pu x9]
        exact g1 _ (by unfold el_c; rw [if_pos q])
    · exact br_f b (h0 (Or.inr (Or.inr (Int32.not_le.mp b))))
-- Y's element
theorem el_Y {f_width f_length f_place f_toks f_nodes f_defs a_text a_tok a_tokNum a_tokPlace a_opened a_nOp a_nNum a_nPlace a_nA a_nB a_nC a_nLo a_nHi a_nLevel a_defName a_defPlace a_defRoot a_loaded a_count a_status a_number a_origin a_choice a_slotF a_slotX a_slotHeld : _} (hG : rl_G P L tx sl) (hY : rl_Y P L tx pl sl g (f_width, f_length, f_place, f_toks, f_nodes, f_defs, a_text, a_tok, a_tokNum, a_tokPlace, a_opened, a_nOp, a_nNum, a_nPlace, a_nA, a_nB, a_nC, a_nLo, a_nHi, a_nLevel, a_defName, a_defPlace, a_defRoot, a_loaded, a_count, a_status, a_number, a_origin, a_choice, a_slotF, a_slotX, a_slotHeld)) (hkk : ∀ f, f < 5 → 0 < P 5 f → ∃ r, ki_r (rl_V P) 243 f r) {p q t : Int32} {post : Int32 → SY → Prop}
    (h0 : el_l P p q none ∨ t < 0 ∨ 31 < t → ∀ ch, post (-1) (f_width, f_length, f_place, f_toks, f_nodes, f_defs, a_text, a_tok, a_tokNum, a_tokPlace, a_opened, a_nOp, a_nNum, a_nPlace, a_nA, a_nB, a_nC, a_nLo, a_nHi, a_nLevel, a_defName, a_defPlace, a_defRoot, a_loaded, a_count, a_status, a_number, a_origin, ch, a_slotF, a_slotX, a_slotHeld))
    (h1 : ∀ f x k, el_l P p q (some (f, x)) → t = nI k → k ≤ 31 → ∀ ch, (el_c P (ou_cf P f x) k = none → post (-2) (f_width, f_length, f_place, f_toks, f_nodes, f_defs, a_text, a_tok, a_tokNum, a_tokPlace, a_opened, a_nOp, a_nNum, a_nPlace, a_nA, a_nB, a_nC, a_nLo, a_nHi, a_nLevel, a_defName, a_defPlace, a_defRoot, a_loaded, a_count, a_status, a_number, a_origin, ch, a_slotF, a_slotX, a_slotHeld)) ∧ (∀ d, ou_uc P d → el_c P (ou_cf P f x) k = some (rl_gc g d) → post (nI d) (f_width, f_length, f_place, f_toks, f_nodes, f_defs, a_text, a_tok, a_tokNum, a_tokPlace, a_opened, a_nOp, a_nNum, a_nPlace, a_nA, a_nB, a_nC, a_nLo, a_nHi, a_nLevel, a_defName, a_defPlace, a_defRoot, a_loaded, a_count, a_status, a_number, a_origin, ch, a_slotF, a_slotX, a_slotHeld))) : wpY_element post (f_width, f_length, f_place, f_toks, f_nodes, f_defs, a_text, a_tok, a_tokNum, a_tokPlace, a_opened, a_nOp, a_nNum, a_nPlace, a_nA, a_nB, a_nC, a_nLo, a_nHi, a_nLevel, a_defName, a_defPlace, a_defRoot, a_loaded, a_count, a_status, a_number, a_origin, a_choice, a_slotF, a_slotX, a_slotHeld) p q t := by
  have hY0 := hY
  have yl := qu_yl hG hY
  obtain ⟨y1, y2, y3, y4, y5, y6, y7, y8, y9, y10⟩ := hY
  unfold wpY_element
  refine sl_Yl hG hY0 (fun hd => br_t rfl (h0 (Or.inl (Or.inl ⟨rfl, Or.inl hd⟩)) a_choice)) (fun f x hd => ?_)
  obtain ⟨f5, rfl, fs, fx, rfl⟩ := sl_cs hG.1.2.1 hd
  obtain ⟨c0, c1, c2⟩ := hG.2.1
  have hu := sl_cfl hG.1 f5 fs fx
  have n0 : sl_k P (ou_cf P f x) ≠ 0 := by
    unfold sl_k
    cases hE : ou_E P (ou_cf P f x) with
    | none => decide
    | some o =>
      have t := ru_t (T := ou_E P) hG.1 c2 (fun d p q => ou_E_s.mp q) hE
      have l : 0 < o.1 ∧ o.1 < 6 := by
        rcases t with t | t
        · have := t.1; omega
        · have := t.1; omega
      exact nI_ne0 l.1 (by omega)
  refine br_f n0 ?_
  by_cases a : t < 0
  · exact br_t a (h0 (Or.inr (Or.inl a)) a_choice)
  · refine br_f a ?_
    by_cases b : 31 < t
    · exact br_t b (h0 (Or.inr (Or.inr b)) a_choice)
    · refine br_f b ?_
      have hh : ∃ k, k ≤ 31 ∧ t = nI k := by
        rcases pk_ix t (n := 32) (by decide) with w | w | ⟨j, hj, e⟩
        · exact absurd w a
        · have : (32 : Int32) ≤ 31 := Int32.le_trans w (Int32.not_lt.mp b)
          exact absurd this (by decide)
        · exact ⟨j, by omega, e⟩
      obtain ⟨k, k31, rfl⟩ := hh
      obtain ⟨r, hr⟩ := hkk f f5 fs
      refine kd_Y yl f5 fs hr (fun ch => ?_)
      have r3 := fk_3 hr
      refine pk_eq r 3 (fun c => ?_) (fun c => h0 (Or.inl (Or.inl ⟨rfl, Or.inr ⟨f, x, r, hd, hr, c⟩⟩)) ch)
      subst c
      have el : el_l P (nI f) (nI x) (some (f, x)) := Or.inr ⟨f, x, rfl, hd, hr⟩
      have h3 := qu_k3 hG.1 f5 fs fx hr rfl c1 c2
      obtain ⟨g0, g1⟩ := h1 f x k el rfl k31 ch
      obtain ⟨gy, ud⟩ := sl_gy hG.1 y8 f5 fs fx
      refine wk_Y c2 yl y9 ud (by rw [gy]; exact h3) (by omega) (fun d hd2 he => ?_)
      rw [gy] at he
      obtain ⟨w1, w2⟩ := wk_in hG.1 c2 hu h3 k
      rw [← he] at w1 w2
      obtain ⟨z1, z2, z3⟩ := wk_Y0 c2 yl y9 hd2 w2
      have hl := ou_uc_lt hd2
      have hin : vp_in (nI d) 720 := vp_in_nI hl (by decide)
      refine ⟨hin, ?_⟩
      rw [nI_clamp (by omega)]
      rcases wk_3 (P := P) (rl_gc g d) with q | q | q
      · refine br_f (z1 q) (g1 d hd2 ?_)
        unfold el_c; rw [← he, if_neg (by omega), if_neg (by omega)]
      · refine br_t (z2 q).1 ⟨hin, br_t (z2 q).2 (g0 ?_)⟩
        unfold el_c; rw [← he, if_neg (by omega), if_pos q]
      · obtain ⟨s1, s2, p, a, b, e1, e2, e3, e4, e5, e6, e7, e8⟩ := z3 q
        refine br_t s1 ⟨hin, br_f (by rw [s2]; decide) ⟨hin, by decide, ?_⟩⟩
        rw [e1]
        have ed : nI p / 6 = nI (p / 6) := pk_div (d := 6) (by omega) (by decide) (by decide)
        have er : nI p - nI p / 6 * 6 = nI (p % 6) := pk_rem (d := 6) (by omega) (by decide) (by decide)
        rw [er, ed]
        refine ⟨vp_in_nI (by omega) (by decide), hin, by decide, ?_⟩
        rw [nI_clamp (by omega), e3, st_x]
        refine g1 _ e5 ?_
        unfold el_c; rw [← he, if_pos q, e7]
end
theorem i_vc_item {k : Nat} {u : SX} {v : SY} (I : i_Rel k u v) (hk : k + 4 ≤ 2049) (v1 : Int32) (v2 : Int32) (v3 : Int32) : wpX_item (fun r => wpY_item (fun r' v' => r' = r ∧ i_Rel (k + 4) u v') v v1 v2 v3) u v1 v2 v3 := by
  have I0 := I
  obtain ⟨P, L, tx, pl, sl, g, hG, hX, hY⟩ := I
  have hX0 := hX
  have hY0 := hY
  obtain ⟨f_width, f_textLength, f_foundPlace, f_tokenCount, f_frameCount, f_operandCount, f_defCount, f_nodeEnd, a_text, a_tokenCode, a_tokenPlace, a_frameCode, a_framePlace, a_operand, a_defPlace, a_defFirst, a_defEnd, a_nodeOp, a_nodeNumber, a_nodePlace, a_nodeDepth, a_nodeKind, a_part, a_size, a_kindFound, a_choice, a_status, a_result, a_slotFunction, a_slotArgument⟩ := u
  obtain ⟨f_width2, f_length2, f_place2, f_toks2, f_nodes2, f_defs2, a_text2, a_tok2, a_tokNum2, a_tokPlace2, a_opened2, a_nOp2, a_nNum2, a_nPlace2, a_nA2, a_nB2, a_nC2, a_nLo2, a_nHi2, a_nLevel2, a_defName2, a_defPlace2, a_defRoot2, a_loaded2, a_count2, a_status2, a_number2, a_origin2, a_choice2, a_slotF2, a_slotX2, a_slotHeld2⟩ := v
  obtain ⟨x1, x2, x3, x4, x5, x6, x7, x8, x9, x10⟩ := hX
  obtain ⟨y1, y2, y3, y4, y5, y6, y7, y8, y9, y10⟩ := hY
  have hkk : ∀ f, f < 5 → 0 < P 5 f → ∃ r, ki_r (rl_V P) 243 f r := fun f hf hs => by obtain ⟨r, _, hr⟩ := x8 f hf hs; exact ⟨r, hr⟩
  have rel : ∀ ch, i_Rel (k + 4) (f_width, f_textLength, f_foundPlace, f_tokenCount, f_frameCount, f_operandCount, f_defCount, f_nodeEnd, a_text, a_tokenCode, a_tokenPlace, a_frameCode, a_framePlace, a_operand, a_defPlace, a_defFirst, a_defEnd, a_nodeOp, a_nodeNumber, a_nodePlace, a_nodeDepth, a_nodeKind, a_part, a_size, a_kindFound, a_choice, a_status, a_result, a_slotFunction, a_slotArgument) (f_width2, f_length2, f_place2, f_toks2, f_nodes2, f_defs2, a_text2, a_tok2, a_tokNum2, a_tokPlace2, a_opened2, a_nOp2, a_nNum2, a_nPlace2, a_nA2, a_nB2, a_nC2, a_nLo2, a_nHi2, a_nLevel2, a_defName2, a_defPlace2, a_defRoot2, a_loaded2, a_count2, a_status2, a_number2, a_origin2, ch, a_slotF2, a_slotX2, a_slotHeld2) := fun ch => ⟨P, L, tx, pl, sl, g, hG, hX0, ⟨y1, y2, y3, y4, y5, y6, y7, y8, y9, y10⟩⟩
  have yl := qu_yl hG hY0
  obtain ⟨c0, c1, c2⟩ := hG.2.1
  have n31 : ∀ j, j ≤ 31 → ¬ (nI j < 0 ∨ (31 : Int32) < nI j) := fun j hj q => q.elim (nI_pos (by omega)) (fun w => nI_nlt (a := 31) hj (by omega) w)
  refine el_Xi hG hX0 (fun h => ?_) (fun f x j el ej j31 => ⟨fun hn => ?_, fun d hd => ?_⟩)
  · unfold wpY_item
    refine el_Y hG hY0 hkk (fun _ ch => br_t rfl ⟨rfl, rel ch⟩) (fun f x j el ej j31 => ?_)
    subst ej
    rcases h with h | h
    · exact absurd (el_u h el) (by simp)
    · exact absurd h (n31 j j31)
  · unfold wpY_item
    subst ej
    refine el_Y hG hY0 hkk (fun h ch => ?_) (fun f2 x2 j2 el2 ej2 j31 ch => ⟨fun _ => br_f (by decide) (br_t rfl ⟨rfl, rel ch⟩), fun d hd he => ?_⟩)
    · rcases h with h | h
      · exact absurd (el_u h el) (by simp)
      · exact absurd h (n31 j j31)
    · obtain ⟨rfl, rfl⟩ := Prod.mk.inj (Option.some.inj (el_u el el2))
      have := (nI_eq (by omega) (by omega)).mp ej2
      subst this
      rw [hn] at he; exact absurd he (by simp)
  · unfold wpY_item
    subst ej
    refine el_Y hG hY0 hkk (fun h ch => ?_) (fun f2 x2 j2 el2 ej2 j31 ch => ⟨fun hn => ?_, fun d2 hd2 he => ?_⟩)
    · rcases h with h | h
      · exact absurd (el_u h el) (by simp)
      · exact absurd h (n31 j j31)
    · obtain ⟨rfl, rfl⟩ := Prod.mk.inj (Option.some.inj (el_u el el2))
      have := (nI_eq (by omega) (by omega)).mp ej2
      subst this
      rw [hd] at hn; exact absurd hn (by simp)
    · obtain ⟨rfl, rfl⟩ := Prod.mk.inj (Option.some.inj (el_u el el2))
      have := (nI_eq (by omega) (by omega)).mp ej2
      subst this
      rw [hd] at he
      have := Option.some.inj he
      subst this
      have dl := ou_uc_lt hd2
      have nn : ¬ nI d2 < 0 := nI_pos (by omega)
      refine br_f (fun q => nn (by rw [q]; decide)) (br_f (fun q => nn (by rw [q]; decide)) (to_Y c2 yl y9 hd2 ⟨rfl, rel ch⟩))
theorem i_vc_itemValue {k : Nat} {u : SX} {v : SY} (I : i_Rel k u v) (hk : k + 4 ≤ 2049) (v1 : Int32) (v2 : Int32) (v3 : Int32) : wpX_itemValue (fun r => wpY_itemValue (fun r' v' => r' = r ∧ i_Rel (k + 4) u v') v v1 v2 v3) u v1 v2 v3 := by
  have I0 := I
  obtain ⟨P, L, tx, pl, sl, g, hG, hX, hY⟩ := I
  have hX0 := hX
  have hY0 := hY
  obtain ⟨f_width, f_textLength, f_foundPlace, f_tokenCount, f_frameCount, f_operandCount, f_defCount, f_nodeEnd, a_text, a_tokenCode, a_tokenPlace, a_frameCode, a_framePlace, a_operand, a_defPlace, a_defFirst, a_defEnd, a_nodeOp, a_nodeNumber, a_nodePlace, a_nodeDepth, a_nodeKind, a_part, a_size, a_kindFound, a_choice, a_status, a_result, a_slotFunction, a_slotArgument⟩ := u
  obtain ⟨f_width2, f_length2, f_place2, f_toks2, f_nodes2, f_defs2, a_text2, a_tok2, a_tokNum2, a_tokPlace2, a_opened2, a_nOp2, a_nNum2, a_nPlace2, a_nA2, a_nB2, a_nC2, a_nLo2, a_nHi2, a_nLevel2, a_defName2, a_defPlace2, a_defRoot2, a_loaded2, a_count2, a_status2, a_number2, a_origin2, a_choice2, a_slotF2, a_slotX2, a_slotHeld2⟩ := v
  obtain ⟨x1, x2, x3, x4, x5, x6, x7, x8, x9, x10⟩ := hX
  obtain ⟨y1, y2, y3, y4, y5, y6, y7, y8, y9, y10⟩ := hY
  have hkk : ∀ f, f < 5 → 0 < P 5 f → ∃ r, ki_r (rl_V P) 243 f r := fun f hf hs => by obtain ⟨r, _, hr⟩ := x8 f hf hs; exact ⟨r, hr⟩
  have rel : ∀ ch, i_Rel (k + 4) (f_width, f_textLength, f_foundPlace, f_tokenCount, f_frameCount, f_operandCount, f_defCount, f_nodeEnd, a_text, a_tokenCode, a_tokenPlace, a_frameCode, a_framePlace, a_operand, a_defPlace, a_defFirst, a_defEnd, a_nodeOp, a_nodeNumber, a_nodePlace, a_nodeDepth, a_nodeKind, a_part, a_size, a_kindFound, a_choice, a_status, a_result, a_slotFunction, a_slotArgument) (f_width2, f_length2, f_place2, f_toks2, f_nodes2, f_defs2, a_text2, a_tok2, a_tokNum2, a_tokPlace2, a_opened2, a_nOp2, a_nNum2, a_nPlace2, a_nA2, a_nB2, a_nC2, a_nLo2, a_nHi2, a_nLevel2, a_defName2, a_defPlace2, a_defRoot2, a_loaded2, a_count2, a_status2, a_number2, a_origin2, ch, a_slotF2, a_slotX2, a_slotHeld2) := fun ch => ⟨P, L, tx, pl, sl, g, hG, hX0, ⟨y1, y2, y3, y4, y5, y6, y7, y8, y9, y10⟩⟩
  have yl := qu_yl hG hY0
  have xl := qu_xl hG hX0
  have n31 : ∀ j, j ≤ 31 → ¬ (nI j < 0 ∨ (31 : Int32) < nI j) := fun j hj q => q.elim (nI_pos (by omega)) (fun w => nI_nlt (a := 31) hj (by omega) w)
  -- Y at an item
  have yy : ∀ f x j (r : Int64), el_l P v1 v2 (some (f, x)) → v3 = nI j → j ≤ 31 → (el_c P (ou_cf P f x) j = none → r = 0) → (∀ d2, ou_uc P d2 → el_c P (ou_cf P f x) j = some (rl_gc g d2) → (a_status2 d2 = 1 → a_number2 d2 = r) ∧ (a_status2 d2 ≠ 1 → r = 0)) →
      wpY_itemValue (fun r' v' => r' = r ∧ i_Rel (k + 4) (f_width, f_textLength, f_foundPlace, f_tokenCount, f_frameCount, f_operandCount, f_defCount, f_nodeEnd, a_text, a_tokenCode, a_tokenPlace, a_frameCode, a_framePlace, a_operand, a_defPlace, a_defFirst, a_defEnd, a_nodeOp, a_nodeNumber, a_nodePlace, a_nodeDepth, a_nodeKind, a_part, a_size, a_kindFound, a_choice, a_status, a_result, a_slotFunction, a_slotArgument) v') (f_width2, f_length2, f_place2, f_toks2, f_nodes2, f_defs2, a_text2, a_tok2, a_tokNum2, a_tokPlace2, a_opened2, a_nOp2, a_nNum2, a_nPlace2, a_nA2, a_nB2, a_nC2, a_nLo2, a_nHi2, a_nLevel2, a_defName2, a_defPlace2, a_defRoot2, a_loaded2, a_count2, a_status2, a_number2, a_origin2, a_choice2, a_slotF2, a_slotX2, a_slotHeld2) v1 v2 v3 := by
    intro f x j r el ej j31 a b
    subst ej
    unfold wpY_itemValue
    refine el_Y hG hY0 hkk (fun h ch => ?_) (fun f2 x2 j2 el2 ej2 j32 ch => ⟨fun hn => ?_, fun d2 hd2 he => ?_⟩)
    · rcases h with h | h
      · exact absurd (el_u h el) (by simp)
      · exact absurd h (n31 j j31)
    · obtain ⟨rfl, rfl⟩ := Prod.mk.inj (Option.some.inj (el_u el el2))
      have := (nI_eq (by omega) (by omega)).mp ej2
      subst this
      exact br_t (by decide) ⟨(a hn).symm, rel ch⟩
    · obtain ⟨rfl, rfl⟩ := Prod.mk.inj (Option.some.inj (el_u el el2))
      have := (nI_eq (by omega) (by omega)).mp ej2
      subst this
      have dl := ou_uc_lt hd2
      have hin : vp_in (nI d2) 720 := vp_in_nI dl (by decide)
      refine br_f (nI_pos (by omega)) ⟨hin, ?_⟩
      rw [nI_clamp (by omega)]
      obtain ⟨b1, b2⟩ := b d2 hd2 he
      by_cases z : a_status2 d2 = 1
      · exact br_t z ⟨hin, b1 z, rel ch⟩
      · exact br_f z ⟨(b2 z).symm, rel ch⟩
  -- Y's status is 1 where X's is
  have ys : ∀ d2, ou_uc P d2 → (a_status2 d2 = 1 ↔ sl_k P (rl_gc g d2) = 1) := by
    intro d2 hd2
    obtain ⟨t0, t1⟩ := y9 d2 hd2
    unfold sl_k
    cases hE : ou_E P (rl_gc g d2) with
    | none => rw [t0 hE]; exact ⟨fun q => absurd q (by decide), fun q => absurd q (by decide)⟩
    | some o => rw [(t1 o hE).1]
  unfold wpX_itemValue
  refine el_Xi hG hX0 (fun h => br_f (by decide) ?_) (fun f x j el ej j31 => ⟨fun hn => br_f (by decide) ?_, fun d hd => ?_⟩)
  · unfold wpY_itemValue
    refine el_Y hG hY0 hkk (fun _ ch => br_t (by decide) ⟨rfl, rel ch⟩) (fun f x j el ej j31 => ?_)
    subst ej
    rcases h with h | h
    · exact absurd (el_u h el) (by simp)
    · exact absurd h (n31 j j31)
  · exact yy f x j 0 el ej j31 (fun _ => rfl) (fun d2 hd2 he => by rw [hn] at he; exact absurd he (by simp))
  · by_cases z : sl_k P d = 1
    · refine br_t z ?_
      have ej0 := ej
      subst ej
      refine el_Xp hG hX0 el (by omega) ?_
      obtain ⟨f5, e1, fs, fx, e2, hc, hr, c0, c1, c2, hu, h3⟩ := el_w hG el
      obtain ⟨w1, w2⟩ := wk_in hG.1 c2 hu h3 j
      obtain ⟨z0, z1, z2, z3⟩ := wk_X0 c2 xl x9 w1 w2
      rcases wk_3 (P := P) (wk P (ou_cf P f x) j) with q | q | q
      · unfold el_c at hd
        rw [if_neg (by omega), if_neg (by omega)] at hd
        have := Option.some.inj hd
        subst this
        exact absurd z (z1 q)
      · unfold el_c at hd
        rw [if_neg (by omega), if_pos q] at hd
        exact absurd hd (by simp)
      · have hd0 := hd
        unfold el_c at hd
        rw [if_pos q] at hd
        have ed := Option.some.inj hd
        refine (z3 q).2.2 0 (by decide) _ ?_
        obtain ⟨o, _, _, _, _, _, _, j2, j3, _⟩ := wk_2 hG.1 c2 w2 q
        obtain ⟨pu, pk1, _⟩ := wk_p hG.1 c2 j2 j3
        have pl2 := ou_uc_lt pu
        show vp_in (nI (ou_ps P 2 (wk_j P (wk P (ou_cf P f x) j)))) 720 ∧ _
        rw [ed] at pu pk1 pl2 ⊢
        refine ⟨vp_in_nI pl2 (by decide), ?_⟩
        rw [nI_clamp (by omega)]
        refine yy f x j _ el rfl j31 (fun n => by rw [hd0] at n; exact absurd n (by simp)) (fun d2 hd2 he => ?_)
        rw [hd0] at he
        have he := Option.some.inj he
        subst he
        refine ⟨fun s => ?_, fun s => absurd ((ys d2 hd2).mpr z) s⟩
        unfold sl_k at z
        cases hE : ou_E P (rl_gc g d2) with
        | none => rw [hE] at z; exact absurd z (by decide)
        | some o2 =>
          rw [hE] at z
          have t := ru_t (T := ou_E P) hG.1 c2 (fun d p q => ou_E_s.mp q) hE
          have l : o2.1 < 6 := by
            rcases t with t | t
            · have := t.1; omega
            · have := t.1; omega
          have o1 := (nI_eq (a := o2.1) (b := 1) (by omega) (by decide)).mp z
          have tag : o2.2.1 = 1 := by
            rcases t with ⟨_, t2, _⟩ | t
            · rw [t2]; exact pk1
            · have := t.1; omega
          rw [(((y9 d2 hd2).2 o2 hE).2 o1).1 (by omega), ((x9 _ pu).2 o2 hE).2 o1]
    · refine br_f z (yy f x j 0 el ej j31 (fun _ => rfl) (fun d2 hd2 he => ⟨fun s => ?_, fun _ => rfl⟩))
      rw [hd] at he
      have he := Option.some.inj he
      subst he
      exact absurd ((ys d2 hd2).mp s) z
-- length
noncomputable def le_n (P : Nat → Nat → Nat) (c : Nat) : Nat → Nat → Int32
  | 0, _ => -1
  | r + 1, i => if wk_c P (wk P c i) = 0 then -1 else if wk_c P (wk P c i) = 1 then nI i else le_n P c r (i + 1)
theorem i_vc_length {k : Nat} {u : SX} {v : SY} (I : i_Rel k u v) (hk : k + 4 ≤ 2049) (v1 : Int32) (v2 : Int32) : wpX_length (fun r => wpY_length (fun r' v' => r' = r ∧ i_Rel (k + 4) u v') v v1 v2) u v1 v2 := by
  have I0 := I
  obtain ⟨P, L, tx, pl, sl, g, hG, hX, hY⟩ := I
  have hX0 := hX
  have hY0 := hY
  obtain ⟨f_width, f_textLength, f_foundPlace, f_tokenCount, f_frameCount, f_operandCount, f_defCount, f_nodeEnd, a_text, a_tokenCode, a_tokenPlace, a_frameCode, a_framePlace, a_operand, a_defPlace, a_defFirst, a_defEnd, a_nodeOp, a_nodeNumber, a_nodePlace, a_nodeDepth, a_nodeKind, a_part, a_size, a_kindFound, a_choice, a_status, a_result, a_slotFunction, a_slotArgument⟩ := u
  obtain ⟨f_width2, f_length2, f_place2, f_toks2, f_nodes2, f_defs2, a_text2, a_tok2, a_tokNum2, a_tokPlace2, a_opened2, a_nOp2, a_nNum2, a_nPlace2, a_nA2, a_nB2, a_nC2, a_nLo2, a_nHi2, a_nLevel2, a_defName2, a_defPlace2, a_defRoot2, a_loaded2, a_count2, a_status2, a_number2, a_origin2, a_choice2, a_slotF2, a_slotX2, a_slotHeld2⟩ := v
  obtain ⟨x1, x2, x3, x4, x5, x6, x7, x8, x9, x10⟩ := hX
  obtain ⟨y1, y2, y3, y4, y5, y6, y7, y8, y9, y10⟩ := hY
  have rel : ∀ ch, i_Rel (k + 4) (f_width, f_textLength, f_foundPlace, f_tokenCount, f_frameCount, f_operandCount, f_defCount, f_nodeEnd, a_text, a_tokenCode, a_tokenPlace, a_frameCode, a_framePlace, a_operand, a_defPlace, a_defFirst, a_defEnd, a_nodeOp, a_nodeNumber, a_nodePlace, a_nodeDepth, a_nodeKind, a_part, a_size, a_kindFound, a_choice, a_status, a_result, a_slotFunction, a_slotArgument) (f_width2, f_length2, f_place2, f_toks2, f_nodes2, f_defs2, a_text2, a_tok2, a_tokNum2, a_tokPlace2, a_opened2, a_nOp2, a_nNum2, a_nPlace2, a_nA2, a_nB2, a_nC2, a_nLo2, a_nHi2, a_nLevel2, a_defName2, a_defPlace2, a_defRoot2, a_loaded2, a_count2, a_status2, a_number2, a_origin2, ch, a_slotF2, a_slotX2, a_slotHeld2) := fun ch => ⟨P, L, tx, pl, sl, g, hG, hX0, ⟨y1, y2, y3, y4, y5, y6, y7, y8, y9, y10⟩⟩
  have yl := qu_yl hG hY0
  have xl := qu_xl hG hX0
  obtain ⟨c0, c1, c2⟩ := hG.2.1
  -- Y
  have yy : ∀ r : Int32, (el_l P v1 v2 none → r = -2) → (∀ f x, el_l P v1 v2 (some (f, x)) → r = le_n P (ou_cf P f x) 41 0) → wpY_length (fun r' v' => r' = r ∧ i_Rel (k + 4) (f_width, f_textLength, f_foundPlace, f_tokenCount, f_frameCount, f_operandCount, f_defCount, f_nodeEnd, a_text, a_tokenCode, a_tokenPlace, a_frameCode, a_framePlace, a_operand, a_defPlace, a_defFirst, a_defEnd, a_nodeOp, a_nodeNumber, a_nodePlace, a_nodeDepth, a_nodeKind, a_part, a_size, a_kindFound, a_choice, a_status, a_result, a_slotFunction, a_slotArgument) v') (f_width2, f_length2, f_place2, f_toks2, f_nodes2, f_defs2, a_text2, a_tok2, a_tokNum2, a_tokPlace2, a_opened2, a_nOp2, a_nNum2, a_nPlace2, a_nA2, a_nB2, a_nC2, a_nLo2, a_nHi2, a_nLevel2, a_defName2, a_defPlace2, a_defRoot2, a_loaded2, a_count2, a_status2, a_number2, a_origin2, a_choice2, a_slotF2, a_slotX2, a_slotHeld2) v1 v2 := by
    intro r a b
    unfold wpY_length
    refine sl_Yl hG hY0 (fun hd => br_t rfl ⟨(a (Or.inl ⟨rfl, Or.inl hd⟩)).symm, rel _⟩) (fun f x hd => ?_)
    obtain ⟨f5, rfl, fs, fx, rfl⟩ := sl_cs hG.1.2.1 hd
    have hu := sl_cfl hG.1 f5 fs fx
    have n0 : sl_k P (ou_cf P f x) ≠ 0 := by
      unfold sl_k
      cases hE : ou_E P (ou_cf P f x) with
      | none => decide
      | some o =>
        have t := ru_t (T := ou_E P) hG.1 c2 (fun d p q => ou_E_s.mp q) hE
        have l : 0 < o.1 ∧ o.1 < 6 := by
          rcases t with t | t
          · have := t.1; omega
          · have := t.1; omega
        exact nI_ne0 l.1 (by omega)
    obtain ⟨q, _, hr⟩ := x8 f f5 fs
    refine br_f n0 (kd_Y yl f5 fs hr (fun ch => ?_))
    have r3 := fk_3 hr
    refine pk_eq q 3 (fun c => ?_) (fun c => ⟨(a (Or.inl ⟨rfl, Or.inr ⟨f, x, q, hd, hr, c⟩⟩)).symm, rel ch⟩)
    subst c
    have hb := b f x (Or.inr ⟨f, x, rfl, hd, hr⟩)
    have h3 := qu_k3 hG.1 f5 fs fx hr rfl c1 c2
    obtain ⟨gy, ud⟩ := sl_gy hG.1 y8 f5 fs fx
    have key : ∀ m i, i + m = 41 → r = le_n P (ou_cf P f x) m i → ∀ n, m < n → wY_length_23 (fun r' v' => r' = r ∧ i_Rel (k + 4) (f_width, f_textLength, f_foundPlace, f_tokenCount, f_frameCount, f_operandCount, f_defCount, f_nodeEnd, a_text, a_tokenCode, a_tokenPlace, a_frameCode, a_framePlace, a_operand, a_defPlace, a_defFirst, a_defEnd, a_nodeOp, a_nodeNumber, a_nodePlace, a_nodeDepth, a_nodeKind, a_part, a_size, a_kindFound, a_choice, a_status, a_result, a_slotFunction, a_slotArgument) v') (nI f) (nI x) f_width2 f_length2 f_place2 f_toks2 f_nodes2 f_defs2 a_text2 a_tok2 a_tokNum2 a_tokPlace2 a_opened2 a_nOp2 a_nNum2 a_nPlace2 a_nA2 a_nB2 a_nC2 a_nLo2 a_nHi2 a_nLevel2 a_defName2 a_defPlace2 a_defRoot2 a_loaded2 a_count2 a_status2 a_number2 a_origin2 ch a_slotF2 a_slotX2 a_slotHeld2 n (nI i) := by
      intro m
      induction m with
      | zero =>
        intro i hi he n hn
        obtain ⟨n, rfl⟩ : ∃ m, n = m + 1 := ⟨n - 1, by omega⟩
        have ei : i = 41 := by omega
        subst ei
        exact br_t (by decide) ⟨he.symm, rel ch⟩
      | succ m ih =>
        intro i hi he n hn
        obtain ⟨n, rfl⟩ : ∃ m, n = m + 1 := ⟨n - 1, by omega⟩
        refine br_f (nI_nlt (a := 40) (by omega) (by omega)) ?_
        refine wk_Y c2 yl y9 ud (by rw [gy]; exact h3) (by omega) (fun d hd2 hw => ?_)
        rw [gy] at hw
        obtain ⟨w1, w2⟩ := wk_in hG.1 c2 hu h3 i
        rw [← hw] at w1 w2
        obtain ⟨z1, z2, z3⟩ := wk_Y0 c2 yl y9 hd2 w2
        have hl := ou_uc_lt hd2
        have hin : vp_in (nI d) 720 := vp_in_nI hl (by decide)
        refine ⟨hin, ?_⟩
        rw [nI_clamp (by omega)]
        unfold le_n at he
        rw [← hw] at he
        rcases wk_3 (P := P) (rl_gc g d) with q | q | q
        · rw [if_pos q] at he
          exact br_f (z1 q) ⟨he.symm, rel ch⟩
        · rw [if_neg (by omega), if_pos q] at he
          exact br_t (z2 q).1 ⟨hin, br_t (z2 q).2 ⟨he.symm, rel ch⟩⟩
        · rw [if_neg (by omega), if_neg (by omega)] at he
          refine br_t (z3 q).1 ⟨hin, br_f (by rw [(z3 q).2.1]; decide) (fun y ey => ?_)⟩
          rw [ey, nI_1]
          exact ih (i + 1) (by omega) he n (by omega)
    exact ⟨_, key 41 0 (by omega) hb _ (Nat.lt_succ_self _)⟩
  unfold wpX_length
  refine el_X hG hX0 (fun h => br_t rfl (yy (-2) (fun _ => rfl) (fun f x h2 => absurd (el_u h h2) (by simp)))) (fun f x el => bq_1 ?_)
  have yz : wpY_length (fun r' v' => r' = le_n P (ou_cf P f x) 41 0 ∧ i_Rel (k + 4) (f_width, f_textLength, f_foundPlace, f_tokenCount, f_frameCount, f_operandCount, f_defCount, f_nodeEnd, a_text, a_tokenCode, a_tokenPlace, a_frameCode, a_framePlace, a_operand, a_defPlace, a_defFirst, a_defEnd, a_nodeOp, a_nodeNumber, a_nodePlace, a_nodeDepth, a_nodeKind, a_part, a_size, a_kindFound, a_choice, a_status, a_result, a_slotFunction, a_slotArgument) v') (f_width2, f_length2, f_place2, f_toks2, f_nodes2, f_defs2, a_text2, a_tok2, a_tokNum2, a_tokPlace2, a_opened2, a_nOp2, a_nNum2, a_nPlace2, a_nA2, a_nB2, a_nC2, a_nLo2, a_nHi2, a_nLevel2, a_defName2, a_defPlace2, a_defRoot2, a_loaded2, a_count2, a_status2, a_number2, a_origin2, a_choice2, a_slotF2, a_slotX2, a_slotHeld2) v1 v2 := yy _ (fun h => absurd (el_u h el) (by simp)) (fun f2 x2 h2 => by
    obtain ⟨rfl, rfl⟩ := Prod.mk.inj (Option.some.inj (el_u el h2)); rfl)
  obtain ⟨f5, rfl, fs, fx, rfl, hc, hr, _, _, _, hu, _⟩ := el_w hG el
  have h3 := qu_k3 hG.1 f5 fs fx hr rfl c1 c2
  refine sl_Xf hG hX0 f5 fs ?_
  have key : ∀ m i (r : Int32), i + m = 41 → r = le_n P (ou_cf P f x) m i → wpY_length (fun r' v' => r' = r ∧ i_Rel (k + 4) (f_width, f_textLength, f_foundPlace, f_tokenCount, f_frameCount, f_operandCount, f_defCount, f_nodeEnd, a_text, a_tokenCode, a_tokenPlace, a_frameCode, a_framePlace, a_operand, a_defPlace, a_defFirst, a_defEnd, a_nodeOp, a_nodeNumber, a_nodePlace, a_nodeDepth, a_nodeKind, a_part, a_size, a_kindFound, a_choice, a_status, a_result, a_slotFunction, a_slotArgument) v') (f_width2, f_length2, f_place2, f_toks2, f_nodes2, f_defs2, a_text2, a_tok2, a_tokNum2, a_tokPlace2, a_opened2, a_nOp2, a_nNum2, a_nPlace2, a_nA2, a_nB2, a_nC2, a_nLo2, a_nHi2, a_nLevel2, a_defName2, a_defPlace2, a_defRoot2, a_loaded2, a_count2, a_status2, a_number2, a_origin2, a_choice2, a_slotF2, a_slotX2, a_slotHeld2) (nI f) (nI x) → ∀ n, m < n → wX_length_22 (fun r => wpY_length (fun r' v' => r' = r ∧ i_Rel (k + 4) (f_width, f_textLength, f_foundPlace, f_tokenCount, f_frameCount, f_operandCount, f_defCount, f_nodeEnd, a_text, a_tokenCode, a_tokenPlace, a_frameCode, a_framePlace, a_operand, a_defPlace, a_defFirst, a_defEnd, a_nodeOp, a_nodeNumber, a_nodePlace, a_nodeDepth, a_nodeKind, a_part, a_size, a_kindFound, a_choice, a_status, a_result, a_slotFunction, a_slotArgument) v') (f_width2, f_length2, f_place2, f_toks2, f_nodes2, f_defs2, a_text2, a_tok2, a_tokNum2, a_tokPlace2, a_opened2, a_nOp2, a_nNum2, a_nPlace2, a_nA2, a_nB2, a_nC2, a_nLo2, a_nHi2, a_nLevel2, a_defName2, a_defPlace2, a_defRoot2, a_loaded2, a_count2, a_status2, a_number2, a_origin2, a_choice2, a_slotF2, a_slotX2, a_slotHeld2) (nI f) (nI x)) f_width f_textLength f_foundPlace f_tokenCount f_frameCount f_operandCount f_defCount f_nodeEnd a_text a_tokenCode a_tokenPlace a_frameCode a_framePlace a_operand a_defPlace a_defFirst a_defEnd a_nodeOp a_nodeNumber a_nodePlace a_nodeDepth a_nodeKind a_part a_size a_kindFound a_choice a_status a_result a_slotFunction a_slotArgument n (nI (wk P (ou_cf P f x) i)) (nI i) := by
    intro m
    induction m with
    | zero =>
      intro i r hi he hy n hn
      obtain ⟨n, rfl⟩ : ∃ m, n = m + 1 := ⟨n - 1, by omega⟩
      have ei : i = 41 := by omega
      subst ei he
      exact br_t (by decide) hy
    | succ m ih =>
      intro i r hi he hy n hn
      obtain ⟨n, rfl⟩ : ∃ m, n = m + 1 := ⟨n - 1, by omega⟩
      obtain ⟨w1, w2⟩ := wk_in hG.1 c2 hu h3 i
      obtain ⟨z0, z1, z2, z3⟩ := wk_X0 c2 xl x9 w1 w2
      have hl := ou_uc_lt w1
      have hin : vp_in (nI (wk P (ou_cf P f x) i)) 720 := vp_in_nI hl (by decide)
      refine br_f (nI_nlt (a := 40) (by omega) (by omega)) ⟨hin, ?_⟩
      rw [nI_clamp (by omega), z0]
      unfold le_n at he
      rcases wk_3 (P := P) (wk P (ou_cf P f x) i) with q | q | q
      · rw [if_pos q] at he
        subst he
        exact br_f (z1 q) hy
      · rw [if_neg (by omega), if_pos q] at he
        subst he
        exact br_t (z2 q).1 ⟨hin, br_t (z2 q).2 hy⟩
      · rw [if_neg (by omega), if_neg (by omega)] at he
        refine br_t (z3 q).1 ⟨hin, br_f (z3 q).2.1 ((z3 q).2.2 1 (by decide) _ (fun y ey => ?_))⟩
        rw [ey, nI_1]
        have := ih (i + 1) r (by omega) he hy n (by omega)
        rw [wk_su q] at this
        exact this
  exact ⟨_, key 41 0 _ (by omega) rfl yz _ (Nat.lt_succ_self _)⟩
end
section
-- UNLOAD
def ul_c (P : Nat → Nat → Nat) (f u : Nat) : Prop := ou_us P u ∧ u / 24 ≠ f ∧ P 0 u = 13 ∧ P 1 u = f
def ul_s (sl : Nat → Option (Nat × Nat)) (f : Nat) : Prop := ∃ s x, s < 3 ∧ sl s = some (f, x)
theorem un_kn {P : Nat → Nat → Nat} {f : Nat} {kc : Nat → Nat} : ∀ n u, ki_n (un_P P f) kc n u = ki_n P kc n u := by
  intro n
  induction n with
  | zero => intro u; rfl
  | succ n ih =>
    intro u
    show ki_f _ _ _ _ = ki_f _ _ _ _
    rw [un_k (f := f) (k := 0) (by decide), un_k (f := f) (k := 1) (by decide), un_k (f := f) (k := 2) (by decide), un_k (f := f) (k := 3) (by decide), ih, ih]
theorem un_ki {P : Nat → Nat → Nat} {f : Nat} {kc : Nat → Nat} (h : ki_ok P kc) : ki_ok (un_P P f) kc := by
  have e : ∀ u, ki_k (un_P P f) kc u = ki_k P kc u := fun u => un_kn _ _
  refine ⟨fun u hu => ?_, fun g hg hs => ?_⟩
  · rw [e, e, e, un_k (f := f) (k := 0) (by decide), un_k (f := f) (k := 2) (by decide), un_k (f := f) (k := 3) (by decide), un_k (f := f) (k := 4) (by decide)]
    exact h.1 u (un_us.mp hu).1
  · by_cases q : g = f
    · rw [q, un_f] at hs; omega
    · rw [un_o q] at hs ⊢
      rw [e]; exact h.2 g hg hs
section
variable {P : Nat → Nat → Nat} {f : Nat} {c0 : Nat}
theorem un_E (hP : pg_ok P) (hv : rl_V P c0) (hc : ¬ ∃ u, ul_c P f u) {c : Nat} (hcf : c / 6 / 24 ≠ f) : ou_E (un_P P f) c = ou_E P c := by
  have hc2 : ∀ u, ou_us P u → u / 24 ≠ f → P 0 u = 13 → P 1 u ≠ f := fun u h1 h2 h3 h4 => hc ⟨u, h1, h2, h3, h4⟩
  have key : ∀ o, ou_E (un_P P f) c = some o ↔ ou_E P c = some o := fun o => by
    rw [ou_E_s, ou_E_s]; exact un_V hP (ki_ty hP hv) hc2 hcf o
  cases h : ou_E P c with
  | some o => exact (key o).mpr h
  | none =>
    cases h2 : ou_E (un_P P f) c with
    | none => rfl
    | some o => rw [(key o).mp h2] at h; exact absurd h (by simp)
theorem un_j (hP : pg_ok P) (hv : rl_V P c0) (hc : ¬ ∃ u, ul_c P f u) {c : Nat} (hcf : c / 6 / 24 ≠ f) {o : ou_O} (ho : ou_E P c = some o) (h1 : o.1 = 1) (h3 : o.2.1 = 3) (hn : o.2.2 ≠ 0) : ou_jn o.2.2 / 6 / 24 ≠ f := by
  have hc2 : ∀ u, ou_us P u → u / 24 ≠ f → P 0 u = 13 → P 1 u ≠ f := fun u h1 h2 h3 h4 => hc ⟨u, h1, h2, h3, h4⟩
  have t := ru_t (T := ou_E P) hP hv (fun d p q => ou_E_s.mp q) ho
  rcases t with ⟨_, _, _, t4⟩ | t
  · rcases t4 h3 with q | ⟨j, j1, j2, j3, j4⟩
    · exact absurd q hn
    · obtain ⟨k, hk⟩ := ou_E_s.mp ho
      have := (un_ev hP (ki_ty hP hv) hc2 k c hcf).2 o hk j j1 h1 h3 j4
      rw [j4, ou_jn_e j1]; exact this
  · have := t.1; omega
theorem un_tX (hP : pg_ok P) (hv : rl_V P c0) (hc : ¬ ∃ u, ul_c P f u) {st : Nat → Int32} {re : Nat → Int64} (h : rl_tX P (ou_E P) st re) : rl_tX (un_P P f) (ou_E (un_P P f)) st re := by
  intro c hu
  obtain ⟨h1, h2⟩ := un_uc.mp hu
  rw [un_E hP hv hc h2]
  exact h c h1
theorem un_gl {g : Nat → Nat} (hg : rl_g P g) {q : Nat} (hq : ou_uc P q) : rl_gc g q / 6 / 24 = q / 6 / 24 := by
  have e : rl_gc g q / 6 = g (q / 6) := by unfold rl_gc; omega
  rw [e]; exact (hg.1 _ hq.1).2
theorem un_tY {g : Nat → Nat} (hP : pg_ok P) (hv : rl_V P c0) (hc : ¬ ∃ u, ul_c P f u) (hg : rl_g P g) {st : Nat → Int32} {nu : Nat → Int64} {og : Nat → Int32} (h : rl_tY P g (ou_E P) st nu og) : rl_tY (un_P P f) g (ou_E (un_P P f)) st nu og := by
  intro d hu
  obtain ⟨h1, h2⟩ := un_uc.mp hu
  have hgc : rl_gc g d / 6 / 24 ≠ f := by rw [un_gl hg h1]; exact h2
  rw [un_E hP hv hc hgc]
  obtain ⟨t0, t1⟩ := h d h1
  refine ⟨t0, fun o ho => ?_⟩
  obtain ⟨s1, s2⟩ := t1 o ho
  refine ⟨s1, fun o1 => ⟨(s2 o1).1, fun o3 => ⟨((s2 o1).2 o3).1, fun on => ?_⟩⟩⟩
  obtain ⟨n1, q, q1, q2, q3⟩ := ((s2 o1).2 o3).2 on
  refine ⟨n1, q, un_uc.mpr ⟨q1, ?_⟩, q2, q3⟩
  rw [← un_gl hg q1, q3]
  exact un_j hP hv hc hgc ho o1 o3 on
theorem un_g {g : Nat → Nat} (hg : rl_g P g) : rl_g (un_P P f) g := by
  obtain ⟨g1, g2, g3, g4⟩ := hg
  refine ⟨fun r hr => ?_, fun h hh hs => ?_, fun r s hr hs he => g3 r s (un_us.mp hr).1 (un_us.mp hs).1 he, fun u hu => ?_⟩
  · obtain ⟨a, b⟩ := un_us.mp hr
    obtain ⟨c, d⟩ := g1 r a
    exact ⟨un_us.mpr ⟨c, by rw [d]; exact b⟩, d⟩
  · by_cases q : h = f
    · rw [q, un_f] at hs; omega
    · rw [un_o q] at hs ⊢; exact g2 h hh hs
  · obtain ⟨a, b⟩ := un_us.mp hu
    obtain ⟨r, r1, r2⟩ := g4 u a
    exact ⟨r, un_us.mpr ⟨r1, by rw [← (g1 r r1).2, r2]; exact b⟩, r2⟩
theorem un_le (h : rl_le P) : rl_le (un_P P f) := by
  intro u hu
  rw [un_k (f := f) (k := 2) (by decide), un_k (f := f) (k := 3) (by decide), un_k (f := f) (k := 4) (by decide)]
  exact h u (un_us.mp hu).1
theorem un_nY {g : Nat → Nat} (hP : pg_ok P) (hg : rl_g P g) {no nn na nb nc : Nat → Int32} {r : Nat} (hr : ou_us (un_P P f) r) (h : rl_nY P g no nn na nb nc r) : rl_nY (un_P P f) g no nn na nb nc r := by
  obtain ⟨a, b⟩ := un_us.mp hr
  obtain ⟨l1, l2⟩ := hg.1 r a
  obtain ⟨_, _, _, o4⟩ := hP.2.2.2 _ l1
  have kid : ∀ w j, j < pg_n (P 0 (g r)) → ou_us P w → g w = P (2 + j) (g r) → ou_us (un_P P f) w := by
    intro w j hj hw q
    refine un_us.mpr ⟨hw, ?_⟩
    rw [← (hg.1 w hw).2, q, (o4 j hj).2, l2]
    exact b
  obtain ⟨h1, h2, h3, h4, h5⟩ := h
  unfold rl_nY
  rw [un_k (f := f) (k := 0) (by decide), un_k (f := f) (k := 1) (by decide), un_k (f := f) (k := 2) (by decide), un_k (f := f) (k := 3) (by decide), un_k (f := f) (k := 4) (by decide)]
  refine ⟨h1, h2, fun n => ?_, fun n => ?_, fun n => ?_⟩
  · obtain ⟨w, w1, w2, w3⟩ := h3 n; exact ⟨w, w1, kid w 0 n w2 w3, w3⟩
  · obtain ⟨w, w1, w2, w3⟩ := h4 n; exact ⟨w, w1, kid w 1 n w2 w3, w3⟩
  · obtain ⟨w, w1, w2, w3⟩ := h5 n; exact ⟨w, w1, kid w 2 n w2 w3, w3⟩
end
section
variable {f_width f_textLength f_foundPlace f_tokenCount f_frameCount f_operandCount f_defCount f_nodeEnd : Int32} {a_text a_tokenCode a_tokenPlace a_frameCode a_framePlace a_operand a_defPlace a_defFirst a_defEnd a_nodeOp a_nodeNumber a_nodePlace a_nodeDepth a_nodeKind a_part a_size a_kindFound a_choice a_status : Nat → Int32} {a_result : Nat → Int64} {a_slotFunction a_slotArgument : Nat → Int32} {P : Nat → Nat → Nat} {f : Nat}
theorem ul_X (hP : xl_P P a_size a_nodeOp a_nodeNumber a_nodePlace a_part) (hf : f < 5) {post : Int32 → Prop} (h1 : (∃ u, ul_c P f u) → post 1) (h0 : (¬ ∃ u, ul_c P f u) → post 0) : wpX_isCalledByAnother post (f_width, f_textLength, f_foundPlace, f_tokenCount, f_frameCount, f_operandCount, f_defCount, f_nodeEnd, a_text, a_tokenCode, a_tokenPlace, a_frameCode, a_framePlace, a_operand, a_defPlace, a_defFirst, a_defEnd, a_nodeOp, a_nodeNumber, a_nodePlace, a_nodeDepth, a_nodeKind, a_part, a_size, a_kindFound, a_choice, a_status, a_result, a_slotFunction, a_slotArgument) (nI f) := by
  obtain ⟨p1, p2, p3, p4, p5⟩ := hP
  have h24 := p1.2.2.1
  have inner : ∀ gg J, gg < 5 → ((∀ u, ul_c P f u → (gg + 1) * 24 ≤ u) → J (nI (gg + 1))) → ∀ r i, i + r = P 5 gg → (∀ u, ul_c P f u → gg * 24 + i ≤ u) → ∀ n, r < n → wX_isCalledByAnother_9 post J (nI f) (nI gg) f_width f_textLength f_foundPlace f_tokenCount f_frameCount f_operandCount f_defCount f_nodeEnd a_text a_tokenCode a_tokenPlace a_frameCode a_framePlace a_operand a_defPlace a_defFirst a_defEnd a_nodeOp a_nodeNumber a_nodePlace a_nodeDepth a_nodeKind a_part a_size a_kindFound a_choice a_status a_result a_slotFunction a_slotArgument n (nI i) := by
    intro gg J hg hJ r
    have g24 := h24 gg
    induction r with
    | zero =>
      intro i hi hu n hn
      obtain ⟨n, rfl⟩ : ∃ m, n = m + 1 := ⟨n - 1, by omega⟩
      refine ⟨vp_in_nI hg (by decide), ?_⟩
      rw [nI_clamp (by omega), p3 gg hg]
      refine br_t (nI_le (by omega) (by omega)) (fun y ey => ?_)
      rw [ey, nI_1]
      refine hJ (fun u hc => ?_)
      have a := hu u hc
      have b := hc.1.2
      by_cases q : u / 24 = gg
      · rw [q] at b; omega
      · omega
    | succ r ih =>
      intro i hi hu n hn
      obtain ⟨n, rfl⟩ : ∃ m, n = m + 1 := ⟨n - 1, by omega⟩
      refine ⟨vp_in_nI hg (by decide), ?_⟩
      rw [nI_clamp (by omega), p3 gg hg]
      refine br_f (nI_ge (by omega) (by omega)) (pk_eq gg f (fun c => fun y ey => ?_) (fun c => fun x ex => ?_))
      · rw [ey, nI_1]
        refine hJ (fun u hc => ?_)
        have a := hu u hc
        have b := hc.2.1
        omega
      · have e24 : nI gg * 24 = nI (gg * 24) := pk_mul _ 24
        rw [e24, nI_add] at ex
        subst ex
        have eg : (gg * 24 + i) / 24 = gg ∧ (gg * 24 + i) % 24 = i := by omega
        have us : ou_us P (gg * 24 + i) := ⟨by omega, by rw [eg.1, eg.2]; omega⟩
        obtain ⟨n1, n2, _⟩ := p4 _ us
        obtain ⟨o1, o2, o3, _⟩ := p1.2.2.2 _ us
        have bd : P 0 (gg * 24 + i) < 34 := by unfold pg_op at o1; omega
        have tb := ad_tb _ bd
        have hin : vp_in (nI (gg * 24 + i)) 320 := vp_in_nI (by omega) (by decide)
        have nx : ¬ ul_c P f (gg * 24 + i) → ∀ y, y = nI i + 1 → wX_isCalledByAnother_9 post J (nI f) (nI gg) f_width f_textLength f_foundPlace f_tokenCount f_frameCount f_operandCount f_defCount f_nodeEnd a_text a_tokenCode a_tokenPlace a_frameCode a_framePlace a_operand a_defPlace a_defFirst a_defEnd a_nodeOp a_nodeNumber a_nodePlace a_nodeDepth a_nodeKind a_part a_size a_kindFound a_choice a_status a_result a_slotFunction a_slotArgument n y := by
          intro q y ey
          rw [ey, nI_1]
          refine ih (i + 1) (by omega) (fun u hc => ?_) n (by omega)
          have a := hu u hc
          have : u ≠ gg * 24 + i := fun z => q (z ▸ hc)
          omega
        refine ⟨hin, ?_⟩
        rw [nI_clamp (by omega), n1]
        refine pk_eq (xc_t (P 0 (gg * 24 + i))) 3 (fun c2 => ⟨hin, ?_⟩) (fun c2 => nx (fun q => c2 ((ad_t3 _ bd).mpr q.2.2.1)))
        have t13 := (ad_t3 _ bd).mp c2
        have l5 := (o3 t13).1
        rw [n2]
        exact pk_eq (P 1 (gg * 24 + i)) f (fun c3 => h1 ⟨_, us, by rw [eg.1]; exact c, t13, c3⟩) (fun c3 => nx (fun q => c3 q.2.2.2))
  have key : ∀ r gg, gg + r = 5 → (∀ u, ul_c P f u → gg * 24 ≤ u) → ∀ n, r < n → wX_isCalledByAnother_2 post (nI f) f_width f_textLength f_foundPlace f_tokenCount f_frameCount f_operandCount f_defCount f_nodeEnd a_text a_tokenCode a_tokenPlace a_frameCode a_framePlace a_operand a_defPlace a_defFirst a_defEnd a_nodeOp a_nodeNumber a_nodePlace a_nodeDepth a_nodeKind a_part a_size a_kindFound a_choice a_status a_result a_slotFunction a_slotArgument n (nI gg) := by
    intro r
    induction r with
    | zero =>
      intro gg hg hu n hn
      obtain ⟨n, rfl⟩ : ∃ m, n = m + 1 := ⟨n - 1, by omega⟩
      have eg : gg = 5 := by omega
      subst eg
      refine br_t (by decide) (h0 (fun ⟨u, hc⟩ => ?_))
      have := hu u hc
      have := hc.1.1
      omega
    | succ r ih =>
      intro gg hg hu n hn
      obtain ⟨n, rfl⟩ : ∃ m, n = m + 1 := ⟨n - 1, by omega⟩
      refine br_f (nI_ge (b := 5) (by omega) (by decide)) ⟨_, inner gg _ (by omega) (fun q => ih (gg + 1) (by omega) q n (by omega)) (P 5 gg) 0 (by omega) (fun u hc => by have := hu u hc; omega) _ (Nat.lt_succ_self _)⟩
  exact ⟨_, key 5 0 rfl (fun u _ => by omega) 6 (by decide)⟩
theorem ul_Xs {sl : Nat → Option (Nat × Nat)} (hs : rl_sX sl a_slotFunction a_slotArgument) (h5 : ∀ s, s < 3 → ∀ f x, sl s = some (f, x) → f < 5) (hf : f < 5) {post : Int32 → SX → Prop} (h1 : ul_s sl f → post 0 (f_width, f_textLength, f_foundPlace, f_tokenCount, f_frameCount, f_operandCount, f_defCount, f_nodeEnd, a_text, a_tokenCode, a_tokenPlace, a_frameCode, a_framePlace, a_operand, a_defPlace, a_defFirst, a_defEnd, a_nodeOp, a_nodeNumber, a_nodePlace, a_nodeDepth, a_nodeKind, a_part, a_size, a_kindFound, a_choice, a_status, a_result, a_slotFunction, a_slotArgument))
    (h0 : ¬ ul_s sl f → wpX_findKinds (fun u => match u with | (f_width9, f_textLength9, f_foundPlace9, f_tokenCount9, f_frameCount9, f_operandCount9, f_defCount9, f_nodeEnd9, a_text9, a_tokenCode9, a_tokenPlace9, a_frameCode9, a_framePlace9, a_operand9, a_defPlace9, a_defFirst9, a_defEnd9, a_nodeOp9, a_nodeNumber9, a_nodePlace9, a_nodeDepth9, a_nodeKind9, a_part9, a_size9, a_kindFound9, a_choice9, a_status9, a_result9, a_slotFunction9, a_slotArgument9) => post 1 (f_width9, f_textLength9, f_foundPlace9, f_tokenCount9, f_frameCount9, f_operandCount9, f_defCount9, f_nodeEnd9, a_text9, a_tokenCode9, a_tokenPlace9, a_frameCode9, a_framePlace9, a_operand9, a_defPlace9, a_defFirst9, a_defEnd9, a_nodeOp9, a_nodeNumber9, a_nodePlace9, a_nodeDepth9, a_nodeKind9, a_part9, a_size9, a_kindFound9, a_choice9, a_status9, a_result9, a_slotFunction9, a_slotArgument9)) (f_width, f_textLength, f_foundPlace, f_tokenCount, f_frameCount, f_operandCount, f_defCount, f_nodeEnd, a_text, a_tokenCode, a_tokenPlace, a_frameCode, a_framePlace, a_operand, a_defPlace, a_defFirst, a_defEnd, a_nodeOp, a_nodeNumber, a_nodePlace, a_nodeDepth, a_nodeKind, a_part, upd a_size f 0, a_kindFound, a_choice, a_status, a_result, a_slotFunction, a_slotArgument)) : ∃ n, wX_unload_20 post (nI f) f_width f_textLength f_foundPlace f_tokenCount f_frameCount f_operandCount f_defCount f_nodeEnd a_text a_tokenCode a_tokenPlace a_frameCode a_framePlace a_operand a_defPlace a_defFirst a_defEnd a_nodeOp a_nodeNumber a_nodePlace a_nodeDepth a_nodeKind a_part a_size a_kindFound a_choice a_status a_result a_slotFunction a_slotArgument n 0 := by
  have key : ∀ r s, s + r = 3 → (∀ t x, t < s → sl t ≠ some (f, x)) → ∀ n, r < n → wX_unload_20 post (nI f) f_width f_textLength f_foundPlace f_tokenCount f_frameCount f_operandCount f_defCount f_nodeEnd a_text a_tokenCode a_tokenPlace a_frameCode a_framePlace a_operand a_defPlace a_defFirst a_defEnd a_nodeOp a_nodeNumber a_nodePlace a_nodeDepth a_nodeKind a_part a_size a_kindFound a_choice a_status a_result a_slotFunction a_slotArgument n (nI s) := by
    intro r
    induction r with
    | zero =>
      intro s hs2 hn n hnn
      obtain ⟨n, rfl⟩ : ∃ m, n = m + 1 := ⟨n - 1, by omega⟩
      have e : s = 3 := by omega
      subst e
      refine br_t (by decide) ⟨vp_in_nI hf (by decide), fun A eA => ?_⟩
      rw [nI_clamp (by omega)] at eA
      subst eA
      exact h0 (fun ⟨t, x, t3, q⟩ => hn t x t3 q)
    | succ r ih =>
      intro s hs2 hn n hnn
      obtain ⟨n, rfl⟩ : ∃ m, n = m + 1 := ⟨n - 1, by omega⟩
      refine br_f (nI_ge (b := 3) (by omega) (by decide)) ⟨vp_in_nI (by omega) (by decide), ?_⟩
      rw [nI_clamp (by omega)]
      obtain ⟨z0, z1⟩ := hs s (by omega)
      have nx : (∀ x, sl s ≠ some (f, x)) → ∀ y, y = nI s + 1 → wX_unload_20 post (nI f) f_width f_textLength f_foundPlace f_tokenCount f_frameCount f_operandCount f_defCount f_nodeEnd a_text a_tokenCode a_tokenPlace a_frameCode a_framePlace a_operand a_defPlace a_defFirst a_defEnd a_nodeOp a_nodeNumber a_nodePlace a_nodeDepth a_nodeKind a_part a_size a_kindFound a_choice a_status a_result a_slotFunction a_slotArgument n y := by
        intro q y ey
        rw [ey, nI_1]
        refine ih (s + 1) (by omega) (fun t x ht => ?_) n (by omega)
        by_cases w : t = s
        · rw [w]; exact q x
        · exact hn t x (by omega)
      cases hc : sl s with
      | none =>
        rw [z0 hc]
        exact br_f (fun q => sl_m1 (f := f) (by omega) q.symm) (nx (fun x q => by rw [hc] at q; exact absurd q (by simp)))
      | some fx =>
        obtain ⟨f2, x2⟩ := fx
        have l5 := h5 s (by omega) f2 x2 hc
        rw [(z1 f2 x2 hc).1]
        refine pk_eq f2 f (fun c => h1 ⟨s, x2, by omega, c ▸ hc⟩) (fun c => nx (fun x q => ?_))
        rw [hc] at q
        exact c (Prod.mk.inj (Option.some.inj q)).1
  exact ⟨_, key 3 0 rfl (fun t x ht => by omega) 4 (by decide)⟩
end
section
variable {f_width f_length f_place f_toks f_nodes f_defs : Int32} {a_text a_tok a_tokNum a_tokPlace a_opened a_nOp a_nNum a_nPlace a_nA a_nB a_nC a_nLo a_nHi a_nLevel a_defName a_defPlace a_defRoot a_loaded a_count a_status : Nat → Int32} {a_number : Nat → Int64} {a_origin a_choice a_slotF a_slotX a_slotHeld : Nat → Int32} {P : Nat → Nat → Nat} {f : Nat} {g : Nat → Nat}
theorem ul_Ys {sl : Nat → Option (Nat × Nat)} (hs : rl_sY sl a_slotF a_slotX a_slotHeld) (h5 : ∀ s, s < 3 → ∀ f x, sl s = some (f, x) → f < 5) (hf : f < 5) {post : Int32 → SY → Prop} (h1 : ul_s sl f → post 0 (f_width, f_length, f_place, f_toks, f_nodes, f_defs, a_text, a_tok, a_tokNum, a_tokPlace, a_opened, a_nOp, a_nNum, a_nPlace, a_nA, a_nB, a_nC, a_nLo, a_nHi, a_nLevel, a_defName, a_defPlace, a_defRoot, a_loaded, a_count, a_status, a_number, a_origin, a_choice, a_slotF, a_slotX, a_slotHeld))
    (h0 : ¬ ul_s sl f → post 1 (f_width, f_length, f_place, f_toks, f_nodes, f_defs, a_text, a_tok, a_tokNum, a_tokPlace, a_opened, a_nOp, a_nNum, a_nPlace, a_nA, a_nB, a_nC, a_nLo, a_nHi, a_nLevel, a_defName, a_defPlace, a_defRoot, upd a_loaded f 0, a_count, a_status, a_number, a_origin, a_choice, a_slotF, a_slotX, a_slotHeld)) : ∃ n, wY_unload_91 post (nI f) f_width f_length f_place f_toks f_nodes f_defs a_text a_tok a_tokNum a_tokPlace a_opened a_nOp a_nNum a_nPlace a_nA a_nB a_nC a_nLo a_nHi a_nLevel a_defName a_defPlace a_defRoot a_loaded a_count a_status a_number a_origin a_choice a_slotF a_slotX a_slotHeld n 0 := by
  have key : ∀ r s, s + r = 3 → (∀ t x, t < s → sl t ≠ some (f, x)) → ∀ n, r < n → wY_unload_91 post (nI f) f_width f_length f_place f_toks f_nodes f_defs a_text a_tok a_tokNum a_tokPlace a_opened a_nOp a_nNum a_nPlace a_nA a_nB a_nC a_nLo a_nHi a_nLevel a_defName a_defPlace a_defRoot a_loaded a_count a_status a_number a_origin a_choice a_slotF a_slotX a_slotHeld n (nI s) := by
    intro r
    induction r with
    | zero =>
      intro s hs2 hn n hnn
      obtain ⟨n, rfl⟩ : ∃ m, n = m + 1 := ⟨n - 1, by omega⟩
      have e : s = 3 := by omega
      subst e
      refine br_t (by decide) ⟨vp_in_nI hf (by decide), fun A eA => ?_⟩
      have b0 : vp_nar .boolean 0 = 0 := by decide
      rw [nI_clamp (by omega), b0] at eA
      subst eA
      exact h0 (fun ⟨t, x, t3, q⟩ => hn t x t3 q)
    | succ r ih =>
      intro s hs2 hn n hnn
      obtain ⟨n, rfl⟩ : ∃ m, n = m + 1 := ⟨n - 1, by omega⟩
      have hin : vp_in (nI s) 3 := vp_in_nI (by omega) (by decide)
      refine br_f (nI_ge (b := 3) (by omega) (by decide)) ⟨hin, ?_⟩
      rw [nI_clamp (by omega)]
      obtain ⟨z0, z1⟩ := hs s (by omega)
      have nx : (∀ x, sl s ≠ some (f, x)) → ∀ y, y = nI s + 1 → wY_unload_91 post (nI f) f_width f_length f_place f_toks f_nodes f_defs a_text a_tok a_tokNum a_tokPlace a_opened a_nOp a_nNum a_nPlace a_nA a_nB a_nC a_nLo a_nHi a_nLevel a_defName a_defPlace a_defRoot a_loaded a_count a_status a_number a_origin a_choice a_slotF a_slotX a_slotHeld n y := by
        intro q y ey
        rw [ey, nI_1]
        refine ih (s + 1) (by omega) (fun t x ht => ?_) n (by omega)
        by_cases w : t = s
        · rw [w]; exact q x
        · exact hn t x (by omega)
      cases hc : sl s with
      | none =>
        rw [z0 hc]
        exact br_t rfl (nx (fun x q => by rw [hc] at q; exact absurd q (by simp)))
      | some fx =>
        obtain ⟨f2, x2⟩ := fx
        have l5 := h5 s (by omega) f2 x2 hc
        obtain ⟨w1, w2, w3⟩ := z1 f2 x2 hc
        rw [w1]
        refine bq_1 ⟨hin, ?_⟩
        rw [w2]
        refine pk_eq f2 f (fun c => h1 ⟨s, x2, by omega, c ▸ hc⟩) (fun c => nx (fun x q => ?_))
        rw [hc] at q
        exact c (Prod.mk.inj (Option.some.inj q)).1
  exact ⟨_, key 3 0 rfl (fun t x ht => by omega) 4 (by decide)⟩
theorem ul_Y (hP : yl_P P g a_loaded a_count a_nOp a_nNum a_nA a_nB a_nC) (hf : f < 5) {post : Int32 → SY → Prop} (h1 : (∃ u, ul_c P f u) → post 0 (f_width, f_length, f_place, f_toks, f_nodes, f_defs, a_text, a_tok, a_tokNum, a_tokPlace, a_opened, a_nOp, a_nNum, a_nPlace, a_nA, a_nB, a_nC, a_nLo, a_nHi, a_nLevel, a_defName, a_defPlace, a_defRoot, a_loaded, a_count, a_status, a_number, a_origin, a_choice, a_slotF, a_slotX, a_slotHeld)) (h0 : (¬ ∃ u, ul_c P f u) → ∃ n, wY_unload_91 post (nI f) f_width f_length f_place f_toks f_nodes f_defs a_text a_tok a_tokNum a_tokPlace a_opened a_nOp a_nNum a_nPlace a_nA a_nB a_nC a_nLo a_nHi a_nLevel a_defName a_defPlace a_defRoot a_loaded a_count a_status a_number a_origin a_choice a_slotF a_slotX a_slotHeld n 0) : ∃ n, wY_unload_22 post (nI f) f_width f_length f_place f_toks f_nodes f_defs a_text a_tok a_tokNum a_tokPlace a_opened a_nOp a_nNum a_nPlace a_nA a_nB a_nC a_nLo a_nHi a_nLevel a_defName a_defPlace a_defRoot a_loaded a_count a_status a_number a_origin a_choice a_slotF a_slotX a_slotHeld n 0 := by
  obtain ⟨p1, p2, p3, p4, p5⟩ := hP
  have h24 := p1.2.2.1
  have key : ∀ d r, r + d = 120 → (∀ s, s < r → ou_us P s → ¬ ul_c P f (g s)) → ∀ n, d < n → wY_unload_22 post (nI f) f_width f_length f_place f_toks f_nodes f_defs a_text a_tok a_tokNum a_tokPlace a_opened a_nOp a_nNum a_nPlace a_nA a_nB a_nC a_nLo a_nHi a_nLevel a_defName a_defPlace a_defRoot a_loaded a_count a_status a_number a_origin a_choice a_slotF a_slotX a_slotHeld n (nI r) := by
    intro d
    induction d with
    | zero =>
      intro r hr hn n hnn
      obtain ⟨n, rfl⟩ : ∃ m, n = m + 1 := ⟨n - 1, by omega⟩
      have e : r = 120 := by omega
      subst e
      refine br_t (by decide) (h0 (fun ⟨u, hc⟩ => ?_))
      obtain ⟨s, s1, s2⟩ := p2.2.2.2 u hc.1
      exact hn s s1.1 s1 (s2 ▸ hc)
    | succ d ih =>
      intro r hr hn n hnn
      obtain ⟨n, rfl⟩ : ∃ m, n = m + 1 := ⟨n - 1, by omega⟩
      have nx : (ou_us P r → ¬ ul_c P f (g r)) → ∀ y, y = nI r + 1 → wY_unload_22 post (nI f) f_width f_length f_place f_toks f_nodes f_defs a_text a_tok a_tokNum a_tokPlace a_opened a_nOp a_nNum a_nPlace a_nA a_nB a_nC a_nLo a_nHi a_nLevel a_defName a_defPlace a_defRoot a_loaded a_count a_status a_number a_origin a_choice a_slotF a_slotX a_slotHeld n y := by
        intro q y ey
        rw [ey, nI_1]
        refine ih (r + 1) (by omega) (fun s hs us => ?_) n (by omega)
        by_cases w : s = r
        · subst w; exact q us
        · exact hn s (by omega) us
      have ed : nI r / 24 = nI (r / 24) := pk_div (d := 24) (by omega) (by decide) (by decide)
      have er : nI r - nI r / 24 * 24 = nI (r % 24) := pk_rem (d := 24) (by omega) (by decide) (by decide)
      refine br_f (nI_ge (b := 120) (by omega) (by decide)) ⟨by decide, fun x ex => ?_⟩
      rw [ed] at ex
      subst ex
      have r5 : r / 24 < 5 := by omega
      refine pk_eq (r / 24) f (fun c => nx (fun us q => q.2.1 (by rw [(p2.1 r us).2]; exact c))) (fun c => ⟨vp_in_nI r5 (by decide), ?_⟩)
      rw [nI_clamp (n := r / 24) (by omega), p3 _ r5]
      by_cases z : 0 < P 5 (r / 24)
      · rw [if_pos z]
        refine bq_1 ⟨by decide, vp_in_nI r5 (by decide), ?_⟩
        rw [p4 _ r5 z, er]
        have g24 := h24 (r / 24)
        refine pk_le (P 5 (r / 24)) (r % 24) (fun c2 => nx (fun us => by have := us.2; omega)) (fun c2 => ?_)
        have us : ou_us P r := ⟨by omega, c2⟩
        obtain ⟨n1, n2, _⟩ := p5 r us
        obtain ⟨l1, l2⟩ := p2.1 r us
        obtain ⟨o1, o2, o3, _⟩ := p1.2.2.2 _ l1
        have bd : P 0 (g r) ≤ 28 := o1.2.1
        have hin : vp_in (nI r) 320 := vp_in_nI (by omega) (by decide)
        refine ⟨hin, ?_⟩
        rw [nI_clamp (n := r) (by omega), n1]
        refine pk_eq (P 0 (g r)) 13 (fun c3 => ⟨hin, ?_⟩) (fun c3 => nx (fun _ q => c3 q.2.2.1))
        have l5 := (o3 c3).1
        rw [n2]
        exact pk_eq (P 1 (g r)) f (fun c4 => h1 ⟨_, l1, by rw [l2]; exact c, c3, c4⟩) (fun c4 => nx (fun _ q => c4 q.2.2.2))
      · rw [if_neg z]
        exact br_t rfl (nx (fun us => by have := us.2; omega))
  exact ⟨_, key 120 0 rfl (fun s hs => by omega) _ (Nat.lt_succ_self _)⟩
end
theorem i_vc_unload {k : Nat} {u : SX} {v : SY} (I : i_Rel k u v) (hk : k + 4 ≤ 2049) (v1 : Int32) : wpX_unload (fun r u' => wpY_unload (fun r' v' => r' = r ∧ i_Rel (k + 4) u' v') v v1) u v1 := by
  have I0 := I
  obtain ⟨P, L, tx, pl, sl, g, hG, hX, hY⟩ := I
  have hX0 := hX
  have hY0 := hY
  obtain ⟨f_width, f_textLength, f_foundPlace, f_tokenCount, f_frameCount, f_operandCount, f_defCount, f_nodeEnd, a_text, a_tokenCode, a_tokenPlace, a_frameCode, a_framePlace, a_operand, a_defPlace, a_defFirst, a_defEnd, a_nodeOp, a_nodeNumber, a_nodePlace, a_nodeDepth, a_nodeKind, a_part, a_size, a_kindFound, a_choice, a_status, a_result, a_slotFunction, a_slotArgument⟩ := u
  obtain ⟨f_width2, f_length2, f_place2, f_toks2, f_nodes2, f_defs2, a_text2, a_tok2, a_tokNum2, a_tokPlace2, a_opened2, a_nOp2, a_nNum2, a_nPlace2, a_nA2, a_nB2, a_nC2, a_nLo2, a_nHi2, a_nLevel2, a_defName2, a_defPlace2, a_defRoot2, a_loaded2, a_count2, a_status2, a_number2, a_origin2, a_choice2, a_slotF2, a_slotX2, a_slotHeld2⟩ := v
  obtain ⟨x1, x2, x3, x4, x5, x6, x7, x8, x9, x10⟩ := hX
  obtain ⟨y1, y2, y3, y4, y5, y6, y7, y8, y9, y10⟩ := hY
  have xl := qu_xl hG hX0
  have yl := qu_yl hG hY0
  have h5 : ∀ s, s < 3 → ∀ f x, sl s = some (f, x) → f < 5 := fun s hs f x q => (hG.2.2.2.2.2 s hs f x q).1
  obtain ⟨c0, c1, c2⟩ := hG.2.1
  unfold wpX_unload
  refine sl_Xd hG hX0 (fun hd => br_t rfl ?_) (fun f hd => bq_1 ?_)
  · have no : (0 : Int32) = 0 ∧ i_Rel (k + 4) (f_width, f_textLength, f_foundPlace, f_tokenCount, f_frameCount, f_operandCount, f_defCount, f_nodeEnd, a_text, a_tokenCode, a_tokenPlace, a_frameCode, a_framePlace, a_operand, a_defPlace, a_defFirst, a_defEnd, a_nodeOp, a_nodeNumber, a_nodePlace, a_nodeDepth, a_nodeKind, a_part, a_size, a_kindFound, a_choice, a_status, a_result, a_slotFunction, a_slotArgument) (f_width2, f_length2, f_place2, f_toks2, f_nodes2, f_defs2, a_text2, a_tok2, a_tokNum2, a_tokPlace2, a_opened2, a_nOp2, a_nNum2, a_nPlace2, a_nA2, a_nB2, a_nC2, a_nLo2, a_nHi2, a_nLevel2, a_defName2, a_defPlace2, a_defRoot2, a_loaded2, a_count2, a_status2, a_number2, a_origin2, a_choice2, a_slotF2, a_slotX2, a_slotHeld2) := ⟨rfl, I0⟩
    by_cases a : v1 < 0
    · exact br_t a no
    · refine br_f a ?_
      by_cases b : 4 < v1
      · exact br_t b no
      · refine br_f b ?_
        have nab : ¬ (v1 < 0 ∨ 5 ≤ v1) := fun q => q.elim a b
        obtain ⟨s, hs, e, e2⟩ := sl_in (n := 5) (by decide) nab
        have e3 : sl_d P v1 = if P 5 s = 0 then none else some s := by unfold sl_d; rw [if_neg nab, e2]
        have z : P 5 s = 0 := by
          by_cases z : P 5 s = 0
          · exact z
          · rw [e3, if_neg z] at hd; exact absurd hd (by simp)
        refine ⟨by rw [e]; exact vp_in_nI hs (by decide), ?_⟩
        rw [e2, yl.2.2.1 s hs, if_neg (by omega)]
        exact br_t rfl no
  · obtain ⟨f5, rfl, fs⟩ := sl_ds hd
    -- Y begins
    have yb : ∀ (r : Int32) (u' : SX), (∃ n, wY_unload_22 (fun r' v' => r' = r ∧ i_Rel (k + 4) u' v') (nI f) f_width2 f_length2 f_place2 f_toks2 f_nodes2 f_defs2 a_text2 a_tok2 a_tokNum2 a_tokPlace2 a_opened2 a_nOp2 a_nNum2 a_nPlace2 a_nA2 a_nB2 a_nC2 a_nLo2 a_nHi2 a_nLevel2 a_defName2 a_defPlace2 a_defRoot2 a_loaded2 a_count2 a_status2 a_number2 a_origin2 a_choice2 a_slotF2 a_slotX2 a_slotHeld2 n 0) → wpY_unload (fun r' v' => r' = r ∧ i_Rel (k + 4) u' v') (f_width2, f_length2, f_place2, f_toks2, f_nodes2, f_defs2, a_text2, a_tok2, a_tokNum2, a_tokPlace2, a_opened2, a_nOp2, a_nNum2, a_nPlace2, a_nA2, a_nB2, a_nC2, a_nLo2, a_nHi2, a_nLevel2, a_defName2, a_defPlace2, a_defRoot2, a_loaded2, a_count2, a_status2, a_number2, a_origin2, a_choice2, a_slotF2, a_slotX2, a_slotHeld2) (nI f) := by
      intro r u' h
      refine br_f (nI_pos (by omega)) (br_f (nI_nlt (a := 4) (by omega) (by omega)) ⟨vp_in_nI f5 (by decide), ?_⟩)
      rw [nI_clamp (by omega), y5 f f5, if_pos fs]
      exact bq_1 h
    refine ul_X xl f5 (fun hc => bq_1 ?_) (fun hc => br_t rfl ?_)
    · exact yb 0 _ (ul_Y yl f5 (fun _ => ⟨rfl, I0⟩) (fun n => absurd hc n))
    · refine ul_Xs x10 h5 f5 (fun hs => ?_) (fun hs => ?_)
      · exact yb 0 _ (ul_Y yl f5 (fun n => absurd n hc) (fun _ => ul_Ys y10 h5 f5 (fun _ => ⟨rfl, I0⟩) (fun n => absurd hs n)))
      · have hc2 : ∀ u, ou_us P u → u / 24 ≠ f → P 0 u = 13 → P 1 u ≠ f := fun u h1 h2 h3 h4 => hc ⟨u, h1, h2, h3, h4⟩
        have xl2 : xl_P (un_P P f) (upd a_size f 0) a_nodeOp a_nodeNumber a_nodePlace a_part := by
          refine ⟨un_ok hG.1 hc2, un_le hG.2.2.2.2.1, fun h hh => ?_, fun u hu => ?_, x7⟩
          · by_cases q : h = f
            · subst q; rw [pk_us, un_f]; rfl
            · rw [pk_un q, un_o q]; exact x5 h hh
          · unfold rl_nX
            rw [un_k (f := f) (k := 0) (by decide), un_k (f := f) (k := 1) (by decide), un_k (f := f) (k := 2) (by decide), un_k (f := f) (k := 3) (by decide), un_k (f := f) (k := 4) (by decide)]
            exact x6 u (un_us.mp hu).1
        refine fk_X xl2 (fun kf nk ch hkf => ?_)
        refine yb 1 _ (ul_Y yl f5 (fun n => absurd n hc) (fun _ => ul_Ys y10 h5 f5 (fun n => absurd n hs) (fun _ => ⟨rfl, ?_⟩)))
        obtain ⟨q1, q2, q3, q4, q5⟩ := xl2
        have e6 : un_P P f 6 = P 6 := un_k (by decide)
        refine ⟨un_P P f, L, tx, pl, sl, g, ⟨q1, ⟨c0, c1, un_ki c2⟩, hG.2.2.1, hG.2.2.2.1, q2, fun s hs3 h x hsl => ?_⟩, ⟨by rw [e6]; exact x1, x2, x3, x4, q3, q4, q5, fun h hh _ => hkf h hh, un_tX hG.1 c2 hc x9, x10⟩, ⟨by rw [e6]; exact y1, y2, y3, y4, fun h hh => ?_, fun h hh hp => ?_, fun r hr => un_nY hG.1 y8 hr (y7 r (un_us.mp hr).1), un_g y8, un_tY hG.1 c2 hc y8 y9, y10⟩⟩
        · obtain ⟨z1, z2, z3⟩ := hG.2.2.2.2.2 s hs3 h x hsl
          have nf : h ≠ f := fun q => hs ⟨s, x, hs3, q ▸ hsl⟩
          exact ⟨z1, by rw [un_o nf]; exact z2, by rw [e6]; exact z3⟩
        · by_cases q : h = f
          · subst q; rw [pk_us, un_f]; rfl
          · rw [pk_un q, un_o q]; exact y5 h hh
        · by_cases q : h = f
          · rw [q, un_f] at hp; omega
          · rw [un_o q] at hp ⊢; exact y6 h hh hp
end
section
-- THE START
def in_P (w : Nat) : Nat → Nat → Nat := fun k _ => if k = 6 then w else 0
theorem in_us {w u : Nat} : ¬ ou_us (in_P w) u := fun h => by
  have := h.2
  have e : in_P w 5 (u / 24) = 0 := rfl
  omega
theorem in_R0 {w : Nat} (h2 : 2 ≤ w) (h6 : w ≤ 6) {sf : Nat → Int32} (hs : ∀ s, s < 3 → sf s = -1) :
    i_Rel 1 (nI w, 0, -1, 0, 0, 0, 0, 120, (fun _ => 0), (fun _ => 0), (fun _ => 0), (fun _ => 0), (fun _ => 0), (fun _ => 0), (fun _ => 0), (fun _ => 0), (fun _ => 0), (fun _ => 0), (fun _ => 0), (fun _ => 0), (fun _ => 0), (fun _ => 0), (fun _ => 0), (fun _ => 0), (fun _ => 0), (fun _ => 0), (fun _ => 0), (fun _ => 0), sf, (fun _ => 0))
      (nI w, 0, -1, 0, 0, 0, (fun _ => 0), (fun _ => 0), (fun _ => 0), (fun _ => 0), (fun _ => 0), (fun _ => 0), (fun _ => 0), (fun _ => 0), (fun _ => 0), (fun _ => 0), (fun _ => 0), (fun _ => 0), (fun _ => 0), (fun _ => 0), (fun _ => 0), (fun _ => 0), (fun _ => 0), (fun _ => 0), (fun _ => 0), (fun _ => 0), (fun _ => 0), (fun _ => 0), (fun _ => 0), (fun _ => 0), (fun _ => 0), (fun _ => 0)) := by
  have s0 : ∀ f, in_P w 5 f = 0 := fun _ => rfl
  refine ⟨in_P w, 0, fun _ => 0, -1, fun _ => none, fun r => r, ⟨⟨h2, h6, fun f => Nat.zero_le _, fun u hu => absurd hu in_us⟩, ⟨0, by decide, fun u hu => absurd hu in_us, fun f _ hs => ?_⟩, Nat.zero_le _, fun i hi => absurd hi (Nat.not_lt_zero i), fun u hu => absurd hu in_us, fun s _ f x q => ?_⟩,
    ⟨rfl, rfl, rfl, fun i hi => absurd hi (Nat.not_lt_zero i), fun f _ => rfl, fun u hu => absurd hu in_us, fun u _ => rfl, fun f _ hs => ?_, fun c hc => absurd hc.1 in_us, fun s hs3 => ⟨fun _ => hs s hs3, fun f x q => ?_⟩⟩,
    ⟨rfl, rfl, rfl, fun i hi => absurd hi (Nat.not_lt_zero i), fun f _ => rfl, fun f _ hs => ?_, fun u hu => absurd hu in_us, ⟨fun r hr => absurd hr in_us, fun f _ hs => ?_, fun r s hr => absurd hr in_us, fun u hu => absurd hu in_us⟩, fun c hc => absurd hc.1 in_us, fun s hs3 => ⟨fun _ => rfl, fun f x q => ?_⟩⟩⟩
  · rw [s0] at hs; exact absurd hs (Nat.lt_irrefl 0)
  · exact absurd q (by simp)
  · rw [s0] at hs; exact absurd hs (Nat.lt_irrefl 0)
  · exact absurd q (by simp)
  · rw [s0] at hs; exact absurd hs (Nat.lt_irrefl 0)
  · rw [s0] at hs; exact absurd hs (Nat.lt_irrefl 0)
  · exact absurd q (by simp)
theorem in_255 {w : Int32} {post : SX → Prop} (h : ∀ sf, (∀ s, s < 3 → sf s = -1) → post (w, 0, -1, 0, 0, 0, 0, 120, (fun _ => 0), (fun _ => 0), (fun _ => 0), (fun _ => 0), (fun _ => 0), (fun _ => 0), (fun _ => 0), (fun _ => 0), (fun _ => 0), (fun _ => 0), (fun _ => 0), (fun _ => 0), (fun _ => 0), (fun _ => 0), (fun _ => 0), (fun _ => 0), (fun _ => 0), (fun _ => 0), (fun _ => 0), (fun _ => 0), sf, (fun _ => 0))) :
    ∃ n, wX_init_255 post w 0 (-1) 0 0 0 0 120 n 0 (fun _ => 0) (fun _ => 0) (fun _ => 0) (fun _ => 0) (fun _ => 0) (fun _ => 0) (fun _ => 0) (fun _ => 0) (fun _ => 0) (fun _ => 0) (fun _ => 0) (fun _ => 0) (fun _ => 0) (fun _ => 0) (fun _ => 0) (fun _ => 0) (fun _ => 0) (fun _ => 0) (fun _ => 0) (fun _ => 0) (fun _ => 0) (fun _ => 0) := by
  refine ⟨4, br_f (by decide) ⟨pk_in 0 3 (by decide), fun A eA x ex => ?_⟩⟩
  subst eA ex
  refine br_f (by decide) ⟨pk_in 1 3 (by decide), fun A eA x ex => ?_⟩
  subst eA ex
  refine br_f (by decide) ⟨pk_in 2 3 (by decide), fun A eA x ex => ?_⟩
  subst eA ex
  refine br_t (by decide) (h _ (fun s hs => ?_))
  have : s = 0 ∨ s = 1 ∨ s = 2 := by omega
  rcases this with q | q | q <;> subst q <;> rfl
theorem i_vc0 (k0 : Int32) : wpX_init (fun u => wpY_init (fun v => i_Rel 1 u v) k0) k0 := by
  by_cases a : 2 ≤ k0
  · refine br_t a ?_
    by_cases b : k0 ≤ 6
    · have hh : ∃ w, w < 7 ∧ k0 = nI w := by
        rcases pk_ix k0 (n := 7) (by decide) with q | q | ⟨j, hj, e⟩
        · have : (2 : Int32) < 0 := Int32.lt_of_le_of_lt a q
          exact absurd this (by decide)
        · have : (7 : Int32) ≤ 6 := Int32.le_trans q b
          exact absurd this (by decide)
        · exact ⟨j, hj, e⟩
      obtain ⟨w, w7, rfl⟩ := hh
      have w2 : 2 ≤ w := Nat.le_of_not_lt (fun q => nI_ge (b := 2) q (by decide) a)
      refine br_t b (in_255 (fun sf hs => br_t a (br_t b (in_R0 w2 (by omega) hs))))
    · exact br_f b (in_255 (fun sf hs => br_t a (br_f b (in_R0 (w := 6) (by decide) (by decide) hs))))
  · exact br_f a (in_255 (fun sf hs => br_f a (in_R0 (w := 2) (by decide) (by decide) hs)))
end
