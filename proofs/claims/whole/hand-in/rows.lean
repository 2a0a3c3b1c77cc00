section
/-! pure rows to paste: stores, nI and lN arithmetic, masks, shifts, narrowing, branches by naturals (pk_le, pk_lt, pk_eq), loops (lp1 .. lp16: the measure of the state; rp1 ..: recursion), negatives. Take what you need -/
theorem pk_us {f : Nat → Int32} {k : Nat} {x : Int32} : upd f k x k = x := if_pos rfl
theorem pk_un {f : Nat → Int32} {k j : Nat} {x : Int32} (h : j ≠ k) : upd f k x j = f j := if_neg h
theorem pk_uLs {f : Nat → Int64} {k : Nat} {x : Int64} : vp_updL f k x k = x := if_pos rfl
theorem pk_uLn {f : Nat → Int64} {k j : Nat} {x : Int64} (h : j ≠ k) : vp_updL f k x j = f j := if_neg h
theorem pk_sub {a b : Nat} (h : b ≤ a) : nI a - nI b = nI (a - b) := by
  obtain ⟨c, rfl⟩ : ∃ c, a = c + b := ⟨a - b, by omega⟩
  rw [← nI_add, Int32.add_sub_cancel, Nat.add_sub_cancel]
theorem pk_m1 (n : Nat) : nI (n + 1) + (-1) = nI n := by
  rw [← nI_1, Int32.add_assoc, show (1 : Int32) + (-1) = 0 from rfl, Int32.add_zero]
theorem pk_mul (a b : Nat) : nI a * nI b = nI (a * b) := (Int32.ofNat_mul a b).symm
theorem pk_div {a d : Nat} (ha : a < 2 ^ 31) (h0 : 0 < d) (hd : d < 2 ^ 31) : nI a / nI d = nI (a / d) := by
  apply Int32.toInt_inj.mp
  rw [lg_idiv_nonneg (by rw [nI_toInt ha]; omega) (by rw [nI_toInt hd]; omega), nI_toInt ha, nI_toInt hd, nI_toInt (Nat.lt_of_le_of_lt (Nat.div_le_self a d) ha)]
  first | rfl | exact (Int.natCast_ediv _ _).symm
theorem pk_rem {a d : Nat} (ha : a < 2 ^ 31) (h0 : 0 < d) (hd : d < 2 ^ 31) : nI a - nI a / nI d * nI d = nI (a % d) := by
  rw [pk_div ha h0 hd, pk_mul, pk_sub (Nat.div_mul_le_self a d)]
  exact congrArg nI (by have := Nat.div_add_mod' a d; omega)
theorem pk_sub_toInt {a b : Nat} (ha : a < 2 ^ 30) (hb : b < 2 ^ 30) : (nI a - nI b).toInt = (a : Int) - b := by
  rw [Int32.toInt_sub, nI_toInt (by omega), nI_toInt (by omega)]
  exact Int.bmod_eq_of_le (by omega) (by omega)
theorem pk_sneg {a b : Nat} (hb : b < 2 ^ 30) (h : a < b) : nI a - nI b < 0 := by
  rw [Int32.lt_iff_toInt_lt, pk_sub_toInt (by omega) hb, show (0 : Int32).toInt = 0 from by decide]
  omega
theorem pk_ix (x : Int32) {n : Nat} (hn : n < 2 ^ 31) : x < 0 ∨ nI n ≤ x ∨ ∃ j : Nat, j < n ∧ x = nI j := by
  by_cases h : x < 0
  · exact Or.inl h
  · obtain ⟨j, hj, rfl⟩ := nI_of h
    by_cases h2 : j < n
    · exact Or.inr (Or.inr ⟨j, h2, rfl⟩)
    · exact Or.inr (Or.inl (nI_le (by omega) hj))
theorem pk_le {x y : Int32} {A B : Prop} (a b : Nat) (f : a ≤ b → A) (g : b < a → B) (hx : x = nI a := by rfl) (hy : y = nI b := by rfl) (ha : a < 2 ^ 31 := by omega) (hb : b < 2 ^ 31 := by omega) : (x ≤ y → A) ∧ (¬ x ≤ y → B) := by
  subst hx hy
  rw [nI_leI ha hb]
  exact ⟨f, fun z => g (by omega)⟩
theorem pk_lt {x y : Int32} {A B : Prop} (a b : Nat) (f : a < b → A) (g : b ≤ a → B) (hx : x = nI a := by rfl) (hy : y = nI b := by rfl) (ha : a < 2 ^ 31 := by omega) (hb : b < 2 ^ 31 := by omega) : (x < y → A) ∧ (¬ x < y → B) := by
  subst hx hy
  rw [nI_ltI ha hb]
  exact ⟨f, fun z => g (by omega)⟩
theorem pk_eq {x y : Int32} {A B : Prop} (a b : Nat) (f : a = b → A) (g : a ≠ b → B) (hx : x = nI a := by rfl) (hy : y = nI b := by rfl) (ha : a < 2 ^ 31 := by omega) (hb : b < 2 ^ 31 := by omega) : (x = y → A) ∧ (¬ x = y → B) := by
  subst hx hy
  rw [nI_eq ha hb]
  exact ⟨f, g⟩
theorem pk_in {x : Int32} (n N : Nat) (h : n < N) (hx : x = nI n := by rfl) (hN : N < 2 ^ 31 := by omega) : vp_in x N := by
  subst hx
  exact vp_in_nI h hN
theorem pk_cl {x : Int32} (n : Nat) (hx : x = nI n := by rfl) (h : n < 2 ^ 31 := by omega) : x.toNatClampNeg = n := by
  subst hx
  exact nI_clamp h
theorem pk_tn {n : Nat} (h : n < 2 ^ 32) : (nI n).toBitVec.toNat = n := Nat.mod_eq_of_lt h
theorem pk_and (x : Int32) {m : Int32} (k : Nat) (hm : m.toBitVec.toNat = 2 ^ k - 1) : x &&& m = nI (x.toBitVec.toNat % 2 ^ k) := by
  apply Int32.toBitVec_inj.mp
  apply BitVec.eq_of_toNat_eq
  rw [Int32.toBitVec_and, BitVec.toNat_and, hm, Nat.and_two_pow_sub_one_eq_mod]
  show _ = (BitVec.ofNat 32 _).toNat
  rw [BitVec.toNat_ofNat]
  exact (Nat.mod_eq_of_lt (Nat.lt_of_le_of_lt (Nat.mod_le _ _) x.toBitVec.isLt)).symm
theorem pk_andN {n : Nat} (h : n < 2 ^ 32) {m : Int32} (k : Nat) (hm : m.toBitVec.toNat = 2 ^ k - 1) : nI n &&& m = nI (n % 2 ^ k) := by
  rw [pk_and _ k hm, pk_tn h]
theorem pk_andE (x : Int32) {m : Int32} (k : Nat) (hm : m.toBitVec.toNat = 2 ^ k - 1) : ∃ j : Nat, j < 2 ^ k ∧ x &&& m = nI j := ⟨_, Nat.mod_lt _ (Nat.two_pow_pos k), pk_and x k hm⟩
theorem pk_andIn (x : Int32) {m : Int32} (k : Nat) (hm : m.toBitVec.toNat = 2 ^ k - 1) (hk : k ≤ 30) : vp_in (x &&& m) (2 ^ k) := by
  obtain ⟨j, hj, e⟩ := pk_andE x k hm
  rw [e]
  exact vp_in_nI hj (Nat.lt_of_le_of_lt (Nat.pow_le_pow_right (by decide) hk) (by decide))
theorem pk_shl (a s : Int32) (k : Nat) (hs : (s.toBitVec.smod 32).toNat = k) : (a <<< s).toBitVec.toNat = a.toBitVec.toNat * 2 ^ k % 2 ^ 32 := by
  show (a.toBitVec <<< (s.toBitVec.smod 32).toNat).toNat = _
  rw [hs, BitVec.toNat_shiftLeft, Nat.shiftLeft_eq]
theorem pk_shlN {n : Nat} (s : Int32) (k : Nat) (hs : (s.toBitVec.smod 32).toNat = k) (h : n * 2 ^ k < 2 ^ 32) : nI n <<< s = nI (n * 2 ^ k) := by
  apply Int32.toBitVec_inj.mp
  apply BitVec.eq_of_toNat_eq
  have hn : n < 2 ^ 32 := Nat.lt_of_le_of_lt (Nat.le_mul_of_pos_right n (Nat.two_pow_pos k)) h
  rw [pk_shl _ _ k hs, pk_tn hn, pk_tn h, Nat.mod_eq_of_lt h]
theorem pk_shr (a s : Int32) (k : Nat) (hs : (s.toBitVec.smod 32).toNat = k) : (a >>> s).toInt = a.toInt >>> k := by
  show (a.toBitVec.sshiftRight (s.toBitVec.smod 32).toNat).toInt = _
  rw [hs, BitVec.toInt_sshiftRight]
  rfl
theorem pk_shrN {n : Nat} (h : n < 2 ^ 31) (s : Int32) (k : Nat) (hs : (s.toBitVec.smod 32).toNat = k) : nI n >>> s = nI (n / 2 ^ k) := by
  apply Int32.toInt_inj.mp
  have h2 : n / 2 ^ k ≤ n := Nat.div_le_self _ _
  rw [pk_shr _ _ k hs, nI_toInt h, nI_toInt (by omega), Int.shiftRight_eq_div_pow]
  rfl
theorem pk_ushr (x s : Int32) (k : Nat) (hs : ((s.toUInt32 &&& Int32.toUInt32 31).toBitVec % 32).toNat = k) : (x.toUInt32 >>> (s.toUInt32 &&& Int32.toUInt32 31)).toInt32.toBitVec.toNat = x.toBitVec.toNat / 2 ^ k := by
  have e : (x.toUInt32 >>> (s.toUInt32 &&& Int32.toUInt32 31)).toInt32.toBitVec = x.toBitVec >>> k := by
    rw [← hs]
    exact UInt32.toBitVec_shiftRight _ _
  rw [e, BitVec.toNat_ushiftRight, Nat.shiftRight_eq_div_pow]
theorem pk_ushrN {n : Nat} (hn : n < 2 ^ 32) (s : Int32) (k : Nat) (hs : ((s.toUInt32 &&& Int32.toUInt32 31).toBitVec % 32).toNat = k) : ((nI n).toUInt32 >>> (s.toUInt32 &&& Int32.toUInt32 31)).toInt32 = nI (n / 2 ^ k) := by
  apply Int32.toBitVec_inj.mp
  apply BitVec.eq_of_toNat_eq
  rw [pk_ushr _ s k hs, pk_tn hn, pk_tn (Nat.lt_of_le_of_lt (Nat.div_le_self _ _) hn)]
theorem pk_nb (z : Int32) : narrow .byte (.int z.toInt8.toInt32) = .int z.toInt8.toInt32 := congrArg Value.int (by simp)
theorem pk_ns (z : Int32) : narrow .short (.int z.toInt16.toInt32) = .int z.toInt16.toInt32 := congrArg Value.int (by simp)
theorem pk_fb (r : Int32) : fits .byte (.int r.toInt8.toInt32) = true := by
  have ⟨a, b⟩ := lg_i2b_range r
  have h1 : (-128 : Int32).toInt = -128 := by decide
  have h2 : (127 : Int32).toInt = 127 := by decide
  simp only [fits, Bool.and_eq_true, decide_eq_true_eq, Int32.le_iff_toInt_le, h1, h2]
  omega
theorem pk_fs (r : Int32) : fits .short (.int r.toInt16.toInt32) = true := by
  have ⟨a, b⟩ := lg_i2s_range r
  have h1 : (-32768 : Int32).toInt = -32768 := by decide
  have h2 : (32767 : Int32).toInt = 32767 := by decide
  simp only [fits, Bool.and_eq_true, decide_eq_true_eq, Int32.le_iff_toInt_le, h1, h2]
  omega
theorem pk_charN {q : Nat} (hq : q < 65536) : narrow .char (.int (nI q)) = .int (nI q) ∧ fits .char (.int (nI q)) = true := by
  constructor
  · have e : (nI q).toUInt32.toUInt16.toUInt32.toInt32 = nI q := by
      apply Int32.toBitVec_inj.mp
      apply BitVec.eq_of_toNat_eq
      show (nI q).toUInt32.toUInt16.toUInt32.toNat = q % 2 ^ 32
      rw [UInt16.toNat_toUInt32, UInt32.toNat_toUInt16, show (nI q).toUInt32.toNat = q % 2 ^ 32 from rfl]
      omega
    exact congrArg Value.int e
  · have a : (0 : Int32) ≤ nI q := nI_pos' (by omega)
    have b : nI q ≤ 65535 := nI_le (b := 65535) (by omega) (by decide)
    show (decide ((0 : Int32) ≤ nI q) && decide (nI q ≤ 65535)) = true
    rw [decide_eq_true a, decide_eq_true b]
    rfl
theorem pk_char (x : Int32) : (x.toUInt32 % 65536).toInt32 = nI (x.toBitVec.toNat % 65536) := by
  apply Int32.toBitVec_inj.mp
  apply BitVec.eq_of_toNat_eq
  rw [pk_tn (by omega)]
  show (x.toUInt32 % 65536).toNat = _
  rw [UInt32.toNat_mod]
  rfl
theorem pk_nc (x : Int32) : narrow .char (.int (x.toUInt32 % 65536).toInt32) = .int (x.toUInt32 % 65536).toInt32 := by
  rw [pk_char]
  exact (pk_charN (Nat.mod_lt _ (by decide))).1
theorem pk_fc (x : Int32) : fits .char (.int (x.toUInt32 % 65536).toInt32) = true := by
  rw [pk_char]
  exact (pk_charN (Nat.mod_lt _ (by decide))).2
theorem pk_vb (z : Int32) : vp_nar .byte z.toInt8.toInt32 = z.toInt8.toInt32 := by rw [vp_nar_byte]; simp
theorem pk_vs (z : Int32) : vp_nar .short z.toInt16.toInt32 = z.toInt16.toInt32 := by rw [vp_nar_short]; simp
theorem pk_vc (z : Int32) : vp_nar .char (z.toUInt32 % 65536).toInt32 = (z.toUInt32 % 65536).toInt32 := Value.int.inj (pk_nc z)
theorem pk_lT {n : Nat} (h : n < 2 ^ 63) : (lN n).toInt = (n : Int) := lg_ofNat_toInt h
theorem pk_lLT {a b : Nat} (ha : a < 2 ^ 63) (hb : b < 2 ^ 63) : lN a < lN b ↔ a < b := by
  rw [Int64.lt_iff_toInt_lt, pk_lT ha, pk_lT hb]; omega
theorem pk_lLE {a b : Nat} (ha : a < 2 ^ 63) (hb : b < 2 ^ 63) : lN a ≤ lN b ↔ a ≤ b := by
  rw [Int64.le_iff_toInt_le, pk_lT ha, pk_lT hb]; omega
theorem pk_lEQ {a b : Nat} (ha : a < 2 ^ 63) (hb : b < 2 ^ 63) : lN a = lN b ↔ a = b := by
  rw [← Int64.toInt_inj, pk_lT ha, pk_lT hb]; omega
theorem pk_lOf {x : Int64} (h : ¬ x < 0) : ∃ k : Nat, k < 2 ^ 63 ∧ x = lN k := by
  rw [Int64.lt_iff_toInt_lt] at h
  have h0 : (0 : Int64).toInt = 0 := by decide
  have hx := Int64.toInt_lt x
  refine ⟨x.toInt.toNat, by omega, Int64.toInt_inj.mp ?_⟩
  rw [pk_lT (by omega)]
  omega
theorem pk_lDiv {a b : Nat} (ha : a < 2 ^ 63) (h0 : 0 < b) (hb : b < 2 ^ 63) : lN a / lN b = lN (a / b) := by
  apply Int64.toInt_inj.mp
  rw [lg_ldiv_nonneg (by rw [pk_lT ha]; omega) (by rw [pk_lT hb]; omega), pk_lT ha, pk_lT hb, pk_lT (Nat.lt_of_le_of_lt (Nat.div_le_self a b) ha)]
  rfl
theorem pk_lRem {a b : Nat} (ha : a < 2 ^ 63) (h0 : 0 < b) (hb : b < 2 ^ 63) : lN a - lN a / lN b * lN b = lN (a % b) := by
  rw [pk_lDiv ha h0 hb, lN_mul, lN_sub (Nat.div_mul_le_self a b)]
  exact congrArg lN (by have := Nat.div_add_mod' a b; omega)
theorem pk_loop {σ : Type} (W : Nat → Nat → σ → Prop) (I : Nat → σ → Prop) (e i0 : Nat) (s : σ) (hi : i0 ≤ e) (h0 : I i0 s) (hx : ∀ n s, I e s → W (n + 1) e s)
    (hs : ∀ n i s, i < e → I i s → (∀ s', I (i + 1) s' → W n (i + 1) s') → W (n + 1) i s) : ∃ n, W n i0 s :=
  ⟨e + 1, loop_i W I e hx hs (e + 1) i0 s hi (by omega) h0⟩
theorem pk_loopD {σ : Type} (W : Nat → Nat → σ → Prop) (I : Nat → σ → Prop) (hx : ∀ n s, I 0 s → W (n + 1) 0 s)
    (hs : ∀ n i s, I (i + 1) s → (∀ s', I i s' → W n i s') → W (n + 1) (i + 1) s) : ∀ (e : Nat) (s : σ), I e s → W (e + 1) e s := by
  intro e
  induction e with
  | zero => exact fun s h => hx 0 s h
  | succ e ih => exact fun s h => hs (e + 1) e s h (fun s' h' => ih s' h')
theorem lp1 {A1 : Type} (W : Nat → A1 → Prop) (I : A1 → Prop) (μ : A1 → Nat) (hs : ∀ (n : Nat) (a1 : A1), I a1 → (∀ (b1 : A1), I b1 → μ b1 < μ a1 → W n b1) → W (n + 1) a1) (a1 : A1) (h : I a1) : ∃ n, W n a1 :=
  loop_m (σ := A1) (fun n s => W n s) (fun s => I s) (fun s => μ s) (fun n s hI hk => hs n s hI (fun b1 h9 hm => hk b1 h9 hm)) a1 h
theorem lp2 {A1 A2 : Type} (W : Nat → A1 → A2 → Prop) (I : A1 → A2 → Prop) (μ : A1 → A2 → Nat) (hs : ∀ (n : Nat) (a1 : A1) (a2 : A2), I a1 a2 → (∀ (b1 : A1) (b2 : A2), I b1 b2 → μ b1 b2 < μ a1 a2 → W n b1 b2) → W (n + 1) a1 a2) (a1 : A1) (a2 : A2) (h : I a1 a2) : ∃ n, W n a1 a2 :=
  loop_m (σ := A1 × A2) (fun n s => W n s.1 s.2) (fun s => I s.1 s.2) (fun s => μ s.1 s.2) (fun n s hI hk => hs n s.1 s.2 hI (fun b1 b2 h9 hm => hk (b1, b2) h9 hm)) (a1, a2) h
theorem lp3 {A1 A2 A3 : Type} (W : Nat → A1 → A2 → A3 → Prop) (I : A1 → A2 → A3 → Prop) (μ : A1 → A2 → A3 → Nat) (hs : ∀ (n : Nat) (a1 : A1) (a2 : A2) (a3 : A3), I a1 a2 a3 → (∀ (b1 : A1) (b2 : A2) (b3 : A3), I b1 b2 b3 → μ b1 b2 b3 < μ a1 a2 a3 → W n b1 b2 b3) → W (n + 1) a1 a2 a3) (a1 : A1) (a2 : A2) (a3 : A3) (h : I a1 a2 a3) : ∃ n, W n a1 a2 a3 :=
  loop_m (σ := A1 × A2 × A3) (fun n s => W n s.1 s.2.1 s.2.2) (fun s => I s.1 s.2.1 s.2.2) (fun s => μ s.1 s.2.1 s.2.2) (fun n s hI hk => hs n s.1 s.2.1 s.2.2 hI (fun b1 b2 b3 h9 hm => hk (b1, b2, b3) h9 hm)) (a1, a2, a3) h
theorem lp4 {A1 A2 A3 A4 : Type} (W : Nat → A1 → A2 → A3 → A4 → Prop) (I : A1 → A2 → A3 → A4 → Prop) (μ : A1 → A2 → A3 → A4 → Nat) (hs : ∀ (n : Nat) (a1 : A1) (a2 : A2) (a3 : A3) (a4 : A4), I a1 a2 a3 a4 → (∀ (b1 : A1) (b2 : A2) (b3 : A3) (b4 : A4), I b1 b2 b3 b4 → μ b1 b2 b3 b4 < μ a1 a2 a3 a4 → W n b1 b2 b3 b4) → W (n + 1) a1 a2 a3 a4) (a1 : A1) (a2 : A2) (a3 : A3) (a4 : A4) (h : I a1 a2 a3 a4) : ∃ n, W n a1 a2 a3 a4 :=
  loop_m (σ := A1 × A2 × A3 × A4) (fun n s => W n s.1 s.2.1 s.2.2.1 s.2.2.2) (fun s => I s.1 s.2.1 s.2.2.1 s.2.2.2) (fun s => μ s.1 s.2.1 s.2.2.1 s.2.2.2) (fun n s hI hk => hs n s.1 s.2.1 s.2.2.1 s.2.2.2 hI (fun b1 b2 b3 b4 h9 hm => hk (b1, b2, b3, b4) h9 hm)) (a1, a2, a3, a4) h
theorem pk_least (P : Nat → Prop) (h : ∃ k, P k) : ∃ k, P k ∧ ∀ j, j < k → ¬ P j := by
  obtain ⟨k, hk⟩ := h
  induction k using Nat.strongRecOn with
  | ind k ih =>
    by_cases e : ∃ j, j < k ∧ P j
    · obtain ⟨j, hj, pj⟩ := e
      exact ih j hj pj
    · exact ⟨k, hk, fun j hj pj => e ⟨j, hj, pj⟩⟩
theorem ek_if {c d A B : Prop} (e : c ↔ d) (f : d → A) (g : ¬ d → B) : (c → A) ∧ (¬ c → B) :=
  ⟨fun z => f (e.mp z), fun z => g (fun y => z (e.mpr y))⟩
theorem ek_v {α : Sort _} {P : α → Prop} {a b : α} (e : a = b) (h : P b) : P a := e ▸ h
theorem sb_cl0 : (0 : Int32).toNatClampNeg = 0 := by decide
theorem sb_m1 {p : Nat} (h : 0 < p) : nI p + (-1) = nI (p - 1) := by
  obtain ⟨q, rfl⟩ : ∃ q, p = q + 1 := ⟨p - 1, by omega⟩
  exact pk_m1 q
/-! ===== lN n to 2^64: shifts, and, or, masks, one bit ===== -/
theorem wb_tb (n : Nat) : (lN n).toBitVec = BitVec.ofNat 64 n := rfl
theorem wb_inj {a b : Int64} (h : a.toBitVec = b.toBitVec) : a = b := Int64.toBitVec_inj.mp h
theorem wb_tn {n : Nat} (h : n < 2 ^ 64) : (lN n).toBitVec.toNat = n := by rw [wb_tb, BitVec.toNat_ofNat, Nat.mod_eq_of_lt h]
theorem wb_of (x : Int64) : ∃ n, n < 2 ^ 64 ∧ x = lN n := ⟨x.toBitVec.toNat, x.toBitVec.isLt, wb_inj (by rw [wb_tb]; simp)⟩
theorem wb_of32 (x : Int32) : ∃ n, n < 2 ^ 32 ∧ x = nI n := ⟨x.toBitVec.toNat, x.toBitVec.isLt, Int32.toBitVec_inj.mp (by show _ = BitVec.ofNat 32 _; simp)⟩
theorem wb_c : ∀ k, k < 64 → ((nI k).toInt64 &&& 63) = lN k := by decide +kernel
theorem wb_cu : ∀ k, k < 64 → ((nI k).toInt64.toUInt64 &&& Int64.toUInt64 63) = UInt64.ofNat k := by decide +kernel
theorem wb_sm : ∀ k, k < 64 → (BitVec.ofNat 64 k).smod 64 = BitVec.ofNat 64 k := by decide +kernel
theorem wb_pw {a b : Nat} (h : a ≤ b) : 2 ^ b = 2 ^ a * 2 ^ (b - a) := by rw [← Nat.pow_add]; congr 1; omega
theorem wb_lt2 {a b : Nat} (h : a < b) : 2 ^ a < 2 ^ b := Nat.pow_lt_pow_right (by decide) h
theorem wb_mod (n : Nat) : lN n = lN (n % 2 ^ 64) := wb_inj (by rw [wb_tb, wb_tb]; apply BitVec.eq_of_toNat_eq; rw [BitVec.toNat_ofNat, BitVec.toNat_ofNat, Nat.mod_mod])
theorem wb_shr {n k : Nat} (hn : n < 2 ^ 64) (hk : k < 64) : ((lN n).toUInt64 >>> ((nI k).toInt64.toUInt64 &&& Int64.toUInt64 63)).toInt64 = lN (n / 2 ^ k) := by
  rw [wb_cu k hk]
  apply wb_inj
  apply BitVec.eq_of_toNat_eq
  show ((lN n).toUInt64 >>> UInt64.ofNat k).toNat = (BitVec.ofNat 64 _).toNat
  have h1 : (UInt64.ofNat k).toNat = k := by
    show (BitVec.ofNat 64 k).toNat = k
    rw [BitVec.toNat_ofNat, Nat.mod_eq_of_lt (by omega)]
  have h2 : (lN n).toUInt64.toNat = n := wb_tn hn
  rw [UInt64.toNat_shiftRight, h1, h2, Nat.mod_eq_of_lt hk, Nat.shiftRight_eq_div_pow, BitVec.toNat_ofNat, Nat.mod_eq_of_lt (Nat.lt_of_le_of_lt (Nat.div_le_self _ _) hn)]
theorem wb_shl (n : Nat) {k : Nat} (hk : k < 64) : lN n <<< ((nI k).toInt64 &&& 63) = lN (n * 2 ^ k) := by
  rw [wb_c k hk]
  apply wb_inj
  rw [Int64.toBitVec_shiftLeft, wb_tb, wb_tb, wb_tb, wb_sm k hk]
  apply BitVec.eq_of_toNat_eq
  rw [BitVec.shiftLeft_eq', BitVec.toNat_shiftLeft, BitVec.toNat_ofNat, BitVec.toNat_ofNat, BitVec.toNat_ofNat, Nat.mod_eq_of_lt (show k < 2 ^ 64 by omega), Nat.shiftLeft_eq, Nat.mul_mod, Nat.mod_mod, ← Nat.mul_mod]
theorem wb_and {a b : Nat} (ha : a < 2 ^ 64) (hb : b < 2 ^ 64) : lN a &&& lN b = lN (a &&& b) := by
  apply wb_inj
  rw [Int64.toBitVec_and, wb_tb, wb_tb, wb_tb]
  apply BitVec.eq_of_toNat_eq
  rw [BitVec.toNat_and, BitVec.toNat_ofNat, BitVec.toNat_ofNat, BitVec.toNat_ofNat, Nat.mod_eq_of_lt ha, Nat.mod_eq_of_lt hb, Nat.mod_eq_of_lt (Nat.and_lt_two_pow _ hb)]
theorem wb_or {a b : Nat} (ha : a < 2 ^ 64) (hb : b < 2 ^ 64) : lN a ||| lN b = lN (a ||| b) := by
  apply wb_inj
  rw [Int64.toBitVec_or, wb_tb, wb_tb, wb_tb]
  apply BitVec.eq_of_toNat_eq
  rw [BitVec.toNat_or, BitVec.toNat_ofNat, BitVec.toNat_ofNat, BitVec.toNat_ofNat, Nat.mod_eq_of_lt ha, Nat.mod_eq_of_lt hb, Nat.mod_eq_of_lt (Nat.or_lt_two_pow ha hb)]
theorem wb_mask {n k : Nat} (hn : n < 2 ^ 64) (hk : k < 64) : lN n &&& lN (2 ^ k - 1) = lN (n % 2 ^ k) := by
  rw [wb_and hn (by have := wb_lt2 hk; omega), Nat.and_two_pow_sub_one_eq_mod]
theorem wb_a1 {n : Nat} (hn : n < 2 ^ 64) : lN n &&& 1 = lN (n % 2) := wb_mask (k := 1) hn (by decide)
theorem wb_bit {n k : Nat} (hn : n < 2 ^ 64) (hk : k < 64) : ((lN n).toUInt64 >>> ((nI k).toInt64.toUInt64 &&& Int64.toUInt64 63)).toInt64 &&& 1 = lN (n / 2 ^ k % 2) := by
  rw [wb_shr hn hk, wb_a1 (Nat.lt_of_le_of_lt (Nat.div_le_self _ _) hn)]
theorem wb_xor {q k : Nat} (hk : k < 63) (h : 2 ^ k ≤ q) (h2 : q < 2 ^ (k + 1)) : lN q ^^^ lN (2 ^ k) = lN (q - 2 ^ k) := by
  obtain ⟨r, rfl⟩ : ∃ r, q = 2 ^ k + r := ⟨q - 2 ^ k, by omega⟩
  have hr : r < 2 ^ k := by rw [Nat.pow_succ] at h2; omega
  have hx : (2 ^ k + r) ^^^ 2 ^ k = r := by
    apply Nat.eq_of_testBit_eq
    intro i
    rw [Nat.testBit_xor, Nat.testBit_two_pow]
    rcases Nat.lt_trichotomy i k with h | h | h
    · rw [Nat.testBit_two_pow_add_gt h]
      simp [show ¬ k = i by omega]
    · subst h
      rw [Nat.testBit_two_pow_add_eq]
      simp
    · have a1 : 2 ^ (k + 1) ≤ 2 ^ i := Nat.pow_le_pow_right (by decide) h
      rw [Nat.testBit_lt_two_pow (show 2 ^ k + r < 2 ^ i by omega), Nat.testBit_lt_two_pow (show r < 2 ^ i by omega)]
      simp [show ¬ k = i by omega]
  have b1 := wb_lt2 (show k + 1 < 64 by omega)
  have b2 := wb_lt2 (show k < 64 by omega)
  apply wb_inj
  rw [Int64.toBitVec_xor, wb_tb, wb_tb, wb_tb]
  apply BitVec.eq_of_toNat_eq
  rw [BitVec.toNat_xor, BitVec.toNat_ofNat, BitVec.toNat_ofNat, BitVec.toNat_ofNat, Nat.mod_eq_of_lt (by omega : 2 ^ k + r < 2 ^ 64), Nat.mod_eq_of_lt b2, hx, Nat.add_sub_cancel_left, Nat.mod_eq_of_lt (by omega)]
/-! ===== lN: masks, 'or' of parts that don't overlap is a sum ===== -/
theorem u_tn {n : Nat} (h : n < 2 ^ 64) : (UInt64.ofNat n).toNat = n := Nat.mod_eq_of_lt h
theorem g_and {a b c : Nat} (ha : a < 2 ^ 64) (hb : b < 2 ^ 64) (hc : a &&& b = c) : lN a &&& lN b = lN c := by
  subst hc
  have h : UInt64.ofNat a &&& UInt64.ofNat b = UInt64.ofNat (a &&& b) := UInt64.toNat_inj.mp (by rw [UInt64.toNat_and, u_tn ha, u_tn hb, u_tn (Nat.and_lt_two_pow a hb)])
  have h2 := congrArg UInt64.toInt64 h
  exact h2
theorem g_and1 {a : Nat} (ha : a < 2 ^ 64) : lN a &&& 1 = lN (a % 2) := g_and (b := 1) ha (by decide) (Nat.and_two_pow_sub_one_eq_mod a 1)
theorem g_mask {a s p : Nat} (hp : 2 ^ s = p) (hs : s < 64) (ha : a < 2 ^ 64) : lN a &&& lN (p - 1) = lN (a % p) := by
  subst hp
  have := Nat.pow_lt_pow_right (show 1 < 2 by decide) hs
  exact g_and ha (by omega) (Nat.and_two_pow_sub_one_eq_mod a s)
theorem g_or {k p a b : Nat} (hp : 2 ^ k = p) (ha : a < p) (h : b * p + a < 2 ^ 64) : lN (b * p) ||| lN a = lN (b * p + a) := by
  subst hp
  have h1 : b * 2 ^ k ||| a = b * 2 ^ k + a := by rw [← Nat.shiftLeft_eq, Nat.shiftLeft_add_eq_or_of_lt ha]
  have h3 : UInt64.ofNat (b * 2 ^ k) ||| UInt64.ofNat a = UInt64.ofNat (b * 2 ^ k + a) := UInt64.toNat_inj.mp (by rw [UInt64.toNat_or, u_tn (by omega), u_tn (by omega), u_tn h, h1])
  have h2 := congrArg UInt64.toInt64 h3
  exact h2
theorem g_or' {k p a b : Nat} (hp : 2 ^ k = p) (ha : a < p) (h : a + b * p < 2 ^ 64) : lN a ||| lN (b * p) = lN (a + b * p) := by
  rw [Int64.or_comm, g_or hp ha (by omega), Nat.add_comm]
theorem g_ushr {a k p : Nat} {y : UInt64} (hy : y = UInt64.ofNat k) (hk : k < 64) (hp : 2 ^ k = p) (ha : a < 2 ^ 64) : ((lN a).toUInt64 >>> y).toInt64 = lN (a / p) := by
  subst hy hp
  have h : UInt64.ofNat a >>> UInt64.ofNat k = UInt64.ofNat (a / 2 ^ k) := UInt64.toNat_inj.mp (by rw [UInt64.toNat_shiftRight, u_tn ha, u_tn (by omega), u_tn (Nat.lt_of_le_of_lt (Nat.div_le_self _ _) ha), Nat.mod_eq_of_lt hk, Nat.shiftRight_eq_div_pow])
  have h2 := congrArg UInt64.toInt64 h
  exact h2
theorem g_shl {a k p : Nat} {y : Int64} (hy : y.toBitVec.smod 64 = BitVec.ofNat 64 k) (hk : k < 64) (hp : 2 ^ k = p) (ha : a < 2 ^ 64) : lN a <<< y = lN (a * p) := by
  subst hp
  apply Int64.toBitVec_inj.mp
  rw [Int64.toBitVec_shiftLeft, hy]
  apply BitVec.eq_of_toNat_eq
  have hb : (lN a).toBitVec.toNat = a := Nat.mod_eq_of_lt ha
  have hk' : (BitVec.ofNat 64 k).toNat = k := Nat.mod_eq_of_lt (by omega)
  have h : ((lN a).toBitVec <<< BitVec.ofNat 64 k).toNat = (a * 2 ^ k) % 2 ^ 64 := by simp only [BitVec.shiftLeft_eq', BitVec.toNat_shiftLeft, hb, hk', Nat.shiftLeft_eq]
  exact h
/-! ===== lN to 2^62 under >> and >>> ===== -/
theorem pf_lI {a : Nat} (h : a < 2 ^ 63) : (lN a).toInt = (a : Int) := lg_ofNat_toInt h
theorem pf_shr {a d : Nat} {D : Int64} (hD : (D.toBitVec.smod 64).toNat = d) (h : a < 2 ^ 62) : lN a >>> D = lN (a / 2 ^ d) := by
  have hd : a / 2 ^ d ≤ a := Nat.div_le_self _ _
  apply Int64.toInt_inj.mp
  have e : (lN a >>> D).toInt = (lN a).toInt >>> d := by
    rw [← hD]
    exact BitVec.toInt_sshiftRight ..
  rw [e, Int.shiftRight_eq_div_pow, pf_lI (by omega), pf_lI (by omega)]
  rfl
theorem pf_ushr {a d : Nat} {D : UInt64} (hD : D.toNat % 64 = d) (h : a < 2 ^ 62) : ((lN a).toUInt64 >>> D).toInt64 = lN (a / 2 ^ d) := by
  have hd : a / 2 ^ d ≤ a := Nat.div_le_self _ _
  have e : (lN a).toUInt64 >>> D = UInt64.ofNat (a / 2 ^ d) := UInt64.toNat_inj.mp (by
    rw [UInt64.toNat_shiftRight, hD, Nat.shiftRight_eq_div_pow, UInt64.toNat_ofNat']
    show (UInt64.ofNat a).toNat / 2 ^ d = _
    rw [UInt64.toNat_ofNat', Nat.mod_eq_of_lt (by omega), Nat.mod_eq_of_lt (by omega)])
  rw [e]
  rfl
theorem pf_andw (x : Int64) : ∃ m, m < 2 ^ 32 ∧ x &&& 4294967295 = lN m := ⟨x.toBitVec.toNat % 2 ^ 32, Nat.mod_lt _ (by decide), Int64.toBitVec_inj.mp (BitVec.eq_of_toNat_eq (by
  show (x.toBitVec &&& 4294967295#64).toNat = (BitVec.ofNat 64 (x.toBitVec.toNat % 2 ^ 32)).toNat
  rw [BitVec.toNat_and, show (4294967295#64).toNat = 2 ^ 32 - 1 from by decide, Nat.and_two_pow_sub_one_eq_mod, BitVec.toNat_ofNat]
  omega))⟩
end
section
/-! the values of X: nothing is 0, an int mr_I w, an object mr_O p -/
def mr_I (w : Int32) : Int64 := lN (4294967296 + w.toBitVec.toNat)
def mr_O (p : Nat) : Int64 := lN (8589934592 + p)
theorem mr_L0 : (0 : Int64) = lN 0 := rfl
theorem mr_LO : (8589934592 : Int64) = lN 8589934592 := rfl
theorem mr_int (a : Int32) : (4294967296 : Int64) ||| (a.toInt64 &&& 4294967295) = mr_I a := by
  have hl : a.toBitVec.toNat < 2 ^ 32 := a.toBitVec.isLt
  have h1 : a.toInt64 &&& 4294967295 = lN a.toBitVec.toNat := by
    apply wb_inj
    apply BitVec.eq_of_toNat_eq
    show (a.toBitVec.signExtend 64 &&& 4294967295#64).toNat = (BitVec.ofNat 64 a.toBitVec.toNat).toNat
    rw [BitVec.toNat_and, show (4294967295#64).toNat = 2 ^ 32 - 1 from by decide, Nat.and_two_pow_sub_one_eq_mod, BitVec.toNat_ofNat, BitVec.toNat_signExtend, BitVec.toNat_setWidth]
    split <;> omega
  rw [h1]
  have h2 := g_or (k := 32) (p := 4294967296) (a := a.toBitVec.toNat) (b := 1) (by decide) (by omega) (by omega)
  rw [show 1 * 4294967296 = 4294967296 from rfl] at h2
  exact h2
theorem mr_nI32 (m : Nat) : nI (4294967296 + m) = nI m := by
  apply Int32.toBitVec_inj.mp
  apply BitVec.eq_of_toNat_eq
  show (BitVec.ofNat 32 (4294967296 + m)).toNat = (BitVec.ofNat 32 m).toNat
  rw [BitVec.toNat_ofNat, BitVec.toNat_ofNat]
  omega
theorem mr_nIw (w : Int32) : nI w.toBitVec.toNat = w := by
  apply Int32.toBitVec_inj.mp
  show BitVec.ofNat 32 _ = _
  simp
theorem mr_I_i (w : Int32) : (mr_I w).toInt32 = w := by
  rw [mr_I, lN_i, mr_nI32, mr_nIw]
theorem mr_O_i (p : Nat) : (mr_O p).toInt32 = nI p := by
  rw [mr_O, lN_i, show 8589934592 + p = 4294967296 + (4294967296 + p) from by omega, mr_nI32, mr_nI32]
theorem mr_0_i : (0 : Int64).toInt32 = 0 := by decide
theorem mr_sh : (((32 : Int32).toInt64 &&& 63).toBitVec.smod 64).toNat = 32 := by decide
theorem mr_I_s (w : Int32) : (mr_I w >>> ((32 : Int32).toInt64 &&& 63)).toInt32 = 1 := by
  have hl : w.toBitVec.toNat < 2 ^ 32 := w.toBitVec.isLt
  rw [mr_I, pf_shr mr_sh (by omega), lN_i, show (4294967296 + w.toBitVec.toNat) / 2 ^ 32 = 1 from by omega]
  rfl
theorem mr_O_s {p : Nat} (h : p < 16) : (mr_O p >>> ((32 : Int32).toInt64 &&& 63)).toInt32 = 2 := by
  rw [mr_O, pf_shr mr_sh (by omega), lN_i, show (8589934592 + p) / 2 ^ 32 = 2 from by omega]
  rfl
theorem mr_0_s : ((0 : Int64) >>> ((32 : Int32).toInt64 &&& 63)).toInt32 = 0 := by decide
theorem mr_I_lt (w : Int32) : mr_I w < 8589934592 := by
  have hl : w.toBitVec.toNat < 2 ^ 32 := w.toBitVec.isLt
  rw [mr_LO, mr_I, pk_lLT (by omega) (by omega)]
  omega
theorem mr_I_nle (w : Int32) : ¬ 8589934592 ≤ mr_I w := Int64.not_le.mpr (mr_I_lt w)
theorem mr_O_le {p : Nat} (h : p < 16) : 8589934592 ≤ mr_O p := by
  rw [mr_LO, mr_O, pk_lLE (by omega) (by omega)]
  omega
theorem mr_O_nlt {p : Nat} (h : p < 16) : ¬ mr_O p < 8589934592 := Int64.not_lt.mpr (mr_O_le h)
theorem mr_0_lt : (0 : Int64) < 8589934592 := by decide
theorem mr_0_nle : ¬ (8589934592 : Int64) ≤ 0 := by decide
theorem mr_I_n0 (w : Int32) : ¬ mr_I w < 0 := by
  have hl : w.toBitVec.toNat < 2 ^ 32 := w.toBitVec.isLt
  rw [mr_L0, mr_I, pk_lLT (by omega) (by omega)]
  omega
theorem mr_O_n0 {p : Nat} (h : p < 16) : ¬ mr_O p < 0 := by
  rw [mr_L0, mr_O, pk_lLT (by omega) (by omega)]
  omega
theorem mr_I_inj {a b : Int32} (h : mr_I a = mr_I b) : a = b := by
  rw [← mr_I_i a, h, mr_I_i]
theorem mr_O_inj {a b : Nat} (ha : a < 16) (hb : b < 16) (h : mr_O a = mr_O b) : a = b := by
  have h2 := (pk_lEQ (by omega) (by omega)).mp h
  omega
theorem mr_I_ne0 (w : Int32) : mr_I w ≠ 0 := fun h => by
  have h2 := mr_I_s w
  rw [h, mr_0_s] at h2
  exact absurd h2 (by decide)
theorem mr_O_ne0 {p : Nat} (hp : p < 16) : mr_O p ≠ 0 := fun h => by
  have h2 := mr_O_s hp
  rw [h, mr_0_s] at h2
  exact absurd h2 (by decide)
theorem mr_I_neO {w : Int32} {p : Nat} (hp : p < 16) : mr_I w ≠ mr_O p := fun h => by
  have h2 := mr_O_s hp
  rw [← h, mr_I_s] at h2
  exact absurd h2 (by decide)
theorem mr_mk (p : Nat) (h : p < 16) : (8589934592 : Int64) + (nI p).toInt64 = mr_O p := by
  rw [nI_l (by omega), mr_LO, lN_add, mr_O]
/-- V R v s w: X's value v is Y's value (s, w), objects by R -/
def mr_V (R : Nat → Nat → Prop) (v : Int64) (s w : Int32) : Prop :=
  (v = 0 ∧ s = 0) ∨ (v = mr_I w ∧ s = 1) ∨ (∃ x y : Nat, x < 16 ∧ y < 16 ∧ v = mr_O x ∧ s = 2 ∧ w = nI y ∧ R x y)
theorem mr_V0 {R : Nat → Nat → Prop} {w : Int32} : mr_V R 0 0 w := Or.inl ⟨rfl, rfl⟩
theorem mr_VI {R : Nat → Nat → Prop} {w : Int32} : mr_V R (mr_I w) 1 w := Or.inr (Or.inl ⟨rfl, rfl⟩)
theorem mr_VO {R : Nat → Nat → Prop} {x y : Nat} (hx : x < 16) (hy : y < 16) (h : R x y) : mr_V R (mr_O x) 2 (nI y) := Or.inr (Or.inr ⟨x, y, hx, hy, rfl, rfl, rfl, h⟩)
/-- the same objects, seen by another R -/
theorem mr_V_mono {R Q : Nat → Nat → Prop} {v : Int64} {s w : Int32} (h : mr_V R v s w) (hq : ∀ x y, x < 16 → y < 16 → v = mr_O x → s = 2 → w = nI y → R x y → Q x y) : mr_V Q v s w := by
  rcases h with h | h | ⟨x, y, hx, hy, a, b, c, d⟩
  · exact Or.inl h
  · exact Or.inr (Or.inl h)
  · exact Or.inr (Or.inr ⟨x, y, hx, hy, a, b, c, hq x y hx hy a b c d⟩)
/-- SAME, on both sides -/
theorem mr_V_same {R : Nat → Nat → Prop} (h1 : ∀ x x' y, R x y → R x' y → x = x') (h2 : ∀ x y y', R x y → R x y' → y = y') {v v' : Int64} {s w s' w' : Int32} (h : mr_V R v s w) (h' : mr_V R v' s' w') : v = v' ↔ (s = s' ∧ (s = 0 ∨ w = w')) := by
  rcases h with ⟨rfl, rfl⟩ | ⟨rfl, rfl⟩ | ⟨x, y, hx, hy, rfl, rfl, rfl, r⟩ <;> rcases h' with ⟨rfl, rfl⟩ | ⟨rfl, rfl⟩ | ⟨x', y', hx', hy', rfl, rfl, rfl, r'⟩
  · exact ⟨fun _ => ⟨rfl, Or.inl rfl⟩, fun _ => rfl⟩
  · exact ⟨fun z => absurd z.symm (mr_I_ne0 _), fun z => absurd z.1 (by decide)⟩
  · exact ⟨fun z => absurd z.symm (mr_O_ne0 hx'), fun z => absurd z.1 (by decide)⟩
  · exact ⟨fun z => absurd z (mr_I_ne0 _), fun z => absurd z.1 (by decide)⟩
  · refine ⟨fun z => ⟨rfl, Or.inr (mr_I_inj z)⟩, fun z => ?_⟩
    rcases z.2 with z | z
    · exact absurd z (by decide)
    · rw [z]
  · exact ⟨fun z => absurd z (mr_I_neO hx'), fun z => absurd z.1 (by decide)⟩
  · exact ⟨fun z => absurd z (mr_O_ne0 hx), fun z => absurd z.1 (by decide)⟩
  · exact ⟨fun z => absurd z.symm (mr_I_neO hx), fun z => absurd z.1 (by decide)⟩
  · refine ⟨fun z => ⟨rfl, Or.inr ?_⟩, fun z => ?_⟩
    · cases mr_O_inj hx hx' z
      rw [h2 x y y' r r']
    · rcases z.2 with z | z
      · exact absurd z (by decide)
      · cases (nI_eq (by omega) (by omega)).mp z
        rw [h1 x x' y r r']
/-- what X asks of a value, as Y's sort says it -/
theorem mr_V_int {R : Nat → Nat → Prop} {v : Int64} {s w : Int32} (h : mr_V R v s w) : (v >>> ((32 : Int32).toInt64 &&& 63)).toInt32 = s := by
  rcases h with ⟨rfl, rfl⟩ | ⟨rfl, rfl⟩ | ⟨x, y, hx, hy, rfl, rfl, rfl, r⟩
  · exact mr_0_s
  · exact mr_I_s _
  · exact mr_O_s hx
theorem mr_V_obj {R : Nat → Nat → Prop} {v : Int64} {s w : Int32} (h : mr_V R v s w) : 8589934592 ≤ v ↔ s = 2 := by
  rcases h with ⟨rfl, rfl⟩ | ⟨rfl, rfl⟩ | ⟨x, y, hx, hy, rfl, rfl, rfl, r⟩
  · exact ⟨fun z => absurd z mr_0_nle, fun z => absurd z (by decide)⟩
  · exact ⟨fun z => absurd z (mr_I_nle _), fun z => absurd z (by decide)⟩
  · exact ⟨fun _ => rfl, fun _ => mr_O_le hx⟩
theorem mr_V_low {R : Nat → Nat → Prop} {v : Int64} {s w : Int32} (h : mr_V R v s w) (h1 : s = 1) : v = mr_I w := by
  rcases h with ⟨rfl, rfl⟩ | ⟨rfl, _⟩ | ⟨x, y, hx, hy, rfl, rfl, rfl, r⟩
  · exact absurd h1 (by decide)
  · rfl
  · exact absurd h1 (by decide)
theorem mr_V_ob {R : Nat → Nat → Prop} {v : Int64} {s w : Int32} (h : mr_V R v s w) (h1 : s = 2) : ∃ x y : Nat, x < 16 ∧ y < 16 ∧ v = mr_O x ∧ w = nI y ∧ R x y := by
  rcases h with ⟨rfl, rfl⟩ | ⟨rfl, rfl⟩ | ⟨x, y, hx, hy, a, b, c, r⟩
  · exact absurd h1 (by decide)
  · exact absurd h1 (by decide)
  · exact ⟨x, y, hx, hy, a, c, r⟩
theorem mr_V_n0 {R : Nat → Nat → Prop} {v : Int64} {s w : Int32} (h : mr_V R v s w) : ¬ v < 0 := by
  rcases h with ⟨rfl, rfl⟩ | ⟨rfl, rfl⟩ | ⟨x, y, hx, hy, rfl, rfl, rfl, r⟩
  · decide
  · exact mr_I_n0 _
  · exact mr_O_n0 hx
/-- what is a value of X at all -/
def mr_W (v : Int64) : Prop := ¬ 8589934592 ≤ v ∨ ∃ x : Nat, x < 16 ∧ v = mr_O x
theorem mr_V_W {R : Nat → Nat → Prop} {v : Int64} {s w : Int32} (h : mr_V R v s w) : mr_W v := by
  rcases h with ⟨rfl, rfl⟩ | ⟨rfl, rfl⟩ | ⟨x, y, hx, hy, rfl, rfl, rfl, r⟩
  · exact Or.inl mr_0_nle
  · exact Or.inl (mr_I_nle _)
  · exact Or.inr ⟨x, hx, rfl⟩
end
section
/-! counting flags, least sets, and the two heaps seen through R -/
def mr_cn (P : Nat → Int32) : Nat → Nat
  | 0 => 0
  | n + 1 => mr_cn P n + (if P n = 0 then 0 else 1)
theorem mr_cn_le (P : Nat → Int32) : ∀ n, mr_cn P n ≤ n := by
  intro n
  induction n with
  | zero => exact Nat.le_refl 0
  | succ n ih => simp only [mr_cn]; split <;> omega
theorem mr_cn_0 (P : Nat → Int32) : ∀ n, (∀ i, i < n → P i = 0) → mr_cn P n = 0 := by
  intro n
  induction n with
  | zero => intro _; rfl
  | succ n ih =>
    intro h
    simp only [mr_cn]
    rw [ih (fun i hi => h i (by omega)), if_pos (h n (by omega))]
theorem mr_cn_congr (P Q : Nat → Int32) : ∀ n, (∀ i, i < n → (P i = 0 ↔ Q i = 0)) → mr_cn P n = mr_cn Q n := by
  intro n
  induction n with
  | zero => intro _; rfl
  | succ n ih =>
    intro h
    simp only [mr_cn]
    rw [ih (fun i hi => h i (by omega))]
    by_cases z : P n = 0
    · rw [if_pos z, if_pos ((h n (by omega)).mp z)]
    · rw [if_neg z, if_neg (fun y => z ((h n (by omega)).mpr y))]
theorem mr_cn_upd (P : Nat → Int32) (k : Nat) (v : Int32) (hv : v ≠ 0) (hk : P k = 0) : ∀ n, k < n → mr_cn (upd P k v) n = mr_cn P n + 1 := by
  intro n
  induction n with
  | zero => intro h; omega
  | succ n ih =>
    intro h
    simp only [mr_cn]
    by_cases e : n = k
    · subst e
      rw [pk_us, if_neg hv, if_pos hk, mr_cn_congr (upd P n v) P n (fun i hi => by rw [pk_un (by omega)])]
    · rw [ih (by omega), pk_un e]
      omega
theorem mr_cn_off (P : Nat → Int32) (k : Nat) (hk : P k ≠ 0) : ∀ n, k < n → mr_cn (upd P k 0) n + 1 = mr_cn P n := by
  intro n h
  have h1 := mr_cn_upd (upd P k 0) k 1 (by decide) pk_us n h
  rw [← h1]
  refine mr_cn_congr _ _ n (fun i hi => ?_)
  by_cases e : i = k
  · subst e
    rw [pk_us]
    exact ⟨fun z => absurd z (by decide), fun z => absurd z hk⟩
  · rw [pk_un e, pk_un e]
theorem mr_cn_inj (R : Nat → Nat → Prop) (hR : ∀ x x' y, R x y → R x' y → x = x') (P : Nat → Int32) (m : Nat) : ∀ (n : Nat) (Q : Nat → Int32), (∀ x, x < n → P x ≠ 0 → ∃ y, y < m ∧ Q y ≠ 0 ∧ R x y) → mr_cn P n ≤ mr_cn Q m := by
  intro n
  induction n with
  | zero => intro Q _; exact Nat.zero_le _
  | succ n ih =>
    intro Q h
    simp only [mr_cn]
    by_cases z : P n = 0
    · rw [if_pos z]
      exact ih Q (fun x hx => h x (by omega))
    · rw [if_neg z]
      obtain ⟨y, hy, hq, hr⟩ := h n (by omega) z
      have h2 := mr_cn_off Q y hq m hy
      have h3 := ih (upd Q y 0) (fun x hx hp => by
        obtain ⟨y', a, b, c⟩ := h x (by omega) hp
        refine ⟨y', a, ?_, c⟩
        by_cases e : y' = y
        · subst e
          have := hR x n y' c hr
          omega
        · rw [pk_un e]
          exact b)
      omega
theorem mr_cn_mono (P Q : Nat → Int32) (n : Nat) (h : ∀ x, x < n → P x ≠ 0 → Q x ≠ 0) : mr_cn P n ≤ mr_cn Q n :=
  mr_cn_inj (fun x y => x = y) (fun _ _ _ a b => a.trans b.symm) P n n Q (fun x hx hp => ⟨x, hx, h x hx hp, rfl⟩)
theorem mr_cn_lt (P Q : Nat → Int32) (n k : Nat) (hk : k < n) (h : ∀ x, x < n → P x ≠ 0 → Q x ≠ 0) (hp : P k = 0) (hq : Q k ≠ 0) : mr_cn P n < mr_cn Q n := by
  have h1 := mr_cn_upd P k 1 (by decide) hp n hk
  have h2 := mr_cn_mono (upd P k 1) Q n (fun x hx z => by
    by_cases e : x = k
    · subst e; exact hq
    · rw [pk_un e] at z; exact h x hx z)
  omega
theorem mr_cn_full (P : Nat → Int32) (n : Nat) (h : mr_cn P n = n) (x : Nat) (hx : x < n) : P x ≠ 0 := fun z => by
  have h1 := mr_cn_upd P x 1 (by decide) z n hx
  have h2 := mr_cn_le (upd P x 1) n
  omega
theorem mr_cn_room (P : Nat → Int32) : ∀ n, mr_cn P n < n → ∃ x, x < n ∧ P x = 0 ∧ ∀ y, y < x → P y ≠ 0 := by
  intro n h
  have h1 : ∃ x, x < n ∧ P x = 0 := by
    induction n with
    | zero => omega
    | succ n ih =>
      simp only [mr_cn] at h
      by_cases z : P n = 0
      · exact ⟨n, by omega, z⟩
      · rw [if_neg z] at h
        obtain ⟨x, a, b⟩ := ih (by omega)
        exact ⟨x, by omega, b⟩
  obtain ⟨x, ⟨a, b⟩, c⟩ := pk_least (fun x => x < n ∧ P x = 0) h1
  exact ⟨x, a, b, fun y hy z => c y hy ⟨by omega, z⟩⟩
/-- the least set that holds the roots and is kept by the edges -/
def mr_Cl (root : Nat → Prop) (edge : Nat → Nat → Prop) (S : Nat → Prop) : Prop :=
  (∀ x, root x → S x) ∧ (∀ x y, S x → edge x y → S y)
def mr_L (root : Nat → Prop) (edge : Nat → Nat → Prop) (x : Nat) : Prop := ∀ S, mr_Cl root edge S → S x
theorem mr_L_cl (root : Nat → Prop) (edge : Nat → Nat → Prop) : mr_Cl root edge (mr_L root edge) :=
  ⟨fun x h S hS => hS.1 x h, fun x y h e S hS => hS.2 x y (h S hS) e⟩
/-- what is needed on one side is, through R, needed on the other -/
theorem mr_L_tr (R : Nat → Nat → Prop) {r1 r2 : Nat → Prop} {e1 e2 : Nat → Nat → Prop} (hr : ∀ x, r1 x → ∃ y, R x y ∧ r2 y) (he : ∀ x y x', R x y → e1 x x' → ∃ y', R x' y' ∧ e2 y y') {x : Nat} (h : mr_L r1 e1 x) : ∃ y, R x y ∧ mr_L r2 e2 y := by
  refine h (fun x => ∃ y, R x y ∧ mr_L r2 e2 y) ⟨fun x hx => ?_, fun x x' hx ex => ?_⟩
  · obtain ⟨y, a, b⟩ := hr x hx
    exact ⟨y, a, (mr_L_cl r2 e2).1 y b⟩
  · obtain ⟨y, a, b⟩ := hx
    obtain ⟨y', c, d⟩ := he x y x' a ex
    exact ⟨y', c, (mr_L_cl r2 e2).2 y y' b d⟩
/-- a flag array tells just the needed ones -/
def mr_Is (T : Nat → Int32) (root : Nat → Prop) (edge : Nat → Nat → Prop) : Prop := ∀ x, x < 16 → (T x ≠ 0 ↔ mr_L root edge x)
theorem mr_Is_cn {R : Nat → Nat → Prop} (h1 : ∀ x x' y, R x y → R x' y → x = x') (h2 : ∀ x y y', R x y → R x y' → y = y') (hb : ∀ x y, R x y → x < 16 ∧ y < 16) {r1 r2 : Nat → Prop} {e1 e2 : Nat → Nat → Prop} (hr : ∀ x, r1 x → ∃ y, R x y ∧ r2 y) (he : ∀ x y x', R x y → e1 x x' → ∃ y', R x' y' ∧ e2 y y') (hr' : ∀ y, r2 y → ∃ x, R x y ∧ r1 x) (he' : ∀ x y y', R x y → e2 y y' → ∃ x', R x' y' ∧ e1 x x') {T U : Nat → Int32} (hT : mr_Is T r1 e1) (hU : mr_Is U r2 e2) : mr_cn T 16 = mr_cn U 16 := by
  have a := mr_cn_inj R h1 T 16 16 U (fun x hx z => by
    obtain ⟨y, p, q⟩ := mr_L_tr R hr he ((hT x hx).mp z)
    exact ⟨y, (hb x y p).2, (hU y (hb x y p).2).mpr q, p⟩)
  have b := mr_cn_inj (fun y x => R x y) (fun y y' x p q => h2 x y y' p q) U 16 16 T (fun y hy z => by
    obtain ⟨x, p, q⟩ := mr_L_tr (fun y x => R x y) hr' (fun y x y' p q => he' x y y' p q) ((hU y hy).mp z)
    exact ⟨x, (hb x y p).1, (hT x (hb x y p).1).mpr q, p⟩)
  omega
end
section
/-! what the two heaps hold: roots and edges of X and of Y; the relation of the two -/
/-- roots of X: globals, the locals and the stacks of F frames of depths d -/
def mr_rX (gl lo st : Nat → Int64) (F : Nat) (d : Nat → Nat) (x : Nat) : Prop :=
  (∃ g, g < 4 ∧ gl g = mr_O x ∧ x < 16) ∨ (∃ k, k < 4 * F ∧ lo k = mr_O x ∧ x < 16) ∨ (∃ f i, f < F ∧ i < d f ∧ st (6 * f + i) = mr_O x ∧ x < 16)
def mr_eX (fi : Nat → Int64) (x x' : Nat) : Prop := ∃ j, j < 3 ∧ fi (3 * x + j) = mr_O x' ∧ x' < 16
def mr_P (s w : Int32) (y : Nat) : Prop := s = 2 ∧ w = nI y ∧ y < 16
def mr_rY (gs gv ls lv ss sv : Nat → Int32) (F : Nat) (d : Nat → Nat) (y : Nat) : Prop :=
  (∃ g, g < 4 ∧ mr_P (gs g) (gv g) y) ∨ (∃ k, k < 4 * F ∧ mr_P (ls k) (lv k) y) ∨ (∃ f i, f < F ∧ i < d f ∧ mr_P (ss (6 * f + i)) (sv (6 * f + i)) y)
def mr_eY (fs fv : Nat → Int32) (y y' : Nat) : Prop := ∃ j, j < 3 ∧ mr_P (fs (3 * y + j)) (fv (3 * y + j)) y'
/-- the values that the machine holds are the same through R -/
def mr_RV (R : Nat → Nat → Prop) (F : Nat) (d : Nat → Nat) (gl lo st : Nat → Int64) (gs gv ls lv ss sv : Nat → Int32) : Prop :=
  (∀ g, g < 4 → mr_V R (gl g) (gs g) (gv g)) ∧ (∀ k, k < 4 * F → mr_V R (lo k) (ls k) (lv k)) ∧ (∀ f i, f < F → i < d f → mr_V R (st (6 * f + i)) (ss (6 * f + i)) (sv (6 * f + i)))
/-- the objects that R pairs are the same through R -/
def mr_HV (R : Nat → Nat → Prop) (cl : Nat → Int32) (fi : Nat → Int64) (tk kd fs fv : Nat → Int32) : Prop :=
  (∀ x y, R x y → x < 16 ∧ y < 16 ∧ tk x ≠ 0 ∧ (∃ c, c < 4 ∧ cl x = nI c ∧ kd y = nI c) ∧ ∀ j, j < 3 → mr_V R (fi (3 * x + j)) (fs (3 * y + j)) (fv (3 * y + j))) ∧ (∀ x x' y, R x y → R x' y → x = x') ∧ (∀ x y y', R x y → R x y' → y = y')
theorem mr_V_X {R : Nat → Nat → Prop} {v : Int64} {s w : Int32} {x : Nat} (h : mr_V R v s w) (hx : x < 16) (e : v = mr_O x) : ∃ y, R x y ∧ mr_P s w y := by
  rcases h with ⟨rfl, rfl⟩ | ⟨rfl, rfl⟩ | ⟨x', y, hx', hy, rfl, rfl, rfl, r⟩
  · exact absurd e.symm (mr_O_ne0 hx)
  · exact absurd e (mr_I_neO hx)
  · cases mr_O_inj hx' hx e
    exact ⟨y, r, rfl, rfl, hy⟩
theorem mr_V_Y {R : Nat → Nat → Prop} {v : Int64} {s w : Int32} {y : Nat} (h : mr_V R v s w) (e : mr_P s w y) : ∃ x, R x y ∧ v = mr_O x ∧ x < 16 := by
  obtain ⟨e1, e2, e3⟩ := e
  rcases h with ⟨rfl, rfl⟩ | ⟨rfl, rfl⟩ | ⟨x', y', hx', hy, rfl, rfl, rfl, r⟩
  · exact absurd e1 (by decide)
  · exact absurd e1 (by decide)
  · cases (nI_eq (by omega) (by omega)).mp e2
    exact ⟨x', r, rfl, hx'⟩
theorem mr_tr1 {R : Nat → Nat → Prop} {F : Nat} {d : Nat → Nat} {gl lo st : Nat → Int64} {gs gv ls lv ss sv : Nat → Int32} (h : mr_RV R F d gl lo st gs gv ls lv ss sv) (x : Nat) (hx : mr_rX gl lo st F d x) : ∃ y, R x y ∧ mr_rY gs gv ls lv ss sv F d y := by
  rcases hx with ⟨g, a, b, c⟩ | ⟨k, a, b, c⟩ | ⟨f, i, a, a', b, c⟩
  · obtain ⟨y, p, q⟩ := mr_V_X (h.1 g a) c b
    exact ⟨y, p, Or.inl ⟨g, a, q⟩⟩
  · obtain ⟨y, p, q⟩ := mr_V_X (h.2.1 k a) c b
    exact ⟨y, p, Or.inr (Or.inl ⟨k, a, q⟩)⟩
  · obtain ⟨y, p, q⟩ := mr_V_X (h.2.2 f i a a') c b
    exact ⟨y, p, Or.inr (Or.inr ⟨f, i, a, a', q⟩)⟩
theorem mr_tr2 {R : Nat → Nat → Prop} {F : Nat} {d : Nat → Nat} {gl lo st : Nat → Int64} {gs gv ls lv ss sv : Nat → Int32} (h : mr_RV R F d gl lo st gs gv ls lv ss sv) (y : Nat) (hy : mr_rY gs gv ls lv ss sv F d y) : ∃ x, R x y ∧ mr_rX gl lo st F d x := by
  rcases hy with ⟨g, a, b⟩ | ⟨k, a, b⟩ | ⟨f, i, a, a', b⟩
  · obtain ⟨x, p, q, r⟩ := mr_V_Y (h.1 g a) b
    exact ⟨x, p, Or.inl ⟨g, a, q, r⟩⟩
  · obtain ⟨x, p, q, r⟩ := mr_V_Y (h.2.1 k a) b
    exact ⟨x, p, Or.inr (Or.inl ⟨k, a, q, r⟩)⟩
  · obtain ⟨x, p, q, r⟩ := mr_V_Y (h.2.2 f i a a') b
    exact ⟨x, p, Or.inr (Or.inr ⟨f, i, a, a', q, r⟩)⟩
theorem mr_te1 {R : Nat → Nat → Prop} {cl : Nat → Int32} {fi : Nat → Int64} {tk kd fs fv : Nat → Int32} (h : mr_HV R cl fi tk kd fs fv) (x y x' : Nat) (r : R x y) (e : mr_eX fi x x') : ∃ y', R x' y' ∧ mr_eY fs fv y y' := by
  obtain ⟨j, a, b, c⟩ := e
  obtain ⟨y', p, q⟩ := mr_V_X ((h.1 x y r).2.2.2.2 j a) c b
  exact ⟨y', p, j, a, q⟩
theorem mr_te2 {R : Nat → Nat → Prop} {cl : Nat → Int32} {fi : Nat → Int64} {tk kd fs fv : Nat → Int32} (h : mr_HV R cl fi tk kd fs fv) (x y y' : Nat) (r : R x y) (e : mr_eY fs fv y y') : ∃ x', R x' y' ∧ mr_eX fi x x' := by
  obtain ⟨j, a, b⟩ := e
  obtain ⟨x', p, q, s⟩ := mr_V_Y ((h.1 x y r).2.2.2.2 j a) b
  exact ⟨x', p, j, a, q, s⟩
/-- as many needed objects on both sides -/
theorem mr_count {R : Nat → Nat → Prop} {F : Nat} {d : Nat → Nat} {gl lo st : Nat → Int64} {gs gv ls lv ss sv : Nat → Int32} (h : mr_RV R F d gl lo st gs gv ls lv ss sv) {cl : Nat → Int32} {fi : Nat → Int64} {tk kd fs fv : Nat → Int32} (hh : mr_HV R cl fi tk kd fs fv) {T U : Nat → Int32} (hT : mr_Is T (mr_rX gl lo st F d) (mr_eX fi)) (hU : mr_Is U (mr_rY gs gv ls lv ss sv F d) (mr_eY fs fv)) : mr_cn T 16 = mr_cn U 16 :=
  mr_Is_cn hh.2.1 hh.2.2 (fun x y r => ⟨(hh.1 x y r).1, (hh.1 x y r).2.1⟩) (mr_tr1 h) (mr_te1 hh) (mr_tr2 h) (mr_te2 hh) hT hU
/-- X needs only what it has taken -/
theorem mr_L_tk {R : Nat → Nat → Prop} {F : Nat} {d : Nat → Nat} {gl lo st : Nat → Int64} {gs gv ls lv ss sv : Nat → Int32} (h : mr_RV R F d gl lo st gs gv ls lv ss sv) {cl : Nat → Int32} {fi : Nat → Int64} {tk kd fs fv : Nat → Int32} (hh : mr_HV R cl fi tk kd fs fv) {x : Nat} (hx : mr_L (mr_rX gl lo st F d) (mr_eX fi) x) : tk x ≠ 0 := by
  obtain ⟨y, r, _⟩ := mr_L_tr R (mr_tr1 h) (mr_te1 hh) hx
  exact (hh.1 x y r).2.2.1
/-- R cut down to what is needed -/
def mr_cut (R : Nat → Nat → Prop) (rt : Nat → Prop) (ed : Nat → Nat → Prop) (x y : Nat) : Prop := R x y ∧ mr_L rt ed x
theorem mr_cutV {R : Nat → Nat → Prop} {rt : Nat → Prop} {ed : Nat → Nat → Prop} {v : Int64} {s w : Int32} (h : mr_V R v s w) (hx : ∀ x, x < 16 → v = mr_O x → mr_L rt ed x) : mr_V (mr_cut R rt ed) v s w :=
  mr_V_mono h (fun x _ a _ b _ _ r => ⟨r, hx x a b⟩)
theorem mr_cutRV {R : Nat → Nat → Prop} {F : Nat} {d : Nat → Nat} {gl lo st : Nat → Int64} {gs gv ls lv ss sv : Nat → Int32} {ed : Nat → Nat → Prop} (h : mr_RV R F d gl lo st gs gv ls lv ss sv) : mr_RV (mr_cut R (mr_rX gl lo st F d) ed) F d gl lo st gs gv ls lv ss sv :=
  ⟨fun g a => mr_cutV (h.1 g a) (fun _ c b => (mr_L_cl _ _).1 _ (Or.inl ⟨g, a, b, c⟩)), fun k a => mr_cutV (h.2.1 k a) (fun _ c b => (mr_L_cl _ _).1 _ (Or.inr (Or.inl ⟨k, a, b, c⟩))), fun f i a a' => mr_cutV (h.2.2 f i a a') (fun _ c b => (mr_L_cl _ _).1 _ (Or.inr (Or.inr ⟨f, i, a, a', b, c⟩)))⟩
/-- after a collection by X: R cut down, and just the needed places taken -/
theorem mr_cutHV {R : Nat → Nat → Prop} {cl : Nat → Int32} {fi : Nat → Int64} {tk kd fs fv : Nat → Int32} {rt : Nat → Prop} (h : mr_HV R cl fi tk kd fs fv) {T : Nat → Int32} (hT : ∀ x, x < 16 → mr_L rt (mr_eX fi) x → T x ≠ 0) : mr_HV (mr_cut R rt (mr_eX fi)) cl fi T kd fs fv :=
  ⟨fun x y r => ⟨(h.1 x y r.1).1, (h.1 x y r.1).2.1, hT x (h.1 x y r.1).1 r.2, (h.1 x y r.1).2.2.2.1, fun j a => mr_cutV ((h.1 x y r.1).2.2.2.2 j a) (fun x' c b => (mr_L_cl _ _).2 x x' r.2 ⟨j, a, b, c⟩)⟩, fun x x' y p q => h.2.1 x x' y p.1 q.1, fun x y y' p q => h.2.2 x y y' p.1 q.1⟩
/-- a new object: at p in X, at q in Y, where neither is needed -/
def mr_add (R : Nat → Nat → Prop) (p q : Nat) (x y : Nat) : Prop := R x y ∨ (x = p ∧ y = q)
theorem mr_addV {R : Nat → Nat → Prop} {p q : Nat} {v : Int64} {s w : Int32} (h : mr_V R v s w) : mr_V (mr_add R p q) v s w :=
  mr_V_mono h (fun _ _ _ _ _ _ _ r => Or.inl r)
theorem mr_addRV {R : Nat → Nat → Prop} {p q : Nat} {F : Nat} {d : Nat → Nat} {gl lo st : Nat → Int64} {gs gv ls lv ss sv : Nat → Int32} (h : mr_RV R F d gl lo st gs gv ls lv ss sv) : mr_RV (mr_add R p q) F d gl lo st gs gv ls lv ss sv :=
  ⟨fun g a => mr_addV (h.1 g a), fun k a => mr_addV (h.2.1 k a), fun f i a a' => mr_addV (h.2.2 f i a a')⟩
/-- the arrays after a NEW -/
theorem mr_addHV {R : Nat → Nat → Prop} {cl : Nat → Int32} {fi : Nat → Int64} {tk kd fs fv : Nat → Int32} {p q c : Nat} (h : mr_HV R cl fi tk kd fs fv) (hp : p < 16) (hq : q < 16) (hc : c < 4) (tp : tk p = 0) (nq : ∀ x, ¬ R x q) {cl' : Nat → Int32} {fi' : Nat → Int64} {tk' kd' fs' : Nat → Int32} (ecl : ∀ x, x ≠ p → cl' x = cl x) (eclp : cl' p = nI c) (ekd : ∀ y, y ≠ q → kd' y = kd y) (ekdq : kd' q = nI c) (efi : ∀ x j, j < 3 → x ≠ p → fi' (3 * x + j) = fi (3 * x + j)) (efip : ∀ j, j < 3 → fi' (3 * p + j) = 0) (efs : ∀ y j, j < 3 → y ≠ q → fs' (3 * y + j) = fs (3 * y + j)) (efsq : ∀ j, j < 3 → fs' (3 * q + j) = 0) (etk : ∀ x, tk x ≠ 0 → tk' x ≠ 0) (etkp : tk' p ≠ 0) : mr_HV (mr_add R p q) cl' fi' tk' kd' fs' fv := by
  have np : ∀ y, ¬ R p y := fun y r => (h.1 p y r).2.2.1 tp
  refine ⟨fun x y r => ?_, fun x x' y r r' => ?_, fun x y y' r r' => ?_⟩
  · rcases r with r | ⟨rfl, rfl⟩
    · have hx : x ≠ p := fun e => np y (e ▸ r)
      have hy : y ≠ q := fun e => nq x (e ▸ r)
      obtain ⟨a, b, c', ⟨k, k1, k2, k3⟩, e⟩ := h.1 x y r
      refine ⟨a, b, etk x c', ⟨k, k1, by rw [ecl x hx]; exact k2, by rw [ekd y hy]; exact k3⟩, fun j hj => ?_⟩
      rw [efi x j hj hx, efs y j hj hy]
      exact mr_addV (e j hj)
    · refine ⟨hp, hq, etkp, ⟨c, hc, eclp, ekdq⟩, fun j hj => ?_⟩
      rw [efip j hj, efsq j hj]
      exact mr_V0
  · rcases r with r | ⟨a, b⟩ <;> rcases r' with r' | ⟨a', b'⟩
    · exact h.2.1 x x' y r r'
    · exact absurd (b' ▸ r) (nq x)
    · exact absurd (b ▸ r') (nq x')
    · exact a.trans a'.symm
  · rcases r with r | ⟨a, b⟩ <;> rcases r' with r' | ⟨a', b'⟩
    · exact h.2.2 x y y' r r'
    · exact absurd (a' ▸ r) (np y)
    · exact absurd (a ▸ r') (np y')
    · exact b.trans b'.symm
/-- a field of a pair of objects is put -/
theorem mr_putHV {R : Nat → Nat → Prop} {cl : Nat → Int32} {fi : Nat → Int64} {tk kd fs fv : Nat → Int32} (h : mr_HV R cl fi tk kd fs fv) {x y n : Nat} (r : R x y) (hn : n < 3) {v : Int64} {s w : Int32} (hv : mr_V R v s w) : mr_HV R cl (vp_updL fi (3 * x + n) v) tk kd (upd fs (3 * y + n) s) (upd fv (3 * y + n) w) := by
  refine ⟨fun x' y' r' => ?_, h.2.1, h.2.2⟩
  obtain ⟨a, b, c, d, e⟩ := h.1 x' y' r'
  refine ⟨a, b, c, d, fun j hj => ?_⟩
  by_cases ex : x' = x
  · cases ex
    cases h.2.2 x y y' r r'
    by_cases ej : j = n
    · cases ej
      rw [pk_uLs, pk_us, pk_us]
      exact hv
    · rw [pk_uLn (by omega), pk_un (by omega), pk_un (by omega)]
      exact e j hj
  · have ey : y' ≠ y := fun z => ex (h.2.1 x' x y (z ▸ r') r)
    rw [pk_uLn (by omega), pk_un (by omega), pk_un (by omega)]
    exact e j hj
end
section
/-! X's worklist and Y's sweeps, as mathematics -/
def mr_WI (rt : Nat → Prop) (ed : Nat → Nat → Prop) (tk fo : Nat → Int32) (c : Nat) : Prop :=
  c = mr_cn tk 16 ∧ (∀ i, i < c → ∃ p, p < 16 ∧ fo i = nI p ∧ tk p ≠ 0) ∧ (∀ p, p < 16 → tk p ≠ 0 → ∃ i, i < c ∧ fo i = nI p) ∧ (∀ p, p < 16 → tk p ≠ 0 → mr_L rt ed p)
def mr_Gr (tk fo : Nat → Int32) (c : Nat) (tk' fo' : Nat → Int32) (c' : Nat) : Prop :=
  c ≤ c' ∧ (∀ p, tk p ≠ 0 → tk' p ≠ 0) ∧ (∀ i, i < c → fo' i = fo i)
theorem mr_Gr_r (tk fo : Nat → Int32) (c : Nat) : mr_Gr tk fo c tk fo c := ⟨Nat.le_refl c, fun _ h => h, fun _ _ => rfl⟩
theorem mr_Gr_t {tk fo : Nat → Int32} {c : Nat} {tk' fo' : Nat → Int32} {c' : Nat} {tk'' fo'' : Nat → Int32} {c'' : Nat} (h : mr_Gr tk fo c tk' fo' c') (h' : mr_Gr tk' fo' c' tk'' fo'' c'') : mr_Gr tk fo c tk'' fo'' c'' :=
  ⟨Nat.le_trans h.1 h'.1, fun p z => h'.2.1 p (h.2.1 p z), fun i hi => (h'.2.2 i (Nat.lt_of_lt_of_le hi h.1)).trans (h.2.2 i hi)⟩
theorem mr_WI_0 (rt : Nat → Prop) (ed : Nat → Nat → Prop) (tk fo : Nat → Int32) (h : ∀ x, x < 16 → tk x = 0) : mr_WI rt ed tk fo 0 :=
  ⟨(mr_cn_0 tk 16 h).symm, fun i hi => absurd hi (Nat.not_lt_zero i), fun p hp z => absurd (h p hp) z, fun p hp z => absurd (h p hp) z⟩
theorem mr_WI_c {rt : Nat → Prop} {ed : Nat → Nat → Prop} {tk fo : Nat → Int32} {c : Nat} (h : mr_WI rt ed tk fo c) : c ≤ 16 := by
  rw [h.1]; exact mr_cn_le tk 16
theorem mr_WI_p {rt : Nat → Prop} {ed : Nat → Nat → Prop} {tk fo : Nat → Int32} {c : Nat} (h : mr_WI rt ed tk fo c) {p : Nat} (hp : p < 16) (z : tk p = 0) (hl : mr_L rt ed p) : c < 16 ∧ mr_WI rt ed (upd tk p 1) (upd fo c (nI p)) (c + 1) ∧ mr_Gr tk fo c (upd tk p 1) (upd fo c (nI p)) (c + 1) := by
  have h1 := mr_cn_upd tk p 1 (by decide) z 16 hp
  have h2 := mr_cn_le (upd tk p 1) 16
  have h3 := h.1
  have hu : ∀ q, tk q ≠ 0 → upd tk p 1 q ≠ 0 := fun q hq => by
    by_cases e : q = p
    · subst e; rw [pk_us]; decide
    · rw [pk_un e]; exact hq
  refine ⟨by omega, ⟨by omega, fun i hi => ?_, fun q hq hz => ?_, fun q hq hz => ?_⟩, by omega, hu, fun i hi => pk_un (by omega)⟩
  · by_cases e : i = c
    · subst e
      exact ⟨p, hp, pk_us, by rw [pk_us]; decide⟩
    · obtain ⟨q, a, b, d⟩ := h.2.1 i (by omega)
      exact ⟨q, a, by rw [pk_un e]; exact b, hu q d⟩
  · by_cases e : q = p
    · subst e
      exact ⟨c, by omega, pk_us⟩
    · rw [pk_un e] at hz
      obtain ⟨i, a, b⟩ := h.2.2.1 q hq hz
      exact ⟨i, by omega, by rw [pk_un (by omega)]; exact b⟩
  · by_cases e : q = p
    · subst e; exact hl
    · rw [pk_un e] at hz
      exact h.2.2.2 q hq hz
/-- v is marked, if it is an object -/
def mr_Mk (tk : Nat → Int32) (v : Int64) : Prop := ∀ x, x < 16 → v = mr_O x → tk x ≠ 0
theorem mr_Mk_g {tk fo : Nat → Int32} {c : Nat} {tk' fo' : Nat → Int32} {c' : Nat} {v : Int64} (h : mr_Mk tk v) (g : mr_Gr tk fo c tk' fo' c') : mr_Mk tk' v := fun x a b => g.2.1 x (h x a b)
/-- one call of reach: what it leaves -/
theorem mr_reach {rt : Nat → Prop} {ed : Nat → Nat → Prop} {tk fo : Nat → Int32} {c : Nat} (h : mr_WI rt ed tk fo c) {v : Int64} (hW : mr_W v) (hl : ∀ x, x < 16 → v = mr_O x → mr_L rt ed x) : (mr_Mk tk v ∧ (¬ 8589934592 ≤ v ∨ ∃ p, p < 16 ∧ v = mr_O p ∧ tk p ≠ 0)) ∨ (∃ p, p < 16 ∧ v = mr_O p ∧ tk p = 0 ∧ c < 16 ∧ mr_WI rt ed (upd tk p 1) (upd fo c (nI p)) (c + 1) ∧ mr_Gr tk fo c (upd tk p 1) (upd fo c (nI p)) (c + 1) ∧ mr_Mk (upd tk p 1) v) := by
  rcases hW with h1 | ⟨x, hx, rfl⟩
  · exact Or.inl ⟨fun x hx e => absurd (e ▸ mr_O_le hx) h1, Or.inl h1⟩
  · by_cases z : tk x = 0
    · obtain ⟨a, b, d⟩ := mr_WI_p h hx z (hl x hx rfl)
      refine Or.inr ⟨x, hx, rfl, z, a, b, d, fun y hy e => ?_⟩
      cases mr_O_inj hx hy e
      rw [pk_us]; decide
    · refine Or.inl ⟨fun y hy e => ?_, Or.inr ⟨x, hx, rfl, z⟩⟩
      cases mr_O_inj hx hy e
      exact z
/-- the worklist is done: just the needed ones are taken -/
theorem mr_WI_end {gl lo st : Nat → Int64} {F : Nat} {d : Nat → Nat} {fi : Nat → Int64} {tk fo : Nat → Int32} {c : Nat} (h : mr_WI (mr_rX gl lo st F d) (mr_eX fi) tk fo c) (hg : ∀ g, g < 4 → mr_Mk tk (gl g)) (hlo : ∀ k, k < 4 * F → mr_Mk tk (lo k)) (hst : ∀ f i, f < F → i < d f → mr_Mk tk (st (6 * f + i))) (hf : ∀ i p, i < c → p < 16 → fo i = nI p → ∀ j, j < 3 → mr_Mk tk (fi (3 * p + j))) : mr_Is tk (mr_rX gl lo st F d) (mr_eX fi) := by
  intro x hx
  refine ⟨h.2.2.2 x hx, fun hL => ?_⟩
  refine (hL (fun x => x < 16 ∧ tk x ≠ 0) ⟨fun x hx => ?_, fun x y hx e => ?_⟩).2
  · rcases hx with ⟨g, a, b, c⟩ | ⟨k, a, b, c⟩ | ⟨f, i, a, a', b, c⟩
    · exact ⟨c, hg g a x c b⟩
    · exact ⟨c, hlo k a x c b⟩
    · exact ⟨c, hst f i a a' x c b⟩
  · obtain ⟨j, a, b, c⟩ := e
    obtain ⟨i, hi, e2⟩ := h.2.2.1 x hx.1 hx.2
    exact ⟨c, hf i x hi hx.1 e2 j a y c b⟩
/-- Y's flags: sound, the roots in, and done or many -/
def mr_MI (rt : Nat → Prop) (ed : Nat → Nat → Prop) (nd : Nat → Int32) : Prop := ∀ y, y < 16 → nd y ≠ 0 → mr_L rt ed y
def mr_Up (nd nd' : Nat → Int32) : Prop := ∀ y, nd y ≠ 0 → nd' y ≠ 0
theorem mr_Up_t {a b c : Nat → Int32} (h : mr_Up a b) (h' : mr_Up b c) : mr_Up a c := fun y z => h' y (h y z)
theorem mr_Up_u (nd : Nat → Int32) (q : Nat) : mr_Up nd (upd nd q 1) := fun y z => by
  by_cases e : y = q
  · subst e; rw [pk_us]; decide
  · rw [pk_un e]; exact z
theorem mr_MI_u {rt : Nat → Prop} {ed : Nat → Nat → Prop} {nd : Nat → Int32} {q : Nat} (h : mr_MI rt ed nd) (hq : mr_L rt ed q) : mr_MI rt ed (upd nd q 1) := fun y hy z => by
  by_cases e : y = q
  · subst e; exact hq
  · rw [pk_un e] at z; exact h y hy z
def mr_Dn (rt : Nat → Prop) (ed : Nat → Nat → Prop) (nd : Nat → Int32) (r : Nat) : Prop := (∀ y, y < 16 → mr_L rt ed y → nd y ≠ 0) ∨ r ≤ mr_cn nd 16
theorem mr_round {rt : Nat → Prop} {ed : Nat → Nat → Prop} {nd nd' : Nat → Int32} {r : Nat} (hb : ∀ y, rt y → y < 16) (hb' : ∀ y y', ed y y' → y' < 16) (hr : ∀ y, rt y → nd y ≠ 0) (hu : mr_Up nd nd') (he : ∀ y y', y < 16 → nd y ≠ 0 → ed y y' → nd' y' ≠ 0) (h : mr_Dn rt ed nd r) : mr_Dn rt ed nd' (r + 1) := by
  rcases h with h | h
  · exact Or.inl (fun y hy z => hu y (h y hy z))
  · by_cases z : ∀ y, y < 16 → nd' y ≠ 0 → nd y ≠ 0
    · refine Or.inl (fun y hy hL => hu y ?_)
      refine (hL (fun y => y < 16 ∧ nd y ≠ 0) ⟨fun y a => ⟨hb y a, hr y a⟩, fun y y' a e => ⟨hb' y y' e, z y' (hb' y y' e) (he y y' a.1 a.2 e)⟩⟩).2
    · have hx : ∃ k, k < 16 ∧ nd k = 0 ∧ nd' k ≠ 0 := by
        refine Classical.byContradiction fun no => z fun y hy hn hz => no ⟨y, hy, hz, hn⟩
      obtain ⟨k, a, b, c⟩ := hx
      have := mr_cn_lt nd nd' 16 k a (fun x _ w => hu x w) b c
      exact Or.inr (by omega)
theorem mr_Dn_end {rt : Nat → Prop} {ed : Nat → Nat → Prop} {nd : Nat → Int32} (h : mr_Dn rt ed nd 16) (hm : mr_MI rt ed nd) : mr_Is nd rt ed := by
  intro y hy
  refine ⟨hm y hy, fun hL => ?_⟩
  rcases h with h | h
  · exact h y hy hL
  · have := mr_cn_le nd 16
    exact mr_cn_full nd 16 (by omega) y hy
theorem mr_rY_b {gs gv ls lv ss sv : Nat → Int32} {F : Nat} {d : Nat → Nat} (y : Nat) (h : mr_rY gs gv ls lv ss sv F d y) : y < 16 := by
  rcases h with ⟨g, a, b⟩ | ⟨k, a, b⟩ | ⟨f, i, a, a', b⟩
  · exact b.2.2
  · exact b.2.2
  · exact b.2.2
theorem mr_eY_b {fs fv : Nat → Int32} (y y' : Nat) (h : mr_eY fs fv y y') : y' < 16 := by
  obtain ⟨j, a, b⟩ := h
  exact b.2.2
end
section
/-! loops in the form 'there is one end state, and whatever is asked of it is asked at the start'; indices; stacks -/
theorem mr_lpX {α σ : Type} (W : α → Nat → Nat → σ → Prop) (K : α → σ → Prop) (I : Nat → σ → Prop) (Fi : σ → Prop) (e : Nat) (hx : ∀ s, I e s → Fi s ∧ ∀ a n, K a s → W a (n + 1) e s) (hs : ∀ i s, i < e → I i s → (Fi s ∧ ∀ a n, K a s → W a (n + 1) i s) ∨ (∃ s', I (i + 1) s' ∧ ∀ a n, W a n (i + 1) s' → W a (n + 1) i s)) : ∀ d i s, i + d = e → I i s → ∃ s', Fi s' ∧ ∀ a n, d < n → K a s' → W a n i s := by
  intro d
  induction d with
  | zero =>
    intro i s hi h
    have hi' : i = e := hi
    subst hi'
    obtain ⟨a, b⟩ := hx s h
    refine ⟨s, a, fun c n hn hk => ?_⟩
    obtain ⟨m, rfl⟩ : ∃ m, n = m + 1 := ⟨n - 1, by omega⟩
    exact b c m hk
  | succ d ih =>
    intro i s hi h
    rcases hs i s (by omega) h with ⟨a, b⟩ | ⟨s', a, b⟩
    · refine ⟨s, a, fun c n hn hk => ?_⟩
      obtain ⟨m, rfl⟩ : ∃ m, n = m + 1 := ⟨n - 1, by omega⟩
      exact b c m hk
    · obtain ⟨s'', p, q⟩ := ih (i + 1) s' (by omega) a
      refine ⟨s'', p, fun c n hn hk => ?_⟩
      obtain ⟨m, rfl⟩ : ∃ m, n = m + 1 := ⟨n - 1, by omega⟩
      exact b c m (q c m (by omega) hk)
theorem mr_lpE {α σ : Type} (W : α → Nat → Nat → σ → Prop) (K : α → σ → Prop) (I : Nat → σ → Prop) (e : Nat) (hx : ∀ s, I e s → ∀ a n, K a s → W a (n + 1) e s) (hs : ∀ i s, i < e → I i s → ∃ s', I (i + 1) s' ∧ ∀ a n, W a n (i + 1) s' → W a (n + 1) i s) (s : σ) (h : I 0 s) : ∃ s', I e s' ∧ ∀ a n, e < n → K a s' → W a n 0 s :=
  mr_lpX W K I (I e) e (fun s a => ⟨a, hx s a⟩) (fun i s a b => Or.inr (hs i s a b)) e 0 s (Nat.zero_add e) h
/-- the same for a loop whose end is known as a function of its start -/
theorem mr_x6 (f i : Nat) : nI f * 6 + nI i = nI (6 * f + i) := by
  rw [show (6 : Int32) = nI 6 from rfl, pk_mul, nI_add, Nat.mul_comm]
theorem mr_y6 (f i : Nat) : 6 * nI f + nI i = nI (6 * f + i) := by
  rw [show (6 : Int32) = nI 6 from rfl, pk_mul, nI_add]
theorem mr_x4 (f i : Nat) : nI f * 4 + nI i = nI (4 * f + i) := by
  rw [show (4 : Int32) = nI 4 from rfl, pk_mul, nI_add, Nat.mul_comm]
theorem mr_y4 (f i : Nat) : 4 * nI f + nI i = nI (4 * f + i) := by
  rw [show (4 : Int32) = nI 4 from rfl, pk_mul, nI_add]
theorem mr_x3 (f i : Nat) : nI f * 3 + nI i = nI (3 * f + i) := by
  rw [show (3 : Int32) = nI 3 from rfl, pk_mul, nI_add, Nat.mul_comm]
theorem mr_y3 (f i : Nat) : 3 * nI f + nI i = nI (3 * f + i) := by
  rw [show (3 : Int32) = nI 3 from rfl, pk_mul, nI_add]
theorem mr_x4' (f : Nat) : nI f * 4 = nI (4 * f) := by
  rw [show (4 : Int32) = nI 4 from rfl, pk_mul, Nat.mul_comm]
theorem mr_y4' (f : Nat) : 4 * nI f = nI (4 * f) := by
  rw [show (4 : Int32) = nI 4 from rfl, pk_mul]
theorem mr_y6' (f : Nat) : 6 * nI f = nI (6 * f) := by
  rw [show (6 : Int32) = nI 6 from rfl, pk_mul]
theorem mr_x6' (f : Nat) : nI f * 6 = nI (6 * f) := by
  rw [show (6 : Int32) = nI 6 from rfl, pk_mul, Nat.mul_comm]
theorem mr_and15 {y : Nat} (h : y < 16) : nI y &&& 15 = nI y := by
  rw [pk_andN (by omega) 4 (by decide), Nat.mod_eq_of_lt (by omega)]
theorem mr_b1 : vp_nar .boolean 1 = 1 := by decide
theorem mr_b0 : vp_nar .boolean 0 = 0 := by decide
/-- depths -/
def mr_ud (d : Nat → Nat) (f k : Nat) : Nat → Nat := fun j => if j = f then k else d j
theorem mr_ud_s {d : Nat → Nat} {f k : Nat} : mr_ud d f k f = k := if_pos rfl
theorem mr_ud_n {d : Nat → Nat} {f k j : Nat} (h : j ≠ f) : mr_ud d f k j = d j := if_neg h
def mr_B (F : Nat) (d : Nat → Nat) (de : Nat → Int32) : Prop := ∀ f, f < F → de f = nI (d f)
theorem mr_B_u {F f k : Nat} {d : Nat → Nat} {de : Nat → Int32} (h : mr_B F d de) : mr_B F (mr_ud d f k) (upd de f (nI k)) := fun g hg => by
  by_cases e : g = f
  · subst e; rw [pk_us, mr_ud_s]
  · rw [pk_un e, mr_ud_n e]; exact h g hg
theorem mr_B_e {F : Nat} {d d' : Nat → Nat} {de : Nat → Int32} (h : mr_B F d de) (e : ∀ f, f < F → d f = d' f) : mr_B F d' de := fun g hg => by
  rw [h g hg, e g hg]
/-- every depth is within 6, and within 4 below the latest frame f -/
def mr_DB (f : Nat) (d : Nat → Nat) : Prop := d f ≤ 6 ∧ ∀ g, g < f → d g ≤ 4
theorem mr_DB_u {f k : Nat} {d : Nat → Nat} (h : mr_DB f d) (hk : k ≤ 6) : mr_DB f (mr_ud d f k) :=
  ⟨by rw [mr_ud_s]; exact hk, fun g hg => by rw [mr_ud_n (by omega)]; exact h.2 g hg⟩
/-- the latest frame's stack changes, all else stays -/
theorem mr_RVtop {R : Nat → Nat → Prop} {f k : Nat} {d : Nat → Nat} {gl lo st : Nat → Int64} {gs gv ls lv ss sv : Nat → Int32} (hd : mr_DB f d) (h : mr_RV R (f + 1) d gl lo st gs gv ls lv ss sv) {st' : Nat → Int64} {ss' sv' : Nat → Int32} (e1 : ∀ j, j < 6 * f → st' j = st j) (e2 : ∀ j, j < 6 * f → ss' j = ss j) (e3 : ∀ j, j < 6 * f → sv' j = sv j) (ht : ∀ i, i < k → mr_V R (st' (6 * f + i)) (ss' (6 * f + i)) (sv' (6 * f + i))) : mr_RV R (f + 1) (mr_ud d f k) gl lo st' gs gv ls lv ss' sv' := by
  refine ⟨h.1, h.2.1, fun g i hg hi => ?_⟩
  by_cases e : g = f
  · subst e
    rw [mr_ud_s] at hi
    exact ht i hi
  · rw [mr_ud_n e] at hi
    have h4 := hd.2 g (by omega)
    rw [e1 _ (by omega), e2 _ (by omega), e3 _ (by omega)]
    exact h.2.2 g i hg hi
/-- some values are popped, no array changes -/
theorem mr_RVpop {R : Nat → Nat → Prop} {f k : Nat} {d : Nat → Nat} {gl lo st : Nat → Int64} {gs gv ls lv ss sv : Nat → Int32} (hd : mr_DB f d) (h : mr_RV R (f + 1) d gl lo st gs gv ls lv ss sv) (hk : k ≤ d f) : mr_RV R (f + 1) (mr_ud d f k) gl lo st gs gv ls lv ss sv :=
  mr_RVtop hd h (fun _ _ => rfl) (fun _ _ => rfl) (fun _ _ => rfl) (fun i hi => h.2.2 f i (by omega) (by omega))
/-- k values stay of the latest stack, and v comes on top -/
theorem mr_RVpush {R : Nat → Nat → Prop} {f k : Nat} {d : Nat → Nat} {gl lo st : Nat → Int64} {gs gv ls lv ss sv : Nat → Int32} (hd : mr_DB f d) (h : mr_RV R (f + 1) d gl lo st gs gv ls lv ss sv) (hk : k ≤ d f) {v : Int64} {s w : Int32} (hv : mr_V R v s w) : mr_RV R (f + 1) (mr_ud d f (k + 1)) gl lo (vp_updL st (6 * f + k) v) gs gv ls lv (upd ss (6 * f + k) s) (upd sv (6 * f + k) w) := by
  refine mr_RVtop hd h (fun j hj => pk_uLn (by omega)) (fun j hj => pk_un (by omega)) (fun j hj => pk_un (by omega)) (fun i hi => ?_)
  by_cases e : i = k
  · subst e
    rw [pk_uLs, pk_us, pk_us]
    exact hv
  · rw [pk_uLn (by omega), pk_un (by omega), pk_un (by omega)]
    exact h.2.2 f i (by omega) (by omega)
/-- a global is given, a local is stored -/
theorem mr_RVglob {R : Nat → Nat → Prop} {F n : Nat} {d : Nat → Nat} {gl lo st : Nat → Int64} {gs gv ls lv ss sv : Nat → Int32} (h : mr_RV R F d gl lo st gs gv ls lv ss sv) {v : Int64} {s w : Int32} (hv : mr_V R v s w) : mr_RV R F d (vp_updL gl n v) lo st (upd gs n s) (upd gv n w) ls lv ss sv := by
  refine ⟨fun g hg => ?_, h.2.1, h.2.2⟩
  by_cases e : g = n
  · subst e
    rw [pk_uLs, pk_us, pk_us]
    exact hv
  · rw [pk_uLn e, pk_un e, pk_un e]
    exact h.1 g hg
theorem mr_RVloc {R : Nat → Nat → Prop} {F n : Nat} {d : Nat → Nat} {gl lo st : Nat → Int64} {gs gv ls lv ss sv : Nat → Int32} (h : mr_RV R F d gl lo st gs gv ls lv ss sv) {v : Int64} {s w : Int32} (hv : mr_V R v s w) : mr_RV R F d gl (vp_updL lo n v) st gs gv (upd ls n s) (upd lv n w) ss sv := by
  refine ⟨h.1, fun g hg => ?_, h.2.2⟩
  by_cases e : g = n
  · subst e
    rw [pk_uLs, pk_us, pk_us]
    exact hv
  · rw [pk_uLn e, pk_un e, pk_un e]
    exact h.2.1 g hg
/-- a frame is entered: its four locals, an empty stack -/
theorem mr_RVenter {R : Nat → Nat → Prop} {F : Nat} {d : Nat → Nat} {gl lo st : Nat → Int64} {gs gv ls lv ss sv : Nat → Int32} (h : mr_RV R F d gl lo st gs gv ls lv ss sv) {lo' : Nat → Int64} {ls' lv' : Nat → Int32} (e1 : ∀ j, j < 4 * F → lo' j = lo j) (e2 : ∀ j, j < 4 * F → ls' j = ls j) (e3 : ∀ j, j < 4 * F → lv' j = lv j) (h4 : ∀ i, i < 4 → mr_V R (lo' (4 * F + i)) (ls' (4 * F + i)) (lv' (4 * F + i))) : mr_RV R (F + 1) (mr_ud d F 0) gl lo' st gs gv ls' lv' ss sv := by
  refine ⟨h.1, fun k hk => ?_, fun f i hf hi => ?_⟩
  · by_cases e : k < 4 * F
    · rw [e1 k e, e2 k e, e3 k e]
      exact h.2.1 k e
    · have h5 := h4 (k - 4 * F) (by omega)
      rw [show 4 * F + (k - 4 * F) = k from by omega] at h5
      exact h5
  · by_cases e : f = F
    · subst e
      rw [mr_ud_s] at hi
      omega
    · rw [mr_ud_n e] at hi
      exact h.2.2 f i (by omega) hi
/-- the latest frame is left -/
theorem mr_RVleave {R : Nat → Nat → Prop} {F : Nat} {d : Nat → Nat} {gl lo st : Nat → Int64} {gs gv ls lv ss sv : Nat → Int32} (h : mr_RV R (F + 1) d gl lo st gs gv ls lv ss sv) : mr_RV R F d gl lo st gs gv ls lv ss sv :=
  ⟨h.1, fun k hk => h.2.1 k (by omega), fun f i hf hi => h.2.2 f i (by omega) hi⟩
theorem mr_RV_e {R : Nat → Nat → Prop} {F : Nat} {d d' : Nat → Nat} {gl lo st : Nat → Int64} {gs gv ls lv ss sv : Nat → Int32} (h : mr_RV R F d gl lo st gs gv ls lv ss sv) (e : ∀ f, f < F → d f = d' f) : mr_RV R F d' gl lo st gs gv ls lv ss sv :=
  ⟨h.1, h.2.1, fun f i hf hi => h.2.2 f i hf (by rw [e f hf]; exact hi)⟩
end
section
/-! what a look answers as a long; the code; the walk over the rows above a row -/
theorem mr_lk_t {n s : Int32} (hs : s = 0 ∨ s = 1 ∨ s = 2) : (8 * n.toInt64 + s.toInt64).toInt = 8 * n.toInt + s.toInt := by
  have a := Int32.le_toInt n
  have b := Int32.toInt_lt n
  have c : 0 ≤ s.toInt ∧ s.toInt ≤ 2 := by rcases hs with rfl | rfl | rfl <;> decide
  rw [Int64.toInt_add, Int64.toInt_mul, Int32.toInt_toInt64, Int32.toInt_toInt64, show (8 : Int64).toInt = 8 from by decide, Int.bmod_eq_of_le (n := 8 * n.toInt) (by omega) (by omega)]
  exact Int.bmod_eq_of_le (by omega) (by omega)
theorem mr_lk_1 {n s : Int32} (hs : s = 0 ∨ s = 1 ∨ s = 2) : ¬ 8 * n.toInt64 + s.toInt64 = -1 := fun h => by
  have h1 := mr_lk_t (n := n) hs
  rw [h, show (-1 : Int64).toInt = -1 from by decide] at h1
  have c : 0 ≤ s.toInt ∧ s.toInt ≤ 2 := by rcases hs with rfl | rfl | rfl <;> decide
  omega
theorem mr_lk_2 {n s : Int32} (hs : s = 0 ∨ s = 1 ∨ s = 2) : ¬ 8 * n.toInt64 + s.toInt64 = -2 := fun h => by
  have h1 := mr_lk_t (n := n) hs
  rw [h, show (-2 : Int64).toInt = -2 from by decide] at h1
  have c : 0 ≤ s.toInt ∧ s.toInt ≤ 2 := by rcases hs with rfl | rfl | rfl <;> decide
  omega
theorem mr_lk_n {n s : Int32} (hs : s = 0 ∨ s = 1 ∨ s = 2) : ((8 * n.toInt64 + s.toInt64) >>> ((3 : Int32).toInt64 &&& 63)).toInt32 = n := by
  have a := Int32.le_toInt n
  have b := Int32.toInt_lt n
  have c : 0 ≤ s.toInt ∧ s.toInt ≤ 2 := by rcases hs with rfl | rfl | rfl <;> decide
  apply Int32.toInt_inj.mp
  have e : ((8 * n.toInt64 + s.toInt64) >>> ((3 : Int32).toInt64 &&& 63)).toInt = (8 * n.toInt64 + s.toInt64).toInt >>> 3 := by
    have hD : (((3 : Int32).toInt64 &&& 63).toBitVec.smod 64).toNat = 3 := by decide
    have h2 : ((8 * n.toInt64 + s.toInt64) >>> ((3 : Int32).toInt64 &&& 63)).toInt = (8 * n.toInt64 + s.toInt64).toInt >>> (((3 : Int32).toInt64 &&& 63).toBitVec.smod 64).toNat := BitVec.toInt_sshiftRight ..
    rw [h2, hD]
  rw [Int64.toInt_toInt32, e, mr_lk_t hs, Int.shiftRight_eq_div_pow]
  have g : (8 * n.toInt + s.toInt) / ((2 ^ 3 : Nat) : Int) = n.toInt := by
    have : ((2 ^ 3 : Nat) : Int) = 8 := by decide
    rw [this]
    omega
  rw [g]
  exact Int.bmod_eq_of_le (by omega) (by omega)
theorem mr_lk_s {n s : Int32} (hs : s = 0 ∨ s = 1 ∨ s = 2) : ((8 * n.toInt64 + s.toInt64) &&& 7).toInt32 = s := by
  have h1 := mr_lk_t (n := n) hs
  generalize 8 * n.toInt64 + s.toInt64 = z at h1 ⊢
  have h2 : z &&& 7 = lN (z.toBitVec.toNat % 8) := by
    obtain ⟨k, hk, rfl⟩ := wb_of z
    rw [wb_tn hk]
    exact wb_mask (k := 3) hk (by decide)
  rw [h2, lN_i]
  have h3 : z.toInt = z.toBitVec.toInt := rfl
  rw [h3, BitVec.toInt_eq_toNat_cond] at h1
  have h4 := z.toBitVec.isLt
  have h5 : (z.toBitVec.toNat % 8 : Nat) = s.toInt.toNat := by
    have c : 0 ≤ s.toInt ∧ s.toInt ≤ 2 := by rcases hs with rfl | rfl | rfl <;> decide
    split at h1 <;> omega
  rw [h5]
  rcases hs with rfl | rfl | rfl <;> decide
/-- which operands fit an instruction -/
def mr_fit (o : Nat) (n : Int32) : Prop :=
  ((o = 3 ∨ o = 4 ∨ o = 15 ∨ o = 18 ∨ o = 19 ∨ o = 21 ∨ o = 22) → ∃ j : Nat, j < 4 ∧ n = nI j) ∧ ((o = 16 ∨ o = 17) → ∃ j : Nat, j < 3 ∧ n = nI j)
def mr_ok (m : Nat) (c : Int32) : Prop := c = -1 ∨ ∃ a : Nat, a < m ∧ c = nI a
def mr_CD (op ns ab sr : Nat → Int32) : Prop :=
  (∀ i, i < 60 → ∃ o, o < 24 ∧ op i = nI o ∧ mr_fit o (ns i)) ∧ (∀ c, c < 4 → mr_ok 4 (ab c)) ∧ (∀ k, k < 16 → mr_ok 60 (sr k))
theorem mr_ne1 {a : Nat} (h : a < 2 ^ 31) : ¬ nI a = -1 := fun e => by
  have h1 := nI_toInt h
  rw [e, show (-1 : Int32).toInt = -1 from by decide] at h1
  omega
/-- the method that a slot means, looked for in k rows from c on -/
def mr_fd (ab sr : Nat → Int32) (slot : Nat) : Nat → Int32 → Int32
  | 0, _ => -1
  | k + 1, c => if c = -1 then -1 else if sr (4 * c.toNatClampNeg + slot) = -1 then mr_fd ab sr slot k (ab c.toNatClampNeg) else sr (4 * c.toNatClampNeg + slot)
theorem mr_fd_1 (ab sr : Nat → Int32) (slot k : Nat) : mr_fd ab sr slot k (-1) = -1 := by
  cases k with
  | zero => rfl
  | succ k => rw [mr_fd, if_pos rfl]
theorem mr_fd_n {ab sr : Nat → Int32} {slot k a : Nat} (ha : a < 4) (h : sr (4 * a + slot) = -1) : mr_fd ab sr slot (k + 1) (nI a) = mr_fd ab sr slot k (ab a) := by
  rw [mr_fd, if_neg (mr_ne1 (by omega)), nI_clamp (by omega), if_pos h]
theorem mr_fd_s {ab sr : Nat → Int32} {slot k a : Nat} (ha : a < 4) (h : ¬ sr (4 * a + slot) = -1) : mr_fd ab sr slot (k + 1) (nI a) = sr (4 * a + slot) := by
  rw [mr_fd, if_neg (mr_ne1 (by omega)), nI_clamp (by omega), if_neg h]
theorem mr_fd_ok {op ns ab sr : Nat → Int32} (h : mr_CD op ns ab sr) {slot : Nat} (hs : slot < 4) : ∀ (k : Nat) (c : Int32), mr_ok 4 c → mr_ok 60 (mr_fd ab sr slot k c) := by
  intro k
  induction k with
  | zero => intro c _; exact Or.inl rfl
  | succ k ih =>
    intro c hc
    rcases hc with rfl | ⟨a, ha, rfl⟩
    · rw [mr_fd_1]; exact Or.inl rfl
    · by_cases z : sr (4 * a + slot) = -1
      · rw [mr_fd_n ha z]
        exact ih _ (h.2.1 a ha)
      · rw [mr_fd_s ha z]
        exact h.2.2 _ (by omega)
/-- is c, or a row above it within k, the row n -/
def mr_is (ab : Nat → Int32) (n : Int32) : Nat → Int32 → Int32
  | 0, _ => 0
  | k + 1, c => if c = -1 then 0 else if c = n then 1 else mr_is ab n k (ab c.toNatClampNeg)
theorem mr_is_1 (ab : Nat → Int32) (n : Int32) (k : Nat) : mr_is ab n k (-1) = 0 := by
  cases k with
  | zero => rfl
  | succ k => rw [mr_is, if_pos rfl]
theorem mr_is_n {ab : Nat → Int32} {n : Int32} {k a : Nat} (ha : a < 4) (h : ¬ nI a = n) : mr_is ab n (k + 1) (nI a) = mr_is ab n k (ab a) := by
  rw [mr_is, if_neg (mr_ne1 (by omega)), if_neg h, nI_clamp (by omega)]
theorem mr_is_s {ab : Nat → Int32} {n : Int32} {k a : Nat} (ha : a < 4) (h : nI a = n) : mr_is ab n (k + 1) (nI a) = 1 := by
  rw [mr_is, if_neg (mr_ne1 (by omega)), if_pos h]
theorem mr_is_01 (ab : Nat → Int32) (n : Int32) : ∀ (k : Nat) (c : Int32), mr_is ab n k c = 0 ∨ mr_is ab n k c = 1 := by
  intro k
  induction k with
  | zero => intro c; exact Or.inl rfl
  | succ k ih =>
    intro c
    rw [mr_is]
    split
    · exact Or.inl rfl
    · split
      · exact Or.inr rfl
      · exact ih _
end
section
/-! X's small methods, each with a general post -/
def mr_tk (o : Nat) : Nat := [0, 0, 0, 0, 1, 1, 1, 2, 2, 2, 2, 2, 2, 0, 1, 0, 1, 2, 1, 2, 1, 0, 1, 1].getD o 0
def mr_lv (o : Nat) : Nat := [0, 1, 1, 1, 0, 0, 2, 2, 1, 1, 1, 1, 1, 0, 0, 1, 1, 0, 1, 0, 0, 1, 0, 0].getD o 0
theorem mr_24 {P : Nat → Prop} (h0 : P 0) (h1 : P 1) (h2 : P 2) (h3 : P 3) (h4 : P 4) (h5 : P 5) (h6 : P 6) (h7 : P 7) (h8 : P 8) (h9 : P 9) (h10 : P 10) (h11 : P 11) (h12 : P 12) (h13 : P 13) (h14 : P 14) (h15 : P 15) (h16 : P 16) (h17 : P 17) (h18 : P 18) (h19 : P 19) (h20 : P 20) (h21 : P 21) (h22 : P 22) (h23 : P 23) (o : Nat) (ho : o < 24) : P o := by
  have h : o = 0 ∨ o = 1 ∨ o = 2 ∨ o = 3 ∨ o = 4 ∨ o = 5 ∨ o = 6 ∨ o = 7 ∨ o = 8 ∨ o = 9 ∨ o = 10 ∨ o = 11 ∨ o = 12 ∨ o = 13 ∨ o = 14 ∨ o = 15 ∨ o = 16 ∨ o = 17 ∨ o = 18 ∨ o = 19 ∨ o = 20 ∨ o = 21 ∨ o = 22 ∨ o = 23 := by omega
  rcases h with rfl | rfl | rfl | rfl | rfl | rfl | rfl | rfl | rfl | rfl | rfl | rfl | rfl | rfl | rfl | rfl | rfl | rfl | rfl | rfl | rfl | rfl | rfl | rfl <;> assumption
theorem mr_tk_le : ∀ o, o < 24 → mr_tk o ≤ 2 := by decide
theorem mr_lv_le : ∀ o, o < 24 → mr_lv o ≤ mr_tk o + 1 := by decide
theorem mr_xtakes (post : Int32 → Prop) (o : Nat) (ho : o < 24) (h : post (nI (mr_tk o))) : wpX_takes post (nI o) := by
  revert h
  revert o
  apply mr_24 <;> (intro h; unfold wpX_takes; repeat (first | refine br_f (by decide) ?_ | refine br_t (by decide) ?_)) <;> exact h
theorem mr_xleaves (post : Int32 → Prop) (o : Nat) (ho : o < 24) (h1 : mr_tk o < mr_lv o → post 1) (h0 : ¬ mr_tk o < mr_lv o → post 0) : wpX_leavesMore post (nI o) := by
  revert h1 h0
  revert o
  apply mr_24 <;> (intro h1 h0; unfold wpX_leavesMore; repeat (first | refine br_f (by decide) ?_ | refine br_t (by decide) ?_)) <;> first | exact h1 (by decide) | exact h0 (by decide)
section
variable {tc cf fc la oc sc mc g1 g2 fr ov en : Int32} {op ns ab sr cl tk fo du de ke gs gv kd fs fv ls lv ss sv he nd : Nat → Int32} {gl fi lo st : Nat → Int64} {R : Nat → Nat → Prop} {f : Nat} {d : Nat → Nat}
theorem mr_xpush {k : Nat} {v : Int64} {post : SX → Prop} (hf : f < 10) (hk : k < 6) (e : de f = nI k) (h : post (tc, cf, fc, nI f, oc, sc, mc, g1, g2, op, ns, ab, sr, gl, cl, fi, tk, fo, du, upd de f (nI (k + 1)), lo, vp_updL st (6 * f + k) v, ke)) : wpX_push post (tc, cf, fc, nI f, oc, sc, mc, g1, g2, op, ns, ab, sr, gl, cl, fi, tk, fo, du, de, lo, st, ke) v := by
  have i1 : vp_in (nI f) 10 := vp_in_nI hf (by decide)
  have i2 : (nI f).toNatClampNeg = f := nI_clamp (by omega)
  have i3 : nI f * 6 + de (nI f).toNatClampNeg = nI (6 * f + k) := by rw [i2, e, mr_x6]
  unfold wpX_push
  dsimp only
  refine ⟨i1, by rw [i3]; exact vp_in_nI (by omega) (by decide), nm_r (by rw [i3, nI_clamp (by omega)]) ⟨i1, i1, nm_r (by rw [i2, e, nI_1]) h⟩⟩
theorem mr_xpop {k : Nat} {post : Int64 → SX → Prop} (hf : f < 10) (hk : k < 6) (e : de f = nI (k + 1)) (h : post (st (6 * f + k)) (tc, cf, fc, nI f, oc, sc, mc, g1, g2, op, ns, ab, sr, gl, cl, fi, tk, fo, du, upd de f (nI k), lo, st, ke)) : wpX_pop post (tc, cf, fc, nI f, oc, sc, mc, g1, g2, op, ns, ab, sr, gl, cl, fi, tk, fo, du, de, lo, st, ke) := by
  have i1 : vp_in (nI f) 10 := vp_in_nI hf (by decide)
  have i2 : (nI f).toNatClampNeg = f := nI_clamp (by omega)
  have i3 : nI f * 6 + upd de f (nI k) (nI f).toNatClampNeg = nI (6 * f + k) := by rw [i2, pk_us, mr_x6]
  unfold wpX_pop
  dsimp only
  refine ⟨i1, i1, nm_r (e' := upd de f (nI k)) (by rw [i2, e, nI_pred]) ⟨i1, by rw [i3]; exact vp_in_nI (by omega) (by decide), ?_⟩⟩
  rw [i3, nI_clamp (by omega)]
  exact h
theorem mr_xpushInt {k : Nat} {w : Int32} {post : SX → Prop} (hf : f < 10) (hk : k < 6) (e : de f = nI k) (h : post (tc, cf, fc, nI f, oc, sc, mc, g1, g2, op, ns, ab, sr, gl, cl, fi, tk, fo, du, upd de f (nI (k + 1)), lo, vp_updL st (6 * f + k) (mr_I w), ke)) : wpX_pushInt post (tc, cf, fc, nI f, oc, sc, mc, g1, g2, op, ns, ab, sr, gl, cl, fi, tk, fo, du, de, lo, st, ke) w := by
  unfold wpX_pushInt
  dsimp only
  unfold wpX_intValue
  rw [mr_int]
  exact mr_xpush hf hk e h
theorem mr_xval {k t : Nat} {post : Int64 → Prop} (hf : f < 10) (hk : k < 6) (e : de f = nI (k + t)) (ht : t ≤ 6) (h : post (st (6 * f + k))) : wpX_valueFromTop post (tc, cf, fc, nI f, oc, sc, mc, g1, g2, op, ns, ab, sr, gl, cl, fi, tk, fo, du, de, lo, st, ke) (nI t) := by
  have i1 : vp_in (nI f) 10 := vp_in_nI hf (by decide)
  have i2 : (nI f).toNatClampNeg = f := nI_clamp (by omega)
  have i3 : nI f * 6 + de (nI f).toNatClampNeg - nI t = nI (6 * f + k) := by rw [i2, e, mr_x6, pk_sub (by omega)]; exact congrArg nI (by omega)
  unfold wpX_valueFromTop
  dsimp only
  refine ⟨i1, by rw [i3]; exact vp_in_nI (by omega) (by decide), ?_⟩
  rw [i3, nI_clamp (by omega)]
  exact h
theorem mr_xisInt {k t : Nat} {s w : Int32} {post : Int32 → Prop} (hf : f < 10) (hk : k < 6) (e : de f = nI (k + t)) (ht : t ≤ 6) (hv : mr_V R (st (6 * f + k)) s w) (h1 : s = 1 → post 1) (h0 : ¬ s = 1 → post 0) : wpX_isInt post (tc, cf, fc, nI f, oc, sc, mc, g1, g2, op, ns, ab, sr, gl, cl, fi, tk, fo, du, de, lo, st, ke) (nI t) := by
  unfold wpX_isInt
  dsimp only
  refine mr_xval hf hk e ht ?_
  unfold wpX_sortOf
  rw [mr_V_int hv]
  exact br_c h1 h0
theorem mr_xisObj {k t : Nat} {s w : Int32} {post : Int32 → Prop} (hf : f < 10) (hk : k < 6) (e : de f = nI (k + t)) (ht : t ≤ 6) (hv : mr_V R (st (6 * f + k)) s w) (h1 : s = 2 → post 1) (h0 : ¬ s = 2 → post 0) : wpX_isObject post (tc, cf, fc, nI f, oc, sc, mc, g1, g2, op, ns, ab, sr, gl, cl, fi, tk, fo, du, de, lo, st, ke) (nI t) := by
  unfold wpX_isObject
  dsimp only
  refine mr_xval hf hk e ht ?_
  refine br_c (fun z => h0 fun z2 => ?_) (fun z => h1 ?_)
  · exact Int64.not_le.mpr z ((mr_V_obj hv).mpr z2)
  · exact (mr_V_obj hv).mp (Int64.not_lt.mp z)
theorem mr_xstack {k : Nat} {post : Int32 → Prop} (hf : f < 10) (hk : k ≤ 6) (e : de f = nI k) (o : Nat) (ho : o < 24) (h0 : (k < mr_tk o ∨ (k = 6 ∧ mr_tk o < mr_lv o)) → post 0) (h1 : ¬ (k < mr_tk o ∨ (k = 6 ∧ mr_tk o < mr_lv o)) → post 1) : wpX_stackFits post (tc, cf, fc, nI f, oc, sc, mc, g1, g2, op, ns, ab, sr, gl, cl, fi, tk, fo, du, de, lo, st, ke) (nI o) := by
  have i1 : vp_in (nI f) 10 := vp_in_nI hf (by decide)
  have i2 : (nI f).toNatClampNeg = f := nI_clamp (by omega)
  have i3 := mr_tk_le o ho
  unfold wpX_stackFits
  dsimp only
  refine ⟨i1, nm_r (e' := nI k) (by rw [i2, e]) (mr_xtakes _ o ho ?_)⟩
  refine pk_lt k (mr_tk o) (fun z => h0 (Or.inl z)) (fun z => ?_)
  refine pk_lt k 6 (fun z2 => h1 (by omega)) (fun z2 => ?_)
  refine mr_xleaves _ o ho (fun z3 => br_f (by decide) (h0 (Or.inr ⟨by omega, z3⟩))) (fun z3 => br_t rfl (h1 (by omega)))
end
end
section
/-! sorts that fit; Y's small methods, each with a general post -/
def mr_so (o : Nat) (a b : Int32) : Prop :=
  ((o = 8 ∨ o = 9 ∨ o = 10 ∨ o = 11) → a = 1 ∧ b = 1) ∧ ((o = 14 ∨ o = 23) → a = 1) ∧ (o = 16 → a = 2) ∧ ((o = 17 ∨ o = 19) → b = 2)
section
variable {tc cf fc la oc sc mc g1 g2 fr ov en : Int32} {op ns ab sr cl tk fo du de ke gs gv kd fs fv ls lv ss sv he nd : Nat → Int32} {gl fi lo st : Nat → Int64} {R : Nat → Nat → Prop} {f : Nat} {d : Nat → Nat}
theorem mr_xs80 {k : Nat} {a wa b wb : Int32} {post : Int32 → Prop} (hf : f < 10) (hk : k ≤ 6) (e : de f = nI k) (h2 : 2 ≤ k) (hA : mr_V R (st (6 * f + (k - 1))) a wa) (hB : mr_V R (st (6 * f + (k - 2))) b wb) (h1 : a = 1 ∧ b = 1 → post 1) (h0 : ¬ (a = 1 ∧ b = 1) → post 0) : wX_sortsFit_80 post tc cf fc (nI f) oc sc mc g1 g2 op ns ab sr gl cl fi tk fo du de lo st ke := by
  unfold wX_sortsFit_80
  refine mr_xisInt (k := k - 1) (t := 1) hf (by omega) (by rw [e]; exact congrArg nI (by omega)) (by omega) hA (fun z => br_f (by decide) ?_) (fun z => br_t rfl (h0 fun q => z q.1))
  exact mr_xisInt (k := k - 2) (t := 2) hf (by omega) (by rw [e]; exact congrArg nI (by omega)) (by omega) hB (fun z2 => br_f (by decide) (h1 ⟨z, z2⟩)) (fun z2 => br_t rfl (h0 fun q => z2 q.2))
theorem mr_xs102 {k : Nat} {a wa : Int32} {post : Int32 → Prop} (hf : f < 10) (hk : k ≤ 6) (e : de f = nI k) (h2 : 1 ≤ k) (hA : mr_V R (st (6 * f + (k - 1))) a wa) (h1 : a = 1 → post 1) (h0 : ¬ a = 1 → post 0) : wX_sortsFit_102 post tc cf fc (nI f) oc sc mc g1 g2 op ns ab sr gl cl fi tk fo du de lo st ke := by
  unfold wX_sortsFit_102
  exact mr_xisInt (k := k - 1) (t := 1) hf (by omega) (by rw [e]; exact congrArg nI (by omega)) (by omega) hA (fun z => ⟨rfl, h1 z⟩) (fun z => ⟨rfl, h0 z⟩)
theorem mr_xs114 {k : Nat} {b wb : Int32} {post : Int32 → Prop} (hf : f < 10) (hk : k ≤ 6) (e : de f = nI k) (h2 : 2 ≤ k) (hB : mr_V R (st (6 * f + (k - 2))) b wb) (h1 : b = 2 → post 1) (h0 : ¬ b = 2 → post 0) : wX_sortsFit_114 post tc cf fc (nI f) oc sc mc g1 g2 op ns ab sr gl cl fi tk fo du de lo st ke := by
  unfold wX_sortsFit_114
  exact mr_xisObj (k := k - 2) (t := 2) hf (by omega) (by rw [e]; exact congrArg nI (by omega)) (by omega) hB (fun z => ⟨rfl, h1 z⟩) (fun z => ⟨rfl, h0 z⟩)
theorem mr_xsorts {k : Nat} {a wa b wb : Int32} {post : Int32 → Prop} (hf : f < 10) (hk : k ≤ 6) (e : de f = nI k) (hA : 1 ≤ k → mr_V R (st (6 * f + (k - 1))) a wa) (hB : 2 ≤ k → mr_V R (st (6 * f + (k - 2))) b wb) (o : Nat) (ho : o < 24) (ht : mr_tk o ≤ k) (h1 : mr_so o a b → post 1) (h0 : ¬ mr_so o a b → post 0) : wpX_sortsFit post (tc, cf, fc, nI f, oc, sc, mc, g1, g2, op, ns, ab, sr, gl, cl, fi, tk, fo, du, de, lo, st, ke) (nI o) := by
  revert ht h1 h0
  revert o
  apply mr_24
  · intro ht h1 h0
    unfold wpX_sortsFit
    dsimp only
    repeat (first | refine br_f (by decide) ?_ | refine br_t (by decide) ?_)
    exact h1 (by simp [mr_so])
  · intro ht h1 h0
    unfold wpX_sortsFit
    dsimp only
    repeat (first | refine br_f (by decide) ?_ | refine br_t (by decide) ?_)
    exact h1 (by simp [mr_so])
  · intro ht h1 h0
    unfold wpX_sortsFit
    dsimp only
    repeat (first | refine br_f (by decide) ?_ | refine br_t (by decide) ?_)
    exact h1 (by simp [mr_so])
  · intro ht h1 h0
    unfold wpX_sortsFit
    dsimp only
    repeat (first | refine br_f (by decide) ?_ | refine br_t (by decide) ?_)
    exact h1 (by simp [mr_so])
  · intro ht h1 h0
    unfold wpX_sortsFit
    dsimp only
    repeat (first | refine br_f (by decide) ?_ | refine br_t (by decide) ?_)
    exact h1 (by simp [mr_so])
  · intro ht h1 h0
    unfold wpX_sortsFit
    dsimp only
    repeat (first | refine br_f (by decide) ?_ | refine br_t (by decide) ?_)
    exact h1 (by simp [mr_so])
  · intro ht h1 h0
    unfold wpX_sortsFit
    dsimp only
    repeat (first | refine br_f (by decide) ?_ | refine br_t (by decide) ?_)
    exact h1 (by simp [mr_so])
  · intro ht h1 h0
    unfold wpX_sortsFit
    dsimp only
    repeat (first | refine br_f (by decide) ?_ | refine br_t (by decide) ?_)
    exact h1 (by simp [mr_so])
  · intro ht h1 h0
    unfold wpX_sortsFit
    dsimp only
    repeat (first | refine br_f (by decide) ?_ | refine br_t (by decide) ?_)
    exact mr_xs80 hf hk e ht (hA (Nat.le_trans (by decide) ht)) (hB ht) (fun z => h1 (by simp [mr_so, z.1, z.2])) (fun z => h0 fun q => z (q.1 (by decide)))
  · intro ht h1 h0
    unfold wpX_sortsFit
    dsimp only
    repeat (first | refine br_f (by decide) ?_ | refine br_t (by decide) ?_)
    exact mr_xs80 hf hk e ht (hA (Nat.le_trans (by decide) ht)) (hB ht) (fun z => h1 (by simp [mr_so, z.1, z.2])) (fun z => h0 fun q => z (q.1 (by decide)))
  · intro ht h1 h0
    unfold wpX_sortsFit
    dsimp only
    repeat (first | refine br_f (by decide) ?_ | refine br_t (by decide) ?_)
    exact mr_xs80 hf hk e ht (hA (Nat.le_trans (by decide) ht)) (hB ht) (fun z => h1 (by simp [mr_so, z.1, z.2])) (fun z => h0 fun q => z (q.1 (by decide)))
  · intro ht h1 h0
    unfold wpX_sortsFit
    dsimp only
    repeat (first | refine br_f (by decide) ?_ | refine br_t (by decide) ?_)
    exact mr_xs80 hf hk e ht (hA (Nat.le_trans (by decide) ht)) (hB ht) (fun z => h1 (by simp [mr_so, z.1, z.2])) (fun z => h0 fun q => z (q.1 (by decide)))
  · intro ht h1 h0
    unfold wpX_sortsFit
    dsimp only
    repeat (first | refine br_f (by decide) ?_ | refine br_t (by decide) ?_)
    exact h1 (by simp [mr_so])
  · intro ht h1 h0
    unfold wpX_sortsFit
    dsimp only
    repeat (first | refine br_f (by decide) ?_ | refine br_t (by decide) ?_)
    exact h1 (by simp [mr_so])
  · intro ht h1 h0
    unfold wpX_sortsFit
    dsimp only
    repeat (first | refine br_f (by decide) ?_ | refine br_t (by decide) ?_)
    exact mr_xs102 hf hk e ht (hA ht) (fun z => h1 (by simp [mr_so, z])) (fun z => h0 fun q => z (q.2.1 (by decide)))
  · intro ht h1 h0
    unfold wpX_sortsFit
    dsimp only
    repeat (first | refine br_f (by decide) ?_ | refine br_t (by decide) ?_)
    exact h1 (by simp [mr_so])
  · intro ht h1 h0
    unfold wpX_sortsFit
    dsimp only
    repeat (first | refine br_f (by decide) ?_ | refine br_t (by decide) ?_)
    exact mr_xisObj (k := k - 1) (t := 1) hf (by omega) (by rw [e]; exact congrArg nI (Nat.sub_add_cancel ht).symm) (by omega) (hA ht) (fun z => ⟨rfl, h1 (by simp [mr_so, z])⟩) (fun z => ⟨rfl, h0 fun q => z (q.2.2.1 rfl)⟩)
  · intro ht h1 h0
    unfold wpX_sortsFit
    dsimp only
    repeat (first | refine br_f (by decide) ?_ | refine br_t (by decide) ?_)
    exact mr_xs114 hf hk e ht (hB ht) (fun z => h1 (by simp [mr_so, z])) (fun z => h0 fun q => z (q.2.2.2 (by decide)))
  · intro ht h1 h0
    unfold wpX_sortsFit
    dsimp only
    repeat (first | refine br_f (by decide) ?_ | refine br_t (by decide) ?_)
    exact h1 (by simp [mr_so])
  · intro ht h1 h0
    unfold wpX_sortsFit
    dsimp only
    repeat (first | refine br_f (by decide) ?_ | refine br_t (by decide) ?_)
    exact mr_xs114 hf hk e ht (hB ht) (fun z => h1 (by simp [mr_so, z])) (fun z => h0 fun q => z (q.2.2.2 (by decide)))
  · intro ht h1 h0
    unfold wpX_sortsFit
    dsimp only
    repeat (first | refine br_f (by decide) ?_ | refine br_t (by decide) ?_)
    exact h1 (by simp [mr_so])
  · intro ht h1 h0
    unfold wpX_sortsFit
    dsimp only
    repeat (first | refine br_f (by decide) ?_ | refine br_t (by decide) ?_)
    exact h1 (by simp [mr_so])
  · intro ht h1 h0
    unfold wpX_sortsFit
    dsimp only
    repeat (first | refine br_f (by decide) ?_ | refine br_t (by decide) ?_)
    exact h1 (by simp [mr_so])
  · intro ht h1 h0
    unfold wpX_sortsFit
    dsimp only
    repeat (first | refine br_f (by decide) ?_ | refine br_t (by decide) ?_)
    exact mr_xs102 hf hk e ht (hA ht) (fun z => h1 (by simp [mr_so, z])) (fun z => h0 fun q => z (q.2.1 (by decide)))
theorem mr_ytakes (post : Int32 → Prop) (v : SY) (o : Nat) (ho : o < 24) (h : post (nI (mr_tk o))) : wpY_takes post v (nI o) := by
  obtain ⟨fr, g1, g2, sc, mc, oc, ov, en, op, ns, ab, sr, gs, gv, kd, fs, fv, ls, lv, ss, sv, he, du, nd, ke⟩ := v
  revert h
  revert o
  apply mr_24 <;> (intro h; unfold wpY_takes; dsimp only; repeat (first | refine br_f (by decide) ?_ | refine br_t (by decide) ?_)) <;> first | exact h | (unfold wY_takes_43; repeat (first | refine br_f (by decide) ?_ | refine br_t (by decide) ?_)) <;> exact h
theorem mr_yleaves (post : Int32 → Prop) (v : SY) (o : Nat) (ho : o < 24) (h : post (nI (mr_lv o))) : wpY_leaves post v (nI o) := by
  obtain ⟨fr, g1, g2, sc, mc, oc, ov, en, op, ns, ab, sr, gs, gv, kd, fs, fv, ls, lv, ss, sv, he, du, nd, ke⟩ := v
  revert h
  revert o
  apply mr_24 <;> (intro h; unfold wpY_leaves; dsimp only; unfold wY_leaves_24 wY_leaves_36; repeat (first | refine br_f (by decide) ?_ | refine br_t (by decide) ?_)) <;> exact h
theorem mr_ypush {k : Nat} {s w : Int32} {post : SY → Prop} (hf : f < 10) (hk : k < 6) (e : he f = nI k) (h : post (nI (f + 1), g1, g2, sc, mc, oc, ov, en, op, ns, ab, sr, gs, gv, kd, fs, fv, ls, lv, upd ss (6 * f + k) s, upd sv (6 * f + k) w, upd he f (nI (k + 1)), du, nd, ke)) : wpY_push post (nI (f + 1), g1, g2, sc, mc, oc, ov, en, op, ns, ab, sr, gs, gv, kd, fs, fv, ls, lv, ss, sv, he, du, nd, ke) s w := by
  have i1 : vp_in (nI f) 10 := vp_in_nI hf (by decide)
  have i2 : (nI f).toNatClampNeg = f := nI_clamp (by omega)
  have i4 : vp_in (nI (6 * f + k)) 60 := vp_in_nI (by omega) (by decide)
  have i5 : (nI (6 * f + k)).toNatClampNeg = 6 * f + k := nI_clamp (by omega)
  unfold wpY_push
  dsimp only
  rw [nI_pred f]
  refine ⟨i1, nm_r (e' := nI (6 * f + k)) (by rw [i2, e, mr_y6]) ⟨i4, nm_r (e' := upd ss (6 * f + k) s) (by rw [i5]) ⟨i4, nm_r (e' := upd sv (6 * f + k) w) (by rw [i5]) ⟨i1, i1, nm_r (e' := upd he f (nI (k + 1))) (by rw [i2, e, nI_1]) h⟩⟩⟩⟩
theorem mr_ybelow {k t : Nat} {post : Int32 → Prop} (hf : f < 10) (e : he f = nI (k + 1 + t)) (h : post (nI (6 * f + k))) : wpY_below post (nI (f + 1), g1, g2, sc, mc, oc, ov, en, op, ns, ab, sr, gs, gv, kd, fs, fv, ls, lv, ss, sv, he, du, nd, ke) (nI t) := by
  have i1 : vp_in (nI f) 10 := vp_in_nI hf (by decide)
  have i2 : (nI f).toNatClampNeg = f := nI_clamp (by omega)
  unfold wpY_below
  dsimp only
  rw [nI_pred f, i2, e, mr_y6, show (1 : Int32) = nI 1 from rfl, pk_sub (by omega), pk_sub (by omega), show 6 * f + (k + 1 + t) - 1 - t = 6 * f + k from by omega]
  exact ⟨i1, h⟩
theorem mr_ydrop {k t : Nat} {post : SY → Prop} (hf : f < 10) (e : he f = nI (k + t)) (h : post (nI (f + 1), g1, g2, sc, mc, oc, ov, en, op, ns, ab, sr, gs, gv, kd, fs, fv, ls, lv, ss, sv, upd he f (nI k), du, nd, ke)) : wpY_drop post (nI (f + 1), g1, g2, sc, mc, oc, ov, en, op, ns, ab, sr, gs, gv, kd, fs, fv, ls, lv, ss, sv, he, du, nd, ke) (nI t) := by
  have i1 : vp_in (nI f) 10 := vp_in_nI hf (by decide)
  have i2 : (nI f).toNatClampNeg = f := nI_clamp (by omega)
  unfold wpY_drop
  dsimp only
  rw [nI_pred f]
  refine ⟨i1, i1, nm_r (e' := upd he f (nI k)) (by rw [i2, e, pk_sub (by omega), Nat.add_sub_cancel]) h⟩
/-- a look at the stack from the top: the t-th sort or value -/
theorem mr_yat {k t : Nat} {post : Int32 → Prop} (hf : f < 10) (hk : k < 6) (e : he f = nI (k + 1 + t)) (h : vp_in (nI (6 * f + k)) 60 → (nI (6 * f + k)).toNatClampNeg = 6 * f + k → post (nI (6 * f + k))) : wpY_below post (nI (f + 1), g1, g2, sc, mc, oc, ov, en, op, ns, ab, sr, gs, gv, kd, fs, fv, ls, lv, ss, sv, he, du, nd, ke) (nI t) :=
  mr_ybelow hf e (h (vp_in_nI (by omega) (by decide)) (nI_clamp (by omega)))
theorem mr_ysorts {k : Nat} {post : Int32 → Prop} (hf : f < 10) (hk : k ≤ 6) (e : he f = nI k) (o : Nat) (ho : o < 24) (ht : mr_tk o ≤ k) (h1 : mr_so o (ss (6 * f + (k - 1))) (ss (6 * f + (k - 2))) → post 1) (h0 : ¬ mr_so o (ss (6 * f + (k - 1))) (ss (6 * f + (k - 2))) → post 0) : wpY_sortsFit post (nI (f + 1), g1, g2, sc, mc, oc, ov, en, op, ns, ab, sr, gs, gv, kd, fs, fv, ls, lv, ss, sv, he, du, nd, ke) (nI o) := by
  have b0 : ∀ {post : Int32 → Prop}, 1 ≤ k → (vp_in (nI (6 * f + (k - 1))) 60 → (nI (6 * f + (k - 1))).toNatClampNeg = 6 * f + (k - 1) → post (nI (6 * f + (k - 1)))) → wpY_below post (nI (f + 1), g1, g2, sc, mc, oc, ov, en, op, ns, ab, sr, gs, gv, kd, fs, fv, ls, lv, ss, sv, he, du, nd, ke) 0 := fun h2 h => mr_yat (t := 0) hf (by omega) (by rw [e]; exact congrArg nI (by omega)) h
  have b1 : ∀ {post : Int32 → Prop}, 2 ≤ k → (vp_in (nI (6 * f + (k - 2))) 60 → (nI (6 * f + (k - 2))).toNatClampNeg = 6 * f + (k - 2) → post (nI (6 * f + (k - 2)))) → wpY_below post (nI (f + 1), g1, g2, sc, mc, oc, ov, en, op, ns, ab, sr, gs, gv, kd, fs, fv, ls, lv, ss, sv, he, du, nd, ke) 1 := fun h2 h => mr_yat (t := 1) hf (by omega) (by rw [e]; exact congrArg nI (by omega)) h
  revert ht h1 h0
  revert o
  apply mr_24
  · intro ht h1 h0
    unfold wpY_sortsFit
    dsimp only
    unfold wY_sortsFit_46 wY_sortsFit_58 wY_sortsFit_116
    repeat (first | refine br_f (by decide) ?_ | refine br_t (by decide) ?_)
    exact h1 (by simp [mr_so])
  · intro ht h1 h0
    unfold wpY_sortsFit
    dsimp only
    unfold wY_sortsFit_46 wY_sortsFit_58 wY_sortsFit_116
    repeat (first | refine br_f (by decide) ?_ | refine br_t (by decide) ?_)
    exact h1 (by simp [mr_so])
  · intro ht h1 h0
    unfold wpY_sortsFit
    dsimp only
    unfold wY_sortsFit_46 wY_sortsFit_58 wY_sortsFit_116
    repeat (first | refine br_f (by decide) ?_ | refine br_t (by decide) ?_)
    exact h1 (by simp [mr_so])
  · intro ht h1 h0
    unfold wpY_sortsFit
    dsimp only
    unfold wY_sortsFit_46 wY_sortsFit_58 wY_sortsFit_116
    repeat (first | refine br_f (by decide) ?_ | refine br_t (by decide) ?_)
    exact h1 (by simp [mr_so])
  · intro ht h1 h0
    unfold wpY_sortsFit
    dsimp only
    unfold wY_sortsFit_46 wY_sortsFit_58 wY_sortsFit_116
    repeat (first | refine br_f (by decide) ?_ | refine br_t (by decide) ?_)
    exact h1 (by simp [mr_so])
  · intro ht h1 h0
    unfold wpY_sortsFit
    dsimp only
    unfold wY_sortsFit_46 wY_sortsFit_58 wY_sortsFit_116
    repeat (first | refine br_f (by decide) ?_ | refine br_t (by decide) ?_)
    exact h1 (by simp [mr_so])
  · intro ht h1 h0
    unfold wpY_sortsFit
    dsimp only
    unfold wY_sortsFit_46 wY_sortsFit_58 wY_sortsFit_116
    repeat (first | refine br_f (by decide) ?_ | refine br_t (by decide) ?_)
    exact h1 (by simp [mr_so])
  · intro ht h1 h0
    unfold wpY_sortsFit
    dsimp only
    unfold wY_sortsFit_46 wY_sortsFit_58 wY_sortsFit_116
    repeat (first | refine br_f (by decide) ?_ | refine br_t (by decide) ?_)
    exact h1 (by simp [mr_so])
  · intro ht h1 h0
    unfold wpY_sortsFit
    dsimp only
    unfold wY_sortsFit_46 wY_sortsFit_58 wY_sortsFit_116
    repeat (first | refine br_f (by decide) ?_ | refine br_t (by decide) ?_)
    exact b0 (Nat.le_trans (by decide) ht) (fun i j => ⟨i, by rw [j]; exact br_c (fun z => b1 ht (fun i' j' => ⟨i', by rw [j']; exact br_c (fun z' => h1 (by simp [mr_so, z, z'])) (fun z' => h0 fun q => z' (q.1 (by decide)).2)⟩)) (fun z => h0 fun q => z (q.1 (by decide)).1)⟩)
  · intro ht h1 h0
    unfold wpY_sortsFit
    dsimp only
    unfold wY_sortsFit_46 wY_sortsFit_58 wY_sortsFit_116
    repeat (first | refine br_f (by decide) ?_ | refine br_t (by decide) ?_)
    exact b0 (Nat.le_trans (by decide) ht) (fun i j => ⟨i, by rw [j]; exact br_c (fun z => b1 ht (fun i' j' => ⟨i', by rw [j']; exact br_c (fun z' => h1 (by simp [mr_so, z, z'])) (fun z' => h0 fun q => z' (q.1 (by decide)).2)⟩)) (fun z => h0 fun q => z (q.1 (by decide)).1)⟩)
  · intro ht h1 h0
    unfold wpY_sortsFit
    dsimp only
    unfold wY_sortsFit_46 wY_sortsFit_58 wY_sortsFit_116
    repeat (first | refine br_f (by decide) ?_ | refine br_t (by decide) ?_)
    exact b0 (Nat.le_trans (by decide) ht) (fun i j => ⟨i, by rw [j]; exact br_c (fun z => b1 ht (fun i' j' => ⟨i', by rw [j']; exact br_c (fun z' => h1 (by simp [mr_so, z, z'])) (fun z' => h0 fun q => z' (q.1 (by decide)).2)⟩)) (fun z => h0 fun q => z (q.1 (by decide)).1)⟩)
  · intro ht h1 h0
    unfold wpY_sortsFit
    dsimp only
    unfold wY_sortsFit_46 wY_sortsFit_58 wY_sortsFit_116
    repeat (first | refine br_f (by decide) ?_ | refine br_t (by decide) ?_)
    exact b0 (Nat.le_trans (by decide) ht) (fun i j => ⟨i, by rw [j]; exact br_c (fun z => b1 ht (fun i' j' => ⟨i', by rw [j']; exact br_c (fun z' => h1 (by simp [mr_so, z, z'])) (fun z' => h0 fun q => z' (q.1 (by decide)).2)⟩)) (fun z => h0 fun q => z (q.1 (by decide)).1)⟩)
  · intro ht h1 h0
    unfold wpY_sortsFit
    dsimp only
    unfold wY_sortsFit_46 wY_sortsFit_58 wY_sortsFit_116
    repeat (first | refine br_f (by decide) ?_ | refine br_t (by decide) ?_)
    exact h1 (by simp [mr_so])
  · intro ht h1 h0
    unfold wpY_sortsFit
    dsimp only
    unfold wY_sortsFit_46 wY_sortsFit_58 wY_sortsFit_116
    repeat (first | refine br_f (by decide) ?_ | refine br_t (by decide) ?_)
    exact h1 (by simp [mr_so])
  · intro ht h1 h0
    unfold wpY_sortsFit
    dsimp only
    unfold wY_sortsFit_46 wY_sortsFit_58 wY_sortsFit_116
    repeat (first | refine br_f (by decide) ?_ | refine br_t (by decide) ?_)
    exact b0 ht (fun i j => ⟨i, by rw [j]; exact br_c (fun z => h1 (by simp [mr_so, z])) (fun z => h0 fun q => z (q.2.1 (by decide)))⟩)
  · intro ht h1 h0
    unfold wpY_sortsFit
    dsimp only
    unfold wY_sortsFit_46 wY_sortsFit_58 wY_sortsFit_116
    repeat (first | refine br_f (by decide) ?_ | refine br_t (by decide) ?_)
    exact h1 (by simp [mr_so])
  · intro ht h1 h0
    unfold wpY_sortsFit
    dsimp only
    unfold wY_sortsFit_46 wY_sortsFit_58 wY_sortsFit_116
    repeat (first | refine br_f (by decide) ?_ | refine br_t (by decide) ?_)
    exact b0 ht (fun i j => ⟨i, by rw [j]; exact br_c (fun z => h1 (by simp [mr_so, z])) (fun z => h0 fun q => z (q.2.2.1 rfl))⟩)
  · intro ht h1 h0
    unfold wpY_sortsFit
    dsimp only
    unfold wY_sortsFit_46 wY_sortsFit_58 wY_sortsFit_116
    repeat (first | refine br_f (by decide) ?_ | refine br_t (by decide) ?_)
    exact b1 ht (fun i j => ⟨i, by rw [j]; exact br_c (fun z => h1 (by simp [mr_so, z])) (fun z => h0 fun q => z (q.2.2.2 (by decide)))⟩)
  · intro ht h1 h0
    unfold wpY_sortsFit
    dsimp only
    unfold wY_sortsFit_46 wY_sortsFit_58 wY_sortsFit_116
    repeat (first | refine br_f (by decide) ?_ | refine br_t (by decide) ?_)
    exact h1 (by simp [mr_so])
  · intro ht h1 h0
    unfold wpY_sortsFit
    dsimp only
    unfold wY_sortsFit_46 wY_sortsFit_58 wY_sortsFit_116
    repeat (first | refine br_f (by decide) ?_ | refine br_t (by decide) ?_)
    exact b1 ht (fun i j => ⟨i, by rw [j]; exact br_c (fun z => h1 (by simp [mr_so, z])) (fun z => h0 fun q => z (q.2.2.2 (by decide)))⟩)
  · intro ht h1 h0
    unfold wpY_sortsFit
    dsimp only
    unfold wY_sortsFit_46 wY_sortsFit_58 wY_sortsFit_116
    repeat (first | refine br_f (by decide) ?_ | refine br_t (by decide) ?_)
    exact h1 (by simp [mr_so])
  · intro ht h1 h0
    unfold wpY_sortsFit
    dsimp only
    unfold wY_sortsFit_46 wY_sortsFit_58 wY_sortsFit_116
    repeat (first | refine br_f (by decide) ?_ | refine br_t (by decide) ?_)
    exact h1 (by simp [mr_so])
  · intro ht h1 h0
    unfold wpY_sortsFit
    dsimp only
    unfold wY_sortsFit_46 wY_sortsFit_58 wY_sortsFit_116
    repeat (first | refine br_f (by decide) ?_ | refine br_t (by decide) ?_)
    exact h1 (by simp [mr_so])
  · intro ht h1 h0
    unfold wpY_sortsFit
    dsimp only
    unfold wY_sortsFit_46 wY_sortsFit_58 wY_sortsFit_116
    repeat (first | refine br_f (by decide) ?_ | refine br_t (by decide) ?_)
    exact b0 ht (fun i j => ⟨i, by rw [j]; exact br_c (fun z => h1 (by simp [mr_so, z])) (fun z => h0 fun q => z (q.2.1 (by decide)))⟩)
end
end
section
/-! X collects: one end, whatever is asked of it -/
abbrev mr_JX : Type := Int32 → Int32 → Int32 → Int32 → Int32 → Int32 → Int32 → Int32 → Int32 → Int32 → (Nat → Int32) → (Nat → Int32) → (Nat → Int32) → (Nat → Int32) → (Nat → Int64) → (Nat → Int32) → (Nat → Int64) → (Nat → Int32) → (Nat → Int32) → (Nat → Int32) → (Nat → Int32) → (Nat → Int64) → (Nat → Int64) → (Nat → Int32) → Prop
abbrev mr_T3 : Type := (Nat → Int32) × (Nat → Int32) × Nat
section
variable {tc cf fc la oc sc mc g1 g2 fr ov en : Int32} {op ns ab sr cl tk fo du de ke gs gv kd fs fv ls lv ss sv he nd : Nat → Int32} {gl fi lo st : Nat → Int64} {R : Nat → Nat → Prop} {f : Nat} {d : Nat → Nat}
theorem mr_xreach {rt : Nat → Prop} {ed : Nat → Nat → Prop} (s : mr_T3) {v : Int64} (h : mr_WI rt ed s.1 s.2.1 s.2.2) (hW : mr_W v) (hl : ∀ x, x < 16 → v = mr_O x → mr_L rt ed x) : ∃ s' : mr_T3, mr_WI rt ed s'.1 s'.2.1 s'.2.2 ∧ mr_Gr s.1 s.2.1 s.2.2 s'.1 s'.2.1 s'.2.2 ∧ mr_Mk s'.1 v ∧ ∀ post : SX → Prop, post (nI s'.2.2, cf, fc, la, oc, sc, mc, g1, g2, op, ns, ab, sr, gl, cl, fi, s'.1, s'.2.1, du, de, lo, st, ke) → wpX_reach post (nI s.2.2, cf, fc, la, oc, sc, mc, g1, g2, op, ns, ab, sr, gl, cl, fi, s.1, s.2.1, du, de, lo, st, ke) v := by
  obtain ⟨tk, fo, c⟩ := s
  dsimp only at h ⊢
  rcases mr_reach h hW hl with ⟨hm, h1 | ⟨p, hp, rfl, z⟩⟩ | ⟨p, hp, rfl, z, hc, h2, h3, h4⟩
  · exact ⟨(tk, fo, c), h, mr_Gr_r _ _ _, hm, fun post hp => br_t (Int64.not_le.mp h1) hp⟩
  · refine ⟨(tk, fo, c), h, mr_Gr_r _ _ _, hm, fun post hq => ?_⟩
    unfold wpX_reach
    dsimp only
    rw [mr_O_i, nI_clamp (by omega)]
    exact br_f (mr_O_nlt hp) ⟨vp_in_nI hp (by decide), br_f z hq⟩
  · refine ⟨(upd tk p 1, upd fo c (nI p), c + 1), h2, h3, h4, fun post hq => ?_⟩
    unfold wpX_reach
    dsimp only
    rw [mr_O_i, nI_clamp (by omega), mr_b1]
    exact br_f (mr_O_nlt hp) ⟨vp_in_nI hp (by decide), br_t z ⟨vp_in_nI hp (by decide), nm_e ⟨vp_in_nI hc (by decide), nm_r (e' := upd fo c (nI p)) (by rw [nI_clamp (by omega)]) (nm_r (nI_1 c) hq)⟩⟩⟩
/-- what holds of all that X can meet -/
def mr_XW (gl lo st fi : Nat → Int64) (F : Nat) (d : Nat → Nat) : Prop :=
  (∀ g, g < 4 → mr_W (gl g)) ∧ (∀ k, k < 4 * F → mr_W (lo k)) ∧ (∀ g i, g < F → i < d g → mr_W (st (6 * g + i))) ∧ (∀ x, mr_L (mr_rX gl lo st F d) (mr_eX fi) x → ∀ j, j < 3 → mr_W (fi (3 * x + j)))
theorem mr_xc7 (cf' : Int32) : ∃ tk' : Nat → Int32, (∀ x, x < 16 → tk' x = 0) ∧ ∀ (post : SX → Prop) (n : Nat), 16 < n → (∃ n28 : Nat, wX_collect_28 post n28 0 0 cf' fc la oc sc mc g1 g2 op ns ab sr gl cl fi tk' fo du de lo st ke) → wX_collect_7 post 0 cf' fc la oc sc mc g1 g2 n 0 op ns ab sr gl cl fi tk fo du de lo st ke := by
  refine mr_lpE (fun (post : SX → Prop) n i (t : Nat → Int32) => wX_collect_7 post 0 cf' fc la oc sc mc g1 g2 n (nI i) op ns ab sr gl cl fi t fo du de lo st ke) (fun post t => ∃ n28 : Nat, wX_collect_28 post n28 0 0 cf' fc la oc sc mc g1 g2 op ns ab sr gl cl fi t fo du de lo st ke) (fun i t => ∀ x, x < i → t x = 0) 16 (fun s h post n hk => br_t (by decide) hk) (fun i t hi h => ⟨upd t i 0, fun x hx => ?_, fun post n h2 => ?_⟩) tk (fun x hx => absurd hx (Nat.not_lt_zero x))
  · by_cases e : x = i
    · subst e; exact pk_us
    · rw [pk_un e]; exact h x (by omega)
  · exact br_f (nI_ge (b := 16) hi (by decide)) ⟨vp_in_nI hi (by decide), nm_r (e' := upd t i 0) (by rw [nI_clamp (by omega), mr_b0]) (nm_r (nI_1 i) h2)⟩
theorem mr_xc28 {F : Nat} (hF : F ≤ 10) (hW : mr_XW gl lo st fi F d) (s : mr_T3) (h : mr_WI (mr_rX gl lo st F d) (mr_eX fi) s.1 s.2.1 s.2.2) : ∃ s' : mr_T3, (mr_WI (mr_rX gl lo st F d) (mr_eX fi) s'.1 s'.2.1 s'.2.2 ∧ ∀ g, g < 4 → mr_Mk s'.1 (gl g)) ∧ ∀ (post : SX → Prop) (n : Nat), 4 < n → (∃ n51 : Nat, wX_collect_51 post n51 0 (nI s'.2.2) cf (nI F) la oc sc mc g1 g2 op ns ab sr gl cl fi s'.1 s'.2.1 du de lo st ke) → wX_collect_28 post n 0 (nI s.2.2) cf (nI F) la oc sc mc g1 g2 op ns ab sr gl cl fi s.1 s.2.1 du de lo st ke := by
  refine mr_lpE (fun (post : SX → Prop) n i (s : mr_T3) => wX_collect_28 post n (nI i) (nI s.2.2) cf (nI F) la oc sc mc g1 g2 op ns ab sr gl cl fi s.1 s.2.1 du de lo st ke) (fun post s => ∃ n51 : Nat, wX_collect_51 post n51 0 (nI s.2.2) cf (nI F) la oc sc mc g1 g2 op ns ab sr gl cl fi s.1 s.2.1 du de lo st ke) (fun i s => mr_WI (mr_rX gl lo st F d) (mr_eX fi) s.1 s.2.1 s.2.2 ∧ ∀ g, g < i → mr_Mk s.1 (gl g)) 4 (fun s h post n hk => br_t (by decide) hk) (fun i s hi h => ?_) s ⟨h, fun g hg => absurd hg (Nat.not_lt_zero g)⟩
  obtain ⟨s', a, b, c, e⟩ := mr_xreach (cf := cf) (fc := nI F) (la := la) (oc := oc) (sc := sc) (mc := mc) (g1 := g1) (g2 := g2) (op := op) (ns := ns) (ab := ab) (sr := sr) (gl := gl) (cl := cl) (fi := fi) (du := du) (de := de) (lo := lo) (st := st) (ke := ke) s h.1 (hW.1 i hi) (fun x hx ex => (mr_L_cl _ _).1 x (Or.inl ⟨i, hi, ex, hx⟩))
  refine ⟨s', ⟨a, fun g hg => ?_⟩, fun post n h2 => ?_⟩
  · by_cases eg : g = i
    · subst eg; exact c
    · exact mr_Mk_g (h.2 g (by omega)) b
  · refine br_f (nI_ge (b := 4) hi (by decide)) ⟨vp_in_nI hi (by decide), ?_⟩
    rw [nI_clamp (by omega)]
    exact e _ (nm_r (nI_1 i) h2)
theorem mr_xc51 {F : Nat} (hF : F ≤ 10) (hW : mr_XW gl lo st fi F d) (s : mr_T3) (h : mr_WI (mr_rX gl lo st F d) (mr_eX fi) s.1 s.2.1 s.2.2) : ∃ s' : mr_T3, (mr_WI (mr_rX gl lo st F d) (mr_eX fi) s'.1 s'.2.1 s'.2.2 ∧ mr_Gr s.1 s.2.1 s.2.2 s'.1 s'.2.1 s'.2.2 ∧ ∀ k, k < 4 * F → mr_Mk s'.1 (lo k)) ∧ ∀ (post : SX → Prop) (n : Nat), 4 * F < n → (∃ n79 : Nat, wX_collect_79 post n79 0 (nI s'.2.2) cf (nI F) la oc sc mc g1 g2 op ns ab sr gl cl fi s'.1 s'.2.1 du de lo st ke) → wX_collect_51 post n 0 (nI s.2.2) cf (nI F) la oc sc mc g1 g2 op ns ab sr gl cl fi s.1 s.2.1 du de lo st ke := by
  have s0 := s
  refine mr_lpE (fun (post : SX → Prop) n i (s : mr_T3) => wX_collect_51 post n (nI i) (nI s.2.2) cf (nI F) la oc sc mc g1 g2 op ns ab sr gl cl fi s.1 s.2.1 du de lo st ke) (fun post s => ∃ n79 : Nat, wX_collect_79 post n79 0 (nI s.2.2) cf (nI F) la oc sc mc g1 g2 op ns ab sr gl cl fi s.1 s.2.1 du de lo st ke) (fun i s' => mr_WI (mr_rX gl lo st F d) (mr_eX fi) s'.1 s'.2.1 s'.2.2 ∧ mr_Gr s.1 s.2.1 s.2.2 s'.1 s'.2.1 s'.2.2 ∧ ∀ k, k < i → mr_Mk s'.1 (lo k)) (4 * F) (fun s h post n hk => br_t (by rw [mr_x4']; exact nI_le (Nat.le_refl _) (by omega)) hk) (fun i t hi h => ?_) s ⟨h, mr_Gr_r _ _ _, fun g hg => absurd hg (Nat.not_lt_zero g)⟩
  obtain ⟨s', a, b, c, e⟩ := mr_xreach (cf := cf) (fc := nI F) (la := la) (oc := oc) (sc := sc) (mc := mc) (g1 := g1) (g2 := g2) (op := op) (ns := ns) (ab := ab) (sr := sr) (gl := gl) (cl := cl) (fi := fi) (du := du) (de := de) (lo := lo) (st := st) (ke := ke) t h.1 (hW.2.1 i hi) (fun x hx ex => (mr_L_cl _ _).1 x (Or.inr (Or.inl ⟨i, hi, ex, hx⟩)))
  refine ⟨s', ⟨a, mr_Gr_t h.2.1 b, fun g hg => ?_⟩, fun post n h2 => ?_⟩
  · by_cases eg : g = i
    · subst eg; exact c
    · exact mr_Mk_g (h.2.2 g (by omega)) b
  · refine br_f (by rw [mr_x4']; exact nI_ge hi (by omega)) ⟨vp_in_nI (by omega) (by decide), ?_⟩
    rw [nI_clamp (by omega)]
    exact e _ (nm_r (nI_1 i) h2)
theorem mr_xc89 {F : Nat} (hF : F ≤ 10) (hB : mr_B F d de) (hd : ∀ g, g < F → d g ≤ 6) (hW : mr_XW gl lo st fi F d) (g : Nat) (hg : g < F) (s : mr_T3) (h : mr_WI (mr_rX gl lo st F d) (mr_eX fi) s.1 s.2.1 s.2.2) : ∃ s' : mr_T3, (mr_WI (mr_rX gl lo st F d) (mr_eX fi) s'.1 s'.2.1 s'.2.2 ∧ mr_Gr s.1 s.2.1 s.2.2 s'.1 s'.2.1 s'.2.2 ∧ ∀ k, k < d g → mr_Mk s'.1 (st (6 * g + k))) ∧ ∀ (a : (SX → Prop) × mr_JX) (n : Nat), d g < n → a.2 (nI (g + 1)) (nI s'.2.2) cf (nI F) la oc sc mc g1 g2 op ns ab sr gl cl fi s'.1 s'.2.1 du de lo st ke → wX_collect_89 a.1 a.2 (nI g) n 0 (nI s.2.2) cf (nI F) la oc sc mc g1 g2 op ns ab sr gl cl fi s.1 s.2.1 du de lo st ke := by
  have hg6 := hd g hg
  have i1 : vp_in (nI g) 10 := vp_in_nI (by omega) (by decide)
  have i2 : (nI g).toNatClampNeg = g := nI_clamp (by omega)
  refine mr_lpE (fun (a : (SX → Prop) × mr_JX) n i (s : mr_T3) => wX_collect_89 a.1 a.2 (nI g) n (nI i) (nI s.2.2) cf (nI F) la oc sc mc g1 g2 op ns ab sr gl cl fi s.1 s.2.1 du de lo st ke) (fun a s => a.2 (nI (g + 1)) (nI s.2.2) cf (nI F) la oc sc mc g1 g2 op ns ab sr gl cl fi s.1 s.2.1 du de lo st ke) (fun i s' => mr_WI (mr_rX gl lo st F d) (mr_eX fi) s'.1 s'.2.1 s'.2.2 ∧ mr_Gr s.1 s.2.1 s.2.2 s'.1 s'.2.1 s'.2.2 ∧ ∀ k, k < i → mr_Mk s'.1 (st (6 * g + k))) (d g) (fun s h a n hk => And.intro i1 (br_t (by rw [i2, hB g hg]; exact nI_le (Nat.le_refl _) (by omega)) (nm_r (nI_1 g) hk))) (fun i t hi h => ?_) s ⟨h, mr_Gr_r _ _ _, fun g hg => absurd hg (Nat.not_lt_zero g)⟩
  obtain ⟨s', a, b, c, e⟩ := mr_xreach (cf := cf) (fc := nI F) (la := la) (oc := oc) (sc := sc) (mc := mc) (g1 := g1) (g2 := g2) (op := op) (ns := ns) (ab := ab) (sr := sr) (gl := gl) (cl := cl) (fi := fi) (du := du) (de := de) (lo := lo) (st := st) (ke := ke) t h.1 (hW.2.2.1 g i hg hi) (fun x hx ex => (mr_L_cl _ _).1 x (Or.inr (Or.inr ⟨g, i, hg, hi, ex, hx⟩)))
  refine ⟨s', ⟨a, mr_Gr_t h.2.1 b, fun k hk => ?_⟩, fun J n h2 => ?_⟩
  · by_cases eg : k = i
    · subst eg; exact c
    · exact mr_Mk_g (h.2.2 k (by omega)) b
  · refine And.intro i1 (br_f (by rw [i2, hB g hg]; exact nI_ge hi (by omega)) ⟨by rw [mr_x6]; exact vp_in_nI (by omega) (by decide), ?_⟩)
    rw [mr_x6, nI_clamp (by omega)]
    exact e _ (nm_r (nI_1 i) h2)
theorem mr_xc79 {F : Nat} (hF : F ≤ 10) (hB : mr_B F d de) (hd : ∀ g, g < F → d g ≤ 6) (hW : mr_XW gl lo st fi F d) (s : mr_T3) (h : mr_WI (mr_rX gl lo st F d) (mr_eX fi) s.1 s.2.1 s.2.2) : ∃ s' : mr_T3, (mr_WI (mr_rX gl lo st F d) (mr_eX fi) s'.1 s'.2.1 s'.2.2 ∧ mr_Gr s.1 s.2.1 s.2.2 s'.1 s'.2.1 s'.2.2 ∧ ∀ g k, g < F → k < d g → mr_Mk s'.1 (st (6 * g + k))) ∧ ∀ (post : SX → Prop) (n : Nat), F < n → (∃ n128 : Nat, wX_collect_128 post n128 0 (nI s'.2.2) cf (nI F) la oc sc mc g1 g2 op ns ab sr gl cl fi s'.1 s'.2.1 du de lo st ke) → wX_collect_79 post n 0 (nI s.2.2) cf (nI F) la oc sc mc g1 g2 op ns ab sr gl cl fi s.1 s.2.1 du de lo st ke := by
  refine mr_lpE (fun (post : SX → Prop) n i (s : mr_T3) => wX_collect_79 post n (nI i) (nI s.2.2) cf (nI F) la oc sc mc g1 g2 op ns ab sr gl cl fi s.1 s.2.1 du de lo st ke) (fun post s => ∃ n128 : Nat, wX_collect_128 post n128 0 (nI s.2.2) cf (nI F) la oc sc mc g1 g2 op ns ab sr gl cl fi s.1 s.2.1 du de lo st ke) (fun i s' => mr_WI (mr_rX gl lo st F d) (mr_eX fi) s'.1 s'.2.1 s'.2.2 ∧ mr_Gr s.1 s.2.1 s.2.2 s'.1 s'.2.1 s'.2.2 ∧ ∀ g k, g < i → k < d g → mr_Mk s'.1 (st (6 * g + k))) F (fun s h post n hk => br_t (nI_le (Nat.le_refl _) (by omega)) hk) (fun i t hi h => ?_) s ⟨h, mr_Gr_r _ _ _, fun g _ hg => absurd hg (Nat.not_lt_zero g)⟩
  obtain ⟨s', ⟨a, b, c⟩, e⟩ := mr_xc89 (cf := cf) (la := la) (oc := oc) (sc := sc) (mc := mc) (g1 := g1) (g2 := g2) (op := op) (ns := ns) (ab := ab) (sr := sr) (cl := cl) (du := du) (ke := ke) hF hB hd hW i hi t h.1
  refine ⟨s', ⟨a, mr_Gr_t h.2.1 b, fun g k hg hk => ?_⟩, fun post n h2 => ?_⟩
  · by_cases eg : g = i
    · subst eg; exact c k hk
    · exact mr_Mk_g (h.2.2 g k (by omega) hk) b
  · exact br_f (nI_ge hi (by omega)) ⟨d i + 1, e (post, wX_collect_79 post n) (d i + 1) (by omega) h2⟩
theorem mr_xc144 {F : Nat} (hW : mr_XW gl lo st fi F d) (i p : Nat) (hp : p < 16) (s : mr_T3) (hi : i < s.2.2) (ei : s.2.1 i = nI p) (h : mr_WI (mr_rX gl lo st F d) (mr_eX fi) s.1 s.2.1 s.2.2) : ∃ s' : mr_T3, (mr_WI (mr_rX gl lo st F d) (mr_eX fi) s'.1 s'.2.1 s'.2.2 ∧ mr_Gr s.1 s.2.1 s.2.2 s'.1 s'.2.1 s'.2.2 ∧ ∀ j, j < 3 → mr_Mk s'.1 (fi (3 * p + j))) ∧ ∀ (a : (SX → Prop) × mr_JX) (n : Nat), 3 < n → a.2 (nI (i + 1)) (nI s'.2.2) cf (nI F) la oc sc mc g1 g2 op ns ab sr gl cl fi s'.1 s'.2.1 du de lo st ke → wX_collect_144 a.1 a.2 (nI i) n 0 (nI s.2.2) cf (nI F) la oc sc mc g1 g2 op ns ab sr gl cl fi s.1 s.2.1 du de lo st ke := by
  have hc := mr_WI_c h
  have i1 : vp_in (nI i) 16 := vp_in_nI (by omega) (by decide)
  have i2 : (nI i).toNatClampNeg = i := nI_clamp (by omega)
  obtain ⟨q, hq, eq, tq⟩ := h.2.1 i hi
  cases (nI_eq (by omega) (by omega)).mp (ei.symm.trans eq)
  have hL := h.2.2.2 p hp tq
  refine mr_lpE (fun (a : (SX → Prop) × mr_JX) n j (s : mr_T3) => wX_collect_144 a.1 a.2 (nI i) n (nI j) (nI s.2.2) cf (nI F) la oc sc mc g1 g2 op ns ab sr gl cl fi s.1 s.2.1 du de lo st ke) (fun a s => a.2 (nI (i + 1)) (nI s.2.2) cf (nI F) la oc sc mc g1 g2 op ns ab sr gl cl fi s.1 s.2.1 du de lo st ke) (fun j s' => mr_WI (mr_rX gl lo st F d) (mr_eX fi) s'.1 s'.2.1 s'.2.2 ∧ mr_Gr s.1 s.2.1 s.2.2 s'.1 s'.2.1 s'.2.2 ∧ ∀ k, k < j → mr_Mk s'.1 (fi (3 * p + k))) 3 (fun s h a n hk => br_t (by decide) (nm_r (nI_1 i) hk)) (fun j t hj h => ?_) s ⟨h, mr_Gr_r _ _ _, fun g hg => absurd hg (Nat.not_lt_zero g)⟩
  obtain ⟨s', a, b, c, e⟩ := mr_xreach (cf := cf) (fc := nI F) (la := la) (oc := oc) (sc := sc) (mc := mc) (g1 := g1) (g2 := g2) (op := op) (ns := ns) (ab := ab) (sr := sr) (gl := gl) (cl := cl) (fi := fi) (du := du) (de := de) (lo := lo) (st := st) (ke := ke) t h.1 (hW.2.2.2 p hL j hj) (fun x hx ex => (mr_L_cl _ _).2 p x hL ⟨j, hj, ex, hx⟩)
  have ef : t.2.1 (nI i).toNatClampNeg * 3 + nI j = nI (3 * p + j) := by rw [i2, h.2.1.2.2 i hi, ei, mr_x3]
  refine ⟨s', ⟨a, mr_Gr_t h.2.1 b, fun k hk => ?_⟩, fun J n h2 => ?_⟩
  · by_cases eg : k = j
    · subst eg; exact c
    · exact mr_Mk_g (h.2.2 k (by omega)) b
  · refine br_f (nI_ge (b := 3) hj (by decide)) ⟨i1, by rw [ef]; exact vp_in_nI (by omega) (by decide), ?_⟩
    rw [ef, nI_clamp (by omega)]
    exact e _ (nm_r (nI_1 j) h2)
end
end
section
/-! X's worklist, the whole collection, and whether the memory is full -/
section
variable {tc cf fc la oc sc mc g1 g2 fr ov en : Int32} {op ns ab sr cl tk fo du de ke gs gv kd fs fv ls lv ss sv he nd : Nat → Int32} {gl fi lo st : Nat → Int64} {R : Nat → Nat → Prop} {f : Nat} {d : Nat → Nat}
theorem mr_xc128 {F : Nat} (hW : mr_XW gl lo st fi F d) (s : mr_T3) (h : mr_WI (mr_rX gl lo st F d) (mr_eX fi) s.1 s.2.1 s.2.2) (hg : ∀ g, g < 4 → mr_Mk s.1 (gl g)) (hlo : ∀ k, k < 4 * F → mr_Mk s.1 (lo k)) (hst : ∀ g k, g < F → k < d g → mr_Mk s.1 (st (6 * g + k))) : ∃ s' : mr_T3, (mr_WI (mr_rX gl lo st F d) (mr_eX fi) s'.1 s'.2.1 s'.2.2 ∧ mr_Gr s.1 s.2.1 s.2.2 s'.1 s'.2.1 s'.2.2 ∧ ∀ i p, i < s'.2.2 → p < 16 → s'.2.1 i = nI p → ∀ j, j < 3 → mr_Mk s'.1 (fi (3 * p + j))) ∧ ∀ (post : SX → Prop) (n : Nat), 16 < n → post (nI s'.2.2, cf, nI F, la, oc, sc, mc, g1, g2, op, ns, ab, sr, gl, cl, fi, s'.1, s'.2.1, du, de, lo, st, ke) → wX_collect_128 post n 0 (nI s.2.2) cf (nI F) la oc sc mc g1 g2 op ns ab sr gl cl fi s.1 s.2.1 du de lo st ke := by
  refine mr_lpX (fun (post : SX → Prop) n i (s : mr_T3) => wX_collect_128 post n (nI i) (nI s.2.2) cf (nI F) la oc sc mc g1 g2 op ns ab sr gl cl fi s.1 s.2.1 du de lo st ke) (fun post s => post (nI s.2.2, cf, nI F, la, oc, sc, mc, g1, g2, op, ns, ab, sr, gl, cl, fi, s.1, s.2.1, du, de, lo, st, ke)) (fun i s' => mr_WI (mr_rX gl lo st F d) (mr_eX fi) s'.1 s'.2.1 s'.2.2 ∧ mr_Gr s.1 s.2.1 s.2.2 s'.1 s'.2.1 s'.2.2 ∧ ∀ i' p, i' < i → i' < s'.2.2 → p < 16 → s'.2.1 i' = nI p → ∀ j, j < 3 → mr_Mk s'.1 (fi (3 * p + j))) _ 16 (fun t h => ⟨⟨h.1, h.2.1, fun i p hi => h.2.2 i p (Nat.lt_of_lt_of_le hi (mr_WI_c h.1)) hi⟩, fun post n hk => br_t (by decide) hk⟩) (fun i t hi h => ?_) 16 0 s rfl ⟨h, mr_Gr_r _ _ _, fun i p hi => absurd hi (Nat.not_lt_zero i)⟩
  have hc := mr_WI_c h.1
  by_cases z : t.2.2 ≤ i
  · exact Or.inl ⟨⟨h.1, h.2.1, fun i' p hi' => h.2.2 i' p (Nat.lt_of_lt_of_le hi' z) hi'⟩, fun post n hk => br_f (nI_ge (b := 16) hi (by decide)) (br_t (nI_le z (by omega)) hk)⟩
  · have z2 : i < t.2.2 := Nat.lt_of_not_le z
    obtain ⟨p, hp, ep, tp⟩ := h.1.2.1 i z2
    obtain ⟨s', ⟨a, b, c⟩, e⟩ := mr_xc144 (cf := cf) (la := la) (oc := oc) (sc := sc) (mc := mc) (g1 := g1) (g2 := g2) (op := op) (ns := ns) (ab := ab) (sr := sr) (cl := cl) (du := du) (ke := ke) (de := de) hW i p hp t z2 ep h.1
    refine Or.inr ⟨s', ⟨a, mr_Gr_t h.2.1 b, fun i' q hi' hi2 hq eq j hj => ?_⟩, fun post n h2 => br_f (nI_ge (b := 16) hi (by decide)) (br_f (nI_ge z2 (by omega)) ⟨4, e (post, wX_collect_128 post n) 4 (by omega) h2⟩)⟩
    by_cases ei : i' = i
    · subst ei
      rw [b.2.2 i' z2, ep] at eq
      cases (nI_eq (by omega) (by omega)).mp eq
      exact c j hj
    · rw [b.2.2 i' (by omega)] at eq
      exact mr_Mk_g (h.2.2 i' q (by omega) (by omega) hq eq j hj) b
theorem mr_xcollect {F : Nat} (hF : F ≤ 10) (hB : mr_B F d de) (hd : ∀ g, g < F → d g ≤ 6) (hW : mr_XW gl lo st fi F d) : ∃ (tk' fo' : Nat → Int32), mr_Is tk' (mr_rX gl lo st F d) (mr_eX fi) ∧ ∀ post : SX → Prop, post (nI (mr_cn tk' 16), cf, nI F, la, oc, sc, mc, g1, g2, op, ns, ab, sr, gl, cl, fi, tk', fo', du, de, lo, st, ke) → wpX_collect post (tc, cf, nI F, la, oc, sc, mc, g1, g2, op, ns, ab, sr, gl, cl, fi, tk, fo, du, de, lo, st, ke) := by
  obtain ⟨tk0, h0, e0⟩ := mr_xc7 (fc := nI F) (tk := tk) (fo := fo) (gl := gl) (fi := fi) (lo := lo) (st := st) (de := de) (la := la) (oc := oc) (sc := sc) (mc := mc) (g1 := g1) (g2 := g2) (op := op) (ns := ns) (ab := ab) (sr := sr) (cl := cl) (du := du) (ke := ke) cf
  obtain ⟨s1, ⟨a1, b1⟩, e1⟩ := mr_xc28 (de := de) (cf := cf) (la := la) (oc := oc) (sc := sc) (mc := mc) (g1 := g1) (g2 := g2) (op := op) (ns := ns) (ab := ab) (sr := sr) (cl := cl) (du := du) (ke := ke) hF hW (tk0, fo, 0) (mr_WI_0 _ _ tk0 fo h0)
  obtain ⟨s2, ⟨a2, g2', b2⟩, e2⟩ := mr_xc51 (de := de) (cf := cf) (la := la) (oc := oc) (sc := sc) (mc := mc) (g1 := g1) (g2 := g2) (op := op) (ns := ns) (ab := ab) (sr := sr) (cl := cl) (du := du) (ke := ke) hF hW s1 a1
  obtain ⟨s3, ⟨a3, g3, b3⟩, e3⟩ := mr_xc79 (cf := cf) (la := la) (oc := oc) (sc := sc) (mc := mc) (g1 := g1) (g2 := g2) (op := op) (ns := ns) (ab := ab) (sr := sr) (cl := cl) (du := du) (ke := ke) hF hB hd hW s2 a2
  obtain ⟨s4, ⟨a4, g4, b4⟩, e4⟩ := mr_xc128 (de := de) (cf := cf) (la := la) (oc := oc) (sc := sc) (mc := mc) (g1 := g1) (g2 := g2) (op := op) (ns := ns) (ab := ab) (sr := sr) (cl := cl) (du := du) (ke := ke) hW s3 a3 (fun g hg => mr_Mk_g (mr_Mk_g (b1 g hg) g2') g3) (fun k hk => mr_Mk_g (b2 k hk) g3) b3
  refine ⟨s4.1, s4.2.1, mr_WI_end a4 (fun g hg => mr_Mk_g (mr_Mk_g (mr_Mk_g (b1 g hg) g2') g3) g4) (fun k hk => mr_Mk_g (mr_Mk_g (b2 k hk) g3) g4) (fun g k hg hk => mr_Mk_g (b3 g k hg hk) g4) b4, fun post hp => ?_⟩
  rw [← a4.1] at hp
  exact ⟨17, e0 post 17 (by omega) ⟨5, e1 post 5 (by omega) ⟨4 * F + 1, e2 post (4 * F + 1) (by omega) ⟨F + 1, e3 post (F + 1) (by omega) ⟨17, e4 post 17 (by omega) hp⟩⟩⟩⟩⟩
theorem mr_xfull {F m : Nat} (hF : F ≤ 10) (hm : m ≤ 16) (hB : mr_B F d de) (hd : ∀ g, g < F → d g ≤ 6) (hW : mr_XW gl lo st fi F d) (hL : ∀ x, x < 16 → mr_L (mr_rX gl lo st F d) (mr_eX fi) x → tk x ≠ 0) : ∃ (tk' fo' : Nat → Int32), (∀ x, x < 16 → mr_L (mr_rX gl lo st F d) (mr_eX fi) x → tk' x ≠ 0) ∧ (mr_cn tk' 16 = 16 → mr_Is tk' (mr_rX gl lo st F d) (mr_eX fi)) ∧ ∀ post : Int32 → SX → Prop, (mr_cn tk' 16 < 16 → post 0 (nI (mr_cn tk' 16), nI m, nI F, la, oc, sc, mc, g1, g2, op, ns, ab, sr, gl, cl, fi, tk', fo', du, de, lo, st, ke)) → (mr_cn tk' 16 = 16 → post 1 (nI (mr_cn tk' 16), nI m, nI F, la, oc, sc, mc, g1, g2, op, ns, ab, sr, gl, cl, fi, tk', fo', du, de, lo, st, ke)) → wpX_isMemoryFull post (nI (mr_cn tk 16), nI m, nI F, la, oc, sc, mc, g1, g2, op, ns, ab, sr, gl, cl, fi, tk, fo, du, de, lo, st, ke) := by
  have h15 : ∀ (tk fo : Nat → Int32) (post : Int32 → SX → Prop), (mr_cn tk 16 < 16 → post 0 (nI (mr_cn tk 16), nI m, nI F, la, oc, sc, mc, g1, g2, op, ns, ab, sr, gl, cl, fi, tk, fo, du, de, lo, st, ke)) → (mr_cn tk 16 = 16 → post 1 (nI (mr_cn tk 16), nI m, nI F, la, oc, sc, mc, g1, g2, op, ns, ab, sr, gl, cl, fi, tk, fo, du, de, lo, st, ke)) → wX_isMemoryFull_15 post (nI (mr_cn tk 16)) (nI m) (nI F) la oc sc mc g1 g2 op ns ab sr gl cl fi tk fo du de lo st ke := fun tk fo post p q => by
    have := mr_cn_le tk 16
    unfold wX_isMemoryFull_15
    exact pk_lt (mr_cn tk 16) 16 p (fun z => q (by omega))
  have hc := mr_cn_le tk 16
  by_cases z : mr_cn tk 16 < m
  · refine ⟨tk, fo, hL, fun y => by omega, fun post p q => ?_⟩
    unfold wpX_isMemoryFull
    dsimp only
    exact br_t (nI_lt z (by omega)) (h15 tk fo post p q)
  · obtain ⟨tk', fo', a, e⟩ := mr_xcollect (tc := nI (mr_cn tk 16)) (tk := tk) (fo := fo) (cf := nI m) (la := la) (oc := oc) (sc := sc) (mc := mc) (g1 := g1) (g2 := g2) (op := op) (ns := ns) (ab := ab) (sr := sr) (cl := cl) (du := du) (ke := ke) hF hB hd hW
    refine ⟨tk', fo', fun x hx y => (a x hx).mpr y, fun _ => a, fun post p q => ?_⟩
    unfold wpX_isMemoryFull
    dsimp only
    exact br_f (nI_nlt (by omega) (by omega)) (e _ (h15 tk' fo' post p q))
end
end
section
/-! Y marks: one end, whatever is asked of it -/
abbrev mr_JY : Type := Int32 → Int32 → Int32 → Int32 → Int32 → Int32 → Int32 → Int32 → Int32 → (Nat → Int32) → (Nat → Int32) → (Nat → Int32) → (Nat → Int32) → (Nat → Int32) → (Nat → Int32) → (Nat → Int32) → (Nat → Int32) → (Nat → Int32) → (Nat → Int32) → (Nat → Int32) → (Nat → Int32) → (Nat → Int32) → (Nat → Int32) → (Nat → Int32) → (Nat → Int32) → (Nat → Int32) → Prop
section
variable {tc cf fc la oc sc mc g1 g2 fr ov en : Int32} {op ns ab sr cl tk fo du de ke gs gv kd fs fv ls lv ss sv he nd : Nat → Int32} {gl fi lo st : Nat → Int64} {R : Nat → Nat → Prop} {f : Nat} {d : Nat → Nat}
/-- an object that Y meets is one of the sixteen -/
def mr_O16 (s w : Int32) : Prop := s = 2 → ∃ y : Nat, y < 16 ∧ w = nI y
theorem mr_V_O16 {v : Int64} {s w : Int32} (h : mr_V R v s w) : mr_O16 s w := fun e => by
  obtain ⟨x, y, _, hy, _, ew, _⟩ := mr_V_ob h e
  exact ⟨y, hy, ew⟩
theorem mr_ymeet {rt : Nat → Prop} {ed : Nat → Nat → Prop} (nd : Nat → Int32) {s w : Int32} (h : mr_MI rt ed nd) (ho : mr_O16 s w) (hl : ∀ y, mr_P s w y → mr_L rt ed y) : ∃ nd' : Nat → Int32, mr_MI rt ed nd' ∧ mr_Up nd nd' ∧ (∀ y, mr_P s w y → nd' y ≠ 0) ∧ ∀ post : SY → Prop, post (fr, g1, g2, sc, mc, oc, ov, en, op, ns, ab, sr, gs, gv, kd, fs, fv, ls, lv, ss, sv, he, du, nd', ke) → wpY_meet post (fr, g1, g2, sc, mc, oc, ov, en, op, ns, ab, sr, gs, gv, kd, fs, fv, ls, lv, ss, sv, he, du, nd, ke) s w := by
  by_cases z : s = 2
  · obtain ⟨y, hy, rfl⟩ := ho z
    refine ⟨upd nd y 1, mr_MI_u h (hl y ⟨z, rfl, hy⟩), mr_Up_u nd y, fun y' h' => ?_, fun post hp => ?_⟩
    · cases (nI_eq (by omega) (by have := h'.2.2; omega)).mp h'.2.1
      rw [pk_us]; decide
    · unfold wpY_meet
      dsimp only
      rw [mr_and15 hy, mr_b1]
      exact br_t z ⟨vp_in_nI hy (by decide), nm_r (e' := upd nd y 1) (by rw [nI_clamp (by omega)]) hp⟩
  · exact ⟨nd, h, fun _ q => q, fun y h' => absurd h'.1 z, fun post hp => br_f z hp⟩
def mr_YW (gs gv ls lv ss sv fs fv : Nat → Int32) (F : Nat) (d : Nat → Nat) : Prop :=
  (∀ g, g < 4 → mr_O16 (gs g) (gv g)) ∧ (∀ k, k < 4 * F → mr_O16 (ls k) (lv k)) ∧ (∀ g i, g < F → i < d g → mr_O16 (ss (6 * g + i)) (sv (6 * g + i))) ∧ (∀ y, mr_L (mr_rY gs gv ls lv ss sv F d) (mr_eY fs fv) y → ∀ j, j < 3 → mr_O16 (fs (3 * y + j)) (fv (3 * y + j)))
theorem mr_ym2 (n0 : Nat → Int32) : ∃ nd' : Nat → Int32, (∀ x, x < 16 → nd' x = 0) ∧ ∀ (post : Int32 → SY → Prop) (n : Nat), 16 < n → (∃ n23 : Nat, wY_mark_23 post n23 0 fr g1 g2 sc mc oc ov en op ns ab sr gs gv kd fs fv ls lv ss sv he du nd' ke) → wY_mark_2 post fr g1 g2 sc mc oc ov en n 0 op ns ab sr gs gv kd fs fv ls lv ss sv he du n0 ke := by
  refine mr_lpE (fun (post : Int32 → SY → Prop) n i (t : Nat → Int32) => wY_mark_2 post fr g1 g2 sc mc oc ov en n (nI i) op ns ab sr gs gv kd fs fv ls lv ss sv he du t ke) (fun post t => ∃ n23 : Nat, wY_mark_23 post n23 0 fr g1 g2 sc mc oc ov en op ns ab sr gs gv kd fs fv ls lv ss sv he du t ke) (fun i t => ∀ x, x < i → t x = 0) 16 (fun s h post n hk => br_t (by decide) hk) (fun i t hi h => ⟨upd t i 0, fun x hx => ?_, fun post n h2 => ?_⟩) n0 (fun x hx => absurd hx (Nat.not_lt_zero x))
  · by_cases e : x = i
    · subst e; exact pk_us
    · rw [pk_un e]; exact h x (by omega)
  · exact br_f (nI_ge (b := 16) hi (by decide)) ⟨vp_in_nI hi (by decide), nm_r (e' := upd t i 0) (by rw [nI_clamp (by omega), mr_b0]) (nm_r (nI_1 i) h2)⟩
theorem mr_ym23 {F : Nat} (hW : mr_YW gs gv ls lv ss sv fs fv F d) (n0 : Nat → Int32) (h : mr_MI (mr_rY gs gv ls lv ss sv F d) (mr_eY fs fv) n0) : ∃ nd' : Nat → Int32, (mr_MI (mr_rY gs gv ls lv ss sv F d) (mr_eY fs fv) nd' ∧ ∀ g, g < 4 → ∀ y, mr_P (gs g) (gv g) y → nd' y ≠ 0) ∧ ∀ (post : Int32 → SY → Prop) (n : Nat), 4 < n → (∃ n52 : Nat, wY_mark_52 post n52 0 (nI F) g1 g2 sc mc oc ov en op ns ab sr gs gv kd fs fv ls lv ss sv he du nd' ke) → wY_mark_23 post n 0 (nI F) g1 g2 sc mc oc ov en op ns ab sr gs gv kd fs fv ls lv ss sv he du n0 ke := by
  refine mr_lpE (fun (post : Int32 → SY → Prop) n i (t : Nat → Int32) => wY_mark_23 post n (nI i) (nI F) g1 g2 sc mc oc ov en op ns ab sr gs gv kd fs fv ls lv ss sv he du t ke) (fun post t => ∃ n52 : Nat, wY_mark_52 post n52 0 (nI F) g1 g2 sc mc oc ov en op ns ab sr gs gv kd fs fv ls lv ss sv he du t ke) (fun i t => mr_MI (mr_rY gs gv ls lv ss sv F d) (mr_eY fs fv) t ∧ ∀ g, g < i → ∀ y, mr_P (gs g) (gv g) y → t y ≠ 0) 4 (fun s h post n hk => br_t (by decide) hk) (fun i t hi h => ?_) n0 ⟨h, fun g hg => absurd hg (Nat.not_lt_zero g)⟩
  obtain ⟨t', a, b, c, e⟩ := mr_ymeet (fr := nI F) (g1 := g1) (g2 := g2) (sc := sc) (mc := mc) (oc := oc) (ov := ov) (en := en) (op := op) (ns := ns) (ab := ab) (sr := sr) (kd := kd) (du := du) (ke := ke) (gs := gs) (gv := gv) (fs := fs) (fv := fv) (ls := ls) (lv := lv) (ss := ss) (sv := sv) (he := he) t h.1 (hW.1 i hi) (fun y hy => (mr_L_cl _ _).1 y (Or.inl ⟨i, hi, hy⟩))
  refine ⟨t', ⟨a, fun g hg y hy => ?_⟩, fun post n h2 => ?_⟩
  · by_cases eg : g = i
    · subst eg; exact c y hy
    · exact b y (h.2 g (by omega) y hy)
  · refine br_f (nI_ge (b := 4) hi (by decide)) ⟨vp_in_nI hi (by decide), vp_in_nI hi (by decide), ?_⟩
    rw [nI_clamp (by omega)]
    exact e _ (nm_r (nI_1 i) h2)
theorem mr_ym52 {F : Nat} (hF : F ≤ 10) (hW : mr_YW gs gv ls lv ss sv fs fv F d) (n0 : Nat → Int32) (h : mr_MI (mr_rY gs gv ls lv ss sv F d) (mr_eY fs fv) n0) : ∃ nd' : Nat → Int32, (mr_MI (mr_rY gs gv ls lv ss sv F d) (mr_eY fs fv) nd' ∧ mr_Up n0 nd' ∧ ∀ g, g < 4 * F → ∀ y, mr_P (ls g) (lv g) y → nd' y ≠ 0) ∧ ∀ (post : Int32 → SY → Prop) (n : Nat), 4 * F < n → (∃ n86 : Nat, wY_mark_86 post n86 0 (nI F) g1 g2 sc mc oc ov en op ns ab sr gs gv kd fs fv ls lv ss sv he du nd' ke) → wY_mark_52 post n 0 (nI F) g1 g2 sc mc oc ov en op ns ab sr gs gv kd fs fv ls lv ss sv he du n0 ke := by
  refine mr_lpE (fun (post : Int32 → SY → Prop) n i (t : Nat → Int32) => wY_mark_52 post n (nI i) (nI F) g1 g2 sc mc oc ov en op ns ab sr gs gv kd fs fv ls lv ss sv he du t ke) (fun post t => ∃ n86 : Nat, wY_mark_86 post n86 0 (nI F) g1 g2 sc mc oc ov en op ns ab sr gs gv kd fs fv ls lv ss sv he du t ke) (fun i t => mr_MI (mr_rY gs gv ls lv ss sv F d) (mr_eY fs fv) t ∧ mr_Up n0 t ∧ ∀ g, g < i → ∀ y, mr_P (ls g) (lv g) y → t y ≠ 0) (4 * F) (fun s h post n hk => br_t (by rw [mr_y4']; exact nI_le (Nat.le_refl _) (by omega)) hk) (fun i t hi h => ?_) n0 ⟨h, fun _ q => q, fun g hg => absurd hg (Nat.not_lt_zero g)⟩
  obtain ⟨t', a, b, c, e⟩ := mr_ymeet (fr := nI F) (g1 := g1) (g2 := g2) (sc := sc) (mc := mc) (oc := oc) (ov := ov) (en := en) (op := op) (ns := ns) (ab := ab) (sr := sr) (kd := kd) (du := du) (ke := ke) (gs := gs) (gv := gv) (fs := fs) (fv := fv) (ls := ls) (lv := lv) (ss := ss) (sv := sv) (he := he) t h.1 (hW.2.1 i hi) (fun y hy => (mr_L_cl _ _).1 y (Or.inr (Or.inl ⟨i, hi, hy⟩)))
  refine ⟨t', ⟨a, mr_Up_t h.2.1 b, fun g hg y hy => ?_⟩, fun post n h2 => ?_⟩
  · by_cases eg : g = i
    · subst eg; exact c y hy
    · exact b y (h.2.2 g (by omega) y hy)
  · refine br_f (by rw [mr_y4']; exact nI_ge hi (by omega)) ⟨vp_in_nI (by omega) (by decide), vp_in_nI (by omega) (by decide), ?_⟩
    rw [nI_clamp (by omega)]
    exact e _ (nm_r (nI_1 i) h2)
theorem mr_ym86 {F : Nat} (hF : F ≤ 10) (hB : mr_B F d he) (hd : ∀ g, g < F → d g ≤ 6) (hW : mr_YW gs gv ls lv ss sv fs fv F d) (n0 : Nat → Int32) (h : mr_MI (mr_rY gs gv ls lv ss sv F d) (mr_eY fs fv) n0) : ∃ nd' : Nat → Int32, (mr_MI (mr_rY gs gv ls lv ss sv F d) (mr_eY fs fv) nd' ∧ mr_Up n0 nd' ∧ ∀ k, k < 6 * F → k % 6 < d (k / 6) → ∀ y, mr_P (ss k) (sv k) y → nd' y ≠ 0) ∧ ∀ (post : Int32 → SY → Prop) (n : Nat), 6 * F < n → (∃ n137 : Nat, wY_mark_137 post n137 0 (nI F) g1 g2 sc mc oc ov en op ns ab sr gs gv kd fs fv ls lv ss sv he du nd' ke) → wY_mark_86 post n 0 (nI F) g1 g2 sc mc oc ov en op ns ab sr gs gv kd fs fv ls lv ss sv he du n0 ke := by
  refine mr_lpE (fun (post : Int32 → SY → Prop) n i (t : Nat → Int32) => wY_mark_86 post n (nI i) (nI F) g1 g2 sc mc oc ov en op ns ab sr gs gv kd fs fv ls lv ss sv he du t ke) (fun post t => ∃ n137 : Nat, wY_mark_137 post n137 0 (nI F) g1 g2 sc mc oc ov en op ns ab sr gs gv kd fs fv ls lv ss sv he du t ke) (fun i t => mr_MI (mr_rY gs gv ls lv ss sv F d) (mr_eY fs fv) t ∧ mr_Up n0 t ∧ ∀ k, k < i → k % 6 < d (k / 6) → ∀ y, mr_P (ss k) (sv k) y → t y ≠ 0) (6 * F) (fun s h post n hk => br_t (by rw [mr_y6']; exact nI_le (Nat.le_refl _) (by omega)) hk) (fun i t hi h => ?_) n0 ⟨h, fun _ q => q, fun g hg => absurd hg (Nat.not_lt_zero g)⟩
  have e1 : nI i / 6 = nI (i / 6) := pk_div (d := 6) (by omega) (by decide) (by decide)
  have e2 : nI i - nI i / 6 * 6 = nI (i % 6) := pk_rem (d := 6) (by omega) (by decide) (by decide)
  have h6 : i / 6 < F := by omega
  have hh : he (nI (i / 6)).toNatClampNeg = nI (d (i / 6)) := by rw [nI_clamp (by omega), hB _ h6]
  have hd6 := hd _ h6
  by_cases z : d (i / 6) ≤ i % 6
  · refine ⟨t, ⟨h.1, h.2.1, fun k hk hk2 y hy => ?_⟩, fun post n h2 => ?_⟩
    · by_cases ek : k = i
      · subst ek; omega
      · exact h.2.2 k (by omega) hk2 y hy
    · refine br_f (by rw [mr_y6']; exact nI_ge hi (by omega)) ⟨by decide, by decide, ?_⟩
      rw [e2, e1, hh]
      exact ⟨vp_in_nI (by omega) (by decide), br_t (nI_le z (by omega)) (nm_r (nI_1 i) h2)⟩
  · have ei : 6 * (i / 6) + i % 6 = i := by omega
    obtain ⟨t', a, b, c, e⟩ := mr_ymeet (fr := nI F) (g1 := g1) (g2 := g2) (sc := sc) (mc := mc) (oc := oc) (ov := ov) (en := en) (op := op) (ns := ns) (ab := ab) (sr := sr) (kd := kd) (du := du) (ke := ke) (gs := gs) (gv := gv) (fs := fs) (fv := fv) (ls := ls) (lv := lv) (ss := ss) (sv := sv) (he := he) t h.1 (s := ss i) (w := sv i) (by have := hW.2.2.1 (i / 6) (i % 6) h6 (by omega); rw [ei] at this; exact this) (fun y hy => (mr_L_cl _ _).1 y (Or.inr (Or.inr ⟨i / 6, i % 6, h6, by omega, by rw [ei]; exact hy⟩)))
    refine ⟨t', ⟨a, mr_Up_t h.2.1 b, fun k hk hk2 y hy => ?_⟩, fun post n h2 => ?_⟩
    · by_cases ek : k = i
      · subst ek; exact c y hy
      · exact b y (h.2.2 k (by omega) hk2 y hy)
    · refine br_f (by rw [mr_y6']; exact nI_ge hi (by omega)) ⟨by decide, by decide, ?_⟩
      rw [e2, e1, hh]
      refine ⟨vp_in_nI (by omega) (by decide), br_f (nI_ge (by omega) (by omega)) ⟨vp_in_nI (by omega) (by decide), vp_in_nI (by omega) (by decide), ?_⟩⟩
      rw [nI_clamp (n := i) (by omega)]
      exact e _ (nm_r (nI_1 i) h2)
theorem mr_ym145 {F : Nat} (hW : mr_YW gs gv ls lv ss sv fs fv F d) (r : Nat) (n0 : Nat → Int32) (h : mr_MI (mr_rY gs gv ls lv ss sv F d) (mr_eY fs fv) n0) : ∃ nd' : Nat → Int32, (mr_MI (mr_rY gs gv ls lv ss sv F d) (mr_eY fs fv) nd' ∧ mr_Up n0 nd' ∧ ∀ k, k < 48 → n0 (k / 3) ≠ 0 → ∀ y, mr_P (fs k) (fv k) y → nd' y ≠ 0) ∧ ∀ (a : (Int32 → SY → Prop) × mr_JY) (n : Nat), 48 < n → a.2 (nI (r + 1)) (nI F) g1 g2 sc mc oc ov en op ns ab sr gs gv kd fs fv ls lv ss sv he du nd' ke → wY_mark_145 a.1 a.2 (nI r) n 0 (nI F) g1 g2 sc mc oc ov en op ns ab sr gs gv kd fs fv ls lv ss sv he du n0 ke := by
  refine mr_lpE (fun (a : (Int32 → SY → Prop) × mr_JY) n i (t : Nat → Int32) => wY_mark_145 a.1 a.2 (nI r) n (nI i) (nI F) g1 g2 sc mc oc ov en op ns ab sr gs gv kd fs fv ls lv ss sv he du t ke) (fun a t => a.2 (nI (r + 1)) (nI F) g1 g2 sc mc oc ov en op ns ab sr gs gv kd fs fv ls lv ss sv he du t ke) (fun i t => mr_MI (mr_rY gs gv ls lv ss sv F d) (mr_eY fs fv) t ∧ mr_Up n0 t ∧ ∀ k, k < i → n0 (k / 3) ≠ 0 → ∀ y, mr_P (fs k) (fv k) y → t y ≠ 0) 48 (fun s h a n hk => br_t (by decide) (nm_r (nI_1 r) hk)) (fun i t hi h => ?_) n0 ⟨h, fun _ q => q, fun g hg => absurd hg (Nat.not_lt_zero g)⟩
  have e1 : nI i / 3 = nI (i / 3) := pk_div (d := 3) (by omega) (by decide) (by decide)
  have ei : 3 * (i / 3) + i % 3 = i := by omega
  by_cases z : t (i / 3) = 0
  · refine ⟨t, ⟨h.1, h.2.1, fun k hk hk2 y hy => ?_⟩, fun a n h2 => ?_⟩
    · by_cases ek : k = i
      · subst ek; exact absurd z (h.2.1 _ hk2)
      · exact h.2.2 k (by omega) hk2 y hy
    · refine br_f (nI_ge (b := 48) hi (by decide)) ⟨by decide, ?_⟩
      rw [e1, nI_clamp (n := i / 3) (by omega)]
      exact ⟨vp_in_nI (by omega) (by decide), br_t z (nm_r (nI_1 i) h2)⟩
  · have hL := h.1 (i / 3) (by omega) z
    obtain ⟨t', a, b, c, e⟩ := mr_ymeet (fr := nI F) (g1 := g1) (g2 := g2) (sc := sc) (mc := mc) (oc := oc) (ov := ov) (en := en) (op := op) (ns := ns) (ab := ab) (sr := sr) (kd := kd) (du := du) (ke := ke) (gs := gs) (gv := gv) (fs := fs) (fv := fv) (ls := ls) (lv := lv) (ss := ss) (sv := sv) (he := he) t h.1 (s := fs i) (w := fv i) (by have := hW.2.2.2 (i / 3) hL (i % 3) (by omega); rw [ei] at this; exact this) (fun y hy => (mr_L_cl _ _).2 (i / 3) y hL ⟨i % 3, by omega, by rw [ei]; exact hy⟩)
    refine ⟨t', ⟨a, mr_Up_t h.2.1 b, fun k hk hk2 y hy => ?_⟩, fun J n h2 => ?_⟩
    · by_cases ek : k = i
      · subst ek; exact c y hy
      · exact b y (h.2.2 k (by omega) hk2 y hy)
    · refine br_f (nI_ge (b := 48) hi (by decide)) ⟨by decide, ?_⟩
      rw [e1, nI_clamp (n := i / 3) (by omega)]
      refine ⟨vp_in_nI (by omega) (by decide), br_f z ⟨vp_in_nI (by omega) (by decide), vp_in_nI (by omega) (by decide), ?_⟩⟩
      rw [nI_clamp (n := i) (by omega)]
      exact e _ (nm_r (nI_1 i) h2)
theorem mr_ym137 {F : Nat} (hW : mr_YW gs gv ls lv ss sv fs fv F d) (n0 : Nat → Int32) (h : mr_MI (mr_rY gs gv ls lv ss sv F d) (mr_eY fs fv) n0) (hr : ∀ y, mr_rY gs gv ls lv ss sv F d y → n0 y ≠ 0) : ∃ nd' : Nat → Int32, (mr_MI (mr_rY gs gv ls lv ss sv F d) (mr_eY fs fv) nd' ∧ (∀ y, mr_rY gs gv ls lv ss sv F d y → nd' y ≠ 0) ∧ mr_Dn (mr_rY gs gv ls lv ss sv F d) (mr_eY fs fv) nd' 16) ∧ ∀ (post : Int32 → SY → Prop) (n : Nat), 16 < n → (∃ n194 : Nat, wY_mark_194 post (nI F) g1 g2 sc mc oc ov en op ns ab sr gs gv kd fs fv ls lv ss sv he du nd' ke n194 0 0) → wY_mark_137 post n 0 (nI F) g1 g2 sc mc oc ov en op ns ab sr gs gv kd fs fv ls lv ss sv he du n0 ke := by
  refine mr_lpE (fun (post : Int32 → SY → Prop) n i (t : Nat → Int32) => wY_mark_137 post n (nI i) (nI F) g1 g2 sc mc oc ov en op ns ab sr gs gv kd fs fv ls lv ss sv he du t ke) (fun post t => ∃ n194 : Nat, wY_mark_194 post (nI F) g1 g2 sc mc oc ov en op ns ab sr gs gv kd fs fv ls lv ss sv he du t ke n194 0 0) (fun i t => mr_MI (mr_rY gs gv ls lv ss sv F d) (mr_eY fs fv) t ∧ (∀ y, mr_rY gs gv ls lv ss sv F d y → t y ≠ 0) ∧ mr_Dn (mr_rY gs gv ls lv ss sv F d) (mr_eY fs fv) t i) 16 (fun s h post n hk => br_t (by decide) hk) (fun i t hi h => ?_) n0 ⟨h, hr, Or.inr (Nat.zero_le _)⟩
  obtain ⟨t', ⟨a, b, c⟩, e⟩ := mr_ym145 (g1 := g1) (g2 := g2) (sc := sc) (mc := mc) (oc := oc) (ov := ov) (en := en) (op := op) (ns := ns) (ab := ab) (sr := sr) (kd := kd) (du := du) (ke := ke) (he := he) hW i t h.1
  refine ⟨t', ⟨a, fun y hy => b y (h.2.1 y hy), mr_round mr_rY_b mr_eY_b h.2.1 b (fun y y' hy hz ⟨j, hj, hp⟩ => c (3 * y + j) (by omega) (by rw [show (3 * y + j) / 3 = y from by omega]; exact hz) y' hp) h.2.2⟩, fun post n h2 => br_f (nI_ge (b := 16) hi (by decide)) ⟨49, e (post, wY_mark_137 post n) 49 (by omega) h2⟩⟩
theorem mr_ym194 (post : Int32 → SY → Prop) (h : post (nI (mr_cn nd 16)) (fr, g1, g2, sc, mc, oc, ov, en, op, ns, ab, sr, gs, gv, kd, fs, fv, ls, lv, ss, sv, he, du, nd, ke)) : wY_mark_194 post fr g1 g2 sc mc oc ov en op ns ab sr gs gv kd fs fv ls lv ss sv he du nd ke 17 0 0 := by
  have key : ∀ (i t : Nat), i < 16 → t = mr_cn nd i → ∃ s' : Nat, s' = mr_cn nd (i + 1) ∧ ∀ (a : Int32 → SY → Prop) (n : Nat), wY_mark_194 a fr g1 g2 sc mc oc ov en op ns ab sr gs gv kd fs fv ls lv ss sv he du nd ke n (nI s') (nI (i + 1)) → wY_mark_194 a fr g1 g2 sc mc oc ov en op ns ab sr gs gv kd fs fv ls lv ss sv he du nd ke (n + 1) (nI t) (nI i) := by
    intro i t hi h
    subst h
    have hs : mr_cn nd (i + 1) = mr_cn nd i + (if nd i = 0 then 0 else 1) := rfl
    refine ⟨mr_cn nd (i + 1), rfl, fun post n h2 => br_f (nI_ge (b := 16) hi (by decide)) ⟨vp_in_nI hi (by decide), ?_⟩⟩
    rw [nI_clamp (n := i) (by omega)]
    by_cases z : nd i = 0
    · rw [if_pos z] at hs
      rw [hs] at h2
      exact br_t z (nm_r (nI_1 i) h2)
    · rw [if_neg z] at hs
      rw [hs] at h2
      exact br_f z (nm_r (nI_1 _) (nm_r (nI_1 i) h2))
  obtain ⟨c, rfl, e⟩ := mr_lpE (fun (post : Int32 → SY → Prop) n i (c : Nat) => wY_mark_194 post fr g1 g2 sc mc oc ov en op ns ab sr gs gv kd fs fv ls lv ss sv he du nd ke n (nI c) (nI i)) (fun post c => post (nI c) (fr, g1, g2, sc, mc, oc, ov, en, op, ns, ab, sr, gs, gv, kd, fs, fv, ls, lv, ss, sv, he, du, nd, ke)) (fun i c => c = mr_cn nd i) 16 (fun s h post n hk => br_t (by decide) hk) key 0 rfl
  exact e post 17 (by omega) h
theorem mr_ymark {F : Nat} (hF : F ≤ 10) (hB : mr_B F d he) (hd : ∀ g, g < F → d g ≤ 6) (hW : mr_YW gs gv ls lv ss sv fs fv F d) : ∃ nd' : Nat → Int32, mr_Is nd' (mr_rY gs gv ls lv ss sv F d) (mr_eY fs fv) ∧ ∀ post : Int32 → SY → Prop, post (nI (mr_cn nd' 16)) (nI F, g1, g2, sc, mc, oc, ov, en, op, ns, ab, sr, gs, gv, kd, fs, fv, ls, lv, ss, sv, he, du, nd', ke) → wpY_mark post (nI F, g1, g2, sc, mc, oc, ov, en, op, ns, ab, sr, gs, gv, kd, fs, fv, ls, lv, ss, sv, he, du, nd, ke) := by
  obtain ⟨t0, h0, e0⟩ := mr_ym2 (fr := nI F) (g1 := g1) (g2 := g2) (sc := sc) (mc := mc) (oc := oc) (ov := ov) (en := en) (op := op) (ns := ns) (ab := ab) (sr := sr) (kd := kd) (du := du) (ke := ke) (gs := gs) (gv := gv) (fs := fs) (fv := fv) (ls := ls) (lv := lv) (ss := ss) (sv := sv) (he := he) nd
  obtain ⟨t1, ⟨a1, b1⟩, e1⟩ := mr_ym23 (g1 := g1) (g2 := g2) (sc := sc) (mc := mc) (oc := oc) (ov := ov) (en := en) (op := op) (ns := ns) (ab := ab) (sr := sr) (kd := kd) (du := du) (ke := ke) (he := he) hW t0 (fun y hy z => absurd (h0 y hy) z)
  obtain ⟨t2, ⟨a2, u2, b2⟩, e2⟩ := mr_ym52 (g1 := g1) (g2 := g2) (sc := sc) (mc := mc) (oc := oc) (ov := ov) (en := en) (op := op) (ns := ns) (ab := ab) (sr := sr) (kd := kd) (du := du) (ke := ke) (he := he) hF hW t1 a1
  obtain ⟨t3, ⟨a3, u3, b3⟩, e3⟩ := mr_ym86 (g1 := g1) (g2 := g2) (sc := sc) (mc := mc) (oc := oc) (ov := ov) (en := en) (op := op) (ns := ns) (ab := ab) (sr := sr) (kd := kd) (du := du) (ke := ke) hF hB hd hW t2 a2
  obtain ⟨t4, ⟨a4, b4, c4⟩, e4⟩ := mr_ym137 (g1 := g1) (g2 := g2) (sc := sc) (mc := mc) (oc := oc) (ov := ov) (en := en) (op := op) (ns := ns) (ab := ab) (sr := sr) (kd := kd) (du := du) (ke := ke) (he := he) hW t3 a3 (fun y hy => by
    rcases hy with ⟨g, a, b⟩ | ⟨k, a, b⟩ | ⟨g, i, a, a', b⟩
    · exact u3 y (u2 y (b1 g a y b))
    · exact u3 y (b2 k a y b)
    · have := hd g a
      exact b3 (6 * g + i) (by omega) (by rw [show (6 * g + i) % 6 = i from by omega, show (6 * g + i) / 6 = g from by omega]; exact a') y b)
  refine ⟨t4, mr_Dn_end c4 a4, fun post hp => ?_⟩
  exact ⟨17, e0 post 17 (by omega) ⟨5, e1 post 5 (by omega) ⟨4 * F + 1, e2 post (4 * F + 1) (by omega) ⟨6 * F + 1, e3 post (6 * F + 1) (by omega) ⟨17, e4 post 17 (by omega) ⟨17, mr_ym194 post hp⟩⟩⟩⟩⟩⟩
end
end
section
/-! X's step: its tests, and what comes behind them -/
section
variable {tc cf fc la oc sc mc g1 g2 fr ov en : Int32} {op ns ab sr cl tk fo du de ke gs gv kd fs fv ls lv ss sv he nd : Nat → Int32} {gl fi lo st : Nat → Int64} {R : Nat → Nat → Prop} {f : Nat} {d : Nat → Nat}
/-- the lower walk of calledStart, as a loop and as a method -/
theorem mr_xcs18 (post : Int32 → Prop) {op' ns' : Nat → Int32} (hc : mr_CD op' ns' ab sr) {slot : Nat} (hs : slot < 4) : ∀ (k j : Nat) (c : Int32), j + k = 4 → mr_ok 4 c → post (mr_fd ab sr slot k c) → wX_calledStart_18 post (nI slot) tc cf fc la oc sc mc g1 g2 op ns ab sr gl cl fi tk fo du de lo st ke (k + 1) c (nI j) := by
  intro k
  induction k with
  | zero =>
    intro j c hj _ h
    have : j = 4 := hj
    subst this
    exact br_t (by decide) h
  | succ k ih =>
    intro j c hj hc4 h
    have j4 : ¬ (4 : Int32) ≤ nI j := nI_ge (b := 4) (by omega) (by decide)
    rcases hc4 with rfl | ⟨a, ha, rfl⟩
    · rw [mr_fd_1] at h
      exact br_f j4 (br_t rfl h)
    · have e1 : nI a * 4 + nI slot = nI (4 * a + slot) := mr_x4 a slot
      have e2 : (nI (4 * a + slot)).toNatClampNeg = 4 * a + slot := nI_clamp (by omega)
      refine br_f j4 (br_f (mr_ne1 (by omega)) ?_)
      rw [e1, e2, nI_clamp (n := a) (by omega)]
      by_cases z : sr (4 * a + slot) = -1
      · rw [mr_fd_n ha z] at h
        exact ⟨vp_in_nI (by omega) (by decide), br_t z ⟨vp_in_nI ha (by decide), nm_e (nm_r (nI_1 j) (ih (j + 1) _ (by omega) (hc.2.1 a ha) h))⟩⟩
      · rw [mr_fd_s ha z] at h
        exact ⟨vp_in_nI (by omega) (by decide), br_f z ⟨vp_in_nI (by omega) (by decide), h⟩⟩
theorem mr_xcs {k x slot : Nat} {post : Int32 → Prop} {op' ns' : Nat → Int32} (hf : f < 10) (hk : k < 6) (e : de f = nI (k + 2)) (hx : x < 16) (hv : st (6 * f + k) = mr_O x) (hc : mr_CD op' ns' ab sr) (hs : slot < 4) (h4 : mr_ok 4 (cl x)) (h : post (mr_fd ab sr slot 4 (cl x))) : wpX_calledStart post (tc, cf, fc, nI f, oc, sc, mc, g1, g2, op, ns, ab, sr, gl, cl, fi, tk, fo, du, de, lo, st, ke) (nI slot) := by
  unfold wpX_calledStart
  dsimp only
  refine mr_xval (t := 2) hf hk e (by omega) ?_
  rw [hv, mr_O_i, nI_clamp (by omega)]
  exact ⟨vp_in_nI hx (by decide), nm_e ⟨5, mr_xcs18 post hc hs 4 0 _ rfl h4 h⟩⟩
theorem mr_xcode {post : Int32 → SX → Prop} (hf : f < 10) (hi : ¬ ∃ i, i < 60 ∧ du f = nI i) (h : post 1 (tc, cf, fc, nI f, oc, sc, mc, g1, g2, op, ns, ab, sr, gl, cl, fi, tk, fo, du, de, lo, st, ke)) : wpX_step post (tc, cf, fc, nI f, oc, sc, mc, g1, g2, op, ns, ab, sr, gl, cl, fi, tk, fo, du, de, lo, st, ke) := by
  have i1 : vp_in (nI f) 10 := vp_in_nI hf (by decide)
  have i2 : (nI f).toNatClampNeg = f := nI_clamp (by omega)
  unfold wpX_step
  dsimp only
  rw [i2]
  refine ⟨i1, nm_e ?_⟩
  rcases pk_ix (du f) (n := 60) (by decide) with z | z | z
  · exact br_t z h
  · exact br_c (fun _ => h) (fun _ => br_f (Int32.not_lt.mpr z) h)
  · exact absurd z hi
theorem mr_xtired {i : Nat} {post : Int32 → SX → Prop} (hf : f < 10) (hi : i < 60) (ei : du f = nI i) (h : post 2 (tc, cf, fc, nI f, oc, nI 300, mc, g1, g2, op, ns, ab, sr, gl, cl, fi, tk, fo, du, de, lo, st, ke)) : wpX_step post (tc, cf, fc, nI f, oc, nI 300, mc, g1, g2, op, ns, ab, sr, gl, cl, fi, tk, fo, du, de, lo, st, ke) := by
  have i1 : vp_in (nI f) 10 := vp_in_nI hf (by decide)
  have i2 : (nI f).toNatClampNeg = f := nI_clamp (by omega)
  unfold wpX_step
  dsimp only
  rw [i2]
  exact ⟨i1, nm_r ei (br_f (nI_pos (by omega)) (br_t (nI_lt (b := 60) hi (by decide)) (br_f (by decide) h)))⟩
/-- up to the sorts -/
theorem mr_xpre {i o s k : Nat} {n a wa b wb : Int32} {post : Int32 → SX → Prop} (hf : f < 10) (hi : i < 60) (ei : du f = nI i) (eo : op i = nI o) (en' : ns i = n) (ho : o < 24) (hs : s < 300) (hk : k ≤ 6) (e : de f = nI k) (hA : 1 ≤ k → mr_V R (st (6 * f + (k - 1))) a wa) (hB : 2 ≤ k → mr_V R (st (6 * f + (k - 2))) b wb) (h3 : (k < mr_tk o ∨ (k = 6 ∧ mr_tk o < mr_lv o)) → post 3 (tc, cf, nI (f + 1), nI f, oc, nI s, mc, g1, g2, op, ns, ab, sr, gl, cl, fi, tk, fo, du, de, lo, st, ke)) (h4 : ¬ (k < mr_tk o ∨ (k = 6 ∧ mr_tk o < mr_lv o)) → ¬ mr_so o a b → post 4 (tc, cf, nI (f + 1), nI f, oc, nI s, mc, g1, g2, op, ns, ab, sr, gl, cl, fi, tk, fo, du, de, lo, st, ke)) (hn : ¬ (k < mr_tk o ∨ (k = 6 ∧ mr_tk o < mr_lv o)) → mr_so o a b → o ≠ 15 → wX_step_83 post (nI i) (nI o) n tc cf (nI (f + 1)) (nI f) oc (nI s) mc g1 g2 op ns ab sr gl cl fi tk fo du de lo st ke) (hy : ¬ (k < mr_tk o ∨ (k = 6 ∧ mr_tk o < mr_lv o)) → mr_so o a b → o = 15 → wpX_isMemoryFull (fun r u => match u with | (tc, cf, fc, la, oc, sc, mc, g1, g2, op, ns, ab, sr, gl, cl, fi, tk, fo, du, de, lo, st, ke) => ((r = 0 → wX_step_83 post (nI i) 15 n tc cf fc la oc sc mc g1 g2 op ns ab sr gl cl fi tk fo du de lo st ke) ∧ (¬ r = 0 → post 5 (tc, cf, fc, la, oc, sc, mc, g1, g2, op, ns, ab, sr, gl, cl, fi, tk, fo, du, de, lo, st, ke)))) (tc, cf, nI (f + 1), nI f, oc, nI s, mc, g1, g2, op, ns, ab, sr, gl, cl, fi, tk, fo, du, de, lo, st, ke)) : wpX_step post (tc, cf, nI (f + 1), nI f, oc, nI s, mc, g1, g2, op, ns, ab, sr, gl, cl, fi, tk, fo, du, de, lo, st, ke) := by
  have i1 : vp_in (nI f) 10 := vp_in_nI hf (by decide)
  have i2 : (nI f).toNatClampNeg = f := nI_clamp (by omega)
  have i3 : vp_in (nI i) 60 := vp_in_nI hi (by decide)
  have i4 : (nI i).toNatClampNeg = i := nI_clamp (by omega)
  unfold wpX_step
  dsimp only
  rw [i2]
  refine ⟨i1, nm_r ei (br_f (nI_pos (by omega)) (br_t (nI_lt (b := 60) hi (by decide)) (br_t (nI_lt (b := 300) hs (by decide)) ?_)))⟩
  rw [i4]
  refine ⟨i3, nm_r eo ⟨i3, nm_r en' ?_⟩⟩
  refine mr_xstack hf hk e o ho (fun z => br_t rfl (h3 z)) (fun z => br_f (by decide) ?_)
  refine mr_xsorts hf hk e hA hB o ho (by omega) (fun z2 => br_f (by decide) ?_) (fun z2 => br_t rfl (h4 z z2))
  by_cases e15 : o = 15
  · subst e15
    exact br_t rfl (hy z z2 rfl)
  · exact br_f (fun q => e15 ((nI_eq (b := 15) (by omega) (by decide)).mp q)) (hn z z2 e15)
/-- from the tests of a call on, to the work -/
theorem mr_xs119 {i o s : Nat} {n r : Int32} {post : Int32 → SX → Prop} {u' : SX} (hf : f < 10) (L : ∀ Q : Int32 → SX → Prop, Q r u' → wpX_work Q (tc, cf, nI (f + 1), nI f, oc, nI (s + 1), mc, g1, g2, op, ns, ab, sr, gl, cl, fi, tk, fo, upd du f (nI (i + 1)), de, lo, st, ke) (nI o) n) (h : post r u') : wX_step_119 post (nI i) (nI o) n tc cf (nI (f + 1)) (nI f) oc (nI s) mc g1 g2 op ns ab sr gl cl fi tk fo du de lo st ke := by
  obtain ⟨tc', cf', fc', la', oc', sc', mc', g1', g2', op', ns', ab', sr', gl', cl', fi', tk', fo', du', de', lo', st', ke'⟩ := u'
  have i1 : vp_in (nI f) 10 := vp_in_nI hf (by decide)
  have i2 : (nI f).toNatClampNeg = f := nI_clamp (by omega)
  unfold wX_step_119
  rw [i2, nI_1 s, nI_1 i]
  exact nm_e ⟨i1, nm_e (L _ h)⟩
theorem mr_xs83 {i o s : Nat} {n r : Int32} {post : Int32 → SX → Prop} {u' : SX} (hf : f < 10) (ho : o < 24) (h19 : o ≠ 19) (L : ∀ Q : Int32 → SX → Prop, Q r u' → wpX_work Q (tc, cf, nI (f + 1), nI f, oc, nI (s + 1), mc, g1, g2, op, ns, ab, sr, gl, cl, fi, tk, fo, upd du f (nI (i + 1)), de, lo, st, ke) (nI o) n) (h : post r u') : wX_step_83 post (nI i) (nI o) n tc cf (nI (f + 1)) (nI f) oc (nI s) mc g1 g2 op ns ab sr gl cl fi tk fo du de lo st ke := by
  have q : ¬ nI o = 19 := fun q => h19 ((nI_eq (b := 19) (by omega) (by decide)).mp q)
  exact br_f q (br_f q (mr_xs119 hf L h))
end
end
section
/-! Y's can: its tests; the head of Y's work -/
section
variable {tc cf fc la oc sc mc g1 g2 fr ov en : Int32} {op ns ab sr cl tk fo du de ke gs gv kd fs fv ls lv ss sv he nd : Nat → Int32} {gl fi lo st : Nat → Int64} {R : Nat → Nat → Prop} {f : Nat} {d : Nat → Nat}
theorem mr_yfd10 (post : Int32 → Prop) {op' ns' : Nat → Int32} (hc : mr_CD op' ns' ab sr) {slot : Nat} (hs : slot < 4) : ∀ (k j : Nat) (c : Int32), j + k = 4 → mr_ok 4 c → post (mr_fd ab sr slot k c) → wY_find_10 post (nI slot) fr g1 g2 sc mc oc ov en op ns ab sr gs gv kd fs fv ls lv ss sv he du nd ke (k + 1) c (nI j) := by
  intro k
  induction k with
  | zero =>
    intro j c hj _ h
    have : j = 4 := hj
    subst this
    exact br_t (by decide) h
  | succ k ih =>
    intro j c hj hc4 h
    have j4 : ¬ (4 : Int32) ≤ nI j := nI_ge (b := 4) (by omega) (by decide)
    rcases hc4 with rfl | ⟨a, ha, rfl⟩
    · rw [mr_fd_1] at h
      exact br_f j4 (br_t (by decide) (nm_r (nI_1 j) (ih (j + 1) (-1) (by omega) (Or.inl rfl) (by rw [mr_fd_1]; exact h))))
    · have e1 : 4 * nI a + nI slot = nI (4 * a + slot) := mr_y4 a slot
      have e2 : (nI (4 * a + slot)).toNatClampNeg = 4 * a + slot := nI_clamp (by omega)
      refine br_f j4 (br_f (nI_pos (by omega)) ?_)
      rw [e1, e2, nI_clamp (n := a) (by omega)]
      rcases hc.2.2 (4 * a + slot) (by omega) with z | ⟨q, hq, z⟩
      · rw [mr_fd_n ha z] at h
        exact ⟨vp_in_nI (by omega) (by decide), br_t (by rw [z]; decide) ⟨vp_in_nI ha (by decide), nm_e (nm_r (nI_1 j) (ih (j + 1) _ (by omega) (hc.2.1 a ha) h))⟩⟩
      · rw [mr_fd_s ha (by rw [z]; exact mr_ne1 (by omega))] at h
        exact ⟨vp_in_nI (by omega) (by decide), br_f (by rw [z]; exact nI_pos (by omega)) ⟨vp_in_nI (by omega) (by decide), h⟩⟩
theorem mr_yfind {y slot : Nat} {post : Int32 → Prop} {op' ns' : Nat → Int32} (hy : y < 16) (hc : mr_CD op' ns' ab sr) (hs : slot < 4) (h4 : mr_ok 4 (kd y)) (h : post (mr_fd ab sr slot 4 (kd y))) : wpY_find post (fr, g1, g2, sc, mc, oc, ov, en, op, ns, ab, sr, gs, gv, kd, fs, fv, ls, lv, ss, sv, he, du, nd, ke) (nI y) (nI slot) := by
  unfold wpY_find
  dsimp only
  rw [nI_clamp (by omega)]
  exact ⟨vp_in_nI hy (by decide), nm_e ⟨5, mr_yfd10 post hc hs 4 0 _ rfl h4 h⟩⟩
theorem mr_ystart {k y slot : Nat} {post : Int32 → Prop} {op' ns' : Nat → Int32} (hf : f < 10) (hk : k < 6) (e : he f = nI (k + 2)) (hy : y < 16) (hv : sv (6 * f + k) = nI y) (hc : mr_CD op' ns' ab sr) (hs : slot < 4) (h4 : mr_ok 4 (kd y)) (h : post (mr_fd ab sr slot 4 (kd y))) : wpY_start post (nI (f + 1), g1, g2, sc, mc, oc, ov, en, op, ns, ab, sr, gs, gv, kd, fs, fv, ls, lv, ss, sv, he, du, nd, ke) (nI slot) := by
  unfold wpY_start
  dsimp only
  refine mr_yat (t := 1) hf hk e (fun i j => ⟨i, ?_⟩)
  rw [j, hv, mr_and15 hy]
  exact mr_yfind hy hc hs h4 h
theorem mr_yin {post : Int32 → Prop} (v : SY) (x lo' hi' : Int32) (h1 : lo' ≤ x → x ≤ hi' → post 1) (h0 : (x < lo' ∨ hi' < x) → post 0) : wpY_in post v x lo' hi' := by
  obtain ⟨fr, g1, g2, sc, mc, oc, ov, en, op, ns, ab, sr, gs, gv, kd, fs, fv, ls, lv, ss, sv, he, du, nd, ke⟩ := v
  unfold wpY_in
  dsimp only
  exact br_c (fun z => h0 (Or.inl z)) (fun z => br_c (fun z2 => h0 (Or.inr z2)) (fun z2 => h1 (Int32.not_lt.mp z) (Int32.not_lt.mp z2)))
theorem mr_y191 {post : Int32 → SY → Prop} (h : post 1 (fr, g1, g2, sc, mc, oc, 0, en, op, ns, ab, sr, gs, gv, kd, fs, fv, ls, lv, ss, sv, he, du, nd, ke)) : wY_can_191 post fr g1 g2 sc mc oc 0 en op ns ab sr gs gv kd fs fv ls lv ss sv he du nd ke := br_t rfl h
theorem mr_y191' {post : Int32 → SY → Prop} (h : post 0 (fr, g1, g2, sc, mc, oc, 1, en, op, ns, ab, sr, gs, gv, kd, fs, fv, ls, lv, ss, sv, he, du, nd, ke)) : wY_can_191 post fr g1 g2 sc mc oc 1 en op ns ab sr gs gv kd fs fv ls lv ss sv he du nd ke := br_f (by decide) h
theorem mr_ycode {post : Int32 → SY → Prop} (hf : f < 10) (hi : ¬ ∃ i, i < 60 ∧ du f = nI i) (h : post 0 (nI (f + 1), g1, g2, sc, mc, oc, 1, 1, op, ns, ab, sr, gs, gv, kd, fs, fv, ls, lv, ss, sv, he, du, nd, ke)) : wpY_can post (nI (f + 1), g1, g2, sc, mc, oc, ov, en, op, ns, ab, sr, gs, gv, kd, fs, fv, ls, lv, ss, sv, he, du, nd, ke) := by
  have i1 : vp_in (nI f) 10 := vp_in_nI hf (by decide)
  have i2 : (nI f).toNatClampNeg = f := nI_clamp (by omega)
  unfold wpY_can
  dsimp only
  rw [nI_pred f, i2]
  refine ⟨i1, nm_e (mr_yin _ _ _ _ (fun z z2 => ?_) (fun z => br_t rfl (mr_y191' h)))⟩
  obtain ⟨j, hj, ej⟩ := nI_of2 (M := 59) (n := 59) (by decide) (Int32.not_lt.mpr z) z2
  exact absurd ⟨j, by omega, ej⟩ hi
theorem mr_y59 {i : Nat} (hi : i < 60) {post : Int32 → Prop} (v : SY) (h : post 1) : wpY_in post v (nI i) 0 59 :=
  mr_yin v _ _ _ (fun _ _ => h) (fun z => by
    rcases z with z | z
    · exact absurd z (nI_pos (by omega))
    · exact absurd z (nI_nlt (a := 59) (by omega) (by decide)))
theorem mr_ytired {i : Nat} {post : Int32 → SY → Prop} (hf : f < 10) (hi : i < 60) (ei : du f = nI i) (h : post 0 (nI (f + 1), g1, g2, nI 300, mc, oc, 1, 2, op, ns, ab, sr, gs, gv, kd, fs, fv, ls, lv, ss, sv, he, du, nd, ke)) : wpY_can post (nI (f + 1), g1, g2, nI 300, mc, oc, ov, en, op, ns, ab, sr, gs, gv, kd, fs, fv, ls, lv, ss, sv, he, du, nd, ke) := by
  have i1 : vp_in (nI f) 10 := vp_in_nI hf (by decide)
  have i2 : (nI f).toNatClampNeg = f := nI_clamp (by omega)
  unfold wpY_can
  dsimp only
  rw [nI_pred f, i2]
  exact ⟨i1, nm_r ei (mr_y59 hi _ (br_f (by decide) (br_t rfl (mr_y191' h))))⟩
theorem mr_ypre {i o s k : Nat} {post : Int32 → SY → Prop} (hf : f < 10) (hi : i < 60) (ei : du f = nI i) (eo : op i = nI o) (ho : o < 24) (hs : s < 300) (hk : k ≤ 6) (e : he f = nI k) (h3 : (k < mr_tk o ∨ (k = 6 ∧ mr_tk o < mr_lv o)) → post 0 (nI (f + 1), g1, g2, nI s, mc, oc, 1, 3, op, ns, ab, sr, gs, gv, kd, fs, fv, ls, lv, ss, sv, he, du, nd, ke)) (h4 : ¬ (k < mr_tk o ∨ (k = 6 ∧ mr_tk o < mr_lv o)) → ¬ mr_so o (ss (6 * f + (k - 1))) (ss (6 * f + (k - 2))) → post 0 (nI (f + 1), g1, g2, nI s, mc, oc, 1, 4, op, ns, ab, sr, gs, gv, kd, fs, fv, ls, lv, ss, sv, he, du, nd, ke)) (hn : ¬ (k < mr_tk o ∨ (k = 6 ∧ mr_tk o < mr_lv o)) → mr_so o (ss (6 * f + (k - 1))) (ss (6 * f + (k - 2))) → o ≠ 15 → wY_can_142 post (nI i) (nI o) (nI (f + 1)) g1 g2 (nI s) mc oc 0 en op ns ab sr gs gv kd fs fv ls lv ss sv he du nd ke) (hy : ¬ (k < mr_tk o ∨ (k = 6 ∧ mr_tk o < mr_lv o)) → mr_so o (ss (6 * f + (k - 1))) (ss (6 * f + (k - 2))) → o = 15 → wpY_mark (fun r u => match u with | (fr, g1, g2, sc, mc, oc, ov, en, op, ns, ab, sr, gs, gv, kd, fs, fv, ls, lv, ss, sv, he, du, nd, ke) => ((r = 16 → wpY_stop (fun u => match u with | (fr, g1, g2, sc, mc, oc, ov, en, op, ns, ab, sr, gs, gv, kd, fs, fv, ls, lv, ss, sv, he, du, nd, ke) => wY_can_191 post fr g1 g2 sc mc oc ov en op ns ab sr gs gv kd fs fv ls lv ss sv he du nd ke) (fr, g1, g2, sc, mc, oc, ov, en, op, ns, ab, sr, gs, gv, kd, fs, fv, ls, lv, ss, sv, he, du, nd, ke) 5) ∧ (¬ r = 16 → wY_can_142 post (nI i) 15 fr g1 g2 sc mc oc ov en op ns ab sr gs gv kd fs fv ls lv ss sv he du nd ke))) (nI (f + 1), g1, g2, nI s, mc, oc, 0, en, op, ns, ab, sr, gs, gv, kd, fs, fv, ls, lv, ss, sv, he, du, nd, ke)) : wpY_can post (nI (f + 1), g1, g2, nI s, mc, oc, 0, en, op, ns, ab, sr, gs, gv, kd, fs, fv, ls, lv, ss, sv, he, du, nd, ke) := by
  have i1 : vp_in (nI f) 10 := vp_in_nI hf (by decide)
  have i2 : (nI f).toNatClampNeg = f := nI_clamp (by omega)
  have i3 : vp_in (nI i) 60 := vp_in_nI hi (by decide)
  have i4 : (nI i).toNatClampNeg = i := nI_clamp (by omega)
  have t2 := mr_tk_le o ho
  have l2 := mr_lv_le o ho
  unfold wpY_can
  dsimp only
  rw [nI_pred f, i2]
  refine ⟨i1, nm_r ei (mr_y59 hi _ (br_f (by decide) (br_f (fun q => absurd ((nI_eq (b := 300) (by omega) (by decide)).mp q) (by omega)) ?_)))⟩
  rw [i4]
  refine ⟨i3, nm_r eo ⟨i1, nm_r e (mr_ytakes _ _ o ho ?_)⟩⟩
  refine pk_lt k (mr_tk o) (fun z => mr_y191' (h3 (Or.inl z))) (fun z => mr_ytakes _ _ o ho (mr_yleaves _ _ o ho ?_))
  rw [pk_sub z, nI_add]
  refine pk_le (k - mr_tk o + mr_lv o) 6 (fun z2 => ?_) (fun z2 => mr_y191' (h3 (Or.inr (by omega))))
  have z3 : ¬ (k < mr_tk o ∨ (k = 6 ∧ mr_tk o < mr_lv o)) := by omega
  refine mr_ysorts hf hk e o ho z (fun z4 => br_f (by decide) ?_) (fun z4 => br_t rfl (mr_y191' (h4 z3 z4)))
  by_cases e15 : o = 15
  · subst e15
    exact br_t rfl (hy z3 z4 rfl)
  · exact br_f (fun q => e15 ((nI_eq (b := 15) (by omega) (by decide)).mp q)) (hn z3 z4 e15)
theorem mr_y142 {i o s : Nat} {post : Int32 → SY → Prop} (ho : o < 24) (h19 : o ≠ 19) (h : post 1 (nI (f + 1), g1, g2, nI s, mc, oc, 0, en, op, ns, ab, sr, gs, gv, kd, fs, fv, ls, lv, ss, sv, he, du, nd, ke)) : wY_can_142 post (nI i) (nI o) (nI (f + 1)) g1 g2 (nI s) mc oc 0 en op ns ab sr gs gv kd fs fv ls lv ss sv he du nd ke := by
  have q : ¬ nI o = 19 := fun q => h19 ((nI_eq (b := 19) (by omega) (by decide)).mp q)
  exact br_f q (br_f q (mr_y191 h))
/-- the head of the work: the instruction, the next one due, one step more -/
theorem mr_ywS {i o s : Nat} {n : Int32} {v' : SY} (hf : f < 10) (hi : i < 60) (ei : du f = nI i) (eo : op i = nI o) (en' : ns i = n) (ho : o < 24) (h0 : o ≠ 0) (h13 : o ≠ 13) (h15 : o ≠ 15) (h19 : o ≠ 19) (h20 : o ≠ 20) (ht : mr_tk o ≠ 2) (L : ∀ Q : SY → Prop, Q v' → wpY_simple Q (nI (f + 1), g1, g2, nI (s + 1), mc, oc, 0, en, op, ns, ab, sr, gs, gv, kd, fs, fv, ls, lv, ss, sv, he, upd du f (nI (i + 1)), nd, ke) (nI o) n) (post : SY → Prop) (h : post v') : wpY_work post (nI (f + 1), g1, g2, nI s, mc, oc, 0, en, op, ns, ab, sr, gs, gv, kd, fs, fv, ls, lv, ss, sv, he, du, nd, ke) := by
  obtain ⟨fr', g1', g2', sc', mc', oc', ov', en'', op', ns', ab', sr', gs', gv', kd', fs', fv', ls', lv', ss', sv', he', du', nd', ke'⟩ := v'
  have i1 : vp_in (nI f) 10 := vp_in_nI hf (by decide)
  have i2 : (nI f).toNatClampNeg = f := nI_clamp (by omega)
  have i3 : vp_in (nI i) 60 := vp_in_nI hi (by decide)
  have i4 : (nI i).toNatClampNeg = i := nI_clamp (by omega)
  have t2 := mr_tk_le o ho
  unfold wpY_work
  dsimp only
  rw [nI_pred f, i2, ei, nI_1 s, nI_1 i]
  refine ⟨i1, nm_e ?_⟩
  rw [i4, en']
  refine ⟨i3, nm_r eo ⟨i1, i1, nm_e (nm_e (br_f (fun q => h0 ((nI_eq (b := 0) (by omega) (by decide)).mp q)) (br_f (fun q => h13 ((nI_eq (b := 13) (by omega) (by decide)).mp q)) (br_f (fun q => h15 ((nI_eq (b := 15) (by omega) (by decide)).mp q)) (br_f (fun q => h19 ((nI_eq (b := 19) (by omega) (by decide)).mp q)) (br_f (fun q => h20 ((nI_eq (b := 20) (by omega) (by decide)).mp q)) (mr_ytakes _ _ o ho (br_f (fun q => ht ((nI_eq (b := 2) (by omega) (by decide)).mp q)) ⟨i3, L _ h⟩))))))))⟩⟩
theorem mr_ywT {i o s : Nat} {n : Int32} {v' : SY} (hf : f < 10) (hi : i < 60) (ei : du f = nI i) (eo : op i = nI o) (en' : ns i = n) (ho : o < 24) (h0 : o ≠ 0) (h13 : o ≠ 13) (h15 : o ≠ 15) (h19 : o ≠ 19) (h20 : o ≠ 20) (ht : mr_tk o = 2) (L : ∀ Q : SY → Prop, Q v' → wpY_two Q (nI (f + 1), g1, g2, nI (s + 1), mc, oc, 0, en, op, ns, ab, sr, gs, gv, kd, fs, fv, ls, lv, ss, sv, he, upd du f (nI (i + 1)), nd, ke) (nI o) n) (post : SY → Prop) (h : post v') : wpY_work post (nI (f + 1), g1, g2, nI s, mc, oc, 0, en, op, ns, ab, sr, gs, gv, kd, fs, fv, ls, lv, ss, sv, he, du, nd, ke) := by
  obtain ⟨fr', g1', g2', sc', mc', oc', ov', en'', op', ns', ab', sr', gs', gv', kd', fs', fv', ls', lv', ss', sv', he', du', nd', ke'⟩ := v'
  have i1 : vp_in (nI f) 10 := vp_in_nI hf (by decide)
  have i2 : (nI f).toNatClampNeg = f := nI_clamp (by omega)
  have i3 : vp_in (nI i) 60 := vp_in_nI hi (by decide)
  have i4 : (nI i).toNatClampNeg = i := nI_clamp (by omega)
  unfold wpY_work
  dsimp only
  rw [nI_pred f, i2, ei, nI_1 s, nI_1 i]
  refine ⟨i1, nm_e ?_⟩
  rw [i4, en']
  refine ⟨i3, nm_r eo ⟨i1, i1, nm_e (nm_e (br_f (fun q => h0 ((nI_eq (b := 0) (by omega) (by decide)).mp q)) (br_f (fun q => h13 ((nI_eq (b := 13) (by omega) (by decide)).mp q)) (br_f (fun q => h15 ((nI_eq (b := 15) (by omega) (by decide)).mp q)) (br_f (fun q => h19 ((nI_eq (b := 19) (by omega) (by decide)).mp q)) (br_f (fun q => h20 ((nI_eq (b := 20) (by omega) (by decide)).mp q)) (mr_ytakes _ _ o ho (br_t (congrArg nI ht) ⟨i3, L _ h⟩))))))))⟩⟩
end
end
section
/-! the relation while a run goes on; heads of Y's work for the other instructions -/
def mr_H (R : Nat → Nat → Prop) (f : Nat) (d : Nat → Nat) (tc cf : Int32) (op ns ab sr : Nat → Int32) (gl : Nat → Int64) (cl : Nat → Int32) (fi : Nat → Int64) (tk de : Nat → Int32) (lo st : Nat → Int64) (gs gv kd fs fv ls lv ss sv he : Nat → Int32) : Prop :=
  f < 10 ∧ mr_CD op ns ab sr ∧ mr_B (f + 1) d de ∧ mr_B (f + 1) d he ∧ mr_DB f d ∧ mr_RV R (f + 1) d gl lo st gs gv ls lv ss sv ∧ mr_HV R cl fi tk kd fs fv ∧ tc = nI (mr_cn tk 16) ∧ ∃ m : Nat, m ≤ 16 ∧ cf = nI m
/-- between two calls -/
def mr_E (R : Nat → Nat → Prop) (tc cf : Int32) (op ns ab sr : Nat → Int32) (gl : Nat → Int64) (cl : Nat → Int32) (fi : Nat → Int64) (tk gs gv kd fs fv : Nat → Int32) : Prop :=
  mr_CD op ns ab sr ∧ (∀ g, g < 4 → mr_V R (gl g) (gs g) (gv g)) ∧ mr_HV R cl fi tk kd fs fv ∧ tc = nI (mr_cn tk 16) ∧ ∃ m : Nat, m ≤ 16 ∧ cf = nI m
/-- a run goes on: S steps, at most P ints out -/
def mr_Md (S : Int32) (P : Nat) (u : SX) (v : SY) : Prop :=
  ∃ (R : Nat → Nat → Prop) (f : Nat) (d : Nat → Nat) (p : Nat) (tc cf mc g1 g2 en : Int32) (op ns ab sr cl tk fo du de ke gs gv kd fs fv ls lv ss sv he nd : Nat → Int32) (gl fi lo st : Nat → Int64), p ≤ P ∧ u = (tc, cf, nI (f + 1), nI f, nI p, S, mc, g1, g2, op, ns, ab, sr, gl, cl, fi, tk, fo, du, de, lo, st, ke) ∧ v = (nI (f + 1), g1, g2, S, mc, nI p, 0, en, op, ns, ab, sr, gs, gv, kd, fs, fv, ls, lv, ss, sv, he, du, nd, ke) ∧ mr_H R f d tc cf op ns ab sr gl cl fi tk de lo st gs gv kd fs fv ls lv ss sv he
/-- a run has ended with r -/
def mr_En (r : Int32) (u : SX) (v : SY) : Prop :=
  ∃ (R : Nat → Nat → Prop) (tc cf fc la oc sc mc g1 g2 fr : Int32) (op ns ab sr cl tk fo du de ke gs gv kd fs fv ls lv ss sv he nd : Nat → Int32) (gl fi lo st : Nat → Int64), u = (tc, cf, fc, la, oc, sc, mc, g1, g2, op, ns, ab, sr, gl, cl, fi, tk, fo, du, de, lo, st, ke) ∧ v = (fr, g1, g2, sc, mc, oc, 1, r, op, ns, ab, sr, gs, gv, kd, fs, fv, ls, lv, ss, sv, he, du, nd, ke) ∧ mr_E R tc cf op ns ab sr gl cl fi tk gs gv kd fs fv
section
variable {tc cf fc la oc sc mc g1 g2 fr ov en : Int32} {op ns ab sr cl tk fo du de ke gs gv kd fs fv ls lv ss sv he nd : Nat → Int32} {gl fi lo st : Nat → Int64} {R : Nat → Nat → Prop} {f : Nat} {d : Nat → Nat}
theorem mr_mkM {S : Int32} {p P : Nat} (hp : p ≤ P) (H : mr_H R f d tc cf op ns ab sr gl cl fi tk de lo st gs gv kd fs fv ls lv ss sv he) : mr_Md S P (tc, cf, nI (f + 1), nI f, nI p, S, mc, g1, g2, op, ns, ab, sr, gl, cl, fi, tk, fo, du, de, lo, st, ke) (nI (f + 1), g1, g2, S, mc, nI p, 0, en, op, ns, ab, sr, gs, gv, kd, fs, fv, ls, lv, ss, sv, he, du, nd, ke) :=
  ⟨R, f, d, p, tc, cf, mc, g1, g2, en, op, ns, ab, sr, cl, tk, fo, du, de, ke, gs, gv, kd, fs, fv, ls, lv, ss, sv, he, nd, gl, fi, lo, st, hp, rfl, rfl, H⟩
theorem mr_mkE {r : Int32} (H : mr_E R tc cf op ns ab sr gl cl fi tk gs gv kd fs fv) : mr_En r (tc, cf, fc, la, oc, sc, mc, g1, g2, op, ns, ab, sr, gl, cl, fi, tk, fo, du, de, lo, st, ke) (fr, g1, g2, sc, mc, oc, 1, r, op, ns, ab, sr, gs, gv, kd, fs, fv, ls, lv, ss, sv, he, du, nd, ke) :=
  ⟨R, tc, cf, fc, la, oc, sc, mc, g1, g2, fr, op, ns, ab, sr, cl, tk, fo, du, de, ke, gs, gv, kd, fs, fv, ls, lv, ss, sv, he, nd, gl, fi, lo, st, rfl, rfl, H⟩
theorem mr_HE (H : mr_H R f d tc cf op ns ab sr gl cl fi tk de lo st gs gv kd fs fv ls lv ss sv he) : mr_E R tc cf op ns ab sr gl cl fi tk gs gv kd fs fv := ⟨H.2.1, H.2.2.2.2.2.1.1, H.2.2.2.2.2.2.1, H.2.2.2.2.2.2.2.1, H.2.2.2.2.2.2.2.2⟩
theorem mr_yw0 {i s : Nat} {v' : SY} (hf : f < 10) (hi : i < 60) (ei : du f = nI i) (eo : op i = nI 0) (L : ∀ Q : SY → Prop, Q v' → wpY_stop Q (nI (f + 1), g1, g2, nI (s + 1), mc, oc, 0, en, op, ns, ab, sr, gs, gv, kd, fs, fv, ls, lv, ss, sv, he, upd du f (nI (i + 1)), nd, ke) 0) (post : SY → Prop) (h : post v') : wpY_work post (nI (f + 1), g1, g2, nI s, mc, oc, 0, en, op, ns, ab, sr, gs, gv, kd, fs, fv, ls, lv, ss, sv, he, du, nd, ke) := by
  obtain ⟨fr', g1', g2', sc', mc', oc', ov', en', op', ns', ab', sr', gs', gv', kd', fs', fv', ls', lv', ss', sv', he', du', nd', ke'⟩ := v'
  have i1 : vp_in (nI f) 10 := vp_in_nI hf (by decide)
  have i2 : (nI f).toNatClampNeg = f := nI_clamp (by omega)
  have i3 : vp_in (nI i) 60 := vp_in_nI hi (by decide)
  have i4 : (nI i).toNatClampNeg = i := nI_clamp (by omega)
  unfold wpY_work
  dsimp only
  rw [nI_pred f, i2, ei, nI_1 s, nI_1 i]
  refine ⟨i1, nm_e ?_⟩
  rw [i4]
  exact ⟨i3, nm_r eo ⟨i1, i1, nm_e (nm_e (br_t rfl (L _ h)))⟩⟩
theorem mr_yw15 {i s : Nat} {n : Int32} {v' : SY} (hf : f < 10) (hi : i < 60) (ei : du f = nI i) (eo : op i = nI 15) (en'' : ns i = n) (L : ∀ Q : SY → Prop, Q v' → wpY_make Q (nI (f + 1), g1, g2, nI (s + 1), mc, oc, 0, en, op, ns, ab, sr, gs, gv, kd, fs, fv, ls, lv, ss, sv, he, upd du f (nI (i + 1)), nd, ke) n) (post : SY → Prop) (h : post v') : wpY_work post (nI (f + 1), g1, g2, nI s, mc, oc, 0, en, op, ns, ab, sr, gs, gv, kd, fs, fv, ls, lv, ss, sv, he, du, nd, ke) := by
  obtain ⟨fr', g1', g2', sc', mc', oc', ov', en', op', ns', ab', sr', gs', gv', kd', fs', fv', ls', lv', ss', sv', he', du', nd', ke'⟩ := v'
  have i1 : vp_in (nI f) 10 := vp_in_nI hf (by decide)
  have i2 : (nI f).toNatClampNeg = f := nI_clamp (by omega)
  have i3 : vp_in (nI i) 60 := vp_in_nI hi (by decide)
  have i4 : (nI i).toNatClampNeg = i := nI_clamp (by omega)
  unfold wpY_work
  dsimp only
  rw [nI_pred f, i2, ei, nI_1 s, nI_1 i]
  refine ⟨i1, nm_e ?_⟩
  rw [i4, en'']
  exact ⟨i3, nm_r eo ⟨i1, i1, nm_e (nm_e (br_f (by decide) (br_f (by decide) (br_t rfl ⟨i3, L _ h⟩))))⟩⟩
theorem mr_yw19 {i s : Nat} {n : Int32} {v' : SY} (hf : f < 10) (hi : i < 60) (ei : du f = nI i) (eo : op i = nI 19) (en'' : ns i = n) (L : ∀ Q : SY → Prop, Q v' → wpY_call Q (nI (f + 1), g1, g2, nI (s + 1), mc, oc, 0, en, op, ns, ab, sr, gs, gv, kd, fs, fv, ls, lv, ss, sv, he, upd du f (nI (i + 1)), nd, ke) n) (post : SY → Prop) (h : post v') : wpY_work post (nI (f + 1), g1, g2, nI s, mc, oc, 0, en, op, ns, ab, sr, gs, gv, kd, fs, fv, ls, lv, ss, sv, he, du, nd, ke) := by
  obtain ⟨fr', g1', g2', sc', mc', oc', ov', en', op', ns', ab', sr', gs', gv', kd', fs', fv', ls', lv', ss', sv', he', du', nd', ke'⟩ := v'
  have i1 : vp_in (nI f) 10 := vp_in_nI hf (by decide)
  have i2 : (nI f).toNatClampNeg = f := nI_clamp (by omega)
  have i3 : vp_in (nI i) 60 := vp_in_nI hi (by decide)
  have i4 : (nI i).toNatClampNeg = i := nI_clamp (by omega)
  unfold wpY_work
  dsimp only
  rw [nI_pred f, i2, ei, nI_1 s, nI_1 i]
  refine ⟨i1, nm_e ?_⟩
  rw [i4, en'']
  exact ⟨i3, nm_r eo ⟨i1, i1, nm_e (nm_e (br_f (by decide) (br_f (by decide) (br_f (by decide) (br_t rfl ⟨i3, L _ h⟩)))))⟩⟩
theorem mr_yw20 {i s : Nat} {v' : SY} (hf : f < 10) (hi : i < 60) (ei : du f = nI i) (eo : op i = nI 20) (L : ∀ Q : SY → Prop, Q v' → wpY_leave Q (nI (f + 1), g1, g2, nI (s + 1), mc, oc, 0, en, op, ns, ab, sr, gs, gv, kd, fs, fv, ls, lv, ss, sv, he, upd du f (nI (i + 1)), nd, ke)) (post : SY → Prop) (h : post v') : wpY_work post (nI (f + 1), g1, g2, nI s, mc, oc, 0, en, op, ns, ab, sr, gs, gv, kd, fs, fv, ls, lv, ss, sv, he, du, nd, ke) := by
  obtain ⟨fr', g1', g2', sc', mc', oc', ov', en', op', ns', ab', sr', gs', gv', kd', fs', fv', ls', lv', ss', sv', he', du', nd', ke'⟩ := v'
  have i1 : vp_in (nI f) 10 := vp_in_nI hf (by decide)
  have i2 : (nI f).toNatClampNeg = f := nI_clamp (by omega)
  have i3 : vp_in (nI i) 60 := vp_in_nI hi (by decide)
  have i4 : (nI i).toNatClampNeg = i := nI_clamp (by omega)
  unfold wpY_work
  dsimp only
  rw [nI_pred f, i2, ei, nI_1 s, nI_1 i]
  refine ⟨i1, nm_e ?_⟩
  rw [i4]
  exact ⟨i3, nm_r eo ⟨i1, i1, nm_e (nm_e (br_f (by decide) (br_f (by decide) (br_f (by decide) (br_f (by decide) (br_t rfl (L _ h)))))))⟩⟩
theorem mr_yw13 {i s : Nat} {n : Int32} (hf : f < 10) (hi : i < 60) (ei : du f = nI i) (eo : op i = nI 13) (en'' : ns i = n) (post : SY → Prop) (h : post (nI (f + 1), g1, g2, nI (s + 1), mc, oc, 0, en, op, ns, ab, sr, gs, gv, kd, fs, fv, ls, lv, ss, sv, he, upd (upd du f (nI (i + 1))) f n, nd, ke)) : wpY_work post (nI (f + 1), g1, g2, nI s, mc, oc, 0, en, op, ns, ab, sr, gs, gv, kd, fs, fv, ls, lv, ss, sv, he, du, nd, ke) := by
  have i1 : vp_in (nI f) 10 := vp_in_nI hf (by decide)
  have i2 : (nI f).toNatClampNeg = f := nI_clamp (by omega)
  have i3 : vp_in (nI i) 60 := vp_in_nI hi (by decide)
  have i4 : (nI i).toNatClampNeg = i := nI_clamp (by omega)
  unfold wpY_work
  dsimp only
  rw [nI_pred f, i2, ei, nI_1 s, nI_1 i]
  refine ⟨i1, nm_e ?_⟩
  rw [i4, en'']
  exact ⟨i3, nm_r eo ⟨i1, i1, nm_e (nm_e (br_f (by decide) (br_t rfl ⟨i3, i1, nm_e h⟩)))⟩⟩
end
end
section
/-! Y's tail of simple; the walks over the rows above, as methods -/
def mr_iy (ab : Nat → Int32) (n : Int32) : Nat → Int32 → Int32
  | 0, _ => 0
  | k + 1, c => if c = n then 1 else mr_iy ab n k (if c = -1 then -1 else ab c.toNatClampNeg)
theorem mr_iy_01 (ab : Nat → Int32) (n : Int32) : ∀ (k : Nat) (c : Int32), mr_iy ab n k c = 0 ∨ mr_iy ab n k c = 1 := by
  intro k
  induction k with
  | zero => intro c; exact Or.inl rfl
  | succ k ih =>
    intro c
    rw [mr_iy]
    split
    · exact Or.inr rfl
    · exact ih _
theorem mr_iy_1 {ab : Nat → Int32} {n : Int32} (hn : ¬ n = -1) : ∀ k, mr_iy ab n k (-1) = 0 := by
  intro k
  induction k with
  | zero => rfl
  | succ k ih => rw [mr_iy, if_neg (fun q => hn q.symm), if_pos rfl]; exact ih
theorem mr_iy_is {ab : Nat → Int32} {n : Int32} (hn : ¬ n = -1) : ∀ (k : Nat) (c : Int32), mr_iy ab n k c = mr_is ab n k c := by
  intro k
  induction k with
  | zero => intro c; rfl
  | succ k ih =>
    intro c
    by_cases z : c = -1
    · subst z
      rw [mr_iy_1 hn, mr_is_1]
    · rw [mr_iy, mr_is, if_neg z, if_neg z, ih]
section
variable {tc cf fc la oc sc mc g1 g2 fr ov en : Int32} {op ns ab sr cl tk fo du de ke gs gv kd fs fv ls lv ss sv he nd : Nat → Int32} {gl fi lo st : Nat → Int64} {R : Nat → Nat → Prop} {f : Nat} {d : Nat → Nat}
theorem mr_yis10 (post : Int32 → Prop) {op' ns' sr' : Nat → Int32} (hc : mr_CD op' ns' ab sr') (n : Int32) : ∀ (k j : Nat) (c : Int32), j + k = 4 → mr_ok 4 c → post (mr_iy ab n k c) → wY_isOf_10 post n fr g1 g2 sc mc oc ov en op ns ab sr gs gv kd fs fv ls lv ss sv he du nd ke (k + 1) c (nI j) := by
  intro k
  induction k with
  | zero =>
    intro j c hj _ h
    have : j = 4 := hj
    subst this
    exact br_t (by decide) h
  | succ k ih =>
    intro j c hj hc4 h
    have j4 : ¬ (4 : Int32) ≤ nI j := nI_ge (b := 4) (by omega) (by decide)
    rw [mr_iy] at h
    by_cases z : c = n
    · rw [if_pos z] at h
      exact br_f j4 (br_t z h)
    · rw [if_neg z] at h
      rcases hc4 with rfl | ⟨a, ha, rfl⟩
      · rw [if_pos rfl] at h
        exact br_f j4 (br_f z (br_t (by decide) (nm_r (nI_1 j) (ih (j + 1) (-1) (by omega) (Or.inl rfl) h))))
      · rw [if_neg (mr_ne1 (by omega)), nI_clamp (by omega)] at h
        refine br_f j4 (br_f z (br_f (nI_pos (by omega)) ⟨vp_in_nI ha (by decide), nm_r (e' := ab a) (by rw [nI_clamp (by omega)]) (nm_r (nI_1 j) (ih (j + 1) _ (by omega) (hc.2.1 a ha) h))⟩))
theorem mr_yisof {y : Nat} {n : Int32} {post : Int32 → Prop} {op' ns' sr' : Nat → Int32} (hy : y < 16) (hc : mr_CD op' ns' ab sr') (h4 : mr_ok 4 (kd y)) (h : post (mr_iy ab n 4 (kd y))) : wpY_isOf post (fr, g1, g2, sc, mc, oc, ov, en, op, ns, ab, sr, gs, gv, kd, fs, fv, ls, lv, ss, sv, he, du, nd, ke) (nI y) n := by
  unfold wpY_isOf
  dsimp only
  rw [nI_clamp (by omega)]
  exact ⟨vp_in_nI hy (by decide), nm_e ⟨5, mr_yis10 post hc n 4 0 _ rfl h4 h⟩⟩
theorem mr_xis5 (post : Int32 → Prop) {op' ns' sr' : Nat → Int32} (hc : mr_CD op' ns' ab sr') (n : Int32) : ∀ (k j : Nat) (c : Int32), j + k = 4 → mr_ok 4 c → post (mr_is ab n k c) → wX_isOrIsBelow_5 post n tc cf fc la oc sc mc g1 g2 op ns ab sr gl cl fi tk fo du de lo st ke (k + 1) c (nI j) := by
  intro k
  induction k with
  | zero =>
    intro j c hj _ h
    have : j = 4 := hj
    subst this
    exact br_t (by decide) h
  | succ k ih =>
    intro j c hj hc4 h
    have j4 : ¬ (4 : Int32) ≤ nI j := nI_ge (b := 4) (by omega) (by decide)
    rcases hc4 with rfl | ⟨a, ha, rfl⟩
    · rw [mr_is_1] at h
      exact br_f j4 (br_t rfl h)
    · by_cases z : nI a = n
      · rw [mr_is_s ha z] at h
        exact br_f j4 (br_f (mr_ne1 (by omega)) (br_t z h))
      · rw [mr_is_n ha z] at h
        exact br_f j4 (br_f (mr_ne1 (by omega)) (br_f z ⟨vp_in_nI ha (by decide), nm_r (e' := ab a) (by rw [nI_clamp (by omega)]) (nm_r (nI_1 j) (ih (j + 1) _ (by omega) (hc.2.1 a ha) h))⟩))
theorem mr_xisb {c n : Int32} {post : Int32 → Prop} {op' ns' sr' : Nat → Int32} (hc : mr_CD op' ns' ab sr') (h4 : mr_ok 4 c) (h : post (mr_is ab n 4 c)) : wpX_isOrIsBelow post (tc, cf, fc, la, oc, sc, mc, g1, g2, op, ns, ab, sr, gl, cl, fi, tk, fo, du, de, lo, st, ke) c n := by
  unfold wpX_isOrIsBelow
  dsimp only
  exact ⟨5, mr_xis5 post hc n 4 0 _ rfl h4 h⟩
/-- the rows of paired objects are rows -/
theorem mr_HVok (hh : mr_HV R cl fi tk kd fs fv) {x y : Nat} (r : R x y) : mr_ok 4 (kd y) ∧ mr_ok 4 (cl x) ∧ cl x = kd y := by
  obtain ⟨c, hc, a, b⟩ := (hh.1 x y r).2.2.2.1
  exact ⟨Or.inr ⟨c, hc, b⟩, Or.inr ⟨c, hc, a⟩, a.trans b.symm⟩
/-- which answer isOf gives for a value of Y -/
def mr_ib (ab kd : Nat → Int32) (n s w : Int32) : Int32 := if s = 2 then mr_iy ab n 4 (kd w.toNatClampNeg) else 0
theorem mr_y239 {o : Nat} {n s w : Int32} {v : Int64} {post : SY → Prop} (hc : mr_CD op ns ab sr) (hh : mr_HV R cl fi tk kd fs fv) (hv : mr_V R v s w) {kd' fs' fv' : Nat → Int32} (h : wY_simple_263 post (nI o) w (mr_ib ab kd n s w) fr g1 g2 sc mc oc ov en op ns ab sr gs gv kd fs fv ls lv ss sv he du nd ke) : wY_simple_239 post (nI o) n s w fr g1 g2 sc mc oc ov en op ns ab sr gs gv kd fs fv ls lv ss sv he du nd ke := by
  unfold wY_simple_239
  by_cases z : s = 2
  · obtain ⟨x, y, hx, hy, ev, ew, r⟩ := mr_V_ob hv z
    refine br_t z ?_
    rw [mr_ib, if_pos z] at h
    subst ew
    rw [nI_clamp (by omega)] at h
    rw [mr_and15 hy]
    refine mr_yisof hy hc (mr_HVok hh r).1 ?_
    rcases mr_iy_01 ab n 4 (kd y) with q | q
    · rw [q] at h ⊢
      exact br_t rfl h
    · rw [q] at h ⊢
      exact br_f (by decide) h
  · rw [mr_ib, if_neg z] at h
    exact br_f z h
theorem mr_y263n {o : Nat} {w z : Int32} {post : SY → Prop} (ho : o < 24) (h18 : o ≠ 18) (h23 : o ≠ 23) (h : post (fr, g1, g2, sc, mc, oc, ov, en, op, ns, ab, sr, gs, gv, kd, fs, fv, ls, lv, ss, sv, he, du, nd, ke)) : wY_simple_263 post (nI o) w z fr g1 g2 sc mc oc ov en op ns ab sr gs gv kd fs fv ls lv ss sv he du nd ke :=
  br_f (fun q => h18 ((nI_eq (b := 18) (by omega) (by decide)).mp q)) (br_f (fun q => h23 ((nI_eq (b := 23) (by omega) (by decide)).mp q)) h)
theorem mr_ytail {o : Nat} {n s w : Int32} {v : Int64} {post : SY → Prop} (hc : mr_CD op ns ab sr) (hh : mr_HV R cl fi tk kd fs fv) (hv : mr_V R v s w) (ho : o < 24) (h14 : o ≠ 14) (h16 : o ≠ 16) (h18 : o ≠ 18) (h23 : o ≠ 23) (h : post (fr, g1, g2, sc, mc, oc, ov, en, op, ns, ab, sr, gs, gv, kd, fs, fv, ls, lv, ss, sv, he, du, nd, ke)) : wY_simple_184 post (nI o) n s w fr g1 g2 sc mc oc ov en op ns ab sr gs gv kd fs fv ls lv ss sv he du nd ke :=
  br_f (fun q => h14 ((nI_eq (b := 14) (by omega) (by decide)).mp q)) (br_f (fun q => h16 ((nI_eq (b := 16) (by omega) (by decide)).mp q)) (mr_y239 hc hh hv (kd' := kd) (fs' := fs) (fv' := fv) (mr_y263n ho h18 h23 h)))
/-- simple's head for what takes one value: the value is looked at, then dropped -/
theorem mr_yone {o k : Nat} {n : Int32} {post : SY → Prop} (hf : f < 10) (hk : k < 6) (e : he f = nI (k + 1)) (ho : o < 24) (h1 : o ≠ 1) (h2 : o ≠ 2) (h3 : o ≠ 3) (h21 : o ≠ 21) (h6 : o ≠ 6) (hs : (o = 4 ∨ o = 22) → wY_simple_164 post (nI o) n (ss (6 * f + k)) (sv (6 * f + k)) (nI (f + 1)) g1 g2 sc mc oc ov en op ns ab sr gs gv kd fs fv ls lv ss sv (upd he f (nI k)) du nd ke) (hn : o ≠ 4 → o ≠ 22 → wY_simple_184 post (nI o) n (ss (6 * f + k)) (sv (6 * f + k)) (nI (f + 1)) g1 g2 sc mc oc ov en op ns ab sr gs gv kd fs fv ls lv ss sv (upd he f (nI k)) du nd ke) : wpY_simple post (nI (f + 1), g1, g2, sc, mc, oc, ov, en, op, ns, ab, sr, gs, gv, kd, fs, fv, ls, lv, ss, sv, he, du, nd, ke) (nI o) n := by
  have q : ∀ c, c < 24 → o ≠ c → ¬ nI o = nI c := fun c hc ne z => ne ((nI_eq (by omega) (by omega)).mp z)
  unfold wpY_simple
  dsimp only
  refine nm_e (br_f (q 1 (by decide) h1) (br_f (q 2 (by decide) h2) (br_f (q 3 (by decide) h3) (br_f (q 21 (by decide) h21) (br_f (q 6 (by decide) h6) ?_)))))
  refine mr_yat (t := 0) hf hk e (fun i j => ⟨i, nm_r (e' := ss (6 * f + k)) (by rw [j]) ?_⟩)
  refine mr_yat (t := 0) hf hk e (fun i j => ⟨i, nm_r (e' := sv (6 * f + k)) (by rw [j]) ?_⟩)
  refine mr_ydrop (t := 1) hf e ?_
  by_cases e4 : o = 4
  · exact br_t (congrArg nI e4) (hs (Or.inl e4))
  · by_cases e22 : o = 22
    · exact br_f (q 4 (by decide) e4) (br_t (congrArg nI e22) (hs (Or.inr e22)))
    · exact br_f (q 4 (by decide) e4) (br_f (q 22 (by decide) e22) (hn e4 e22))
end
end
section
/-! the instructions, one by one: both sides end, in related states again -/
theorem mr_ex3 {A : SX → Prop} {B : SY → Prop} {C : SX → SY → Prop} (u : SX) (v : SY) (a : A u) (b : B v) (c : C u v) : ∃ (u : SX) (v : SY), A u ∧ B v ∧ C u v := ⟨u, v, a, b, c⟩
section
variable {tc cf fc la oc sc mc g1 g2 fr ov en : Int32} {op ns ab sr cl tk fo du de ke gs gv kd fs fv ls lv ss sv he nd : Nat → Int32} {gl fi lo st : Nat → Int64} {R : Nat → Nat → Prop} {f : Nat} {d : Nat → Nat}
theorem mr_o1 {p : Nat} {n : Int32} (H : mr_H R f d tc cf op ns ab sr gl cl fi tk de lo st gs gv kd fs fv ls lv ss sv he) (hk : d f < 6) : ∃ (u' : SX) (v' : SY), (∀ Q : Int32 → SX → Prop, Q (-1) u' → wpX_work Q (tc, cf, nI (f + 1), nI f, nI p, sc, mc, g1, g2, op, ns, ab, sr, gl, cl, fi, tk, fo, du, de, lo, st, ke) (nI 1) n) ∧ (∀ Q : SY → Prop, Q v' → wpY_simple Q (nI (f + 1), g1, g2, sc, mc, nI p, 0, en, op, ns, ab, sr, gs, gv, kd, fs, fv, ls, lv, ss, sv, he, du, nd, ke) (nI 1) n) ∧ mr_Md sc (p + 1) u' v' := by
  obtain ⟨hf, hcd, hb, hb', hdb, hrv, hhv, htc, hcf⟩ := H
  have e := hb f (by omega)
  have e' := hb' f (by omega)
  apply mr_ex3
  · intro Q hQ
    unfold wpX_work
    dsimp only
    repeat (first | refine br_f (by decide) ?_ | refine br_t (by decide) ?_)
    exact mr_xpushInt hf hk e hQ
  · intro Q hQ
    unfold wpY_simple
    dsimp only
    refine nm_e ?_
    repeat (first | refine br_f (by decide) ?_ | refine br_t (by decide) ?_)
    exact mr_ypush hf hk e' hQ
  · exact mr_mkM (by omega) ⟨hf, hcd, mr_B_u hb, mr_B_u hb', mr_DB_u hdb (by omega), mr_RVpush hdb hrv (Nat.le_refl _) (mr_VI), hhv, htc, hcf⟩
theorem mr_o2 {p : Nat} {n : Int32} (H : mr_H R f d tc cf op ns ab sr gl cl fi tk de lo st gs gv kd fs fv ls lv ss sv he) (hk : d f < 6) : ∃ (u' : SX) (v' : SY), (∀ Q : Int32 → SX → Prop, Q (-1) u' → wpX_work Q (tc, cf, nI (f + 1), nI f, nI p, sc, mc, g1, g2, op, ns, ab, sr, gl, cl, fi, tk, fo, du, de, lo, st, ke) (nI 2) n) ∧ (∀ Q : SY → Prop, Q v' → wpY_simple Q (nI (f + 1), g1, g2, sc, mc, nI p, 0, en, op, ns, ab, sr, gs, gv, kd, fs, fv, ls, lv, ss, sv, he, du, nd, ke) (nI 2) n) ∧ mr_Md sc (p + 1) u' v' := by
  obtain ⟨hf, hcd, hb, hb', hdb, hrv, hhv, htc, hcf⟩ := H
  have e := hb f (by omega)
  have e' := hb' f (by omega)
  apply mr_ex3
  · intro Q hQ
    unfold wpX_work
    dsimp only
    repeat (first | refine br_f (by decide) ?_ | refine br_t (by decide) ?_)
    exact mr_xpush hf hk e hQ
  · intro Q hQ
    unfold wpY_simple
    dsimp only
    refine nm_e ?_
    repeat (first | refine br_f (by decide) ?_ | refine br_t (by decide) ?_)
    exact mr_ypush hf hk e' hQ
  · exact mr_mkM (by omega) ⟨hf, hcd, mr_B_u hb, mr_B_u hb', mr_DB_u hdb (by omega), mr_RVpush hdb hrv (Nat.le_refl _) (mr_V0), hhv, htc, hcf⟩
theorem mr_o3 {p j : Nat} (H : mr_H R f d tc cf op ns ab sr gl cl fi tk de lo st gs gv kd fs fv ls lv ss sv he) (hk : d f < 6) (hj : j < 4) : ∃ (u' : SX) (v' : SY), (∀ Q : Int32 → SX → Prop, Q (-1) u' → wpX_work Q (tc, cf, nI (f + 1), nI f, nI p, sc, mc, g1, g2, op, ns, ab, sr, gl, cl, fi, tk, fo, du, de, lo, st, ke) (nI 3) (nI j)) ∧ (∀ Q : SY → Prop, Q v' → wpY_simple Q (nI (f + 1), g1, g2, sc, mc, nI p, 0, en, op, ns, ab, sr, gs, gv, kd, fs, fv, ls, lv, ss, sv, he, du, nd, ke) (nI 3) (nI j)) ∧ mr_Md sc (p + 1) u' v' := by
  obtain ⟨hf, hcd, hb, hb', hdb, hrv, hhv, htc, hcf⟩ := H
  have e := hb f (by omega)
  have e' := hb' f (by omega)
  apply mr_ex3
  · intro Q hQ
    unfold wpX_work
    dsimp only
    repeat (first | refine br_f (by decide) ?_ | refine br_t (by decide) ?_)
    rw [mr_x4 f j, nI_clamp (n := 4 * f + j) (by omega)]
    exact ⟨vp_in_nI (by omega) (by decide), mr_xpush hf hk e hQ⟩
  · intro Q hQ
    unfold wpY_simple
    dsimp only
    refine nm_r (e' := nI (4 * f + j)) (by rw [nI_pred, pk_andN (n := j) (m := 3) (by omega) 2 (by decide), Nat.mod_eq_of_lt (by omega), mr_y4]) ?_
    repeat (first | refine br_f (by decide) ?_ | refine br_t (by decide) ?_)
    rw [nI_clamp (n := 4 * f + j) (by omega)]
    exact ⟨vp_in_nI (by omega) (by decide), vp_in_nI (by omega) (by decide), mr_ypush hf hk e' hQ⟩
  · exact mr_mkM (by omega) ⟨hf, hcd, mr_B_u hb, mr_B_u hb', mr_DB_u hdb (by omega), mr_RVpush hdb hrv (Nat.le_refl _) (hrv.2.1 (4 * f + j) (by omega)), hhv, htc, hcf⟩
theorem mr_o21 {p j : Nat} (H : mr_H R f d tc cf op ns ab sr gl cl fi tk de lo st gs gv kd fs fv ls lv ss sv he) (hk : d f < 6) (hj : j < 4) : ∃ (u' : SX) (v' : SY), (∀ Q : Int32 → SX → Prop, Q (-1) u' → wpX_work Q (tc, cf, nI (f + 1), nI f, nI p, sc, mc, g1, g2, op, ns, ab, sr, gl, cl, fi, tk, fo, du, de, lo, st, ke) (nI 21) (nI j)) ∧ (∀ Q : SY → Prop, Q v' → wpY_simple Q (nI (f + 1), g1, g2, sc, mc, nI p, 0, en, op, ns, ab, sr, gs, gv, kd, fs, fv, ls, lv, ss, sv, he, du, nd, ke) (nI 21) (nI j)) ∧ mr_Md sc (p + 1) u' v' := by
  obtain ⟨hf, hcd, hb, hb', hdb, hrv, hhv, htc, hcf⟩ := H
  have e := hb f (by omega)
  have e' := hb' f (by omega)
  apply mr_ex3
  · intro Q hQ
    unfold wpX_work
    dsimp only
    repeat (first | refine br_f (by decide) ?_ | refine br_t (by decide) ?_)
    rw [nI_clamp (n := j) (by omega)]
    exact ⟨vp_in_nI hj (by decide), mr_xpush hf hk e hQ⟩
  · intro Q hQ
    unfold wpY_simple
    dsimp only
    refine nm_e ?_
    repeat (first | refine br_f (by decide) ?_ | refine br_t (by decide) ?_)
    rw [nI_clamp (n := j) (by omega)]
    exact ⟨vp_in_nI hj (by decide), vp_in_nI hj (by decide), mr_ypush hf hk e' hQ⟩
  · exact mr_mkM (by omega) ⟨hf, hcd, mr_B_u hb, mr_B_u hb', mr_DB_u hdb (by omega), mr_RVpush hdb hrv (Nat.le_refl _) (hrv.1 j hj), hhv, htc, hcf⟩
theorem mr_o5 {p k : Nat} {n : Int32} (H : mr_H R f d tc cf op ns ab sr gl cl fi tk de lo st gs gv kd fs fv ls lv ss sv he) (ek : d f = k + 1) : ∃ (u' : SX) (v' : SY), (∀ Q : Int32 → SX → Prop, Q (-1) u' → wpX_work Q (tc, cf, nI (f + 1), nI f, nI p, sc, mc, g1, g2, op, ns, ab, sr, gl, cl, fi, tk, fo, du, de, lo, st, ke) (nI 5) n) ∧ (∀ Q : SY → Prop, Q v' → wpY_simple Q (nI (f + 1), g1, g2, sc, mc, nI p, 0, en, op, ns, ab, sr, gs, gv, kd, fs, fv, ls, lv, ss, sv, he, du, nd, ke) (nI 5) n) ∧ mr_Md sc (p + 1) u' v' := by
  obtain ⟨hf, hcd, hb, hb', hdb, hrv, hhv, htc, hcf⟩ := H
  have e : de f = nI (k + 1) := by rw [hb f (by omega), ek]
  have e' : he f = nI (k + 1) := by rw [hb' f (by omega), ek]
  have d6 := hdb.1
  apply mr_ex3
  · intro Q hQ
    unfold wpX_work
    dsimp only
    repeat (first | refine br_f (by decide) ?_ | refine br_t (by decide) ?_)
    refine mr_xpop (k := k) hf (by omega) e ?_
    repeat (first | refine br_f (by decide) ?_ | refine br_t (by decide) ?_)
    exact hQ
  · intro Q hQ
    refine mr_yone (k := k) hf (by omega) e' (by decide) (by decide) (by decide) (by decide) (by decide) (by decide) (fun z => ?_) (fun z z' => ?_)
    · exact absurd z (by decide)
    · exact mr_ytail hcd hhv (hrv.2.2 f k (by omega) (by omega)) (by decide) (by decide) (by decide) (by decide) (by decide) hQ
  · exact mr_mkM (by omega) ⟨hf, hcd, mr_B_u hb, mr_B_u hb', mr_DB_u hdb (by omega), mr_RVpop hdb hrv (by omega), hhv, htc, hcf⟩
theorem mr_o4 {p k j : Nat} (H : mr_H R f d tc cf op ns ab sr gl cl fi tk de lo st gs gv kd fs fv ls lv ss sv he) (ek : d f = k + 1) (hj : j < 4) : ∃ (u' : SX) (v' : SY), (∀ Q : Int32 → SX → Prop, Q (-1) u' → wpX_work Q (tc, cf, nI (f + 1), nI f, nI p, sc, mc, g1, g2, op, ns, ab, sr, gl, cl, fi, tk, fo, du, de, lo, st, ke) (nI 4) (nI j)) ∧ (∀ Q : SY → Prop, Q v' → wpY_simple Q (nI (f + 1), g1, g2, sc, mc, nI p, 0, en, op, ns, ab, sr, gs, gv, kd, fs, fv, ls, lv, ss, sv, he, du, nd, ke) (nI 4) (nI j)) ∧ mr_Md sc (p + 1) u' v' := by
  obtain ⟨hf, hcd, hb, hb', hdb, hrv, hhv, htc, hcf⟩ := H
  have e : de f = nI (k + 1) := by rw [hb f (by omega), ek]
  have e' : he f = nI (k + 1) := by rw [hb' f (by omega), ek]
  have d6 := hdb.1
  apply mr_ex3
  · intro Q hQ
    unfold wpX_work
    dsimp only
    repeat (first | refine br_f (by decide) ?_ | refine br_t (by decide) ?_)
    refine mr_xpop (k := k) hf (by omega) e ?_
    repeat (first | refine br_f (by decide) ?_ | refine br_t (by decide) ?_)
    rw [mr_x4 f j, nI_clamp (n := 4 * f + j) (by omega)]
    exact ⟨vp_in_nI (by omega) (by decide), nm_e hQ⟩
  · intro Q hQ
    refine mr_yone (k := k) hf (by omega) e' (by decide) (by decide) (by decide) (by decide) (by decide) (by decide) (fun z => ?_) (fun z z' => ?_)
    · unfold wY_simple_164
      repeat (first | refine br_f (by decide) ?_ | refine br_t (by decide) ?_)
      rw [nI_pred f, mr_y4 f j, nI_clamp (n := 4 * f + j) (by omega)]
      exact ⟨vp_in_nI (by omega) (by decide), nm_e ⟨vp_in_nI (by omega) (by decide), nm_e (mr_ytail hcd hhv (hrv.2.2 f k (by omega) (by omega)) (by decide) (by decide) (by decide) (by decide) (by decide) hQ)⟩⟩
    · exact absurd rfl z
  · exact mr_mkM (by omega) ⟨hf, hcd, mr_B_u hb, mr_B_u hb', mr_DB_u hdb (by omega), mr_RVloc (mr_RVpop hdb hrv (by omega)) (hrv.2.2 f k (by omega) (by omega)), hhv, htc, hcf⟩
theorem mr_o22 {p k j : Nat} (H : mr_H R f d tc cf op ns ab sr gl cl fi tk de lo st gs gv kd fs fv ls lv ss sv he) (ek : d f = k + 1) (hj : j < 4) : ∃ (u' : SX) (v' : SY), (∀ Q : Int32 → SX → Prop, Q (-1) u' → wpX_work Q (tc, cf, nI (f + 1), nI f, nI p, sc, mc, g1, g2, op, ns, ab, sr, gl, cl, fi, tk, fo, du, de, lo, st, ke) (nI 22) (nI j)) ∧ (∀ Q : SY → Prop, Q v' → wpY_simple Q (nI (f + 1), g1, g2, sc, mc, nI p, 0, en, op, ns, ab, sr, gs, gv, kd, fs, fv, ls, lv, ss, sv, he, du, nd, ke) (nI 22) (nI j)) ∧ mr_Md sc (p + 1) u' v' := by
  obtain ⟨hf, hcd, hb, hb', hdb, hrv, hhv, htc, hcf⟩ := H
  have e : de f = nI (k + 1) := by rw [hb f (by omega), ek]
  have e' : he f = nI (k + 1) := by rw [hb' f (by omega), ek]
  have d6 := hdb.1
  apply mr_ex3
  · intro Q hQ
    unfold wpX_work
    dsimp only
    repeat (first | refine br_f (by decide) ?_ | refine br_t (by decide) ?_)
    refine mr_xpop (k := k) hf (by omega) e ?_
    repeat (first | refine br_f (by decide) ?_ | refine br_t (by decide) ?_)
    rw [nI_clamp (n := j) (by omega)]
    exact ⟨vp_in_nI (by omega) (by decide), nm_e hQ⟩
  · intro Q hQ
    refine mr_yone (k := k) hf (by omega) e' (by decide) (by decide) (by decide) (by decide) (by decide) (by decide) (fun z => ?_) (fun z z' => ?_)
    · unfold wY_simple_164
      repeat (first | refine br_f (by decide) ?_ | refine br_t (by decide) ?_)
      rw [nI_clamp (n := j) (by omega)]
      exact ⟨vp_in_nI (by omega) (by decide), nm_e ⟨vp_in_nI (by omega) (by decide), nm_e (mr_ytail hcd hhv (hrv.2.2 f k (by omega) (by omega)) (by decide) (by decide) (by decide) (by decide) (by decide) hQ)⟩⟩
    · exact absurd rfl z'
  · exact mr_mkM (by omega) ⟨hf, hcd, mr_B_u hb, mr_B_u hb', mr_DB_u hdb (by omega), mr_RVglob (mr_RVpop hdb hrv (by omega)) (hrv.2.2 f k (by omega) (by omega)), hhv, htc, hcf⟩
theorem mr_o6 {p k : Nat} {n : Int32} (H : mr_H R f d tc cf op ns ab sr gl cl fi tk de lo st gs gv kd fs fv ls lv ss sv he) (ek : d f = k + 1) (hk : k < 5) : ∃ (u' : SX) (v' : SY), (∀ Q : Int32 → SX → Prop, Q (-1) u' → wpX_work Q (tc, cf, nI (f + 1), nI f, nI p, sc, mc, g1, g2, op, ns, ab, sr, gl, cl, fi, tk, fo, du, de, lo, st, ke) (nI 6) n) ∧ (∀ Q : SY → Prop, Q v' → wpY_simple Q (nI (f + 1), g1, g2, sc, mc, nI p, 0, en, op, ns, ab, sr, gs, gv, kd, fs, fv, ls, lv, ss, sv, he, du, nd, ke) (nI 6) n) ∧ mr_Md sc (p + 1) u' v' := by
  obtain ⟨hf, hcd, hb, hb', hdb, hrv, hhv, htc, hcf⟩ := H
  have e : de f = nI (k + 1) := by rw [hb f (by omega), ek]
  have e' : he f = nI (k + 1) := by rw [hb' f (by omega), ek]
  have d6 := hdb.1
  apply mr_ex3
  · intro Q hQ
    unfold wpX_work
    dsimp only
    repeat (first | refine br_f (by decide) ?_ | refine br_t (by decide) ?_)
    refine mr_xpop (k := k) hf (by omega) e ?_
    repeat (first | refine br_f (by decide) ?_ | refine br_t (by decide) ?_)
    exact mr_xpush (k := k) hf (by omega) pk_us (mr_xpush (k := k + 1) hf (by omega) pk_us hQ)
  · intro Q hQ
    unfold wpY_simple
    dsimp only
    refine nm_e ?_
    repeat (first | refine br_f (by decide) ?_ | refine br_t (by decide) ?_)
    refine mr_yat (t := 0) (k := k) hf (by omega) e' (fun i j => ⟨i, i, ?_⟩)
    rw [j]
    exact mr_ypush (k := k + 1) hf (by omega) e' hQ
  · refine mr_mkM (R := R) (d := mr_ud d f (k + 2)) (by omega) ?_
    dsimp only
    exact ⟨hf, hcd, mr_B_e (mr_B_u (mr_B_u (mr_B_u hb))) (fun g _ => by unfold mr_ud; split <;> rfl), mr_B_u hb', mr_DB_u hdb (by omega), mr_RVtop (k := k + 2) hdb hrv (fun j hj => by rw [pk_uLn (by omega), pk_uLn (by omega)]) (fun j hj => pk_un (by omega)) (fun j hj => pk_un (by omega)) (fun i hi => by
      by_cases e1 : i = k + 1
      · subst e1
        rw [pk_uLs, pk_us, pk_us]
        exact hrv.2.2 f k (by omega) (by omega)
      · rw [pk_uLn (by omega), pk_un (by omega), pk_un (by omega)]
        by_cases e2 : i = k
        · subst e2
          rw [pk_uLs]
          exact hrv.2.2 f i (by omega) (by omega)
        · rw [pk_uLn (by omega)]
          exact hrv.2.2 f i (by omega) (by omega)), hhv, htc, hcf⟩
end
end
section
/-! the instructions, further: ZERO, GET, IS, OUT, the ones that take two -/
section
variable {tc cf fc la oc sc mc g1 g2 fr ov en : Int32} {op ns ab sr cl tk fo du de ke gs gv kd fs fv ls lv ss sv he nd : Nat → Int32} {gl fi lo st : Nat → Int64} {R : Nat → Nat → Prop} {f : Nat} {d : Nat → Nat}
theorem mr_y207 {o : Nat} {n s w : Int32} {v : Int64} {post : SY → Prop} (hc : mr_CD op ns ab sr) (hh : mr_HV R cl fi tk kd fs fv) (hv : mr_V R v s w) (ho : o < 24) (h16 : o ≠ 16) (h18 : o ≠ 18) (h23 : o ≠ 23) (h : post (fr, g1, g2, sc, mc, oc, ov, en, op, ns, ab, sr, gs, gv, kd, fs, fv, ls, lv, ss, sv, he, du, nd, ke)) : wY_simple_207 post (nI o) n s w fr g1 g2 sc mc oc ov en op ns ab sr gs gv kd fs fv ls lv ss sv he du nd ke :=
  br_f (fun q => h16 ((nI_eq (b := 16) (by omega) (by decide)).mp q)) (mr_y239 hc hh hv (kd' := kd) (fs' := fs) (fv' := fv) (mr_y263n ho h18 h23 h))
theorem mr_x97 {k : Nat} {b : Int32} {post : SX → Prop} (hf : f < 10) (hk : k < 6) (e : de f = nI k) (hb : b = 0 ∨ b = 1) (h : post (tc, cf, fc, nI f, oc, sc, mc, g1, g2, op, ns, ab, sr, gl, cl, fi, tk, fo, du, upd de f (nI (k + 1)), lo, vp_updL st (6 * f + k) (mr_I b), ke)) : wX_useObject_97 post b tc cf fc (nI f) oc sc mc g1 g2 op ns ab sr gl cl fi tk fo du de lo st ke := by
  unfold wX_useObject_97 wX_useObject_110
  rcases hb with rfl | rfl
  · exact br_t rfl (mr_xpushInt hf hk e h)
  · exact br_f (by decide) (mr_xpushInt hf hk e h)
theorem mr_o14 {p k : Nat} {n : Int32} (H : mr_H R f d tc cf op ns ab sr gl cl fi tk de lo st gs gv kd fs fv ls lv ss sv he) (ek : d f = k + 1) (h1 : ss (6 * f + k) = 1) : ∃ (u' : SX) (v' : SY), (∀ Q : Int32 → SX → Prop, Q (-1) u' → wpX_work Q (tc, cf, nI (f + 1), nI f, nI p, sc, mc, g1, g2, op, ns, ab, sr, gl, cl, fi, tk, fo, du, de, lo, st, ke) (nI 14) n) ∧ (∀ Q : SY → Prop, Q v' → wpY_simple Q (nI (f + 1), g1, g2, sc, mc, nI p, 0, en, op, ns, ab, sr, gs, gv, kd, fs, fv, ls, lv, ss, sv, he, du, nd, ke) (nI 14) n) ∧ mr_Md sc (p + 1) u' v' := by
  obtain ⟨hf, hcd, hb, hb', hdb, hrv, hhv, htc, hcf⟩ := H
  have e : de f = nI (k + 1) := by rw [hb f (by omega), ek]
  have e' : he f = nI (k + 1) := by rw [hb' f (by omega), ek]
  have d6 := hdb.1
  have hv := mr_V_low (hrv.2.2 f k (by omega) (by omega)) h1
  have i1 : vp_in (nI f) 10 := vp_in_nI hf (by decide)
  have i2 : (nI f).toNatClampNeg = f := nI_clamp (by omega)
  by_cases hw : sv (6 * f + k) = 0
  · apply mr_ex3
    · intro Q hQ
      unfold wpX_work
      dsimp only
      repeat (first | refine br_f (by decide) ?_ | refine br_t (by decide) ?_)
      refine mr_xpop (k := k) hf (by omega) e ?_
      dsimp only
      rw [hv, mr_I_i, i2]
      exact br_t hw ⟨i1, nm_e hQ⟩
    · intro Q hQ
      refine mr_yone (k := k) hf (by omega) e' (by decide) (by decide) (by decide) (by decide) (by decide) (by decide) (fun z => absurd z (by decide)) (fun z z' => ?_)
      refine br_t rfl (br_t hw ?_)
      rw [nI_pred f, i2]
      exact ⟨i1, nm_e (mr_y207 hcd hhv (hrv.2.2 f k (by omega) (by omega)) (by decide) (by decide) (by decide) (by decide) hQ)⟩
    · refine mr_mkM (R := R) (d := mr_ud d f k) (p := p) (by omega) ?_
      try dsimp only
      exact ⟨hf, hcd, mr_B_u hb, mr_B_u hb', mr_DB_u hdb (by omega), mr_RVpop hdb hrv (by omega), hhv, htc, hcf⟩
  · apply mr_ex3
    · intro Q hQ
      unfold wpX_work
      dsimp only
      repeat (first | refine br_f (by decide) ?_ | refine br_t (by decide) ?_)
      refine mr_xpop (k := k) hf (by omega) e ?_
      dsimp only
      rw [hv, mr_I_i]
      exact br_f hw hQ
    · intro Q hQ
      refine mr_yone (k := k) hf (by omega) e' (by decide) (by decide) (by decide) (by decide) (by decide) (by decide) (fun z => absurd z (by decide)) (fun z z' => ?_)
      exact br_t rfl (br_f hw (mr_y207 hcd hhv (hrv.2.2 f k (by omega) (by omega)) (by decide) (by decide) (by decide) (by decide) hQ))
    · refine mr_mkM (R := R) (d := mr_ud d f k) (p := p) (by omega) ?_
      try dsimp only
      exact ⟨hf, hcd, mr_B_u hb, mr_B_u hb', mr_DB_u hdb (by omega), mr_RVpop hdb hrv (by omega), hhv, htc, hcf⟩
theorem mr_o16 {p k j : Nat} (H : mr_H R f d tc cf op ns ab sr gl cl fi tk de lo st gs gv kd fs fv ls lv ss sv he) (ek : d f = k + 1) (h2 : ss (6 * f + k) = 2) (hj : j < 3) : ∃ (u' : SX) (v' : SY), (∀ Q : Int32 → SX → Prop, Q (-1) u' → wpX_work Q (tc, cf, nI (f + 1), nI f, nI p, sc, mc, g1, g2, op, ns, ab, sr, gl, cl, fi, tk, fo, du, de, lo, st, ke) (nI 16) (nI j)) ∧ (∀ Q : SY → Prop, Q v' → wpY_simple Q (nI (f + 1), g1, g2, sc, mc, nI p, 0, en, op, ns, ab, sr, gs, gv, kd, fs, fv, ls, lv, ss, sv, he, du, nd, ke) (nI 16) (nI j)) ∧ mr_Md sc (p + 1) u' v' := by
  obtain ⟨hf, hcd, hb, hb', hdb, hrv, hhv, htc, hcf⟩ := H
  have e : de f = nI (k + 1) := by rw [hb f (by omega), ek]
  have e' : he f = nI (k + 1) := by rw [hb' f (by omega), ek]
  have d6 := hdb.1
  obtain ⟨x, y, hx, hy, ev, ew, r⟩ := mr_V_ob (hrv.2.2 f k (by omega) (by omega)) h2
  apply mr_ex3
  · intro Q hQ
    unfold wpX_work
    dsimp only
    repeat (first | refine br_f (by decide) ?_ | refine br_t (by decide) ?_)
    refine mr_xpop (k := k) hf (by omega) e ?_
    dsimp only
    repeat (first | refine br_f (by decide) ?_ | refine br_t (by decide) ?_)
    rw [ev, mr_O_i, mr_x3 x j, nI_clamp (n := 3 * x + j) (by omega)]
    exact ⟨vp_in_nI (by omega) (by decide), mr_xpush (k := k) hf (by omega) pk_us hQ⟩
  · intro Q hQ
    refine mr_yone (k := k) hf (by omega) e' (by decide) (by decide) (by decide) (by decide) (by decide) (by decide) (fun z => absurd z (by decide)) (fun z z' => ?_)
    refine br_f (by decide) (br_t rfl ?_)
    rw [ew, mr_y3 y j, nI_clamp (n := 3 * y + j) (by omega)]
    refine ⟨vp_in_nI (by omega) (by decide), vp_in_nI (by omega) (by decide), mr_ypush (k := k) hf (by omega) pk_us ?_⟩
    rw [← ew]
    exact mr_y239 hcd hhv (hrv.2.2 f k (by omega) (by omega)) (kd' := kd) (fs' := fs) (fv' := fv) (mr_y263n (by decide) (by decide) (by decide) hQ)
  · refine mr_mkM (R := R) (d := mr_ud d f (k + 1)) (p := p) (by omega) ?_
    try dsimp only
    exact ⟨hf, hcd, mr_B_e (mr_B_u (mr_B_u hb)) (fun g _ => by unfold mr_ud; split <;> rfl), mr_B_e (mr_B_u (mr_B_u hb')) (fun g _ => by unfold mr_ud; split <;> rfl), mr_DB_u hdb (by omega), mr_RVpush hdb hrv (by omega) ((hhv.1 x y r).2.2.2.2 j hj), hhv, htc, hcf⟩
theorem mr_o18 {p k j : Nat} (H : mr_H R f d tc cf op ns ab sr gl cl fi tk de lo st gs gv kd fs fv ls lv ss sv he) (ek : d f = k + 1) (hj : j < 4) : ∃ (u' : SX) (v' : SY), (∀ Q : Int32 → SX → Prop, Q (-1) u' → wpX_work Q (tc, cf, nI (f + 1), nI f, nI p, sc, mc, g1, g2, op, ns, ab, sr, gl, cl, fi, tk, fo, du, de, lo, st, ke) (nI 18) (nI j)) ∧ (∀ Q : SY → Prop, Q v' → wpY_simple Q (nI (f + 1), g1, g2, sc, mc, nI p, 0, en, op, ns, ab, sr, gs, gv, kd, fs, fv, ls, lv, ss, sv, he, du, nd, ke) (nI 18) (nI j)) ∧ mr_Md sc (p + 1) u' v' := by
  obtain ⟨hf, hcd, hb, hb', hdb, hrv, hhv, htc, hcf⟩ := H
  have e : de f = nI (k + 1) := by rw [hb f (by omega), ek]
  have e' : he f = nI (k + 1) := by rw [hb' f (by omega), ek]
  have d6 := hdb.1
  have hV := hrv.2.2 f k (by omega) (by omega)
  have hn : ¬ nI j = -1 := mr_ne1 (by omega)
  have h01 : mr_ib ab kd (nI j) (ss (6 * f + k)) (sv (6 * f + k)) = 0 ∨ mr_ib ab kd (nI j) (ss (6 * f + k)) (sv (6 * f + k)) = 1 := by
    unfold mr_ib
    split
    · exact mr_iy_01 _ _ _ _
    · exact Or.inl rfl
  refine mr_ex3 (tc, cf, nI (f + 1), nI f, nI p, sc, mc, g1, g2, op, ns, ab, sr, gl, cl, fi, tk, fo, du, upd (upd de f (nI k)) f (nI (k + 1)), lo, vp_updL st (6 * f + k) (mr_I (mr_ib ab kd (nI j) (ss (6 * f + k)) (sv (6 * f + k)))), ke) (nI (f + 1), g1, g2, sc, mc, nI p, 0, en, op, ns, ab, sr, gs, gv, kd, fs, fv, ls, lv, upd ss (6 * f + k) 1, upd sv (6 * f + k) (mr_ib ab kd (nI j) (ss (6 * f + k)) (sv (6 * f + k))), upd (upd he f (nI k)) f (nI (k + 1)), du, nd, ke) ?_ ?_ ?_
  · intro Q hQ
    unfold wpX_work
    dsimp only
    repeat (first | refine br_f (by decide) ?_ | refine br_t (by decide) ?_)
    refine mr_xpop (k := k) hf (by omega) e ?_
    dsimp only
    repeat (first | refine br_f (by decide) ?_ | refine br_t (by decide) ?_)
    by_cases z : ss (6 * f + k) = 2
    · obtain ⟨x, y, hx, hy, ev, ew, r⟩ := mr_V_ob hV z
      have eb : mr_ib ab kd (nI j) (ss (6 * f + k)) (sv (6 * f + k)) = mr_is ab (nI j) 4 (cl x) := by
        rw [mr_ib, if_pos z, ew, nI_clamp (by omega), mr_iy_is hn, (mr_HVok hhv r).2.2]
      rw [eb] at hQ h01
      rw [ev]
      refine br_f (mr_O_nlt hx) ?_
      rw [mr_O_i, nI_clamp (by omega)]
      refine ⟨vp_in_nI hx (by decide), mr_xisb hcd (mr_HVok hhv r).2.1 ?_⟩
      rcases h01 with q | q
      · rw [q] at hQ ⊢
        exact br_t rfl (mr_x97 (k := k) hf (by omega) pk_us (Or.inl rfl) hQ)
      · rw [q] at hQ ⊢
        exact br_f (by decide) (mr_x97 (k := k) hf (by omega) pk_us (Or.inr rfl) hQ)
    · have eb : mr_ib ab kd (nI j) (ss (6 * f + k)) (sv (6 * f + k)) = 0 := by rw [mr_ib, if_neg z]
      rw [eb] at hQ
      exact br_t (Int64.not_le.mp fun q => z ((mr_V_obj hV).mp q)) (mr_x97 (k := k) hf (by omega) pk_us (Or.inl rfl) hQ)
  · intro Q hQ
    refine mr_yone (k := k) hf (by omega) e' (by decide) (by decide) (by decide) (by decide) (by decide) (by decide) (fun z => absurd z (by decide)) (fun z z' => ?_)
    refine br_f (by decide) (br_f (by decide) (mr_y239 hcd hhv hV (kd' := kd) (fs' := fs) (fv' := fv) ?_))
    rcases h01 with q | q
    · rw [q] at hQ ⊢
      exact br_t rfl (br_t rfl (mr_ypush (k := k) hf (by omega) pk_us (br_f (by decide) hQ)))
    · rw [q] at hQ ⊢
      exact br_t rfl (br_f (by decide) (mr_ypush (k := k) hf (by omega) pk_us (br_f (by decide) hQ)))
  · refine mr_mkM (R := R) (d := mr_ud d f (k + 1)) (p := p) (by omega) ?_
    try dsimp only
    exact ⟨hf, hcd, mr_B_e (mr_B_u (mr_B_u hb)) (fun g _ => by unfold mr_ud; split <;> rfl), mr_B_e (mr_B_u (mr_B_u hb')) (fun g _ => by unfold mr_ud; split <;> rfl), mr_DB_u hdb (by omega), mr_RVpush hdb hrv (by omega) mr_VI, hhv, htc, hcf⟩
theorem mr_o23 {p k : Nat} {n : Int32} (H : mr_H R f d tc cf op ns ab sr gl cl fi tk de lo st gs gv kd fs fv ls lv ss sv he) (ek : d f = k + 1) (h1 : ss (6 * f + k) = 1) (hp : p < 1000) : ∃ (u' : SX) (v' : SY), (∀ Q : Int32 → SX → Prop, Q (-1) u' → wpX_work Q (tc, cf, nI (f + 1), nI f, nI p, sc, mc, g1, g2, op, ns, ab, sr, gl, cl, fi, tk, fo, du, de, lo, st, ke) (nI 23) n) ∧ (∀ Q : SY → Prop, Q v' → wpY_simple Q (nI (f + 1), g1, g2, sc, mc, nI p, 0, en, op, ns, ab, sr, gs, gv, kd, fs, fv, ls, lv, ss, sv, he, du, nd, ke) (nI 23) n) ∧ mr_Md sc (p + 1) u' v' := by
  obtain ⟨hf, hcd, hb, hb', hdb, hrv, hhv, htc, hcf⟩ := H
  have e : de f = nI (k + 1) := by rw [hb f (by omega), ek]
  have e' : he f = nI (k + 1) := by rw [hb' f (by omega), ek]
  have d6 := hdb.1
  have hv := mr_V_low (hrv.2.2 f k (by omega) (by omega)) h1
  by_cases h20 : 20 ≤ p
  · apply mr_ex3
    · intro Q hQ
      unfold wpX_work
      dsimp only
      repeat (first | refine br_f (by decide) ?_ | refine br_t (by decide) ?_)
      refine mr_xpop (k := k) hf (by omega) e ?_
      dsimp only
      refine br_f (by decide) ?_
      exact br_t (nI_le (a := 20) h20 (by omega)) (nm_r (nI_1 p) hQ)
    · intro Q hQ
      refine mr_yone (k := k) hf (by omega) e' (by decide) (by decide) (by decide) (by decide) (by decide) (by decide) (fun z => absurd z (by decide)) (fun z z' => ?_)
      refine br_f (by decide) (br_f (by decide) (mr_y239 hcd hhv (hrv.2.2 f k (by omega) (by omega)) (kd' := kd) (fs' := fs) (fv' := fv) (br_f (by decide) (br_t rfl ?_))))
      exact br_t (nI_le (a := 20) h20 (by omega)) (nm_r (nI_1 p) hQ)
    · refine mr_mkM (R := R) (d := mr_ud d f k) (p := p + 1) (by omega) ?_
      try dsimp only
      exact ⟨hf, hcd, mr_B_u hb, mr_B_u hb', mr_DB_u hdb (by omega), mr_RVpop hdb hrv (by omega), hhv, htc, hcf⟩
  · apply mr_ex3
    · intro Q hQ
      unfold wpX_work
      dsimp only
      repeat (first | refine br_f (by decide) ?_ | refine br_t (by decide) ?_)
      refine mr_xpop (k := k) hf (by omega) e ?_
      dsimp only
      refine br_f (by decide) ?_
      rw [hv, mr_I_i]
      exact br_f (nI_ge (b := 20) (by omega) (by decide)) ⟨vp_in_nI (by omega) (by decide), nm_r (e' := upd ke p (sv (6 * f + k))) (by rw [nI_clamp (by omega)]) (nm_r (nI_1 p) hQ)⟩
    · intro Q hQ
      refine mr_yone (k := k) hf (by omega) e' (by decide) (by decide) (by decide) (by decide) (by decide) (by decide) (fun z => absurd z (by decide)) (fun z z' => ?_)
      refine br_f (by decide) (br_f (by decide) (mr_y239 hcd hhv (hrv.2.2 f k (by omega) (by omega)) (kd' := kd) (fs' := fs) (fv' := fv) (br_f (by decide) (br_t rfl ?_))))
      exact br_f (nI_ge (b := 20) (by omega) (by decide)) ⟨vp_in_nI (by omega) (by decide), nm_r (e' := upd ke p (sv (6 * f + k))) (by rw [nI_clamp (by omega)]) (nm_r (nI_1 p) hQ)⟩
    · refine mr_mkM (R := R) (d := mr_ud d f k) (p := p + 1) (by omega) ?_
      try dsimp only
      exact ⟨hf, hcd, mr_B_u hb, mr_B_u hb', mr_DB_u hdb (by omega), mr_RVpop hdb hrv (by omega), hhv, htc, hcf⟩
end
end
section
/-! the instructions that take two values -/
section
variable {tc cf fc la oc sc mc g1 g2 fr ov en : Int32} {op ns ab sr cl tk fo du de ke gs gv kd fs fv ls lv ss sv he nd : Nat → Int32} {gl fi lo st : Nat → Int64} {R : Nat → Nat → Prop} {f : Nat} {d : Nat → Nat}
theorem mr_o8 {p k : Nat} {n : Int32} (H : mr_H R f d tc cf op ns ab sr gl cl fi tk de lo st gs gv kd fs fv ls lv ss sv he) (ek : d f = k + 2) (h1 : ss (6 * f + (k + 1)) = 1) (h2 : ss (6 * f + k) = 1) : ∃ (u' : SX) (v' : SY), (∀ Q : Int32 → SX → Prop, Q (-1) u' → wpX_work Q (tc, cf, nI (f + 1), nI f, nI p, sc, mc, g1, g2, op, ns, ab, sr, gl, cl, fi, tk, fo, du, de, lo, st, ke) (nI 8) n) ∧ (∀ Q : SY → Prop, Q v' → wpY_two Q (nI (f + 1), g1, g2, sc, mc, nI p, 0, en, op, ns, ab, sr, gs, gv, kd, fs, fv, ls, lv, ss, sv, he, du, nd, ke) (nI 8) n) ∧ mr_Md sc (p + 1) u' v' := by
  obtain ⟨hf, hcd, hb, hb', hdb, hrv, hhv, htc, hcf⟩ := H
  have e : de f = nI (k + 2) := by rw [hb f (by omega), ek]
  have e' : he f = nI (k + 2) := by rw [hb' f (by omega), ek]
  have d6 := hdb.1
  have hv1 := mr_V_low (hrv.2.2 f (k + 1) (by omega) (by omega)) h1
  have hv2 := mr_V_low (hrv.2.2 f k (by omega) (by omega)) h2
  apply mr_ex3
  · intro Q hQ
    unfold wpX_work
    dsimp only
    repeat (first | refine br_f (by decide) ?_ | refine br_t (by decide) ?_)
    unfold wpX_calculate
    dsimp only
    refine mr_xpop (k := k + 1) hf (by omega) e ?_
    dsimp only
    refine mr_xpop (k := k) hf (by omega) pk_us ?_
    dsimp only
    repeat (first | refine br_f (by decide) ?_ | refine br_t (by decide) ?_)
    rw [hv1, hv2, mr_I_i, mr_I_i]
    exact mr_xpushInt (k := k) hf (by omega) pk_us hQ
  · intro Q hQ
    unfold wpY_two
    dsimp only
    refine mr_yat (t := 1) (k := k) hf (by omega) e' (fun i j0 => ⟨i, nm_r (e' := ss (6 * f + k)) (by rw [j0]) ?_⟩)
    refine mr_yat (t := 1) (k := k) hf (by omega) e' (fun i j0 => ⟨i, nm_r (e' := sv (6 * f + k)) (by rw [j0]) ?_⟩)
    refine mr_yat (t := 0) (k := k + 1) hf (by omega) e' (fun i j0 => ⟨i, nm_r (e' := ss (6 * f + (k + 1))) (by rw [j0]) ?_⟩)
    refine mr_yat (t := 0) (k := k + 1) hf (by omega) e' (fun i j0 => ⟨i, nm_r (e' := sv (6 * f + (k + 1))) (by rw [j0]) ?_⟩)
    refine mr_ydrop (t := 2) (k := k) hf e' ?_
    repeat (first | refine br_f (by decide) ?_ | refine br_t (by decide) ?_)
    exact mr_ypush (k := k) hf (by omega) pk_us hQ
  · refine mr_mkM (R := R) (d := mr_ud d f (k + 1)) (p := p) (by omega) ?_
    try dsimp only
    exact ⟨hf, hcd, mr_B_e (mr_B_u (mr_B_u (mr_B_u hb))) (fun g _ => by unfold mr_ud; split <;> rfl), mr_B_e (mr_B_u (mr_B_u hb')) (fun g _ => by unfold mr_ud; split <;> rfl), mr_DB_u hdb (by omega), mr_RVpush hdb hrv (by omega) mr_VI, hhv, htc, hcf⟩
theorem mr_o9 {p k : Nat} {n : Int32} (H : mr_H R f d tc cf op ns ab sr gl cl fi tk de lo st gs gv kd fs fv ls lv ss sv he) (ek : d f = k + 2) (h1 : ss (6 * f + (k + 1)) = 1) (h2 : ss (6 * f + k) = 1) : ∃ (u' : SX) (v' : SY), (∀ Q : Int32 → SX → Prop, Q (-1) u' → wpX_work Q (tc, cf, nI (f + 1), nI f, nI p, sc, mc, g1, g2, op, ns, ab, sr, gl, cl, fi, tk, fo, du, de, lo, st, ke) (nI 9) n) ∧ (∀ Q : SY → Prop, Q v' → wpY_two Q (nI (f + 1), g1, g2, sc, mc, nI p, 0, en, op, ns, ab, sr, gs, gv, kd, fs, fv, ls, lv, ss, sv, he, du, nd, ke) (nI 9) n) ∧ mr_Md sc (p + 1) u' v' := by
  obtain ⟨hf, hcd, hb, hb', hdb, hrv, hhv, htc, hcf⟩ := H
  have e : de f = nI (k + 2) := by rw [hb f (by omega), ek]
  have e' : he f = nI (k + 2) := by rw [hb' f (by omega), ek]
  have d6 := hdb.1
  have hv1 := mr_V_low (hrv.2.2 f (k + 1) (by omega) (by omega)) h1
  have hv2 := mr_V_low (hrv.2.2 f k (by omega) (by omega)) h2
  apply mr_ex3
  · intro Q hQ
    unfold wpX_work
    dsimp only
    repeat (first | refine br_f (by decide) ?_ | refine br_t (by decide) ?_)
    unfold wpX_calculate
    dsimp only
    refine mr_xpop (k := k + 1) hf (by omega) e ?_
    dsimp only
    refine mr_xpop (k := k) hf (by omega) pk_us ?_
    dsimp only
    repeat (first | refine br_f (by decide) ?_ | refine br_t (by decide) ?_)
    rw [hv1, hv2, mr_I_i, mr_I_i]
    exact mr_xpushInt (k := k) hf (by omega) pk_us hQ
  · intro Q hQ
    unfold wpY_two
    dsimp only
    refine mr_yat (t := 1) (k := k) hf (by omega) e' (fun i j0 => ⟨i, nm_r (e' := ss (6 * f + k)) (by rw [j0]) ?_⟩)
    refine mr_yat (t := 1) (k := k) hf (by omega) e' (fun i j0 => ⟨i, nm_r (e' := sv (6 * f + k)) (by rw [j0]) ?_⟩)
    refine mr_yat (t := 0) (k := k + 1) hf (by omega) e' (fun i j0 => ⟨i, nm_r (e' := ss (6 * f + (k + 1))) (by rw [j0]) ?_⟩)
    refine mr_yat (t := 0) (k := k + 1) hf (by omega) e' (fun i j0 => ⟨i, nm_r (e' := sv (6 * f + (k + 1))) (by rw [j0]) ?_⟩)
    refine mr_ydrop (t := 2) (k := k) hf e' ?_
    repeat (first | refine br_f (by decide) ?_ | refine br_t (by decide) ?_)
    exact mr_ypush (k := k) hf (by omega) pk_us hQ
  · refine mr_mkM (R := R) (d := mr_ud d f (k + 1)) (p := p) (by omega) ?_
    try dsimp only
    exact ⟨hf, hcd, mr_B_e (mr_B_u (mr_B_u (mr_B_u hb))) (fun g _ => by unfold mr_ud; split <;> rfl), mr_B_e (mr_B_u (mr_B_u hb')) (fun g _ => by unfold mr_ud; split <;> rfl), mr_DB_u hdb (by omega), mr_RVpush hdb hrv (by omega) mr_VI, hhv, htc, hcf⟩
theorem mr_o10 {p k : Nat} {n : Int32} (H : mr_H R f d tc cf op ns ab sr gl cl fi tk de lo st gs gv kd fs fv ls lv ss sv he) (ek : d f = k + 2) (h1 : ss (6 * f + (k + 1)) = 1) (h2 : ss (6 * f + k) = 1) : ∃ (u' : SX) (v' : SY), (∀ Q : Int32 → SX → Prop, Q (-1) u' → wpX_work Q (tc, cf, nI (f + 1), nI f, nI p, sc, mc, g1, g2, op, ns, ab, sr, gl, cl, fi, tk, fo, du, de, lo, st, ke) (nI 10) n) ∧ (∀ Q : SY → Prop, Q v' → wpY_two Q (nI (f + 1), g1, g2, sc, mc, nI p, 0, en, op, ns, ab, sr, gs, gv, kd, fs, fv, ls, lv, ss, sv, he, du, nd, ke) (nI 10) n) ∧ mr_Md sc (p + 1) u' v' := by
  obtain ⟨hf, hcd, hb, hb', hdb, hrv, hhv, htc, hcf⟩ := H
  have e : de f = nI (k + 2) := by rw [hb f (by omega), ek]
  have e' : he f = nI (k + 2) := by rw [hb' f (by omega), ek]
  have d6 := hdb.1
  have hv1 := mr_V_low (hrv.2.2 f (k + 1) (by omega) (by omega)) h1
  have hv2 := mr_V_low (hrv.2.2 f k (by omega) (by omega)) h2
  apply mr_ex3
  · intro Q hQ
    unfold wpX_work
    dsimp only
    repeat (first | refine br_f (by decide) ?_ | refine br_t (by decide) ?_)
    unfold wpX_calculate
    dsimp only
    refine mr_xpop (k := k + 1) hf (by omega) e ?_
    dsimp only
    refine mr_xpop (k := k) hf (by omega) pk_us ?_
    dsimp only
    repeat (first | refine br_f (by decide) ?_ | refine br_t (by decide) ?_)
    rw [hv1, hv2, mr_I_i, mr_I_i]
    exact mr_xpushInt (k := k) hf (by omega) pk_us hQ
  · intro Q hQ
    unfold wpY_two
    dsimp only
    refine mr_yat (t := 1) (k := k) hf (by omega) e' (fun i j0 => ⟨i, nm_r (e' := ss (6 * f + k)) (by rw [j0]) ?_⟩)
    refine mr_yat (t := 1) (k := k) hf (by omega) e' (fun i j0 => ⟨i, nm_r (e' := sv (6 * f + k)) (by rw [j0]) ?_⟩)
    refine mr_yat (t := 0) (k := k + 1) hf (by omega) e' (fun i j0 => ⟨i, nm_r (e' := ss (6 * f + (k + 1))) (by rw [j0]) ?_⟩)
    refine mr_yat (t := 0) (k := k + 1) hf (by omega) e' (fun i j0 => ⟨i, nm_r (e' := sv (6 * f + (k + 1))) (by rw [j0]) ?_⟩)
    refine mr_ydrop (t := 2) (k := k) hf e' ?_
    repeat (first | refine br_f (by decide) ?_ | refine br_t (by decide) ?_)
    exact mr_ypush (k := k) hf (by omega) pk_us hQ
  · refine mr_mkM (R := R) (d := mr_ud d f (k + 1)) (p := p) (by omega) ?_
    try dsimp only
    exact ⟨hf, hcd, mr_B_e (mr_B_u (mr_B_u (mr_B_u hb))) (fun g _ => by unfold mr_ud; split <;> rfl), mr_B_e (mr_B_u (mr_B_u hb')) (fun g _ => by unfold mr_ud; split <;> rfl), mr_DB_u hdb (by omega), mr_RVpush hdb hrv (by omega) mr_VI, hhv, htc, hcf⟩
theorem mr_o11 {p k : Nat} {n : Int32} (H : mr_H R f d tc cf op ns ab sr gl cl fi tk de lo st gs gv kd fs fv ls lv ss sv he) (ek : d f = k + 2) (h1 : ss (6 * f + (k + 1)) = 1) (h2 : ss (6 * f + k) = 1) : ∃ (u' : SX) (v' : SY), (∀ Q : Int32 → SX → Prop, Q (-1) u' → wpX_work Q (tc, cf, nI (f + 1), nI f, nI p, sc, mc, g1, g2, op, ns, ab, sr, gl, cl, fi, tk, fo, du, de, lo, st, ke) (nI 11) n) ∧ (∀ Q : SY → Prop, Q v' → wpY_two Q (nI (f + 1), g1, g2, sc, mc, nI p, 0, en, op, ns, ab, sr, gs, gv, kd, fs, fv, ls, lv, ss, sv, he, du, nd, ke) (nI 11) n) ∧ mr_Md sc (p + 1) u' v' := by
  obtain ⟨hf, hcd, hb, hb', hdb, hrv, hhv, htc, hcf⟩ := H
  have e : de f = nI (k + 2) := by rw [hb f (by omega), ek]
  have e' : he f = nI (k + 2) := by rw [hb' f (by omega), ek]
  have d6 := hdb.1
  have hv1 := mr_V_low (hrv.2.2 f (k + 1) (by omega) (by omega)) h1
  have hv2 := mr_V_low (hrv.2.2 f k (by omega) (by omega)) h2
  by_cases z : sv (6 * f + (k + 1)) ≤ sv (6 * f + k)
  · apply mr_ex3
    · intro Q hQ
      unfold wpX_work
      dsimp only
      repeat (first | refine br_f (by decide) ?_ | refine br_t (by decide) ?_)
      unfold wpX_calculate
      dsimp only
      refine mr_xpop (k := k + 1) hf (by omega) e ?_
      dsimp only
      refine mr_xpop (k := k) hf (by omega) pk_us ?_
      dsimp only
      repeat (first | refine br_f (by decide) ?_ | refine br_t (by decide) ?_)
      rw [hv1, hv2, mr_I_i, mr_I_i]
      exact br_t z (mr_xpushInt (k := k) hf (by omega) pk_us hQ)
    · intro Q hQ
      unfold wpY_two
      dsimp only
      refine mr_yat (t := 1) (k := k) hf (by omega) e' (fun i j0 => ⟨i, nm_r (e' := ss (6 * f + k)) (by rw [j0]) ?_⟩)
      refine mr_yat (t := 1) (k := k) hf (by omega) e' (fun i j0 => ⟨i, nm_r (e' := sv (6 * f + k)) (by rw [j0]) ?_⟩)
      refine mr_yat (t := 0) (k := k + 1) hf (by omega) e' (fun i j0 => ⟨i, nm_r (e' := ss (6 * f + (k + 1))) (by rw [j0]) ?_⟩)
      refine mr_yat (t := 0) (k := k + 1) hf (by omega) e' (fun i j0 => ⟨i, nm_r (e' := sv (6 * f + (k + 1))) (by rw [j0]) ?_⟩)
      refine mr_ydrop (t := 2) (k := k) hf e' ?_
      repeat (first | refine br_f (by decide) ?_ | refine br_t (by decide) ?_)
      exact br_t z (mr_ypush (k := k) hf (by omega) pk_us hQ)
    · refine mr_mkM (R := R) (d := mr_ud d f (k + 1)) (p := p) (by omega) ?_
      try dsimp only
      exact ⟨hf, hcd, mr_B_e (mr_B_u (mr_B_u (mr_B_u hb))) (fun g _ => by unfold mr_ud; split <;> rfl), mr_B_e (mr_B_u (mr_B_u hb')) (fun g _ => by unfold mr_ud; split <;> rfl), mr_DB_u hdb (by omega), mr_RVpush hdb hrv (by omega) mr_VI, hhv, htc, hcf⟩
  · apply mr_ex3
    · intro Q hQ
      unfold wpX_work
      dsimp only
      repeat (first | refine br_f (by decide) ?_ | refine br_t (by decide) ?_)
      unfold wpX_calculate
      dsimp only
      refine mr_xpop (k := k + 1) hf (by omega) e ?_
      dsimp only
      refine mr_xpop (k := k) hf (by omega) pk_us ?_
      dsimp only
      repeat (first | refine br_f (by decide) ?_ | refine br_t (by decide) ?_)
      rw [hv1, hv2, mr_I_i, mr_I_i]
      exact br_f z (mr_xpushInt (k := k) hf (by omega) pk_us hQ)
    · intro Q hQ
      unfold wpY_two
      dsimp only
      refine mr_yat (t := 1) (k := k) hf (by omega) e' (fun i j0 => ⟨i, nm_r (e' := ss (6 * f + k)) (by rw [j0]) ?_⟩)
      refine mr_yat (t := 1) (k := k) hf (by omega) e' (fun i j0 => ⟨i, nm_r (e' := sv (6 * f + k)) (by rw [j0]) ?_⟩)
      refine mr_yat (t := 0) (k := k + 1) hf (by omega) e' (fun i j0 => ⟨i, nm_r (e' := ss (6 * f + (k + 1))) (by rw [j0]) ?_⟩)
      refine mr_yat (t := 0) (k := k + 1) hf (by omega) e' (fun i j0 => ⟨i, nm_r (e' := sv (6 * f + (k + 1))) (by rw [j0]) ?_⟩)
      refine mr_ydrop (t := 2) (k := k) hf e' ?_
      repeat (first | refine br_f (by decide) ?_ | refine br_t (by decide) ?_)
      exact br_f z (mr_ypush (k := k) hf (by omega) pk_us hQ)
    · refine mr_mkM (R := R) (d := mr_ud d f (k + 1)) (p := p) (by omega) ?_
      try dsimp only
      exact ⟨hf, hcd, mr_B_e (mr_B_u (mr_B_u (mr_B_u hb))) (fun g _ => by unfold mr_ud; split <;> rfl), mr_B_e (mr_B_u (mr_B_u hb')) (fun g _ => by unfold mr_ud; split <;> rfl), mr_DB_u hdb (by omega), mr_RVpush hdb hrv (by omega) mr_VI, hhv, htc, hcf⟩
theorem mr_o12 {p k : Nat} {n : Int32} (H : mr_H R f d tc cf op ns ab sr gl cl fi tk de lo st gs gv kd fs fv ls lv ss sv he) (ek : d f = k + 2) : ∃ (u' : SX) (v' : SY), (∀ Q : Int32 → SX → Prop, Q (-1) u' → wpX_work Q (tc, cf, nI (f + 1), nI f, nI p, sc, mc, g1, g2, op, ns, ab, sr, gl, cl, fi, tk, fo, du, de, lo, st, ke) (nI 12) n) ∧ (∀ Q : SY → Prop, Q v' → wpY_two Q (nI (f + 1), g1, g2, sc, mc, nI p, 0, en, op, ns, ab, sr, gs, gv, kd, fs, fv, ls, lv, ss, sv, he, du, nd, ke) (nI 12) n) ∧ mr_Md sc (p + 1) u' v' := by
  obtain ⟨hf, hcd, hb, hb', hdb, hrv, hhv, htc, hcf⟩ := H
  have e : de f = nI (k + 2) := by rw [hb f (by omega), ek]
  have e' : he f = nI (k + 2) := by rw [hb' f (by omega), ek]
  have d6 := hdb.1
  have hV1 := hrv.2.2 f (k + 1) (by omega) (by omega)
  have hV := hrv.2.2 f k (by omega) (by omega)
  have hs := mr_V_same hhv.2.1 hhv.2.2 hV hV1
  by_cases z : st (6 * f + k) = st (6 * f + (k + 1))
  · apply mr_ex3
    · intro Q hQ
      unfold wpX_work
      dsimp only
      repeat (first | refine br_f (by decide) ?_ | refine br_t (by decide) ?_)
      unfold wpX_calculate
      dsimp only
      refine mr_xpop (k := k + 1) hf (by omega) e ?_
      dsimp only
      refine mr_xpop (k := k) hf (by omega) pk_us ?_
      dsimp only
      repeat (first | refine br_f (by decide) ?_ | refine br_t (by decide) ?_)
      exact br_t z (mr_xpushInt (k := k) hf (by omega) pk_us hQ)
    · intro Q hQ
      unfold wpY_two
      dsimp only
      refine mr_yat (t := 1) (k := k) hf (by omega) e' (fun i j0 => ⟨i, nm_r (e' := ss (6 * f + k)) (by rw [j0]) ?_⟩)
      refine mr_yat (t := 1) (k := k) hf (by omega) e' (fun i j0 => ⟨i, nm_r (e' := sv (6 * f + k)) (by rw [j0]) ?_⟩)
      refine mr_yat (t := 0) (k := k + 1) hf (by omega) e' (fun i j0 => ⟨i, nm_r (e' := ss (6 * f + (k + 1))) (by rw [j0]) ?_⟩)
      refine mr_yat (t := 0) (k := k + 1) hf (by omega) e' (fun i j0 => ⟨i, nm_r (e' := sv (6 * f + (k + 1))) (by rw [j0]) ?_⟩)
      refine mr_ydrop (t := 2) (k := k) hf e' ?_
      repeat (first | refine br_f (by decide) ?_ | refine br_t (by decide) ?_)
      obtain ⟨q1, q2⟩ := hs.mp z
      refine br_t q1 ?_
      by_cases s0 : ss (6 * f + k) = 0
      · exact br_t s0 (mr_ypush (k := k) hf (by omega) pk_us hQ)
      · exact br_f s0 (br_t (q2.resolve_left s0) (mr_ypush (k := k) hf (by omega) pk_us hQ))
    · refine mr_mkM (R := R) (d := mr_ud d f (k + 1)) (p := p) (by omega) ?_
      try dsimp only
      exact ⟨hf, hcd, mr_B_e (mr_B_u (mr_B_u (mr_B_u hb))) (fun g _ => by unfold mr_ud; split <;> rfl), mr_B_e (mr_B_u (mr_B_u hb')) (fun g _ => by unfold mr_ud; split <;> rfl), mr_DB_u hdb (by omega), mr_RVpush hdb hrv (by omega) mr_VI, hhv, htc, hcf⟩
  · apply mr_ex3
    · intro Q hQ
      unfold wpX_work
      dsimp only
      repeat (first | refine br_f (by decide) ?_ | refine br_t (by decide) ?_)
      unfold wpX_calculate
      dsimp only
      refine mr_xpop (k := k + 1) hf (by omega) e ?_
      dsimp only
      refine mr_xpop (k := k) hf (by omega) pk_us ?_
      dsimp only
      repeat (first | refine br_f (by decide) ?_ | refine br_t (by decide) ?_)
      exact br_f z (mr_xpushInt (k := k) hf (by omega) pk_us hQ)
    · intro Q hQ
      unfold wpY_two
      dsimp only
      refine mr_yat (t := 1) (k := k) hf (by omega) e' (fun i j0 => ⟨i, nm_r (e' := ss (6 * f + k)) (by rw [j0]) ?_⟩)
      refine mr_yat (t := 1) (k := k) hf (by omega) e' (fun i j0 => ⟨i, nm_r (e' := sv (6 * f + k)) (by rw [j0]) ?_⟩)
      refine mr_yat (t := 0) (k := k + 1) hf (by omega) e' (fun i j0 => ⟨i, nm_r (e' := ss (6 * f + (k + 1))) (by rw [j0]) ?_⟩)
      refine mr_yat (t := 0) (k := k + 1) hf (by omega) e' (fun i j0 => ⟨i, nm_r (e' := sv (6 * f + (k + 1))) (by rw [j0]) ?_⟩)
      refine mr_ydrop (t := 2) (k := k) hf e' ?_
      repeat (first | refine br_f (by decide) ?_ | refine br_t (by decide) ?_)
      by_cases q1 : ss (6 * f + k) = ss (6 * f + (k + 1))
      · refine br_t q1 (br_f (fun s0 => z (hs.mpr ⟨q1, Or.inl s0⟩)) (br_f (fun s1 => z (hs.mpr ⟨q1, Or.inr s1⟩)) ?_))
        exact mr_ypush (k := k) hf (by omega) pk_us hQ
      · exact br_f q1 (mr_ypush (k := k) hf (by omega) pk_us hQ)
    · refine mr_mkM (R := R) (d := mr_ud d f (k + 1)) (p := p) (by omega) ?_
      try dsimp only
      exact ⟨hf, hcd, mr_B_e (mr_B_u (mr_B_u (mr_B_u hb))) (fun g _ => by unfold mr_ud; split <;> rfl), mr_B_e (mr_B_u (mr_B_u hb')) (fun g _ => by unfold mr_ud; split <;> rfl), mr_DB_u hdb (by omega), mr_RVpush hdb hrv (by omega) mr_VI, hhv, htc, hcf⟩
theorem mr_o17 {p k j : Nat} (H : mr_H R f d tc cf op ns ab sr gl cl fi tk de lo st gs gv kd fs fv ls lv ss sv he) (ek : d f = k + 2) (h2 : ss (6 * f + k) = 2) (hj : j < 3) : ∃ (u' : SX) (v' : SY), (∀ Q : Int32 → SX → Prop, Q (-1) u' → wpX_work Q (tc, cf, nI (f + 1), nI f, nI p, sc, mc, g1, g2, op, ns, ab, sr, gl, cl, fi, tk, fo, du, de, lo, st, ke) (nI 17) (nI j)) ∧ (∀ Q : SY → Prop, Q v' → wpY_two Q (nI (f + 1), g1, g2, sc, mc, nI p, 0, en, op, ns, ab, sr, gs, gv, kd, fs, fv, ls, lv, ss, sv, he, du, nd, ke) (nI 17) (nI j)) ∧ mr_Md sc (p + 1) u' v' := by
  obtain ⟨hf, hcd, hb, hb', hdb, hrv, hhv, htc, hcf⟩ := H
  have e : de f = nI (k + 2) := by rw [hb f (by omega), ek]
  have e' : he f = nI (k + 2) := by rw [hb' f (by omega), ek]
  have d6 := hdb.1
  obtain ⟨x, y, hx, hy, ev, ew, r⟩ := mr_V_ob (hrv.2.2 f k (by omega) (by omega)) h2
  apply mr_ex3
  · intro Q hQ
    unfold wpX_work
    dsimp only
    repeat (first | refine br_f (by decide) ?_ | refine br_t (by decide) ?_)
    refine mr_xpop (k := k + 1) hf (by omega) e ?_
    dsimp only
    repeat (first | refine br_f (by decide) ?_ | refine br_t (by decide) ?_)
    refine mr_xpop (k := k) hf (by omega) pk_us ?_
    dsimp only
    rw [ev, mr_O_i, mr_x3 x j, nI_clamp (n := 3 * x + j) (by omega)]
    exact ⟨vp_in_nI (by omega) (by decide), nm_e hQ⟩
  · intro Q hQ
    unfold wpY_two
    dsimp only
    refine mr_yat (t := 1) (k := k) hf (by omega) e' (fun i j0 => ⟨i, nm_r (e' := ss (6 * f + k)) (by rw [j0]) ?_⟩)
    refine mr_yat (t := 1) (k := k) hf (by omega) e' (fun i j0 => ⟨i, nm_r (e' := sv (6 * f + k)) (by rw [j0]) ?_⟩)
    refine mr_yat (t := 0) (k := k + 1) hf (by omega) e' (fun i j0 => ⟨i, nm_r (e' := ss (6 * f + (k + 1))) (by rw [j0]) ?_⟩)
    refine mr_yat (t := 0) (k := k + 1) hf (by omega) e' (fun i j0 => ⟨i, nm_r (e' := sv (6 * f + (k + 1))) (by rw [j0]) ?_⟩)
    refine mr_ydrop (t := 2) (k := k) hf e' ?_
    repeat (first | refine br_f (by decide) ?_ | refine br_t (by decide) ?_)
    rw [ew, mr_y3 y j, nI_clamp (n := 3 * y + j) (by omega)]
    exact ⟨vp_in_nI (by omega) (by decide), nm_e ⟨vp_in_nI (by omega) (by decide), nm_e hQ⟩⟩
  · refine mr_mkM (R := R) (d := mr_ud d f k) (p := p) (by omega) ?_
    try dsimp only
    exact ⟨hf, hcd, mr_B_e (mr_B_u (mr_B_u hb)) (fun g _ => by unfold mr_ud; split <;> rfl), mr_B_u hb', mr_DB_u hdb (by omega), mr_RVpop hdb hrv (by omega), mr_putHV hhv r hj (hrv.2.2 f (k + 1) (by omega) (by omega)), htc, hcf⟩
theorem mr_o7 {p k : Nat} {n : Int32} (H : mr_H R f d tc cf op ns ab sr gl cl fi tk de lo st gs gv kd fs fv ls lv ss sv he) (ek : d f = k + 2) : ∃ (u' : SX) (v' : SY), (∀ Q : Int32 → SX → Prop, Q (-1) u' → wpX_work Q (tc, cf, nI (f + 1), nI f, nI p, sc, mc, g1, g2, op, ns, ab, sr, gl, cl, fi, tk, fo, du, de, lo, st, ke) (nI 7) n) ∧ (∀ Q : SY → Prop, Q v' → wpY_two Q (nI (f + 1), g1, g2, sc, mc, nI p, 0, en, op, ns, ab, sr, gs, gv, kd, fs, fv, ls, lv, ss, sv, he, du, nd, ke) (nI 7) n) ∧ mr_Md sc (p + 1) u' v' := by
  obtain ⟨hf, hcd, hb, hb', hdb, hrv, hhv, htc, hcf⟩ := H
  have e : de f = nI (k + 2) := by rw [hb f (by omega), ek]
  have e' : he f = nI (k + 2) := by rw [hb' f (by omega), ek]
  have d6 := hdb.1
  apply mr_ex3
  · intro Q hQ
    unfold wpX_work
    dsimp only
    repeat (first | refine br_f (by decide) ?_ | refine br_t (by decide) ?_)
    refine mr_xpop (k := k + 1) hf (by omega) e ?_
    dsimp only
    repeat (first | refine br_f (by decide) ?_ | refine br_t (by decide) ?_)
    refine mr_xpop (k := k) hf (by omega) pk_us ?_
    dsimp only
    exact mr_xpush (k := k) hf (by omega) pk_us (mr_xpush (k := k + 1) hf (by omega) pk_us hQ)
  · intro Q hQ
    unfold wpY_two
    dsimp only
    refine mr_yat (t := 1) (k := k) hf (by omega) e' (fun i j0 => ⟨i, nm_r (e' := ss (6 * f + k)) (by rw [j0]) ?_⟩)
    refine mr_yat (t := 1) (k := k) hf (by omega) e' (fun i j0 => ⟨i, nm_r (e' := sv (6 * f + k)) (by rw [j0]) ?_⟩)
    refine mr_yat (t := 0) (k := k + 1) hf (by omega) e' (fun i j0 => ⟨i, nm_r (e' := ss (6 * f + (k + 1))) (by rw [j0]) ?_⟩)
    refine mr_yat (t := 0) (k := k + 1) hf (by omega) e' (fun i j0 => ⟨i, nm_r (e' := sv (6 * f + (k + 1))) (by rw [j0]) ?_⟩)
    refine mr_ydrop (t := 2) (k := k) hf e' ?_
    repeat (first | refine br_f (by decide) ?_ | refine br_t (by decide) ?_)
    exact mr_ypush (k := k) hf (by omega) pk_us (mr_ypush (k := k + 1) hf (by omega) pk_us hQ)
  · refine mr_mkM (R := R) (d := mr_ud d f (k + 2)) (p := p) (by omega) ?_
    try dsimp only
    exact ⟨hf, hcd, mr_B_e (mr_B_u (mr_B_u (mr_B_u (mr_B_u hb)))) (fun g _ => by unfold mr_ud; split <;> rfl), mr_B_e (mr_B_u (mr_B_u (mr_B_u hb'))) (fun g _ => by unfold mr_ud; split <;> rfl), mr_DB_u hdb (by omega), mr_RVtop (k := k + 2) hdb hrv (fun j hj => by rw [pk_uLn (by omega), pk_uLn (by omega)]) (fun j hj => by rw [pk_un (by omega), pk_un (by omega)]) (fun j hj => by rw [pk_un (by omega), pk_un (by omega)]) (fun i hi => by
      by_cases e1 : i = k + 1
      · subst e1
        rw [pk_uLs, pk_us, pk_us]
        exact hrv.2.2 f k (by omega) (by omega)
      · rw [pk_uLn (j := 6 * f + i) (k := 6 * f + (k + 1)) (by omega), pk_un (j := 6 * f + i) (k := 6 * f + (k + 1)) (by omega), pk_un (j := 6 * f + i) (k := 6 * f + (k + 1)) (by omega)]
        by_cases e2 : i = k
        · subst e2
          rw [pk_uLs, pk_us, pk_us]
          exact hrv.2.2 f (i + 1) (by omega) (by omega)
        · rw [pk_uLn (j := 6 * f + i) (k := 6 * f + k) (by omega), pk_un (j := 6 * f + i) (k := 6 * f + k) (by omega), pk_un (j := 6 * f + i) (k := 6 * f + k) (by omega)]
          exact hrv.2.2 f i (by omega) (by omega)), hhv, htc, hcf⟩
end
end
section
/-! entering a frame, making an object, on both sides; what the collectors meet -/
section
variable {tc cf fc la oc sc mc g1 g2 fr ov en : Int32} {op ns ab sr cl tk fo du de ke gs gv kd fs fv ls lv ss sv he nd : Nat → Int32} {gl fi lo st : Nat → Int64} {R : Nat → Nat → Prop} {f : Nat} {d : Nat → Nat}
theorem mr_XW_of {F : Nat} (hrv : mr_RV R F d gl lo st gs gv ls lv ss sv) (hhv : mr_HV R cl fi tk kd fs fv) : mr_XW gl lo st fi F d :=
  ⟨fun g hg => mr_V_W (hrv.1 g hg), fun k hk => mr_V_W (hrv.2.1 k hk), fun g i hg hi => mr_V_W (hrv.2.2 g i hg hi), fun x hx j hj => by
    obtain ⟨y, r, _⟩ := mr_L_tr R (mr_tr1 hrv) (mr_te1 hhv) hx
    exact mr_V_W ((hhv.1 x y r).2.2.2.2 j hj)⟩
theorem mr_YW_of {F : Nat} (hrv : mr_RV R F d gl lo st gs gv ls lv ss sv) (hhv : mr_HV R cl fi tk kd fs fv) : mr_YW gs gv ls lv ss sv fs fv F d :=
  ⟨fun g hg => mr_V_O16 (hrv.1 g hg), fun k hk => mr_V_O16 (hrv.2.1 k hk), fun g i hg hi => mr_V_O16 (hrv.2.2 g i hg hi), fun y hy j hj => by
    obtain ⟨x, r, _⟩ := mr_L_tr (fun y x => R x y) (mr_tr2 hrv) (fun y x y' r e => mr_te2 hhv x y y' r e) hy
    exact mr_V_O16 ((hhv.1 x y r).2.2.2.2 j hj)⟩
theorem mr_xenter {F : Nat} {s : Int32} {a b : Int64} {post : SX → Prop} (hF : F < 10) (h : post (tc, cf, nI (F + 1), nI F, oc, sc, mc, g1, g2, op, ns, ab, sr, gl, cl, fi, tk, fo, upd du F s, upd de F (nI 0), vp_updL (vp_updL (vp_updL (vp_updL lo (4 * F) a) (4 * F + 1) b) (4 * F + 2) 0) (4 * F + 3) 0, st, ke)) : wpX_enterFrame post (tc, cf, nI F, la, oc, sc, mc, g1, g2, op, ns, ab, sr, gl, cl, fi, tk, fo, du, de, lo, st, ke) s a b := by
  have i1 : vp_in (nI F) 10 := vp_in_nI hF (by decide)
  have i2 : (nI F).toNatClampNeg = F := nI_clamp (by omega)
  have e1 : nI (4 * F) + 1 = nI (4 * F + 1) := nI_add _ 1
  have e2 : nI (4 * F) + 2 = nI (4 * F + 2) := nI_add _ 2
  have e3 : nI (4 * F) + 3 = nI (4 * F + 3) := nI_add _ 3
  unfold wpX_enterFrame
  dsimp only
  rw [nI_1 F, i2, mr_x4', e1, e2, e3, nI_clamp (n := 4 * F) (by omega), nI_clamp (n := 4 * F + 1) (by omega), nI_clamp (n := 4 * F + 2) (by omega), nI_clamp (n := 4 * F + 3) (by omega)]
  exact nm_e ⟨i1, nm_e ⟨i1, nm_e ⟨vp_in_nI (by omega) (by decide), nm_e ⟨vp_in_nI (by omega) (by decide), nm_e ⟨vp_in_nI (by omega) (by decide), nm_e ⟨vp_in_nI (by omega) (by decide), nm_e h⟩⟩⟩⟩⟩⟩
theorem mr_yenter {F : Nat} {a s w : Int32} (hF : F < 10) : ∃ ls' : Nat → Int32, ((∀ j, j < 4 * F → ls' j = ls j) ∧ ls' (4 * F) = 0 ∧ ls' (4 * F + 1) = s ∧ ls' (4 * F + 2) = 0 ∧ ls' (4 * F + 3) = 0) ∧ ∀ post : SY → Prop, post (nI (F + 1), g1, g2, sc, mc, oc, ov, en, op, ns, ab, sr, gs, gv, kd, fs, fv, ls', upd lv (4 * F + 1) w, ss, sv, upd he F (nI 0), upd du F a, nd, ke) → wpY_enter post (nI F, g1, g2, sc, mc, oc, ov, en, op, ns, ab, sr, gs, gv, kd, fs, fv, ls, lv, ss, sv, he, du, nd, ke) a s w := by
  have i1 : vp_in (nI F) 10 := vp_in_nI hF (by decide)
  have i2 : (nI F).toNatClampNeg = F := nI_clamp (by omega)
  have e4 : 4 * nI F + 4 = nI (4 * F + 4) := by rw [mr_y4']; exact nI_add _ 4
  have e1 : 4 * nI F + 1 = nI (4 * F + 1) := by rw [mr_y4']; exact nI_add _ 1
  obtain ⟨t, ⟨ha, hb⟩, e⟩ := mr_lpE (fun (post : SY → Prop) n i (t : Nat → Int32) => wY_enter_28 post s w (nI F) g1 g2 sc mc oc ov en n (nI (4 * F + i)) op ns ab sr gs gv kd fs fv t lv ss sv (upd he F (nI 0)) (upd du F a) nd ke) (fun post t => post (nI (F + 1), g1, g2, sc, mc, oc, ov, en, op, ns, ab, sr, gs, gv, kd, fs, fv, upd t (4 * F + 1) s, upd lv (4 * F + 1) w, ss, sv, upd he F (nI 0), upd du F a, nd, ke)) (fun i t => (∀ j, j < 4 * F → t j = ls j) ∧ ∀ j, j < i → t (4 * F + j) = 0) 4 (fun t h post n hk => br_t (by rw [e4]; exact nI_le (Nat.le_refl _) (by omega)) (by rw [e1]; exact ⟨vp_in_nI (by omega) (by decide), nm_r (e' := upd t (4 * F + 1) s) (by rw [nI_clamp (by omega)]) ⟨vp_in_nI (by omega) (by decide), nm_r (e' := upd lv (4 * F + 1) w) (by rw [nI_clamp (by omega)]) (nm_r (nI_1 F) hk)⟩⟩)) (fun i t hi h => ⟨upd t (4 * F + i) 0, ⟨fun j hj => by rw [pk_un (by omega)]; exact h.1 j hj, fun j hj => by
      by_cases ej : j = i
      · subst ej; exact pk_us
      · rw [pk_un (by omega)]; exact h.2 j (by omega)⟩, fun post n h2 => br_f (by rw [e4]; exact nI_ge (by omega) (by omega)) ⟨vp_in_nI (by omega) (by decide), nm_r (e' := upd t (4 * F + i) 0) (by rw [nI_clamp (by omega)]) (nm_r (nI_1 _) h2)⟩⟩) ls ⟨fun _ _ => rfl, fun j hj => absurd hj (Nat.not_lt_zero j)⟩
  refine ⟨upd t (4 * F + 1) s, ⟨fun j hj => by rw [pk_un (by omega)]; exact ha j hj, by rw [pk_un (by omega)]; exact hb 0 (by omega), pk_us, by rw [pk_un (by omega)]; exact hb 2 (by omega), by rw [pk_un (by omega)]; exact hb 3 (by omega)⟩, fun post hp => ?_⟩
  unfold wpY_enter
  dsimp only
  rw [i2]
  exact ⟨i1, nm_e ⟨i1, nm_e (nm_r (mr_y4' F) ⟨5, e post 5 (by omega) hp⟩)⟩⟩
theorem mr_xmake {k : Nat} {c : Int32} (hf : f < 10) (hk : k < 6) (e : de f = nI k) (hc : mr_cn tk 16 < 16) : ∃ (px : Nat) (fi' : Nat → Int64), px < 16 ∧ tk px = 0 ∧ (∀ x j, j < 3 → x ≠ px → fi' (3 * x + j) = fi (3 * x + j)) ∧ (∀ j, j < 3 → fi' (3 * px + j) = 0) ∧ ∀ post : SX → Prop, post (nI (mr_cn tk 16 + 1), cf, fc, nI f, oc, sc, mc + 1, g1, g2, op, ns, ab, sr, gl, upd cl px c, fi', upd tk px 1, fo, du, upd de f (nI (k + 1)), lo, vp_updL st (6 * f + k) (mr_O px), ke) → wpX_makeObject post (nI (mr_cn tk 16), cf, fc, nI f, oc, sc, mc, g1, g2, op, ns, ab, sr, gl, cl, fi, tk, fo, du, de, lo, st, ke) c := by
  obtain ⟨px, hpx, tpx, hlt⟩ := mr_cn_room tk 16 hc
  obtain ⟨fi', ⟨ha, hb⟩, e2⟩ := mr_lpE (fun (post : SX → Prop) n i (t : Nat → Int64) => wX_makeObject_56 post (nI px) (nI (mr_cn tk 16 + 1)) cf fc (nI f) oc sc mc g1 g2 n (nI i) op ns ab sr gl (upd cl px c) t (upd tk px 1) fo du de lo st ke) (fun post t => post (nI (mr_cn tk 16 + 1), cf, fc, nI f, oc, sc, mc + 1, g1, g2, op, ns, ab, sr, gl, upd cl px c, t, upd tk px 1, fo, du, upd de f (nI (k + 1)), lo, vp_updL st (6 * f + k) (mr_O px), ke)) (fun i t => (∀ j, (j < 3 * px ∨ 3 * px + 3 ≤ j) → t j = fi j) ∧ ∀ j, j < i → t (3 * px + j) = 0) 3 (fun t h post n hp => br_t (by decide) (nm_e (by rw [mr_mk px hpx]; exact mr_xpush (k := k) hf hk e hp))) (fun i t hi h => ⟨vp_updL t (3 * px + i) 0, ⟨fun j hj => by rw [pk_uLn (by omega)]; exact h.1 j hj, fun j hj => by
      by_cases ej : j = i
      · subst ej; exact pk_uLs
      · rw [pk_uLn (by omega)]; exact h.2 j (by omega)⟩, fun post n h2 => br_f (nI_ge (b := 3) hi (by decide)) (by rw [mr_x3 px i]; exact ⟨vp_in_nI (by omega) (by decide), nm_r (e' := vp_updL t (3 * px + i) 0) (by rw [nI_clamp (by omega)]) (nm_r (nI_1 i) h2)⟩)⟩) fi ⟨fun _ _ => rfl, fun j hj => absurd hj (Nat.not_lt_zero j)⟩
  refine ⟨px, fi', hpx, tpx, fun x j hj hx => ha _ (by omega), hb, fun post hp => ?_⟩
  have h30 : wX_makeObject_30 post c (nI px) (nI (mr_cn tk 16)) cf fc (nI f) oc sc mc g1 g2 op ns ab sr gl cl fi tk fo du de lo st ke := by
    unfold wX_makeObject_30
    rw [nI_clamp (n := px) (by omega), mr_b1, nI_1]
    exact ⟨vp_in_nI hpx (by decide), nm_e (nm_e ⟨vp_in_nI hpx (by decide), nm_e ⟨4, e2 post 4 (by omega) hp⟩⟩)⟩
  have h4 : ∀ m i, i + m = px → wX_makeObject_4 post c 0 (nI (mr_cn tk 16)) cf fc (nI f) oc sc mc g1 g2 op ns ab sr gl cl fi tk fo du de lo st ke (m + 1) (nI i) := by
    intro m
    induction m with
    | zero =>
      intro i hi
      have : i = px := hi
      subst this
      refine br_f (nI_ge (b := 16) hpx (by decide)) ⟨vp_in_nI hpx (by decide), ?_⟩
      rw [nI_clamp (n := i) (by omega)]
      exact br_t tpx h30
    | succ m ih =>
      intro i hi
      refine br_f (nI_ge (b := 16) (by omega) (by decide)) ⟨vp_in_nI (by omega) (by decide), ?_⟩
      rw [nI_clamp (n := i) (by omega)]
      exact br_f (hlt i (by omega)) (nm_r (nI_1 i) (ih (i + 1) (by omega)))
  unfold wpX_makeObject
  dsimp only
  exact ⟨px + 1, h4 px 0 (by omega)⟩
def mr_dn : Nat → Int32
  | 0 => -1
  | m + 1 => nI m
theorem mr_dn_s : ∀ m, nI m + (-1) = mr_dn m := by
  intro m
  cases m with
  | zero => decide
  | succ m => exact pk_m1 m
theorem mr_ymake {k : Nat} {c : Int32} (hf : f < 10) (hk : k < 6) (e : he f = nI k) (hc : mr_cn nd 16 < 16) : ∃ (q : Nat) (fs' : Nat → Int32), q < 16 ∧ nd q = 0 ∧ (∀ y j, j < 3 → y ≠ q → fs' (3 * y + j) = fs (3 * y + j)) ∧ (∀ j, j < 3 → fs' (3 * q + j) = 0) ∧ ∀ post : SY → Prop, post (nI (f + 1), g1, g2, sc, mc + 1, oc, ov, en, op, ns, ab, sr, gs, gv, upd kd q c, fs', fv, ls, lv, upd ss (6 * f + k) 2, upd sv (6 * f + k) (nI q), upd he f (nI (k + 1)), du, nd, ke) → wpY_make post (nI (f + 1), g1, g2, sc, mc, oc, ov, en, op, ns, ab, sr, gs, gv, kd, fs, fv, ls, lv, ss, sv, he, du, nd, ke) c := by
  obtain ⟨z, hz, z0, _⟩ := mr_cn_room nd 16 hc
  have h6 : ∀ m o, m ≤ 16 → o < 16 → ((∃ z, m ≤ z ∧ z < 16 ∧ nd z = 0) → nd o = 0) → ∃ q, q < 16 ∧ nd q = 0 ∧ ∀ post : SY → Prop, wY_make_6 post c (nI (f + 1)) g1 g2 sc mc oc ov en op ns ab sr gs gv kd fs fv ls lv ss sv he du nd ke 1 (nI q) (-1) → wY_make_6 post c (nI (f + 1)) g1 g2 sc mc oc ov en op ns ab sr gs gv kd fs fv ls lv ss sv he du nd ke (m + 1) (nI o) (mr_dn m) := by
    intro m
    induction m with
    | zero => exact fun o _ ho h => ⟨o, ho, h ⟨z, Nat.zero_le _, hz, z0⟩, fun post hp => hp⟩
    | succ m ih =>
      intro o hm ho h
      by_cases w : nd m = 0
      · obtain ⟨q, hq, q0, hp⟩ := ih m (by omega) (by omega) (fun _ => w)
        refine ⟨q, hq, q0, fun post h2 => ?_⟩
        show wY_make_6 post c (nI (f + 1)) g1 g2 sc mc oc ov en op ns ab sr gs gv kd fs fv ls lv ss sv he du nd ke (m + 1 + 1) (nI o) (nI m)
        refine br_f (nI_pos (by omega)) ⟨vp_in_nI (by omega) (by decide), ?_⟩
        rw [nI_clamp (n := m) (by omega)]
        exact br_t w (nm_r (mr_dn_s m) (hp post h2))
      · obtain ⟨q, hq, q0, hp⟩ := ih o (by omega) ho (fun ⟨z', a, b, c'⟩ => h ⟨z', by
          by_cases ez : z' = m
          · subst ez; exact absurd c' w
          · omega, b, c'⟩)
        refine ⟨q, hq, q0, fun post h2 => ?_⟩
        show wY_make_6 post c (nI (f + 1)) g1 g2 sc mc oc ov en op ns ab sr gs gv kd fs fv ls lv ss sv he du nd ke (m + 1 + 1) (nI o) (nI m)
        refine br_f (nI_pos (by omega)) ⟨vp_in_nI (by omega) (by decide), ?_⟩
        rw [nI_clamp (n := m) (by omega)]
        exact br_f w (nm_r (mr_dn_s m) (hp post h2))
  obtain ⟨q, hq, q0, h7⟩ := h6 16 15 (by omega) (by omega) (fun ⟨z', a, b, _⟩ => by omega)
  have e3 : 3 * nI q + 3 = nI (3 * q + 3) := by rw [show (3 : Int32) = nI 3 from rfl, pk_mul, nI_add]
  obtain ⟨fs', ⟨ha, hb⟩, e2⟩ := mr_lpE (fun (post : SY → Prop) n i (t : Nat → Int32) => wY_make_38 post (nI q) (nI (f + 1)) g1 g2 sc mc oc ov en n (nI (3 * q + i)) op ns ab sr gs gv (upd kd q c) t fv ls lv ss sv he du nd ke) (fun post t => post (nI (f + 1), g1, g2, sc, mc + 1, oc, ov, en, op, ns, ab, sr, gs, gv, upd kd q c, t, fv, ls, lv, upd ss (6 * f + k) 2, upd sv (6 * f + k) (nI q), upd he f (nI (k + 1)), du, nd, ke)) (fun i t => (∀ j, (j < 3 * q ∨ 3 * q + 3 ≤ j) → t j = fs j) ∧ ∀ j, j < i → t (3 * q + j) = 0) 3 (fun t h post n hp => br_t (by rw [e3]; exact nI_le (Nat.le_refl _) (by omega)) (nm_e (mr_ypush (k := k) hf hk e hp))) (fun i t hi h => ⟨upd t (3 * q + i) 0, ⟨fun j hj => by rw [pk_un (by omega)]; exact h.1 j hj, fun j hj => by
      by_cases ej : j = i
      · subst ej; exact pk_us
      · rw [pk_un (by omega)]; exact h.2 j (by omega)⟩, fun post n h2 => br_f (by rw [e3]; exact nI_ge (by omega) (by omega)) ⟨vp_in_nI (by omega) (by decide), nm_r (e' := upd t (3 * q + i) 0) (by rw [nI_clamp (by omega)]) (nm_r (nI_1 _) h2)⟩⟩) fs ⟨fun _ _ => rfl, fun j hj => absurd hj (Nat.not_lt_zero j)⟩
  refine ⟨q, fs', hq, q0, fun y j hj hy => ha _ (by omega), hb, fun post hp => ?_⟩
  unfold wpY_make
  dsimp only
  refine ⟨17, h7 post ?_⟩
  refine br_t (by decide) ⟨vp_in_nI hq (by decide), nm_r (e' := upd kd q c) (by rw [nI_clamp (by omega)]) (nm_r (e' := nI (3 * q + 0)) (by rw [show (3 : Int32) = nI 3 from rfl, pk_mul]; rfl) ⟨4, e2 post 4 (by omega) hp⟩)⟩
end
end
section
/-! JUMP, STOP, RETURN, CALL -/
section
variable {tc cf fc la oc sc mc g1 g2 fr ov en : Int32} {op ns ab sr cl tk fo du de ke gs gv kd fs fv ls lv ss sv he nd : Nat → Int32} {gl fi lo st : Nat → Int64} {R : Nat → Nat → Prop} {f : Nat} {d : Nat → Nat}
theorem mr_B_n {F k : Nat} (h : mr_B F d de) : mr_B (F + 1) (mr_ud d F k) (upd de F (nI k)) := fun g hg => by
  by_cases e : g = F
  · subst e; rw [pk_us, mr_ud_s]
  · rw [pk_un e, mr_ud_n e]; exact h g (by omega)
theorem mr_x13 {n : Int32} (hf : f < 10) (Q : Int32 → SX → Prop) (h : Q (-1) (tc, cf, fc, nI f, oc, sc, mc, g1, g2, op, ns, ab, sr, gl, cl, fi, tk, fo, upd du f n, de, lo, st, ke)) : wpX_work Q (tc, cf, fc, nI f, oc, sc, mc, g1, g2, op, ns, ab, sr, gl, cl, fi, tk, fo, du, de, lo, st, ke) (nI 13) n := by
  unfold wpX_work
  dsimp only
  repeat (first | refine br_f (by decide) ?_ | refine br_t (by decide) ?_)
  rw [nI_clamp (n := f) (by omega)]
  exact ⟨vp_in_nI hf (by decide), nm_e h⟩
theorem mr_x0 {n : Int32} (Q : Int32 → SX → Prop) (h : Q 0 (tc, cf, fc, la, oc, sc, mc, g1, g2, op, ns, ab, sr, gl, cl, fi, tk, fo, du, de, lo, st, ke)) : wpX_work Q (tc, cf, fc, la, oc, sc, mc, g1, g2, op, ns, ab, sr, gl, cl, fi, tk, fo, du, de, lo, st, ke) (nI 0) n := br_t rfl h
theorem mr_o20a {p k : Nat} {n : Int32} (H : mr_H R 0 d tc cf op ns ab sr gl cl fi tk de lo st gs gv kd fs fv ls lv ss sv he) (ek : d 0 = k + 1) : ∃ (u' : SX) (v' : SY), (∀ Q : Int32 → SX → Prop, Q 0 u' → wpX_work Q (tc, cf, nI (0 + 1), nI 0, nI p, sc, mc, g1, g2, op, ns, ab, sr, gl, cl, fi, tk, fo, du, de, lo, st, ke) (nI 20) n) ∧ (∀ Q : SY → Prop, Q v' → wpY_leave Q (nI (0 + 1), g1, g2, sc, mc, nI p, 0, en, op, ns, ab, sr, gs, gv, kd, fs, fv, ls, lv, ss, sv, he, du, nd, ke)) ∧ mr_En 0 u' v' := by
  have HE := mr_HE H
  obtain ⟨hf, hcd, hb, hb', hdb, hrv, hhv, htc, hcf⟩ := H
  have e : de 0 = nI (k + 1) := by rw [hb 0 (by omega), ek]
  have e' : he 0 = nI (k + 1) := by rw [hb' 0 (by omega), ek]
  have d6 := hdb.1
  have hV := hrv.2.2 0 k (by omega) (by omega)
  have hN : ∃ g : Int32, (∀ (Q : Int32 → Prop) (w : SX), w = (tc, cf, nI 0, nI 0, nI p, sc, mc, ss (6 * 0 + k), g2, op, ns, ab, sr, gl, cl, fi, tk, fo, du, upd de 0 (nI k), lo, st, ke) → Q g → wpX_numberOf Q w (st (6 * 0 + k))) ∧ ((ss (6 * 0 + k) = 2 → vp_in (sv (6 * 0 + k) &&& 15) 16 ∧ kd (sv (6 * 0 + k) &&& 15).toNatClampNeg = g) ∧ (¬ ss (6 * 0 + k) = 2 → ss (6 * 0 + k) = 1 → sv (6 * 0 + k) = g) ∧ (¬ ss (6 * 0 + k) = 2 → ¬ ss (6 * 0 + k) = 1 → 0 = g)) := by
    generalize hs : ss (6 * 0 + k) = s at hV ⊢
    generalize hw : sv (6 * 0 + k) = w at hV ⊢
    generalize hgv : st (6 * 0 + k) = v at hV ⊢
    rcases hV with ⟨rfl, rfl⟩ | ⟨rfl, rfl⟩ | ⟨x, y, hx, hy, rfl, rfl, rfl, r⟩
    · exact ⟨0, fun Q w ew hq => by subst ew; exact br_t mr_0_lt hq, fun z => absurd z (by decide), fun _ z => absurd z (by decide), fun _ _ => rfl⟩
    · refine ⟨w, fun Q u ew hq => ?_, fun z => absurd z (by decide), fun _ _ => rfl, fun _ z => absurd rfl z⟩
      subst ew
      refine br_t (mr_I_lt w) ?_
      rw [mr_I_i]
      exact hq
    · refine ⟨cl x, fun Q u ew hq => ?_, fun _ => ?_, fun z => absurd rfl z, fun z => absurd rfl z⟩
      · subst ew
        refine br_f (mr_O_nlt hx) ?_
        rw [mr_O_i, nI_clamp (n := x) (by omega)]
        exact ⟨vp_in_nI hx (by decide), hq⟩
      · rw [mr_and15 hy, nI_clamp (n := y) (by omega)]
        exact ⟨vp_in_nI hy (by decide), (mr_HVok hhv r).2.2.symm⟩
  obtain ⟨g, hX, hY2, hY1, hY0⟩ := hN
  refine mr_ex3 (tc, cf, nI 0, nI 0, nI p, sc, mc, ss (6 * 0 + k), g, op, ns, ab, sr, gl, cl, fi, tk, fo, du, upd de 0 (nI k), lo, st, ke) (nI 0, ss (6 * 0 + k), g, sc, mc, nI p, 1, 0, op, ns, ab, sr, gs, gv, kd, fs, fv, ls, lv, ss, sv, he, du, nd, ke) ?_ ?_ ?_
  · intro Q hQ
    unfold wpX_work
    dsimp only
    repeat (first | refine br_f (by decide) ?_ | refine br_t (by decide) ?_)
    unfold wpX_leaveFrame
    dsimp only
    refine mr_xpop (f := 0) (k := k) (by omega) (by omega) e ?_
    dsimp only
    rw [nI_pred 0]
    refine nm_e (br_t (by decide) ?_)
    unfold wpX_sortOf
    rw [mr_V_int hV]
    exact hX _ _ rfl hQ
  · intro Q hQ
    unfold wpY_leave
    dsimp only
    refine mr_yat (f := 0) (t := 0) (k := k) (by omega) (by omega) e' (fun i j0 => ⟨i, nm_r (e' := ss (6 * 0 + k)) (by rw [j0]) ?_⟩)
    refine mr_yat (f := 0) (t := 0) (k := k) (by omega) (by omega) e' (fun i j0 => ⟨i, nm_r (e' := sv (6 * 0 + k)) (by rw [j0]) ?_⟩)
    rw [nI_pred 0]
    refine nm_e (br_t (by decide) ?_)
    by_cases s2 : ss (6 * 0 + k) = 2
    · refine br_t s2 ⟨(hY2 s2).1, ?_⟩
      rw [(hY2 s2).2]
      exact hQ
    · by_cases s1 : ss (6 * 0 + k) = 1
      · refine br_f s2 (br_t s1 ?_)
        rw [hY1 s2 s1]
        exact hQ
      · refine br_f s2 (br_f s1 ?_)
        rw [← hY0 s2 s1] at hQ
        exact hQ
  · exact mr_mkE HE
theorem mr_o20b {p k : Nat} {n : Int32} (H : mr_H R (f + 1) d tc cf op ns ab sr gl cl fi tk de lo st gs gv kd fs fv ls lv ss sv he) (ek : d (f + 1) = k + 1) : ∃ (u' : SX) (v' : SY), (∀ Q : Int32 → SX → Prop, Q (-1) u' → wpX_work Q (tc, cf, nI (f + 1 + 1), nI (f + 1), nI p, sc, mc, g1, g2, op, ns, ab, sr, gl, cl, fi, tk, fo, du, de, lo, st, ke) (nI 20) n) ∧ (∀ Q : SY → Prop, Q v' → wpY_leave Q (nI (f + 1 + 1), g1, g2, sc, mc, nI p, 0, en, op, ns, ab, sr, gs, gv, kd, fs, fv, ls, lv, ss, sv, he, du, nd, ke)) ∧ mr_Md sc (p + 1) u' v' := by
  obtain ⟨hf, hcd, hb, hb', hdb, hrv, hhv, htc, hcf⟩ := H
  have e : de (f + 1) = nI (k + 1) := by rw [hb (f + 1) (by omega), ek]
  have e' : he (f + 1) = nI (k + 1) := by rw [hb' (f + 1) (by omega), ek]
  have d6 := hdb.1
  have d4 := hdb.2 f (by omega)
  have hV := hrv.2.2 (f + 1) k (by omega) (by omega)
  have f1 : ¬ nI (f + 1) ≤ 0 := nI_nle (by omega) (by omega)
  apply mr_ex3
  · intro Q hQ
    unfold wpX_work
    dsimp only
    repeat (first | refine br_f (by decide) ?_ | refine br_t (by decide) ?_)
    unfold wpX_leaveFrame
    dsimp only
    refine mr_xpop (f := f + 1) (k := k) (by omega) (by omega) e ?_
    dsimp only
    rw [nI_pred (f + 1)]
    refine nm_e (br_f f1 ?_)
    rw [nI_pred f]
    refine nm_e (mr_xpush (f := f) (k := d f) (by omega) (by omega) ?_ hQ)
    rw [pk_un (by omega)]
    exact hb f (by omega)
  · intro Q hQ
    unfold wpY_leave
    dsimp only
    refine mr_yat (f := f + 1) (t := 0) (k := k) (by omega) (by omega) e' (fun i j0 => ⟨i, nm_r (e' := ss (6 * (f + 1) + k)) (by rw [j0]) ?_⟩)
    refine mr_yat (f := f + 1) (t := 0) (k := k) (by omega) (by omega) e' (fun i j0 => ⟨i, nm_r (e' := sv (6 * (f + 1) + k)) (by rw [j0]) ?_⟩)
    rw [nI_pred (f + 1)]
    refine nm_e (br_f f1 (mr_ypush (f := f) (k := d f) (by omega) (by omega) (hb' f (by omega)) hQ))
  · have hdb' : mr_DB f d := ⟨by omega, fun g hg => hdb.2 g (by omega)⟩
    refine mr_mkM (R := R) (f := f) (d := mr_ud d f (d f + 1)) (p := p) (by omega) ?_
    try dsimp only
    exact ⟨by omega, hcd, mr_B_u (fun g hg => by rw [pk_un (by omega)]; exact hb g (by omega)), mr_B_u (fun g hg => hb' g (by omega)), mr_DB_u hdb' (by omega), mr_RVpush hdb' (mr_RVleave hrv) (Nat.le_refl _) hV, hhv, htc, hcf⟩
theorem mr_o19 {p k j : Nat} (H : mr_H R f d tc cf op ns ab sr gl cl fi tk de lo st gs gv kd fs fv ls lv ss sv he) (ek : d f = k + 2) (h2 : ss (6 * f + k) = 2) (hj : j < 4) (hf9 : f + 1 < 10) : ∃ (u' : SX) (v' : SY), (∀ Q : Int32 → SX → Prop, Q (-1) u' → wpX_work Q (tc, cf, nI (f + 1), nI f, nI p, sc, mc, g1, g2, op, ns, ab, sr, gl, cl, fi, tk, fo, du, de, lo, st, ke) (nI 19) (nI j)) ∧ (∀ Q : SY → Prop, Q v' → wpY_call Q (nI (f + 1), g1, g2, sc, mc, nI p, 0, en, op, ns, ab, sr, gs, gv, kd, fs, fv, ls, lv, ss, sv, he, du, nd, ke) (nI j)) ∧ mr_Md sc (p + 1) u' v' := by
  obtain ⟨hf, hcd, hb, hb', hdb, hrv, hhv, htc, hcf⟩ := H
  have e : de f = nI (k + 2) := by rw [hb f (by omega), ek]
  have e' : he f = nI (k + 2) := by rw [hb' f (by omega), ek]
  have d6 := hdb.1
  obtain ⟨x, y, hx, hy, ev, ew, r⟩ := mr_V_ob (hrv.2.2 f k (by omega) (by omega)) h2
  obtain ⟨o1, o2, o3⟩ := mr_HVok hhv r
  obtain ⟨ls', ⟨l0, l1, l2, l3, l4⟩, eY⟩ := mr_yenter (F := f + 1) (a := mr_fd ab sr j 4 (kd y)) (s := ss (6 * f + (k + 1))) (w := sv (6 * f + (k + 1))) (g1 := g1) (g2 := g2) (sc := sc) (mc := mc) (oc := nI p) (ov := 0) (en := en) (op := op) (ns := ns) (ab := ab) (sr := sr) (gs := gs) (gv := gv) (kd := kd) (fs := fs) (fv := fv) (ls := ls) (lv := lv) (ss := ss) (sv := sv) (he := upd he f (nI k)) (du := du) (nd := nd) (ke := ke) hf9
  have e44 : 4 * nI (f + 1 + 1) - 4 = nI (4 * (f + 1)) := by rw [mr_y4', show (4 : Int32) = nI 4 from rfl, pk_sub (by omega)]; exact congrArg nI (by omega)
  apply mr_ex3
  · intro Q hQ
    unfold wpX_work
    dsimp only
    repeat (first | refine br_f (by decide) ?_ | refine br_t (by decide) ?_)
    unfold wpX_callMethod
    dsimp only
    refine mr_xcs (k := k) hf (by omega) e hx ev hcd hj o2 ?_
    refine mr_xpop (k := k + 1) hf (by omega) e ?_
    dsimp only
    refine mr_xpop (k := k) hf (by omega) pk_us ?_
    dsimp only
    exact mr_xenter hf9 hQ
  · intro Q hQ
    unfold wpY_call
    dsimp only
    refine mr_yat (t := 1) (k := k) hf (by omega) e' (fun i j0 => ⟨i, nm_r (e' := nI y) (by rw [j0, ew]) ?_⟩)
    refine mr_yat (t := 0) (k := k + 1) hf (by omega) e' (fun i j0 => ⟨i, nm_r (e' := ss (6 * f + (k + 1))) (by rw [j0]) ?_⟩)
    refine mr_yat (t := 0) (k := k + 1) hf (by omega) e' (fun i j0 => ⟨i, nm_r (e' := sv (6 * f + (k + 1))) (by rw [j0]) ?_⟩)
    refine mr_yfind hy hcd hj o1 ?_
    refine mr_ydrop (t := 2) (k := k) hf e' ?_
    refine eY _ ?_
    dsimp only
    rw [e44, nI_clamp (n := 4 * (f + 1)) (by omega)]
    exact ⟨vp_in_nI (by omega) (by decide), nm_e ⟨vp_in_nI (by omega) (by decide), nm_e hQ⟩⟩
  · rw [o3]
    refine mr_mkM (R := R) (f := f + 1) (d := mr_ud (mr_ud d f k) (f + 1) 0) (p := p) (by omega) ?_
    try dsimp only
    refine ⟨hf9, hcd, mr_B_n (mr_B_e (mr_B_u (mr_B_u hb)) (fun g _ => by unfold mr_ud; split <;> rfl)), mr_B_n (mr_B_u hb'), ⟨by rw [mr_ud_s]; omega, fun g hg => ?_⟩, mr_RVenter (mr_RVpop hdb hrv (by omega)) (fun j hj => ?_) (fun j hj => ?_) (fun j hj => ?_) (fun i hi => ?_), hhv, htc, hcf⟩
    · rw [mr_ud_n (by omega)]
      by_cases eg : g = f
      · subst eg; rw [mr_ud_s]; omega
      · rw [mr_ud_n eg]; exact hdb.2 g (by omega)
    · rw [pk_uLn (by omega), pk_uLn (by omega), pk_uLn (by omega), pk_uLn (by omega)]
    · rw [pk_un (by omega)]; exact l0 j hj
    · rw [pk_un (by omega), pk_un (by omega)]
    · have hi4 : i = 0 ∨ i = 1 ∨ i = 2 ∨ i = 3 := by omega
      rcases hi4 with rfl | rfl | rfl | rfl
      · rw [Nat.add_zero (4 * (f + 1)), pk_uLn (by omega), pk_uLn (by omega), pk_uLn (by omega), pk_uLs, pk_us, pk_us, ev]
        exact mr_VO hx hy r
      · rw [pk_uLn (by omega), pk_uLn (by omega), pk_uLs, pk_un (by omega), pk_un (by omega), pk_us, l2]
        exact hrv.2.2 f (k + 1) (by omega) (by omega)
      · rw [pk_uLn (by omega), pk_uLs, pk_un (by omega), l3]
        exact mr_V0
      · rw [pk_uLs, pk_un (by omega), l4]
        exact mr_V0
end
end
section
/-! NEW; every other instruction but CALL, by its number -/
section
variable {tc cf fc la oc sc mc g1 g2 fr ov en : Int32} {op ns ab sr cl tk fo du de ke gs gv kd fs fv ls lv ss sv he nd : Nat → Int32} {gl fi lo st : Nat → Int64} {R : Nat → Nat → Prop} {f : Nat} {d : Nat → Nat}
theorem mr_o15 {p j : Nat} (H : mr_H R f d tc cf op ns ab sr gl cl fi tk de lo st gs gv kd fs fv ls lv ss sv he) (hk : d f < 6) (hj : j < 4) (hc : mr_cn tk 16 < 16) (hc' : mr_cn nd 16 < 16) (hq : ∀ q, q < 16 → nd q = 0 → ∀ x, ¬ R x q) : ∃ (u' : SX) (v' : SY), (∀ Q : Int32 → SX → Prop, Q (-1) u' → wpX_work Q (tc, cf, nI (f + 1), nI f, nI p, sc, mc, g1, g2, op, ns, ab, sr, gl, cl, fi, tk, fo, du, de, lo, st, ke) (nI 15) (nI j)) ∧ (∀ Q : SY → Prop, Q v' → wpY_make Q (nI (f + 1), g1, g2, sc, mc, nI p, 0, en, op, ns, ab, sr, gs, gv, kd, fs, fv, ls, lv, ss, sv, he, du, nd, ke) (nI j)) ∧ mr_Md sc (p + 1) u' v' := by
  obtain ⟨hf, hcd, hb, hb', hdb, hrv, hhv, htc, hcf⟩ := H
  subst htc
  have e := hb f (by omega)
  have e' := hb' f (by omega)
  obtain ⟨px, fi', hpx, tpx, x1, x2, eX⟩ := mr_xmake (c := nI j) (cf := cf) (fc := nI (f + 1)) (oc := nI p) (sc := sc) (mc := mc) (g1 := g1) (g2 := g2) (op := op) (ns := ns) (ab := ab) (sr := sr) (gl := gl) (cl := cl) (fi := fi) (tk := tk) (fo := fo) (du := du) (de := de) (lo := lo) (st := st) (ke := ke) hf hk e hc
  obtain ⟨q, fs', hq16, nq, y1, y2, eY⟩ := mr_ymake (c := nI j) (g1 := g1) (g2 := g2) (sc := sc) (mc := mc) (oc := nI p) (ov := 0) (en := en) (op := op) (ns := ns) (ab := ab) (sr := sr) (gs := gs) (gv := gv) (kd := kd) (fs := fs) (fv := fv) (ls := ls) (lv := lv) (ss := ss) (sv := sv) (he := he) (du := du) (nd := nd) (ke := ke) hf hk e' hc'
  apply mr_ex3
  · intro Q hQ
    unfold wpX_work
    dsimp only
    repeat (first | refine br_f (by decide) ?_ | refine br_t (by decide) ?_)
    exact eX _ hQ
  · intro Q hQ
    exact eY _ hQ
  · refine mr_mkM (R := mr_add R px q) (f := f) (d := mr_ud d f (d f + 1)) (p := p) (by omega) ?_
    try dsimp only
    exact ⟨hf, hcd, mr_B_u hb, mr_B_u hb', mr_DB_u hdb (by omega), mr_RVpush hdb (mr_addRV hrv) (Nat.le_refl _) (mr_VO hpx hq16 (Or.inr ⟨rfl, rfl⟩)), mr_addHV hhv hpx hq16 hj tpx (hq q hq16 nq) (fun x hx => pk_un hx) pk_us (fun y hy => pk_un hy) pk_us x1 x2 y1 y2 (fun x hx => mr_Up_u tk px x hx) (by rw [pk_us]; decide), congrArg nI (mr_cn_upd tk px 1 (by decide) tpx 16 hpx).symm, hcf⟩
theorem mr_finS {i o p s : Nat} (hf : f < 10) (hi : i < 60) (ei : du f = nI i) (eo : op i = nI o) (ho : o < 24) (h0 : o ≠ 0) (h13 : o ≠ 13) (h15 : o ≠ 15) (h19 : o ≠ 19) (h20 : o ≠ 20) (ht : mr_tk o ≠ 2) (h : ∃ (u' : SX) (v' : SY), (∀ Q : Int32 → SX → Prop, Q (-1) u' → wpX_work Q (tc, cf, nI (f + 1), nI f, nI p, nI (s + 1), mc, g1, g2, op, ns, ab, sr, gl, cl, fi, tk, fo, upd du f (nI (i + 1)), de, lo, st, ke) (nI o) (ns i)) ∧ (∀ Q : SY → Prop, Q v' → wpY_simple Q (nI (f + 1), g1, g2, nI (s + 1), mc, nI p, 0, en, op, ns, ab, sr, gs, gv, kd, fs, fv, ls, lv, ss, sv, he, upd du f (nI (i + 1)), nd, ke) (nI o) (ns i)) ∧ mr_Md (nI (s + 1)) (p + 1) u' v') : ∃ (r : Int32) (u' : SX) (v' : SY), (∀ Q : Int32 → SX → Prop, Q r u' → wpX_work Q (tc, cf, nI (f + 1), nI f, nI p, nI (s + 1), mc, g1, g2, op, ns, ab, sr, gl, cl, fi, tk, fo, upd du f (nI (i + 1)), de, lo, st, ke) (nI o) (ns i)) ∧ (∀ Q : SY → Prop, Q v' → wpY_work Q (nI (f + 1), g1, g2, nI s, mc, nI p, 0, en, op, ns, ab, sr, gs, gv, kd, fs, fv, ls, lv, ss, sv, he, du, nd, ke)) ∧ ((r = -1 ∧ mr_Md (nI (s + 1)) (p + 1) u' v') ∨ (r ≠ -1 ∧ mr_En r u' v')) := by
  obtain ⟨u', v', hX, hY, hM⟩ := h
  exact ⟨-1, u', v', hX, mr_ywS hf hi ei eo rfl ho h0 h13 h15 h19 h20 ht hY, Or.inl ⟨rfl, hM⟩⟩
theorem mr_finT {i o p s : Nat} (hf : f < 10) (hi : i < 60) (ei : du f = nI i) (eo : op i = nI o) (ho : o < 24) (h0 : o ≠ 0) (h13 : o ≠ 13) (h15 : o ≠ 15) (h19 : o ≠ 19) (h20 : o ≠ 20) (ht : mr_tk o = 2) (h : ∃ (u' : SX) (v' : SY), (∀ Q : Int32 → SX → Prop, Q (-1) u' → wpX_work Q (tc, cf, nI (f + 1), nI f, nI p, nI (s + 1), mc, g1, g2, op, ns, ab, sr, gl, cl, fi, tk, fo, upd du f (nI (i + 1)), de, lo, st, ke) (nI o) (ns i)) ∧ (∀ Q : SY → Prop, Q v' → wpY_two Q (nI (f + 1), g1, g2, nI (s + 1), mc, nI p, 0, en, op, ns, ab, sr, gs, gv, kd, fs, fv, ls, lv, ss, sv, he, upd du f (nI (i + 1)), nd, ke) (nI o) (ns i)) ∧ mr_Md (nI (s + 1)) (p + 1) u' v') : ∃ (r : Int32) (u' : SX) (v' : SY), (∀ Q : Int32 → SX → Prop, Q r u' → wpX_work Q (tc, cf, nI (f + 1), nI f, nI p, nI (s + 1), mc, g1, g2, op, ns, ab, sr, gl, cl, fi, tk, fo, upd du f (nI (i + 1)), de, lo, st, ke) (nI o) (ns i)) ∧ (∀ Q : SY → Prop, Q v' → wpY_work Q (nI (f + 1), g1, g2, nI s, mc, nI p, 0, en, op, ns, ab, sr, gs, gv, kd, fs, fv, ls, lv, ss, sv, he, du, nd, ke)) ∧ ((r = -1 ∧ mr_Md (nI (s + 1)) (p + 1) u' v') ∨ (r ≠ -1 ∧ mr_En r u' v')) := by
  obtain ⟨u', v', hX, hY, hM⟩ := h
  exact ⟨-1, u', v', hX, mr_ywT hf hi ei eo rfl ho h0 h13 h15 h19 h20 ht hY, Or.inl ⟨rfl, hM⟩⟩
theorem mr_disp {i p s : Nat} (H : mr_H R f d tc cf op ns ab sr gl cl fi tk de lo st gs gv kd fs fv ls lv ss sv he) (hi : i < 60) (ei : du f = nI i) (hp : p < 1000) (o : Nat) (ho : o < 24) (eo : op i = nI o) (hfit : mr_fit o (ns i)) (hnf : ¬ (d f < mr_tk o ∨ (d f = 6 ∧ mr_tk o < mr_lv o))) (hso : mr_so o (ss (6 * f + (d f - 1))) (ss (6 * f + (d f - 2)))) (h15 : o ≠ 15) (h19 : o ≠ 19) : ∃ (r : Int32) (u' : SX) (v' : SY), (∀ Q : Int32 → SX → Prop, Q r u' → wpX_work Q (tc, cf, nI (f + 1), nI f, nI p, nI (s + 1), mc, g1, g2, op, ns, ab, sr, gl, cl, fi, tk, fo, upd du f (nI (i + 1)), de, lo, st, ke) (nI o) (ns i)) ∧ (∀ Q : SY → Prop, Q v' → wpY_work Q (nI (f + 1), g1, g2, nI s, mc, nI p, 0, en, op, ns, ab, sr, gs, gv, kd, fs, fv, ls, lv, ss, sv, he, du, nd, ke)) ∧ ((r = -1 ∧ mr_Md (nI (s + 1)) (p + 1) u' v') ∨ (r ≠ -1 ∧ mr_En r u' v')) := by
  have hf := H.1
  have d6 := H.2.2.2.2.1.1
  revert eo hfit hnf hso h15 h19
  revert o
  apply mr_24
  · intro eo hfit hnf hso h15 h19
    exact ⟨0, _, _, fun Q hq => mr_x0 Q hq, fun Q hq => mr_yw0 hf hi ei eo (fun Q h => h) Q hq, Or.inr ⟨by decide, mr_mkE (mr_HE H)⟩⟩
  · intro eo hfit hnf hso h15 h19
    have h6 : d f < 6 := Nat.lt_of_le_of_ne d6 fun q => hnf (Or.inr ⟨q, by decide⟩)
    exact mr_finS hf hi ei eo (by decide) (by decide) (by decide) (by decide) (by decide) (by decide) (by decide) (mr_o1 H h6)
  · intro eo hfit hnf hso h15 h19
    have h6 : d f < 6 := Nat.lt_of_le_of_ne d6 fun q => hnf (Or.inr ⟨q, by decide⟩)
    exact mr_finS hf hi ei eo (by decide) (by decide) (by decide) (by decide) (by decide) (by decide) (by decide) (mr_o2 H h6)
  · intro eo hfit hnf hso h15 h19
    obtain ⟨j, hj, ej⟩ := hfit.1 (by decide)
    have h6 : d f < 6 := Nat.lt_of_le_of_ne d6 fun q => hnf (Or.inr ⟨q, by decide⟩)
    refine mr_finS hf hi ei eo (by decide) (by decide) (by decide) (by decide) (by decide) (by decide) (by decide) ?_
    rw [ej]
    exact mr_o3 H h6 hj
  · intro eo hfit hnf hso h15 h19
    obtain ⟨j, hj, ej⟩ := hfit.1 (by decide)
    have h1 : 1 ≤ d f := Nat.le_of_not_lt fun q => hnf (Or.inl q)
    refine mr_finS hf hi ei eo (by decide) (by decide) (by decide) (by decide) (by decide) (by decide) (by decide) ?_
    rw [ej]
    exact mr_o4 H (k := d f - 1) (by omega) hj
  · intro eo hfit hnf hso h15 h19
    have h1 : 1 ≤ d f := Nat.le_of_not_lt fun q => hnf (Or.inl q)
    exact mr_finS hf hi ei eo (by decide) (by decide) (by decide) (by decide) (by decide) (by decide) (by decide) (mr_o5 H (k := d f - 1) (by omega))
  · intro eo hfit hnf hso h15 h19
    have h1 : 1 ≤ d f := Nat.le_of_not_lt fun q => hnf (Or.inl q)
    have h6 : d f < 6 := Nat.lt_of_le_of_ne d6 fun q => hnf (Or.inr ⟨q, by decide⟩)
    exact mr_finS hf hi ei eo (by decide) (by decide) (by decide) (by decide) (by decide) (by decide) (by decide) (mr_o6 H (k := d f - 1) (by omega) (by omega))
  · intro eo hfit hnf hso h15 h19
    have h1 : 2 ≤ d f := Nat.le_of_not_lt fun q => hnf (Or.inl q)
    have e21 : d f - 2 + 1 = d f - 1 := by omega
    exact mr_finT hf hi ei eo (by decide) (by decide) (by decide) (by decide) (by decide) (by decide) rfl (mr_o7 H (k := d f - 2) (by omega))
  · intro eo hfit hnf hso h15 h19
    have h1 : 2 ≤ d f := Nat.le_of_not_lt fun q => hnf (Or.inl q)
    have e21 : d f - 2 + 1 = d f - 1 := by omega
    exact mr_finT hf hi ei eo (by decide) (by decide) (by decide) (by decide) (by decide) (by decide) rfl (mr_o8 H (k := d f - 2) (by omega) (by rw [e21]; exact (hso.1 (by decide)).1) (hso.1 (by decide)).2)
  · intro eo hfit hnf hso h15 h19
    have h1 : 2 ≤ d f := Nat.le_of_not_lt fun q => hnf (Or.inl q)
    have e21 : d f - 2 + 1 = d f - 1 := by omega
    exact mr_finT hf hi ei eo (by decide) (by decide) (by decide) (by decide) (by decide) (by decide) rfl (mr_o9 H (k := d f - 2) (by omega) (by rw [e21]; exact (hso.1 (by decide)).1) (hso.1 (by decide)).2)
  · intro eo hfit hnf hso h15 h19
    have h1 : 2 ≤ d f := Nat.le_of_not_lt fun q => hnf (Or.inl q)
    have e21 : d f - 2 + 1 = d f - 1 := by omega
    exact mr_finT hf hi ei eo (by decide) (by decide) (by decide) (by decide) (by decide) (by decide) rfl (mr_o10 H (k := d f - 2) (by omega) (by rw [e21]; exact (hso.1 (by decide)).1) (hso.1 (by decide)).2)
  · intro eo hfit hnf hso h15 h19
    have h1 : 2 ≤ d f := Nat.le_of_not_lt fun q => hnf (Or.inl q)
    have e21 : d f - 2 + 1 = d f - 1 := by omega
    exact mr_finT hf hi ei eo (by decide) (by decide) (by decide) (by decide) (by decide) (by decide) rfl (mr_o11 H (k := d f - 2) (by omega) (by rw [e21]; exact (hso.1 (by decide)).1) (hso.1 (by decide)).2)
  · intro eo hfit hnf hso h15 h19
    have h1 : 2 ≤ d f := Nat.le_of_not_lt fun q => hnf (Or.inl q)
    have e21 : d f - 2 + 1 = d f - 1 := by omega
    exact mr_finT hf hi ei eo (by decide) (by decide) (by decide) (by decide) (by decide) (by decide) rfl (mr_o12 H (k := d f - 2) (by omega))
  · intro eo hfit hnf hso h15 h19
    exact ⟨-1, _, _, fun Q hq => mr_x13 hf Q hq, fun Q hq => mr_yw13 hf hi ei eo rfl Q hq, Or.inl ⟨rfl, mr_mkM (by omega) H⟩⟩
  · intro eo hfit hnf hso h15 h19
    have h1 : 1 ≤ d f := Nat.le_of_not_lt fun q => hnf (Or.inl q)
    exact mr_finS hf hi ei eo (by decide) (by decide) (by decide) (by decide) (by decide) (by decide) (by decide) (mr_o14 H (k := d f - 1) (by omega) (hso.2.1 (by decide)))
  · intro eo hfit hnf hso h15 h19
    exact absurd rfl h15
  · intro eo hfit hnf hso h15 h19
    obtain ⟨j, hj, ej⟩ := hfit.2 (by decide)
    have h1 : 1 ≤ d f := Nat.le_of_not_lt fun q => hnf (Or.inl q)
    refine mr_finS hf hi ei eo (by decide) (by decide) (by decide) (by decide) (by decide) (by decide) (by decide) ?_
    rw [ej]
    exact mr_o16 H (k := d f - 1) (by omega) (hso.2.2.1 rfl) hj
  · intro eo hfit hnf hso h15 h19
    obtain ⟨j, hj, ej⟩ := hfit.2 (by decide)
    have h1 : 2 ≤ d f := Nat.le_of_not_lt fun q => hnf (Or.inl q)
    have e21 : d f - 2 + 1 = d f - 1 := by omega
    refine mr_finT hf hi ei eo (by decide) (by decide) (by decide) (by decide) (by decide) (by decide) rfl ?_
    rw [ej]
    exact mr_o17 H (k := d f - 2) (by omega) (hso.2.2.2 (by decide)) hj
  · intro eo hfit hnf hso h15 h19
    obtain ⟨j, hj, ej⟩ := hfit.1 (by decide)
    have h1 : 1 ≤ d f := Nat.le_of_not_lt fun q => hnf (Or.inl q)
    refine mr_finS hf hi ei eo (by decide) (by decide) (by decide) (by decide) (by decide) (by decide) (by decide) ?_
    rw [ej]
    exact mr_o18 H (k := d f - 1) (by omega) hj
  · intro eo hfit hnf hso h15 h19
    exact absurd rfl h19
  · intro eo hfit hnf hso h15 h19
    have h1 : 1 ≤ d f := Nat.le_of_not_lt fun q => hnf (Or.inl q)
    by_cases f0 : f = 0
    · subst f0
      obtain ⟨u', v', hX, hY, hM⟩ := mr_o20a (p := p) (n := ns i) (mc := mc) (sc := nI (s + 1)) (g1 := g1) (g2 := g2) (fo := fo) (du := upd du 0 (nI (i + 1))) (ke := ke) (en := en) (nd := nd) H (k := d 0 - 1) (by omega)
      exact ⟨0, u', v', hX, mr_yw20 hf hi ei eo hY, Or.inr ⟨by decide, hM⟩⟩
    · obtain ⟨g, rfl⟩ : ∃ g, f = g + 1 := ⟨f - 1, by omega⟩
      obtain ⟨u', v', hX, hY, hM⟩ := mr_o20b (p := p) (n := ns i) (mc := mc) (sc := nI (s + 1)) (g1 := g1) (g2 := g2) (fo := fo) (du := upd du (g + 1) (nI (i + 1))) (ke := ke) (en := en) (nd := nd) H (k := d (g + 1) - 1) (by omega)
      exact ⟨-1, u', v', hX, mr_yw20 hf hi ei eo hY, Or.inl ⟨rfl, hM⟩⟩
  · intro eo hfit hnf hso h15 h19
    obtain ⟨j, hj, ej⟩ := hfit.1 (by decide)
    have h6 : d f < 6 := Nat.lt_of_le_of_ne d6 fun q => hnf (Or.inr ⟨q, by decide⟩)
    refine mr_finS hf hi ei eo (by decide) (by decide) (by decide) (by decide) (by decide) (by decide) (by decide) ?_
    rw [ej]
    exact mr_o21 H h6 hj
  · intro eo hfit hnf hso h15 h19
    obtain ⟨j, hj, ej⟩ := hfit.1 (by decide)
    have h1 : 1 ≤ d f := Nat.le_of_not_lt fun q => hnf (Or.inl q)
    refine mr_finS hf hi ei eo (by decide) (by decide) (by decide) (by decide) (by decide) (by decide) (by decide) ?_
    rw [ej]
    exact mr_o22 H (k := d f - 1) (by omega) hj
  · intro eo hfit hnf hso h15 h19
    have h1 : 1 ≤ d f := Nat.le_of_not_lt fun q => hnf (Or.inl q)
    exact mr_finS hf hi ei eo (by decide) (by decide) (by decide) (by decide) (by decide) (by decide) (by decide) (mr_o23 H (k := d f - 1) (by omega) (hso.2.1 (by decide)) hp)
end
end
section
/-! one step of the machine, on both sides -/
def mr_YB (v v' : SY) : Prop := (∀ Q : Int32 → SY → Prop, Q 0 v' → wpY_can Q v) ∨ ∃ v1 : SY, (∀ Q : Int32 → SY → Prop, Q 1 v1 → wpY_can Q v) ∧ (∀ Q : SY → Prop, Q v' → wpY_work Q v1)
theorem mr_Md_le {S : Int32} {P P' : Nat} {u : SX} {v : SY} (h : mr_Md S P u v) (hp : P ≤ P') : mr_Md S P' u v := by
  obtain ⟨R, f, d, p, tc, cf, mc, g1, g2, en, op, ns, ab, sr, cl, tk, fo, du, de, ke, gs, gv, kd, fs, fv, ls, lv, ss, sv, he, nd, gl, fi, lo, st, h1, h2, h3, h4⟩ := h
  exact ⟨R, f, d, p, tc, cf, mc, g1, g2, en, op, ns, ab, sr, cl, tk, fo, du, de, ke, gs, gv, kd, fs, fv, ls, lv, ss, sv, he, nd, gl, fi, lo, st, Nat.le_trans h1 hp, h2, h3, h4⟩
section
variable {tc cf fc la oc sc mc g1 g2 fr ov en : Int32} {op ns ab sr cl tk fo du de ke gs gv kd fs fv ls lv ss sv he nd : Nat → Int32} {gl fi lo st : Nat → Int64} {R : Nat → Nat → Prop} {f : Nat} {d : Nat → Nat}
theorem mr_stepNew {p s i : Nat} (H : mr_H R f d tc cf op ns ab sr gl cl fi tk de lo st gs gv kd fs fv ls lv ss sv he) (hs : s < 300) (hp : p ≤ s) (hi : i < 60) (ei : du f = nI i) (eo : op i = nI 15) (hfit : mr_fit 15 (ns i)) (nf : ¬ (d f < mr_tk 15 ∨ (d f = 6 ∧ mr_tk 15 < mr_lv 15))) (so : mr_so 15 (ss (6 * f + (d f - 1))) (ss (6 * f + (d f - 2)))) : ∃ (r : Int32) (u' : SX) (v' : SY), (∀ Q : Int32 → SX → Prop, Q r u' → wpX_step Q (tc, cf, nI (f + 1), nI f, nI p, nI s, mc, g1, g2, op, ns, ab, sr, gl, cl, fi, tk, fo, du, de, lo, st, ke)) ∧ mr_YB (nI (f + 1), g1, g2, nI s, mc, nI p, 0, en, op, ns, ab, sr, gs, gv, kd, fs, fv, ls, lv, ss, sv, he, du, nd, ke) v' ∧ ((r = -1 ∧ s < 300 ∧ mr_Md (nI (s + 1)) (s + 1) u' v') ∨ (r ≠ -1 ∧ mr_En r u' v')) := by
  obtain ⟨hf, hcd, hb, hb', hdb, hrv, hhv, htc, hcf⟩ := H
  obtain ⟨j, hj, ej⟩ := hfit.1 (by decide)
  have hA : 1 ≤ d f → mr_V R (st (6 * f + (d f - 1))) (ss (6 * f + (d f - 1))) (sv (6 * f + (d f - 1))) := fun z => hrv.2.2 f (d f - 1) (by omega) (by omega)
  have hB : 2 ≤ d f → mr_V R (st (6 * f + (d f - 2))) (ss (6 * f + (d f - 2))) (sv (6 * f + (d f - 2))) := fun z => hrv.2.2 f (d f - 2) (by omega) (by omega)
  have e := hb f (by omega)
  have e' := hb' f (by omega)
  have d6 := hdb.1
  have h6 : d f < 6 := Nat.lt_of_le_of_ne d6 fun q => nf (Or.inr ⟨q, by decide⟩)
  obtain ⟨m, hm, rfl⟩ := hcf
  subst htc
  have hd6 : ∀ g, g < f + 1 → d g ≤ 6 := fun g hg => by
    by_cases eg : g = f
    · subst eg; exact d6
    · have := hdb.2 g (by omega); omega
  obtain ⟨tk', fo', hL', hIs, eX⟩ := mr_xfull (tk := tk) (la := nI f) (oc := nI p) (sc := nI s) (mc := mc) (g1 := g1) (g2 := g2) (op := op) (ns := ns) (ab := ab) (sr := sr) (cl := cl) (fo := fo) (du := du) (ke := ke) (F := f + 1) (by omega) hm hb hd6 (mr_XW_of hrv hhv) (fun x _ hl => mr_L_tk hrv hhv hl)
  obtain ⟨nd', hIsY, eY⟩ := mr_ymark (g1 := g1) (g2 := g2) (sc := nI s) (mc := mc) (oc := nI p) (ov := 0) (en := en) (op := op) (ns := ns) (ab := ab) (sr := sr) (kd := kd) (du := du) (nd := nd) (ke := ke) (F := f + 1) (by omega) hb' hd6 (mr_YW_of hrv hhv)
  have hcut := mr_cutHV hhv hL'
  have hRc := mr_cutRV (ed := mr_eX fi) hrv
  have hcX := mr_cn_le tk' 16
  have hcY := mr_cn_le nd' 16
  have hiff : mr_cn tk' 16 = 16 ↔ mr_cn nd' 16 = 16 := by
    refine ⟨fun z => ?_, fun z => ?_⟩
    · rw [← mr_count hrv hhv (hIs z) hIsY]; exact z
    · have := mr_cn_inj (fun y x => R x y) (fun y y' x a b => hhv.2.2 x y y' a b) nd' 16 16 tk' (fun y hy w => by
        obtain ⟨x, r, hl⟩ := mr_L_tr (fun y x => R x y) (mr_tr2 hrv) (fun y x y' r e => mr_te2 hhv x y y' r e) ((hIsY y hy).mp w)
        exact ⟨x, (hhv.1 x y r).1, hL' x (hhv.1 x y r).1 hl, r⟩)
      omega
  by_cases full : mr_cn tk' 16 = 16
  · refine ⟨5, _, _, fun Q hq => mr_xpre hf hi ei eo ej (by decide) hs d6 e hA hB (fun z => absurd z nf) (fun _ z => absurd so z) (fun _ _ z => absurd rfl z) (fun _ _ _ => eX _ (fun z => absurd full (by omega)) (fun _ => br_f (by decide) hq)), Or.inl (fun Q hq => mr_ypre hf hi ei eo (by decide) hs d6 e' (fun z => absurd z nf) (fun _ z => absurd so z) (fun _ _ z => absurd rfl z) (fun _ _ _ => eY _ (br_t (congrArg nI (hiff.mp full)) (mr_y191' hq)))), Or.inr ⟨by decide, mr_mkE ⟨hcd, hRc.1, hcut, rfl, m, hm, rfl⟩⟩⟩
  · have hq' : ∀ q, q < 16 → nd' q = 0 → ∀ x, ¬ mr_cut R (mr_rX gl lo st (f + 1) d) (mr_eX fi) x q := fun q hq z x hx => by
      obtain ⟨y, r', hl'⟩ := mr_L_tr R (mr_tr1 hrv) (mr_te1 hhv) hx.2
      cases hhv.2.2 x q y hx.1 r'
      exact (hIsY q hq).mpr hl' z
    have nf' : ¬ mr_cn nd' 16 = 16 := fun z => full (hiff.mpr z)
    obtain ⟨u', v', hX, hY, hM⟩ := mr_o15 (p := p) (j := j) (sc := nI (s + 1)) (mc := mc) (g1 := g1) (g2 := g2) (fo := fo') (du := upd du f (nI (i + 1))) (ke := ke) (en := en) (nd := nd') ⟨hf, hcd, hb, hb', hdb, hRc, hcut, rfl, m, hm, rfl⟩ h6 hj (by omega) (by omega) hq'
    refine ⟨-1, u', v', fun Q hq => mr_xpre hf hi ei eo ej (by decide) hs d6 e hA hB (fun z => absurd z nf) (fun _ z => absurd so z) (fun _ _ z => absurd rfl z) (fun _ _ _ => eX _ (fun _ => br_t rfl (mr_xs83 (o := 15) hf (by decide) (by decide) hX hq)) (fun z => absurd z full)), Or.inr ⟨(nI (f + 1), g1, g2, nI s, mc, nI p, 0, en, op, ns, ab, sr, gs, gv, kd, fs, fv, ls, lv, ss, sv, he, du, nd', ke), fun Q hq => mr_ypre hf hi ei eo (by decide) hs d6 e' (fun z => absurd z nf) (fun _ z => absurd so z) (fun _ _ z => absurd rfl z) (fun _ _ _ => eY _ (br_f (fun z => nf' ((nI_eq (b := 16) (by omega) (by decide)).mp z)) (mr_y142 (o := 15) (by decide) (by decide) hq))), fun Q hq => mr_yw15 hf hi ei eo ej hY Q hq⟩, Or.inl ⟨rfl, hs, mr_Md_le hM (by omega)⟩⟩
theorem mr_stepCall {p s i : Nat} (H : mr_H R f d tc cf op ns ab sr gl cl fi tk de lo st gs gv kd fs fv ls lv ss sv he) (hs : s < 300) (hp : p ≤ s) (hi : i < 60) (ei : du f = nI i) (eo : op i = nI 19) (hfit : mr_fit 19 (ns i)) (nf : ¬ (d f < mr_tk 19 ∨ (d f = 6 ∧ mr_tk 19 < mr_lv 19))) (so : mr_so 19 (ss (6 * f + (d f - 1))) (ss (6 * f + (d f - 2)))) : ∃ (r : Int32) (u' : SX) (v' : SY), (∀ Q : Int32 → SX → Prop, Q r u' → wpX_step Q (tc, cf, nI (f + 1), nI f, nI p, nI s, mc, g1, g2, op, ns, ab, sr, gl, cl, fi, tk, fo, du, de, lo, st, ke)) ∧ mr_YB (nI (f + 1), g1, g2, nI s, mc, nI p, 0, en, op, ns, ab, sr, gs, gv, kd, fs, fv, ls, lv, ss, sv, he, du, nd, ke) v' ∧ ((r = -1 ∧ s < 300 ∧ mr_Md (nI (s + 1)) (s + 1) u' v') ∨ (r ≠ -1 ∧ mr_En r u' v')) := by
  have HE := mr_HE H
  have H0 := H
  obtain ⟨hf, hcd, hb, hb', hdb, hrv, hhv, htc, hcf⟩ := H
  obtain ⟨j, hj, ej⟩ := hfit.1 (by decide)
  have hA : 1 ≤ d f → mr_V R (st (6 * f + (d f - 1))) (ss (6 * f + (d f - 1))) (sv (6 * f + (d f - 1))) := fun z => hrv.2.2 f (d f - 1) (by omega) (by omega)
  have hB : 2 ≤ d f → mr_V R (st (6 * f + (d f - 2))) (ss (6 * f + (d f - 2))) (sv (6 * f + (d f - 2))) := fun z => hrv.2.2 f (d f - 2) (by omega) (by omega)
  have e := hb f (by omega)
  have e' := hb' f (by omega)
  have d6 := hdb.1
  have h2 : 2 ≤ d f := Nat.le_of_not_lt fun q => nf (Or.inl q)
  have ek : d f = (d f - 2) + 2 := by omega
  have e2 : de f = nI ((d f - 2) + 2) := by rw [← ek]; exact e
  have e2' : he f = nI ((d f - 2) + 2) := by rw [← ek]; exact e'
  have s2 := so.2.2.2 (by decide)
  obtain ⟨x, y, hx, hy, ev, ew, r⟩ := mr_V_ob (hB h2) s2
  obtain ⟨o1, o2, o3⟩ := mr_HVok hhv r
  have i4 : (nI i).toNatClampNeg = i := nI_clamp (by omega)
  have hXs : ∀ post : Int32 → SX → Prop, (mr_fd ab sr j 4 (kd y) = -1 → post 6 (tc, cf, nI (f + 1), nI f, nI p, nI s, mc, g1, g2, op, ns, ab, sr, gl, cl, fi, tk, fo, du, de, lo, st, ke)) → (¬ mr_fd ab sr j 4 (kd y) = -1 → wX_step_101 post (nI i) (nI 19) (nI j) tc cf (nI (f + 1)) (nI f) (nI p) (nI s) mc g1 g2 op ns ab sr gl cl fi tk fo du de lo st ke) → wpX_step post (tc, cf, nI (f + 1), nI f, nI p, nI s, mc, g1, g2, op, ns, ab, sr, gl, cl, fi, tk, fo, du, de, lo, st, ke) := fun post a b => mr_xpre hf hi ei eo ej (by decide) hs d6 e hA hB (fun z => absurd z nf) (fun _ z => absurd so z) (fun _ _ _ => br_t rfl (mr_xcs (k := d f - 2) hf (by omega) e2 hx ev hcd hj o2 (by rw [o3]; exact br_c a b))) (fun _ _ z => absurd z (by decide))
  have hYs : ∀ post : Int32 → SY → Prop, (mr_fd ab sr j 4 (kd y) = -1 → post 0 (nI (f + 1), g1, g2, nI s, mc, nI p, 1, 6, op, ns, ab, sr, gs, gv, kd, fs, fv, ls, lv, ss, sv, he, du, nd, ke)) → (¬ mr_fd ab sr j 4 (kd y) = -1 → wY_can_170 post (nI 19) (nI (f + 1)) g1 g2 (nI s) mc (nI p) 0 en op ns ab sr gs gv kd fs fv ls lv ss sv he du nd ke) → wpY_can post (nI (f + 1), g1, g2, nI s, mc, nI p, 0, en, op, ns, ab, sr, gs, gv, kd, fs, fv, ls, lv, ss, sv, he, du, nd, ke) := fun post a b => mr_ypre hf hi ei eo (by decide) hs d6 e' (fun z => absurd z nf) (fun _ z => absurd so z) (fun _ _ _ => br_t rfl ⟨vp_in_nI hi (by decide), by
      rw [i4, ej]
      refine mr_ystart (k := d f - 2) hf (by omega) e2' hy ew hcd hj o1 ?_
      rcases mr_fd_ok hcd hj 4 _ o1 with q | ⟨t, ht, q⟩
      · rw [q]
        exact br_f (by decide) (mr_y191' (a q))
      · rw [q]
        exact br_t (nI_pos' (by omega)) (b (by rw [q]; exact mr_ne1 (by omega)))⟩) (fun _ _ z => absurd z (by decide))
  by_cases fd : mr_fd ab sr j 4 (kd y) = -1
  · exact ⟨6, _, _, fun Q hq => hXs Q (fun _ => hq) (fun z => absurd fd z), Or.inl (fun Q hq => hYs Q (fun _ => hq) (fun z => absurd fd z)), Or.inr ⟨by decide, mr_mkE HE⟩⟩
  · by_cases f9 : f + 1 = 10
    · exact ⟨7, _, _, fun Q hq => hXs Q (fun z => absurd z fd) (fun _ => br_t rfl (br_f (nI_nlt (b := 10) (by omega) (by omega)) hq)), Or.inl (fun Q hq => hYs Q (fun z => absurd z fd) (fun _ => br_t rfl (br_t (congrArg nI f9) (mr_y191' hq)))), Or.inr ⟨by decide, mr_mkE HE⟩⟩
    · obtain ⟨u', v', hX, hY, hM⟩ := mr_o19 (p := p) (j := j) (k := d f - 2) (sc := nI (s + 1)) (mc := mc) (g1 := g1) (g2 := g2) (fo := fo) (du := upd du f (nI (i + 1))) (ke := ke) (en := en) (nd := nd) H0 ek s2 hj (by omega)
      refine ⟨-1, u', v', fun Q hq => hXs Q (fun z => absurd z fd) (fun _ => br_t rfl (br_t (nI_lt (b := 10) (by omega) (by decide)) (mr_xs119 hf hX hq))), Or.inr ⟨(nI (f + 1), g1, g2, nI s, mc, nI p, 0, en, op, ns, ab, sr, gs, gv, kd, fs, fv, ls, lv, ss, sv, he, du, nd, ke), fun Q hq => hYs Q (fun z => absurd z fd) (fun _ => br_t rfl (br_f (fun z => f9 ((nI_eq (b := 10) (by omega) (by decide)).mp z)) (mr_y191 hq))), fun Q hq => mr_yw19 hf hi ei eo ej hY Q hq⟩, Or.inl ⟨rfl, hs, mr_Md_le hM (by omega)⟩⟩
theorem mr_step {p s : Nat} (H : mr_H R f d tc cf op ns ab sr gl cl fi tk de lo st gs gv kd fs fv ls lv ss sv he) (hs : s ≤ 300) (hp : p ≤ s) : ∃ (r : Int32) (u' : SX) (v' : SY), (∀ Q : Int32 → SX → Prop, Q r u' → wpX_step Q (tc, cf, nI (f + 1), nI f, nI p, nI s, mc, g1, g2, op, ns, ab, sr, gl, cl, fi, tk, fo, du, de, lo, st, ke)) ∧ mr_YB (nI (f + 1), g1, g2, nI s, mc, nI p, 0, en, op, ns, ab, sr, gs, gv, kd, fs, fv, ls, lv, ss, sv, he, du, nd, ke) v' ∧ ((r = -1 ∧ s < 300 ∧ mr_Md (nI (s + 1)) (s + 1) u' v') ∨ (r ≠ -1 ∧ mr_En r u' v')) := by
  have HE := mr_HE H
  have H0 := H
  obtain ⟨hf, hcd, hb, hb', hdb, hrv, hhv, htc, hcf⟩ := H
  by_cases hi : ∃ i, i < 60 ∧ du f = nI i
  · obtain ⟨i, hi, ei⟩ := hi
    by_cases s3 : s = 300
    · subst s3
      exact ⟨2, _, _, fun Q hq => mr_xtired hf hi ei hq, Or.inl (fun Q hq => mr_ytired hf hi ei hq), Or.inr ⟨by decide, mr_mkE HE⟩⟩
    · have hs' : s < 300 := by omega
      obtain ⟨o, ho, eo, hfit⟩ := hcd.1 i hi
      have hA : 1 ≤ d f → mr_V R (st (6 * f + (d f - 1))) (ss (6 * f + (d f - 1))) (sv (6 * f + (d f - 1))) := fun z => hrv.2.2 f (d f - 1) (by omega) (by omega)
      have hB : 2 ≤ d f → mr_V R (st (6 * f + (d f - 2))) (ss (6 * f + (d f - 2))) (sv (6 * f + (d f - 2))) := fun z => hrv.2.2 f (d f - 2) (by omega) (by omega)
      have e := hb f (by omega)
      have e' := hb' f (by omega)
      have d6 := hdb.1
      by_cases nf : d f < mr_tk o ∨ (d f = 6 ∧ mr_tk o < mr_lv o)
      · exact ⟨3, _, _, fun Q hq => mr_xpre hf hi ei eo rfl ho hs' d6 e hA hB (fun _ => hq) (fun z => absurd nf z) (fun z => absurd nf z) (fun z => absurd nf z), Or.inl (fun Q hq => mr_ypre hf hi ei eo ho hs' d6 e' (fun _ => hq) (fun z => absurd nf z) (fun z => absurd nf z) (fun z => absurd nf z)), Or.inr ⟨by decide, mr_mkE HE⟩⟩
      · by_cases so : mr_so o (ss (6 * f + (d f - 1))) (ss (6 * f + (d f - 2)))
        · by_cases e15 : o = 15
          · subst e15
            exact mr_stepNew H0 hs' hp hi ei eo hfit nf so
          · by_cases e19 : o = 19
            · subst e19
              exact mr_stepCall H0 hs' hp hi ei eo hfit nf so
            · obtain ⟨r, u', v', hX, hY, hO⟩ := mr_disp (s := s) (p := p) (mc := mc) (g1 := g1) (g2 := g2) (fo := fo) (ke := ke) (en := en) (nd := nd) H0 hi ei (by omega) o ho eo hfit nf so e15 e19
              refine ⟨r, u', v', fun Q hq => mr_xpre hf hi ei eo rfl ho hs' d6 e hA hB (fun z => absurd z nf) (fun _ z => absurd so z) (fun _ _ _ => mr_xs83 hf ho e19 hX hq) (fun _ _ z => absurd z e15), Or.inr ⟨(nI (f + 1), g1, g2, nI s, mc, nI p, 0, en, op, ns, ab, sr, gs, gv, kd, fs, fv, ls, lv, ss, sv, he, du, nd, ke), fun Q hq => mr_ypre hf hi ei eo ho hs' d6 e' (fun z => absurd z nf) (fun _ z => absurd so z) (fun _ _ _ => mr_y142 ho e19 hq) (fun _ _ z => absurd z e15), hY⟩, ?_⟩
              rcases hO with ⟨h1, h2⟩ | h3
              · exact Or.inl ⟨h1, hs', mr_Md_le h2 (by omega)⟩
              · exact Or.inr h3
        · exact ⟨4, _, _, fun Q hq => mr_xpre hf hi ei eo rfl ho hs' d6 e hA hB (fun z => absurd z nf) (fun _ _ => hq) (fun _ z => absurd z so) (fun _ z => absurd z so), Or.inl (fun Q hq => mr_ypre hf hi ei eo ho hs' d6 e' (fun z => absurd z nf) (fun _ _ => hq) (fun _ z => absurd z so) (fun _ z => absurd z so)), Or.inr ⟨by decide, mr_mkE HE⟩⟩
  · exact ⟨1, _, _, fun Q hq => mr_xcode hf hi hq, Or.inl (fun Q hq => mr_ycode hf hi hq), Or.inr ⟨by decide, mr_mkE HE⟩⟩
end
end
section
/-! the run: both loops end alike -/
def mr_Rl (u : SX) (v : SY) : Prop :=
  ∃ (R : Nat → Nat → Prop) (tc cf la oc sc mc g1 g2 ov en : Int32) (op ns ab sr cl tk fo du de ke gs gv kd fs fv ls lv ss sv he nd : Nat → Int32) (gl fi lo st : Nat → Int64), u = (tc, cf, 0, la, oc, sc, mc, g1, g2, op, ns, ab, sr, gl, cl, fi, tk, fo, du, de, lo, st, ke) ∧ v = (0, g1, g2, sc, mc, oc, ov, en, op, ns, ab, sr, gs, gv, kd, fs, fv, ls, lv, ss, sv, he, du, nd, ke) ∧ mr_E R tc cf op ns ab sr gl cl fi tk gs gv kd fs fv
def mr_RX (post : Int32 → SX → Prop) (n : Nat) (x5 x6 : Int32) (u : SX) : Prop := match u with
  | (tc, cf, fc, la, oc, sc, mc, g1, g2, op, ns, ab, sr, gl, cl, fi, tk, fo, du, de, lo, st, ke) => wX_run_43 post n x5 x6 tc cf fc la oc sc mc g1 g2 op ns ab sr gl cl fi tk fo du de lo st ke
def mr_RY (post : Int32 → SY → Prop) (n : Nat) (x3 : Int32) (v : SY) : Prop := match v with
  | (fr, g1, g2, sc, mc, oc, ov, en, op, ns, ab, sr, gs, gv, kd, fs, fv, ls, lv, ss, sv, he, du, nd, ke) => wY_run_44 post n x3 fr g1 g2 sc mc oc ov en op ns ab sr gs gv kd fs fv ls lv ss sv he du nd ke
theorem mr_loop : ∀ (m s : Nat) (u : SX) (v : SY), s + m = 300 → mr_Md (nI s) s u v → ∃ (r : Int32) (uE : SX) (vE : SY), mr_Rl uE vE ∧ (∀ post : Int32 → SX → Prop, post r uE → mr_RX post (m + 2) (-1) (nI s) u) ∧ (∀ post : Int32 → SY → Prop, post r vE → mr_RY post (m + 2) (nI s) v) := by
  intro m
  induction m with
  | zero =>
    intro s u v hs hM
    obtain ⟨R, f, d, p, tc, cf, mc, g1, g2, en, op, ns, ab, sr, cl, tk, fo, du, de, ke, gs, gv, kd, fs, fv, ls, lv, ss, sv, he, nd, gl, fi, lo, st, hp, rfl, rfl, H⟩ := hM
    have s3 : s = 300 := hs
    have n300 : ¬ (300 : Int32) < nI s := nI_nlt (a := 300) (by omega) (by decide)
    have n302 : ¬ (302 : Int32) ≤ nI s := nI_ge (b := 302) (by omega) (by decide)
    obtain ⟨r, u', v', hX, hY, hO⟩ := mr_step (mc := mc) (g1 := g1) (g2 := g2) (en := en) (fo := fo) (du := du) (ke := ke) (nd := nd) H (by omega) hp
    rcases hO with ⟨_, h2, _⟩ | ⟨hr, hE⟩
    · omega
    · obtain ⟨R2, tc2, cf2, fc2, la2, oc2, sc2, mc2, g12, g22, fr2, op2, ns2, ab2, sr2, cl2, tk2, fo2, du2, de2, ke2, gs2, gv2, kd2, fs2, fv2, ls2, lv2, ss2, sv2, he2, nd2, gl2, fi2, lo2, st2, rfl, rfl, HE⟩ := hE
      refine ⟨r, _, _, ⟨R2, tc2, cf2, la2, oc2, sc2, mc2, g12, g22, 1, r, op2, ns2, ab2, sr2, cl2, tk2, fo2, du2, de2, ke2, gs2, gv2, kd2, fs2, fv2, ls2, lv2, ss2, sv2, he2, nd2, gl2, fi2, lo2, st2, rfl, rfl, HE⟩, fun post h => ?_, fun post h => ?_⟩
      · exact br_f n300 (br_t rfl (hX _ (nm_r (nI_1 s) (br_c (fun _ => h) (fun _ => br_f hr h)))))
      · rcases hY with hA | ⟨v1, hc, hw⟩
        · exact br_f n302 (br_t rfl (hA _ (br_t rfl (nm_r (nI_1 s) (br_c (fun _ => h) (fun _ => br_f (by decide) h))))))
        · obtain ⟨fr3, g13, g23, sc3, mc3, oc3, ov3, en3, op3, ns3, ab3, sr3, gs3, gv3, kd3, fs3, fv3, ls3, lv3, ss3, sv3, he3, du3, nd3, ke3⟩ := v1
          exact br_f n302 (br_t rfl (hc _ (br_f (by decide) (hw _ (nm_r (nI_1 s) (br_c (fun _ => h) (fun _ => br_f (by decide) h)))))))
  | succ m ih =>
    intro s u v hs hM
    obtain ⟨R, f, d, p, tc, cf, mc, g1, g2, en, op, ns, ab, sr, cl, tk, fo, du, de, ke, gs, gv, kd, fs, fv, ls, lv, ss, sv, he, nd, gl, fi, lo, st, hp, rfl, rfl, H⟩ := hM
    have n300 : ¬ (300 : Int32) < nI s := nI_nlt (a := 300) (by omega) (by decide)
    have n302 : ¬ (302 : Int32) ≤ nI s := nI_ge (b := 302) (by omega) (by decide)
    obtain ⟨r, u', v', hX, hY, hO⟩ := mr_step (mc := mc) (g1 := g1) (g2 := g2) (en := en) (fo := fo) (du := du) (ke := ke) (nd := nd) H (by omega) hp
    rcases hO with ⟨rfl, h2, hM⟩ | ⟨hr, hE⟩
    · obtain ⟨r', uE, vE, hR, hX', hY'⟩ := ih (s + 1) u' v' (by omega) hM
      obtain ⟨R1, f1, d1, p1, tc1, cf1, mc1, g11, g21, en1, op1, ns1, ab1, sr1, cl1, tk1, fo1, du1, de1, ke1, gs1, gv1, kd1, fs1, fv1, ls1, lv1, ss1, sv1, he1, nd1, gl1, fi1, lo1, st1, hp1, rfl, rfl, H1⟩ := hM
      refine ⟨r', uE, vE, hR, fun post h => ?_, fun post h => ?_⟩
      · exact br_f n300 (br_t rfl (hX _ (nm_r (nI_1 s) (hX' post h))))
      · rcases hY with hA | ⟨v1, hc, hw⟩
        · exact br_f n302 (br_t rfl (hA _ (br_t rfl (nm_r (nI_1 s) (hY' post h)))))
        · obtain ⟨fr3, g13, g23, sc3, mc3, oc3, ov3, en3, op3, ns3, ab3, sr3, gs3, gv3, kd3, fs3, fv3, ls3, lv3, ss3, sv3, he3, du3, nd3, ke3⟩ := v1
          exact br_f n302 (br_t rfl (hc _ (br_f (by decide) (hw _ (nm_r (nI_1 s) (hY' post h))))))
    · obtain ⟨R2, tc2, cf2, fc2, la2, oc2, sc2, mc2, g12, g22, fr2, op2, ns2, ab2, sr2, cl2, tk2, fo2, du2, de2, ke2, gs2, gv2, kd2, fs2, fv2, ls2, lv2, ss2, sv2, he2, nd2, gl2, fi2, lo2, st2, rfl, rfl, HE⟩ := hE
      refine ⟨r, _, _, ⟨R2, tc2, cf2, la2, oc2, sc2, mc2, g12, g22, 1, r, op2, ns2, ab2, sr2, cl2, tk2, fo2, du2, de2, ke2, gs2, gv2, kd2, fs2, fv2, ls2, lv2, ss2, sv2, he2, nd2, gl2, fi2, lo2, st2, rfl, rfl, HE⟩, fun post h => ?_, fun post h => ?_⟩
      · exact br_f n300 (br_t rfl (hX _ (nm_r (nI_1 s) (br_c (fun _ => h) (fun _ => br_f hr h)))))
      · rcases hY with hA | ⟨v1, hc, hw⟩
        · exact br_f n302 (br_t rfl (hA _ (br_t rfl (nm_r (nI_1 s) (br_c (fun _ => h) (fun _ => br_f (by decide) h))))))
        · obtain ⟨fr3, g13, g23, sc3, mc3, oc3, ov3, en3, op3, ns3, ab3, sr3, gs3, gv3, kd3, fs3, fv3, ls3, lv3, ss3, sv3, he3, du3, nd3, ke3⟩ := v1
          exact br_f n302 (br_t rfl (hc _ (br_f (by decide) (hw _ (nm_r (nI_1 s) (br_c (fun _ => h) (fun _ => br_f (by decide) h)))))))
section
variable {tc cf fc la oc sc mc g1 g2 fr ov en : Int32} {op ns ab sr cl tk fo du de ke gs gv kd fs fv ls lv ss sv he nd : Nat → Int32} {gl fi lo st : Nat → Int64} {R : Nat → Nat → Prop} {f : Nat} {d : Nat → Nat}
theorem mr_run (a b : Int32) (H : mr_E R tc cf op ns ab sr gl cl fi tk gs gv kd fs fv) : ∃ (r : Int32) (uE : SX) (vE : SY), mr_Rl uE vE ∧ (∀ post : Int32 → SX → Prop, post r uE → wpX_run post (tc, cf, 0, la, oc, sc, mc, g1, g2, op, ns, ab, sr, gl, cl, fi, tk, fo, du, de, lo, st, ke) a b) ∧ (∀ post : Int32 → SY → Prop, post r vE → wpY_run post (0, g1, g2, sc, mc, oc, ov, en, op, ns, ab, sr, gs, gv, kd, fs, fv, ls, lv, ss, sv, he, du, nd, ke) a b) := by
  obtain ⟨hcd, hg, hhv, htc, hcf⟩ := H
  obtain ⟨ls', ⟨l0, l1, l2, l3, l4⟩, eY⟩ := mr_yenter (F := 0) (a := a) (s := 1) (w := b) (g1 := 0) (g2 := 0) (sc := 0) (mc := 0) (oc := 0) (ov := 0) (en := en) (op := op) (ns := ns) (ab := ab) (sr := sr) (gs := gs) (gv := gv) (kd := kd) (fs := fs) (fv := fv) (ls := ls) (lv := lv) (ss := ss) (sv := sv) (he := he) (du := du) (nd := nd) (ke := ke) (by omega)
  have hrv0 : mr_RV R 0 (fun _ => 0) gl lo st gs gv ls lv ss sv := ⟨hg, fun k hk => by omega, fun f i hf => by omega⟩
  have hM : mr_Md (nI 0) 0 (tc, cf, nI (0 + 1), nI 0, nI 0, nI 0, 0, 0, 0, op, ns, ab, sr, gl, cl, fi, tk, fo, upd du 0 a, upd de 0 (nI 0), vp_updL (vp_updL (vp_updL (vp_updL lo (4 * 0) 0) (4 * 0 + 1) (mr_I b)) (4 * 0 + 2) 0) (4 * 0 + 3) 0, st, ke) (nI (0 + 1), 0, 0, nI 0, 0, nI 0, 0, en, op, ns, ab, sr, gs, gv, kd, fs, fv, ls', upd lv (4 * 0 + 1) b, ss, sv, upd he 0 (nI 0), upd du 0 a, nd, ke) := by
    refine mr_mkM (R := R) (f := 0) (d := mr_ud (fun _ => 0) 0 0) (p := 0) (by omega) ?_
    refine ⟨by omega, hcd, mr_B_n (F := 0) (fun g hg => by omega), mr_B_n (F := 0) (fun g hg => by omega), ⟨by rw [mr_ud_s]; omega, fun g hg => by omega⟩, mr_RVenter (F := 0) hrv0 (fun j hj => by omega) (fun j hj => by omega) (fun j hj => by omega) (fun i hi => ?_), hhv, htc, hcf⟩
    have hi4 : i = 0 ∨ i = 1 ∨ i = 2 ∨ i = 3 := by omega
    rcases hi4 with rfl | rfl | rfl | rfl
    · rw [pk_uLn (by omega), pk_uLn (by omega), pk_uLn (by omega), Nat.add_zero (4 * 0), pk_uLs, l1]
      exact mr_V0
    · rw [pk_uLn (by omega), pk_uLn (by omega), pk_uLs, pk_us, l2]
      exact mr_VI
    · rw [pk_uLn (by omega), pk_uLs, l3]
      exact mr_V0
    · rw [pk_uLs, l4]
      exact mr_V0
  obtain ⟨r, uE, vE, hR, hX, hY⟩ := mr_loop 300 0 _ _ (by omega) hM
  refine ⟨r, uE, vE, hR, fun post h => ?_, fun post h => ?_⟩
  · unfold wpX_run
    dsimp only
    unfold wpX_intValue
    rw [mr_int]
    exact mr_xenter (F := 0) (by omega) ⟨302, hX post h⟩
  · unfold wpY_run
    dsimp only
    exact eY _ ⟨302, hY post h⟩
end
end
section
/-! looks: the digits of a path, the walk over fields, the answer as a long -/
def mr_dg (p i : Nat) : Nat := p / 4 ^ i % 4
theorem mr_sh2 : ∀ i, i < 8 → ((nI (2 * i)).toBitVec.smod 32).toNat = 2 * i := by decide
theorem mr_xdig {p i : Nat} {post : Int32 → Prop} (hp : p < 65536) (hi : i < 8) (h : post (nI (mr_dg p i))) : wpX_digit post (nI p) (nI i) := by
  have e1 : 2 * nI i = nI (2 * i) := by rw [show (2 : Int32) = nI 2 from rfl, pk_mul]
  have e2 : nI (2 * i) &&& 31 = nI (2 * i) := by rw [pk_andN (n := 2 * i) (m := 31) (by omega) 5 (by decide), Nat.mod_eq_of_lt (by omega)]
  have e3 : nI p >>> nI (2 * i) = nI (p / 2 ^ (2 * i)) := pk_shrN (by omega) _ _ (mr_sh2 i hi)
  have h4 : p / 2 ^ (2 * i) ≤ p := Nat.div_le_self _ _
  have e4 : nI (p / 2 ^ (2 * i)) &&& 3 = nI (mr_dg p i) := by
    rw [pk_andN (n := p / 2 ^ (2 * i)) (m := 3) (by omega) 2 (by decide), mr_dg, Nat.pow_mul]
  unfold wpX_digit
  rw [e1, e2, e3, e4]
  exact h
theorem mr_dg_lt (p i : Nat) : mr_dg p i < 4 := Nat.mod_lt _ (by decide)
theorem mr_dg_eq {p i c : Nat} (hc : c < 4) : nI (mr_dg p i) = nI c ↔ mr_dg p i = c := nI_eq (by have := mr_dg_lt p i; omega) (by omega)
theorem mr_dg_n (p i : Nat) : p / 4 ^ i / 4 = p / 4 ^ (i + 1) := by rw [Nat.div_div_eq_div_mul, Nat.pow_succ]
theorem mr_xhas {p : Nat} {post : Int32 → Prop} (hp : p < 65536) : ∀ m i, i + m = 8 → ((∃ j, i ≤ j ∧ j < 8 ∧ mr_dg p j = 3) → post 1) → ((¬ ∃ j, i ≤ j ∧ j < 8 ∧ mr_dg p j = 3) → post 0) → wX_hasLastDigit_2 post (nI p) (m + 1) (nI i) := by
  intro m
  induction m with
  | zero =>
    intro i hi h1 h0
    have : i = 8 := hi
    subst this
    exact br_t (by decide) (h0 (fun ⟨j, a, b, _⟩ => by omega))
  | succ m ih =>
    intro i hi h1 h0
    refine br_f (nI_ge (b := 8) (by omega) (by decide)) (mr_xdig hp (by omega) ?_)
    by_cases z : mr_dg p i = 3
    · exact br_t (congrArg nI z) (h1 ⟨i, Nat.le_refl _, by omega, z⟩)
    · refine br_f (fun q => z ((mr_dg_eq (by decide)).mp q)) (nm_r (nI_1 i) (ih (i + 1) (by omega) (fun ⟨j, a, b, c⟩ => h1 ⟨j, by omega, b, c⟩) (fun q => h0 (fun ⟨j, a, b, c⟩ => q ⟨j, ?_, b, c⟩))))
      by_cases ej : j = i
      · subst ej; exact absurd c z
      · omega
/-- the number that a value of Y tells -/
def mr_num (kd : Nat → Int32) (s w : Int32) : Int32 := if s = 2 then kd w.toNatClampNeg else if s = 1 then w else 0
section
variable {tc cf fc la oc sc mc g1 g2 fr ov en : Int32} {op ns ab sr cl tk fo du de ke gs gv kd fs fv ls lv ss sv he nd : Nat → Int32} {gl fi lo st : Nat → Int64} {R : Nat → Nat → Prop} {f : Nat} {d : Nat → Nat}
theorem mr_yhas {p : Nat} {x1 : Int32} {post : Int64 → Prop} (hp : p < 65536) : ∀ m i (b : Int32), i + m = 8 → (b = 0 ∨ b = 1) → (((b = 1 ∨ ∃ j, i ≤ j ∧ j < 8 ∧ mr_dg p j = 3)) → ∀ (n : Nat) (r : Int32), wY_look_33 post x1 (nI p) fr g1 g2 sc mc oc ov en op ns ab sr gs gv kd fs fv ls lv ss sv he du nd ke (n + 1) r 1 (nI 8)) → ((¬ (b = 1 ∨ ∃ j, i ≤ j ∧ j < 8 ∧ mr_dg p j = 3)) → post (-1)) → wY_look_33 post x1 (nI p) fr g1 g2 sc mc oc ov en op ns ab sr gs gv kd fs fv ls lv ss sv he du nd ke (m + 1) (nI (p / 4 ^ i)) b (nI i) := by
  intro m
  induction m with
  | zero =>
    intro i b hi hb h1 h0
    have : i = 8 := hi
    subst this
    rcases hb with rfl | rfl
    · exact br_t (by decide) (br_t rfl (h0 (fun q => by
        rcases q with q | ⟨j, a, b, _⟩
        · exact absurd q (by decide)
        · omega)))
    · exact h1 (Or.inl rfl) 0 _
  | succ m ih =>
    intro i b hi hb h1 h0
    have hle : p / 4 ^ i ≤ p := Nat.div_le_self _ _
    have e1 : nI (p / 4 ^ i) - nI (p / 4 ^ i) / 4 * 4 = nI (mr_dg p i) := pk_rem (d := 4) (by omega) (by decide) (by decide)
    have e2 : nI (p / 4 ^ i) / 4 = nI (p / 4 ^ (i + 1)) := by rw [← mr_dg_n]; exact pk_div (d := 4) (by omega) (by decide) (by decide)
    refine br_f (nI_ge (b := 8) (by omega) (by decide)) ⟨by decide, ?_⟩
    rw [e1, e2]
    by_cases z : mr_dg p i = 3
    · exact br_t (congrArg nI z) ⟨by decide, nm_e (nm_r (nI_1 i) (ih (i + 1) 1 (by omega) (Or.inr rfl) (fun _ => h1 (Or.inr ⟨i, Nat.le_refl _, by omega, z⟩)) (fun q => absurd (Or.inl rfl) q)))⟩
    · refine br_f (fun q => z ((mr_dg_eq (by decide)).mp q)) ⟨by decide, nm_e (nm_r (nI_1 i) (ih (i + 1) b (by omega) hb (fun q => h1 ?_) (fun q => h0 fun q' => q ?_)))⟩
      · rcases q with q | ⟨j, a, b, c⟩
        · exact Or.inl q
        · exact Or.inr ⟨j, by omega, b, c⟩
      · rcases q' with q' | ⟨j, a, b, c⟩
        · exact Or.inl q'
        · refine Or.inr ⟨j, ?_, b, c⟩
          by_cases ej : j = i
          · subst ej; exact absurd c z
          · omega
theorem mr_walk {p : Nat} (hp : p < 65536) (hh : mr_HV R cl fi tk kd fs fv) : ∀ m i (v : Int64) (s w : Int32), i + m = 8 → mr_V R v s w → (∃ j, i ≤ j ∧ j < 8 ∧ mr_dg p j = 3) → ∃ (rX rY : Int64), (∀ post : Int64 → Prop, post rX → wX_valueAt_44 post (nI p) tc cf fc la oc sc mc g1 g2 op ns ab sr gl cl fi tk fo du de lo st ke (m + 1) v (nI i)) ∧ (∀ post : Int64 → Prop, post rY → wY_look_90 post fr g1 g2 sc mc oc ov en op ns ab sr gs gv kd fs fv ls lv ss sv he du nd ke (m + 1) (nI (p / 4 ^ i)) s w (nI i)) ∧ ((rX = -2 ∧ rY = -2) ∨ ∃ s w : Int32, mr_V R rX s w ∧ rY = 8 * (mr_num kd s w).toInt64 + s.toInt64) := by
  intro m
  induction m with
  | zero =>
    intro i v s w hi _ ⟨j, a, b, _⟩
    omega
  | succ m ih =>
    intro i v s w hi hv hj
    have hle : p / 4 ^ i ≤ p := Nat.div_le_self _ _
    have n8 : ¬ (8 : Int32) ≤ nI i := nI_ge (b := 8) (by omega) (by decide)
    have e1 : nI (p / 4 ^ i) - nI (p / 4 ^ i) / 4 * 4 = nI (mr_dg p i) := pk_rem (d := 4) (by omega) (by decide) (by decide)
    have e2 : nI (p / 4 ^ i) / 4 = nI (p / 4 ^ (i + 1)) := by rw [← mr_dg_n]; exact pk_div (d := 4) (by omega) (by decide) (by decide)
    by_cases z : mr_dg p i = 3
    · refine ⟨v, 8 * (mr_num kd s w).toInt64 + s.toInt64, fun post h => br_f n8 (mr_xdig hp (by omega) (br_t (congrArg nI z) h)), fun post h => br_f n8 ⟨by decide, nm_r e1 (br_t (congrArg nI z) ?_)⟩, Or.inr ⟨s, w, hv, rfl⟩⟩
      by_cases s2 : s = 2
      · obtain ⟨x, y, hx, hy, ev, ew, r⟩ := mr_V_ob hv s2
        subst ew
        rw [mr_num, if_pos s2, nI_clamp (by omega)] at h
        refine br_t s2 ?_
        rw [mr_and15 hy, nI_clamp (n := y) (by omega)]
        exact ⟨vp_in_nI hy (by decide), h⟩
      · by_cases s1 : s = 1
        · rw [mr_num, if_neg s2, if_pos s1] at h
          exact br_f s2 (br_t s1 h)
        · rw [mr_num, if_neg s2, if_neg s1] at h
          exact br_f s2 (br_f s1 h)
    · have z3 : ¬ nI (mr_dg p i) = 3 := fun q => z ((mr_dg_eq (by decide)).mp q)
      have z4 : mr_dg p i < 3 := by have := mr_dg_lt p i; omega
      by_cases s2 : s = 2
      · obtain ⟨x, y, hx, hy, ev, ew, r⟩ := mr_V_ob hv s2
        obtain ⟨rX, rY, hX, hY, hR⟩ := ih (i + 1) _ _ _ (by omega) ((hh.1 x y r).2.2.2.2 (mr_dg p i) z4) (by
          obtain ⟨j, a, b, c⟩ := hj
          refine ⟨j, ?_, b, c⟩
          by_cases ej : j = i
          · subst ej; exact absurd c z
          · omega)
        refine ⟨rX, rY, fun post h => br_f n8 (mr_xdig hp (by omega) (br_f z3 (br_t ((mr_V_obj hv).mpr s2) ?_))), fun post h => br_f n8 ⟨by decide, nm_r e1 (br_f z3 (br_t s2 ?_))⟩, hR⟩
        · rw [ev, mr_O_i, mr_x3 x _, nI_clamp (n := 3 * x + mr_dg p i) (by omega)]
          exact ⟨vp_in_nI (by omega) (by decide), nm_e (nm_r (nI_1 i) (hX post h))⟩
        · rw [ew, mr_y3 y _, e2]
          refine nm_e ?_
          rw [nI_clamp (n := 3 * y + mr_dg p i) (by omega)]
          exact ⟨vp_in_nI (by omega) (by decide), nm_e ⟨vp_in_nI (by omega) (by decide), nm_e ⟨by decide, nm_e (nm_r (nI_1 i) (hY post h))⟩⟩⟩
      · exact ⟨-2, -2, fun post h => br_f n8 (mr_xdig hp (by omega) (br_f z3 (br_f (fun q => s2 ((mr_V_obj hv).mp q)) h))), fun post h => br_f n8 ⟨by decide, nm_r e1 (br_f z3 (br_f s2 h))⟩, Or.inl ⟨rfl, rfl⟩⟩
theorem mr_in0 {n : Nat} {x : Int32} {post : Int32 → Prop} (v : SY) (hn : n < 1000000) (hx : ¬ ∃ j, j ≤ n ∧ x = nI j) (h : post 0) : wpY_in post v x 0 (nI n) :=
  mr_yin v x 0 (nI n) (fun a b => absurd (nI_of2 (nI_toInt (by omega)) (Int32.not_lt.mpr a) b) hx) (fun _ => h)
theorem mr_in1 {n j : Nat} {post : Int32 → Prop} (v : SY) (hn : n < 1000000) (hj : j ≤ n) (h : post 1) : wpY_in post v (nI j) 0 (nI n) :=
  mr_yin v (nI j) 0 (nI n) (fun _ _ => h) (fun q => by
    rcases q with q | q
    · exact absurd q (nI_pos (by omega))
    · exact absurd q (nI_nlt hj (by omega)))
theorem mr_ixn {n : Nat} (x : Int32) (hn : n < 1000000) : (x < 0 ∨ nI (n + 1) ≤ x) ∧ (¬ ∃ j, j ≤ n ∧ x = nI j) ∨ ∃ j, j ≤ n ∧ x = nI j := by
  rcases pk_ix x (n := n + 1) (by omega) with z | z | ⟨j, hj, e⟩
  · refine Or.inl ⟨Or.inl z, fun ⟨j, hj, e⟩ => ?_⟩
    subst e
    exact absurd z (nI_pos (by omega))
  · refine Or.inl ⟨Or.inr z, fun ⟨j, hj, e⟩ => ?_⟩
    subst e
    exact absurd z (nI_ge (by omega) (by omega))
  · exact Or.inr ⟨j, by omega, e⟩
theorem mr_look (hg : ∀ g, g < 4 → mr_V R (gl g) (gs g) (gv g)) (hh : mr_HV R cl fi tk kd fs fv) (g path : Int32) : ∃ (rX rY : Int64), (∀ post : Int64 → Prop, post rX → wpX_valueAt post (tc, cf, fc, la, oc, sc, mc, g1, g2, op, ns, ab, sr, gl, cl, fi, tk, fo, du, de, lo, st, ke) g path) ∧ (∀ post : Int64 → Prop, post rY → wpY_look post (fr, g1, g2, sc, mc, oc, ov, en, op, ns, ab, sr, gs, gv, kd, fs, fv, ls, lv, ss, sv, he, du, nd, ke) g path) ∧ ((rX = -1 ∧ rY = -1) ∨ (rX = -2 ∧ rY = -2) ∨ ∃ s w : Int32, mr_V R rX s w ∧ rY = 8 * (mr_num kd s w).toInt64 + s.toInt64) := by
  rcases mr_ixn (n := 3) g (by omega) with ⟨z, nz⟩ | ⟨j, hj, rfl⟩
  · refine ⟨-1, -1, fun post h => ?_, fun post h => ?_, Or.inl ⟨rfl, rfl⟩⟩
    · rcases z with z | z
      · exact br_t z h
      · exact br_c (fun _ => h) (fun _ => br_t z h)
    · unfold wpY_look
      dsimp only
      refine mr_in0 (n := 3) _ (by omega) nz ?_
      exact br_t rfl h
  · rcases mr_ixn (n := 65535) path (by omega) with ⟨z, nz⟩ | ⟨p, hp, rfl⟩
    · refine ⟨-1, -1, fun post h => ?_, fun post h => ?_, Or.inl ⟨rfl, rfl⟩⟩
      · refine br_f (nI_pos (by omega)) (br_f (nI_ge (b := 4) (by omega) (by decide)) ?_)
        rcases z with z | z
        · exact br_t z h
        · exact br_c (fun _ => h) (fun y => br_f (fun q => nz (nI_of2 (M := 65535) (by decide) y q)) h)
      · unfold wpY_look
        dsimp only
        refine mr_in1 (n := 3) _ (by omega) hj ?_
        refine br_f (by decide) ?_
        refine mr_in0 (n := 65535) _ (by omega) nz ?_
        exact br_t rfl h
    · have hX : ∀ post : Int64 → Prop, ((∃ j, 0 ≤ j ∧ j < 8 ∧ mr_dg p j = 3) → ∃ n44 : Nat, wX_valueAt_44 post (nI p) tc cf fc la oc sc mc g1 g2 op ns ab sr gl cl fi tk fo du de lo st ke n44 (gl j) 0) → ((¬ ∃ j, 0 ≤ j ∧ j < 8 ∧ mr_dg p j = 3) → post (-1)) → wpX_valueAt post (tc, cf, fc, la, oc, sc, mc, g1, g2, op, ns, ab, sr, gl, cl, fi, tk, fo, du, de, lo, st, ke) (nI j) (nI p) := fun post h1 h0 => by
        refine br_f (nI_pos (by omega)) (br_f (nI_ge (b := 4) (by omega) (by decide)) (br_f (nI_pos (by omega)) (br_t (nI_le (b := 65535) hp (by decide)) ⟨9, mr_xhas (by omega) 8 0 rfl (fun q => br_f (by decide) ?_) (fun q => br_t rfl (h0 q))⟩)))
        rw [nI_clamp (n := j) (by omega)]
        exact ⟨vp_in_nI (by omega) (by decide), nm_e (h1 q)⟩
      have hY : ∀ post : Int64 → Prop, ((∃ j, 0 ≤ j ∧ j < 8 ∧ mr_dg p j = 3) → ∃ n90 : Nat, wY_look_90 post fr g1 g2 sc mc oc ov en op ns ab sr gs gv kd fs fv ls lv ss sv he du nd ke n90 (nI p) (gs j) (gv j) 0) → ((¬ ∃ j, 0 ≤ j ∧ j < 8 ∧ mr_dg p j = 3) → post (-1)) → wpY_look post (fr, g1, g2, sc, mc, oc, ov, en, op, ns, ab, sr, gs, gv, kd, fs, fv, ls, lv, ss, sv, he, du, nd, ke) (nI j) (nI p) := fun post h1 h0 => by
        have hend : (∃ j, 0 ≤ j ∧ j < 8 ∧ mr_dg p j = 3) → ∀ (n : Nat) (r : Int32), wY_look_33 post (nI j) (nI p) fr g1 g2 sc mc oc ov en op ns ab sr gs gv kd fs fv ls lv ss sv he du nd ke (n + 1) r 1 (nI 8) := fun q n r => by
          refine br_t (by decide) (br_f (by decide) ?_)
          rw [nI_clamp (n := j) (by omega)]
          exact ⟨vp_in_nI (by omega) (by decide), nm_e ⟨vp_in_nI (by omega) (by decide), nm_e (h1 q)⟩⟩
        unfold wpY_look
        dsimp only
        refine mr_in1 (n := 3) _ (by omega) hj ?_
        refine br_f (by decide) ?_
        refine mr_in1 (n := 65535) _ (by omega) hp ?_
        refine br_f (by decide) ⟨9, ?_⟩
        have e0 : nI p = nI (p / 4 ^ 0) := by rw [Nat.pow_zero, Nat.div_one]
        have key := mr_yhas (x1 := nI j) (post := post) (fr := fr) (g1 := g1) (g2 := g2) (sc := sc) (mc := mc) (oc := oc) (ov := ov) (en := en) (op := op) (ns := ns) (ab := ab) (sr := sr) (gs := gs) (gv := gv) (kd := kd) (fs := fs) (fv := fv) (ls := ls) (lv := lv) (ss := ss) (sv := sv) (he := he) (du := du) (nd := nd) (ke := ke) (p := p) (by omega) 8 0 0 rfl (Or.inl rfl) (fun q n r => hend (by
          rcases q with q | q
          · exact absurd q (by decide)
          · exact q) n r) (fun q => h0 (fun q' => q (Or.inr q')))
        rw [← e0] at key
        exact key
      by_cases q : ∃ j, 0 ≤ j ∧ j < 8 ∧ mr_dg p j = 3
      · obtain ⟨rX, rY, hX', hY', hR⟩ := mr_walk (tc := tc) (cf := cf) (fc := fc) (la := la) (oc := oc) (sc := sc) (mc := mc) (g1 := g1) (g2 := g2) (op := op) (ns := ns) (ab := ab) (sr := sr) (gl := gl) (fo := fo) (du := du) (de := de) (lo := lo) (st := st) (ke := ke) (fr := fr) (ov := ov) (en := en) (gs := gs) (gv := gv) (ls := ls) (lv := lv) (ss := ss) (sv := sv) (he := he) (nd := nd) (p := p) (by omega) hh 8 0 (gl j) (gs j) (gv j) rfl (hg j (by omega)) q
        rw [Nat.pow_zero, Nat.div_one] at hY'
        exact ⟨rX, rY, fun post h => hX post (fun _ => ⟨9, hX' post h⟩) (fun z => absurd q z), fun post h => hY post (fun _ => ⟨9, hY' post h⟩) (fun z => absurd q z), Or.inr hR⟩
      · exact ⟨-1, -1, fun post h => hX post (fun z => absurd z q) (fun _ => h), fun post h => hY post (fun z => absurd z q) (fun _ => h), Or.inl ⟨rfl, rfl⟩⟩
end
end
section
/-! code, above, method: what both sides take and refuse -/
theorem mr_rng {A B : Prop} {n : Int32} (m : Nat) (hm : m < 1000000) (h1 : (∃ j : Nat, j < m ∧ n = nI j) → B) (h0 : (¬ ∃ j : Nat, j < m ∧ n = nI j) → A) : (n < 0 → A) ∧ (¬ n < 0 → (nI m ≤ n → A) ∧ (¬ nI m ≤ n → B)) := by
  rcases pk_ix n (n := m) (by omega) with z | z | ⟨j, hj, rfl⟩
  · exact br_t z (h0 (fun ⟨j, hj, e⟩ => by subst e; exact nI_pos (by omega) z))
  · have a := h0 (fun ⟨j, hj, e⟩ => by subst e; exact nI_ge hj (by omega) z)
    exact br_c (fun _ => a) (fun _ => br_t z a)
  · exact br_f (nI_pos (by omega)) (br_f (nI_ge hj (by omega)) (h1 ⟨j, hj, rfl⟩))
theorem mr_xfits {n : Int32} {post : Int32 → Prop} (o : Nat) (ho : o < 24) (h1 : mr_fit o n → post 1) (h0 : ¬ mr_fit o n → post 0) : wpX_operandFits post (nI o) n := by
  revert h1 h0
  revert o
  apply mr_24
  · intro h1 h0
    unfold wpX_operandFits
    repeat (first | refine br_f (by decide) ?_ | refine br_t (by decide) ?_)
    exact h1 ⟨fun h => absurd h (by decide), fun h => absurd h (by decide)⟩
  · intro h1 h0
    unfold wpX_operandFits
    repeat (first | refine br_f (by decide) ?_ | refine br_t (by decide) ?_)
    exact h1 ⟨fun h => absurd h (by decide), fun h => absurd h (by decide)⟩
  · intro h1 h0
    unfold wpX_operandFits
    repeat (first | refine br_f (by decide) ?_ | refine br_t (by decide) ?_)
    exact h1 ⟨fun h => absurd h (by decide), fun h => absurd h (by decide)⟩
  · intro h1 h0
    unfold wpX_operandFits
    repeat (first | refine br_f (by decide) ?_ | refine br_t (by decide) ?_)
    exact mr_rng 4 (by decide) (fun q => h1 ⟨fun _ => q, fun h => absurd h (by decide)⟩) (fun q => h0 fun w => q (w.1 (by decide)))
  · intro h1 h0
    unfold wpX_operandFits
    repeat (first | refine br_f (by decide) ?_ | refine br_t (by decide) ?_)
    exact mr_rng 4 (by decide) (fun q => h1 ⟨fun _ => q, fun h => absurd h (by decide)⟩) (fun q => h0 fun w => q (w.1 (by decide)))
  · intro h1 h0
    unfold wpX_operandFits
    repeat (first | refine br_f (by decide) ?_ | refine br_t (by decide) ?_)
    exact h1 ⟨fun h => absurd h (by decide), fun h => absurd h (by decide)⟩
  · intro h1 h0
    unfold wpX_operandFits
    repeat (first | refine br_f (by decide) ?_ | refine br_t (by decide) ?_)
    exact h1 ⟨fun h => absurd h (by decide), fun h => absurd h (by decide)⟩
  · intro h1 h0
    unfold wpX_operandFits
    repeat (first | refine br_f (by decide) ?_ | refine br_t (by decide) ?_)
    exact h1 ⟨fun h => absurd h (by decide), fun h => absurd h (by decide)⟩
  · intro h1 h0
    unfold wpX_operandFits
    repeat (first | refine br_f (by decide) ?_ | refine br_t (by decide) ?_)
    exact h1 ⟨fun h => absurd h (by decide), fun h => absurd h (by decide)⟩
  · intro h1 h0
    unfold wpX_operandFits
    repeat (first | refine br_f (by decide) ?_ | refine br_t (by decide) ?_)
    exact h1 ⟨fun h => absurd h (by decide), fun h => absurd h (by decide)⟩
  · intro h1 h0
    unfold wpX_operandFits
    repeat (first | refine br_f (by decide) ?_ | refine br_t (by decide) ?_)
    exact h1 ⟨fun h => absurd h (by decide), fun h => absurd h (by decide)⟩
  · intro h1 h0
    unfold wpX_operandFits
    repeat (first | refine br_f (by decide) ?_ | refine br_t (by decide) ?_)
    exact h1 ⟨fun h => absurd h (by decide), fun h => absurd h (by decide)⟩
  · intro h1 h0
    unfold wpX_operandFits
    repeat (first | refine br_f (by decide) ?_ | refine br_t (by decide) ?_)
    exact h1 ⟨fun h => absurd h (by decide), fun h => absurd h (by decide)⟩
  · intro h1 h0
    unfold wpX_operandFits
    repeat (first | refine br_f (by decide) ?_ | refine br_t (by decide) ?_)
    exact h1 ⟨fun h => absurd h (by decide), fun h => absurd h (by decide)⟩
  · intro h1 h0
    unfold wpX_operandFits
    repeat (first | refine br_f (by decide) ?_ | refine br_t (by decide) ?_)
    exact h1 ⟨fun h => absurd h (by decide), fun h => absurd h (by decide)⟩
  · intro h1 h0
    unfold wpX_operandFits
    repeat (first | refine br_f (by decide) ?_ | refine br_t (by decide) ?_)
    exact mr_rng 4 (by decide) (fun q => h1 ⟨fun _ => q, fun h => absurd h (by decide)⟩) (fun q => h0 fun w => q (w.1 (by decide)))
  · intro h1 h0
    unfold wpX_operandFits
    repeat (first | refine br_f (by decide) ?_ | refine br_t (by decide) ?_)
    exact mr_rng 3 (by decide) (fun q => h1 ⟨fun h => absurd h (by decide), fun _ => q⟩) (fun q => h0 fun w => q (w.2 (by decide)))
  · intro h1 h0
    unfold wpX_operandFits
    repeat (first | refine br_f (by decide) ?_ | refine br_t (by decide) ?_)
    exact mr_rng 3 (by decide) (fun q => h1 ⟨fun h => absurd h (by decide), fun _ => q⟩) (fun q => h0 fun w => q (w.2 (by decide)))
  · intro h1 h0
    unfold wpX_operandFits
    repeat (first | refine br_f (by decide) ?_ | refine br_t (by decide) ?_)
    exact mr_rng 4 (by decide) (fun q => h1 ⟨fun _ => q, fun h => absurd h (by decide)⟩) (fun q => h0 fun w => q (w.1 (by decide)))
  · intro h1 h0
    unfold wpX_operandFits
    repeat (first | refine br_f (by decide) ?_ | refine br_t (by decide) ?_)
    exact mr_rng 4 (by decide) (fun q => h1 ⟨fun _ => q, fun h => absurd h (by decide)⟩) (fun q => h0 fun w => q (w.1 (by decide)))
  · intro h1 h0
    unfold wpX_operandFits
    repeat (first | refine br_f (by decide) ?_ | refine br_t (by decide) ?_)
    exact h1 ⟨fun h => absurd h (by decide), fun h => absurd h (by decide)⟩
  · intro h1 h0
    unfold wpX_operandFits
    repeat (first | refine br_f (by decide) ?_ | refine br_t (by decide) ?_)
    exact mr_rng 4 (by decide) (fun q => h1 ⟨fun _ => q, fun h => absurd h (by decide)⟩) (fun q => h0 fun w => q (w.1 (by decide)))
  · intro h1 h0
    unfold wpX_operandFits
    repeat (first | refine br_f (by decide) ?_ | refine br_t (by decide) ?_)
    exact mr_rng 4 (by decide) (fun q => h1 ⟨fun _ => q, fun h => absurd h (by decide)⟩) (fun q => h0 fun w => q (w.1 (by decide)))
  · intro h1 h0
    unfold wpX_operandFits
    repeat (first | refine br_f (by decide) ?_ | refine br_t (by decide) ?_)
    exact h1 ⟨fun h => absurd h (by decide), fun h => absurd h (by decide)⟩
section
variable {tc cf fc la oc sc mc g1 g2 fr ov en : Int32} {op ns ab sr cl tk fo du de ke gs gv kd fs fv ls lv ss sv he nd : Nat → Int32} {gl fi lo st : Nat → Int64} {R : Nat → Nat → Prop} {f : Nat} {d : Nat → Nat}
theorem mr_y110 {i : Nat} {o n : Int32} {post : Int32 → SY → Prop} (hi : i ≤ 59) (h : post 1 (fr, g1, g2, sc, mc, oc, ov, en, upd op i o, upd ns i n, ab, sr, gs, gv, kd, fs, fv, ls, lv, ss, sv, he, du, nd, ke)) : wY_code_110 post (nI i) o n fr g1 g2 sc mc oc ov en op ns ab sr gs gv kd fs fv ls lv ss sv he du nd ke := by
  unfold wY_code_110
  rw [nI_clamp (n := i) (by omega)]
  exact ⟨vp_in_nI (by omega) (by decide), nm_e ⟨vp_in_nI (by omega) (by decide), nm_e h⟩⟩
theorem mr_yfits {i : Nat} {n : Int32} {post : Int32 → SY → Prop} (hi : i ≤ 59) (o : Nat) (ho : o < 24) (h1 : mr_fit o n → post 1 (fr, g1, g2, sc, mc, oc, ov, en, upd op i (nI o), upd ns i n, ab, sr, gs, gv, kd, fs, fv, ls, lv, ss, sv, he, du, nd, ke)) (h0 : ¬ mr_fit o n → post 0 (fr, g1, g2, sc, mc, oc, ov, en, op, ns, ab, sr, gs, gv, kd, fs, fv, ls, lv, ss, sv, he, du, nd, ke)) : wpY_code post (fr, g1, g2, sc, mc, oc, ov, en, op, ns, ab, sr, gs, gv, kd, fs, fv, ls, lv, ss, sv, he, du, nd, ke) (nI i) (nI o) n := by
  unfold wpY_code
  dsimp only
  refine mr_in1 (n := 59) _ (by omega) hi ?_
  refine br_f (by decide) ?_
  refine mr_in1 (n := 23) _ (by omega) (by omega) ?_
  refine br_f (by decide) ?_
  revert h1 h0
  revert o
  apply mr_24
  · intro h1 h0
    repeat (first | refine br_f (by decide) ?_ | refine br_t (by decide) ?_)
    exact mr_y110 hi (h1 ⟨fun h => absurd h (by decide), fun h => absurd h (by decide)⟩)
  · intro h1 h0
    repeat (first | refine br_f (by decide) ?_ | refine br_t (by decide) ?_)
    exact mr_y110 hi (h1 ⟨fun h => absurd h (by decide), fun h => absurd h (by decide)⟩)
  · intro h1 h0
    repeat (first | refine br_f (by decide) ?_ | refine br_t (by decide) ?_)
    exact mr_y110 hi (h1 ⟨fun h => absurd h (by decide), fun h => absurd h (by decide)⟩)
  · intro h1 h0
    repeat (first | refine br_f (by decide) ?_ | refine br_t (by decide) ?_)
    rcases mr_ixn (n := 3) n (by omega) with ⟨_, nz⟩ | ⟨j, hj, rfl⟩
    · refine mr_in0 (n := 3) _ (by omega) nz ?_
      exact br_t rfl (h0 fun w => nz (by
        obtain ⟨j, hj, e⟩ := w.1 (by decide)
        exact ⟨j, by omega, e⟩))
    · refine mr_in1 (n := 3) _ (by omega) hj ?_
      repeat (first | refine br_f (by decide) ?_ | refine br_t (by decide) ?_)
      exact mr_y110 hi (h1 ⟨fun _ => ⟨j, by omega, rfl⟩, fun h => absurd h (by decide)⟩)
  · intro h1 h0
    repeat (first | refine br_f (by decide) ?_ | refine br_t (by decide) ?_)
    rcases mr_ixn (n := 3) n (by omega) with ⟨_, nz⟩ | ⟨j, hj, rfl⟩
    · refine mr_in0 (n := 3) _ (by omega) nz ?_
      exact br_t rfl (h0 fun w => nz (by
        obtain ⟨j, hj, e⟩ := w.1 (by decide)
        exact ⟨j, by omega, e⟩))
    · refine mr_in1 (n := 3) _ (by omega) hj ?_
      repeat (first | refine br_f (by decide) ?_ | refine br_t (by decide) ?_)
      exact mr_y110 hi (h1 ⟨fun _ => ⟨j, by omega, rfl⟩, fun h => absurd h (by decide)⟩)
  · intro h1 h0
    repeat (first | refine br_f (by decide) ?_ | refine br_t (by decide) ?_)
    exact mr_y110 hi (h1 ⟨fun h => absurd h (by decide), fun h => absurd h (by decide)⟩)
  · intro h1 h0
    repeat (first | refine br_f (by decide) ?_ | refine br_t (by decide) ?_)
    exact mr_y110 hi (h1 ⟨fun h => absurd h (by decide), fun h => absurd h (by decide)⟩)
  · intro h1 h0
    repeat (first | refine br_f (by decide) ?_ | refine br_t (by decide) ?_)
    exact mr_y110 hi (h1 ⟨fun h => absurd h (by decide), fun h => absurd h (by decide)⟩)
  · intro h1 h0
    repeat (first | refine br_f (by decide) ?_ | refine br_t (by decide) ?_)
    exact mr_y110 hi (h1 ⟨fun h => absurd h (by decide), fun h => absurd h (by decide)⟩)
  · intro h1 h0
    repeat (first | refine br_f (by decide) ?_ | refine br_t (by decide) ?_)
    exact mr_y110 hi (h1 ⟨fun h => absurd h (by decide), fun h => absurd h (by decide)⟩)
  · intro h1 h0
    repeat (first | refine br_f (by decide) ?_ | refine br_t (by decide) ?_)
    exact mr_y110 hi (h1 ⟨fun h => absurd h (by decide), fun h => absurd h (by decide)⟩)
  · intro h1 h0
    repeat (first | refine br_f (by decide) ?_ | refine br_t (by decide) ?_)
    exact mr_y110 hi (h1 ⟨fun h => absurd h (by decide), fun h => absurd h (by decide)⟩)
  · intro h1 h0
    repeat (first | refine br_f (by decide) ?_ | refine br_t (by decide) ?_)
    exact mr_y110 hi (h1 ⟨fun h => absurd h (by decide), fun h => absurd h (by decide)⟩)
  · intro h1 h0
    repeat (first | refine br_f (by decide) ?_ | refine br_t (by decide) ?_)
    exact mr_y110 hi (h1 ⟨fun h => absurd h (by decide), fun h => absurd h (by decide)⟩)
  · intro h1 h0
    repeat (first | refine br_f (by decide) ?_ | refine br_t (by decide) ?_)
    exact mr_y110 hi (h1 ⟨fun h => absurd h (by decide), fun h => absurd h (by decide)⟩)
  · intro h1 h0
    repeat (first | refine br_f (by decide) ?_ | refine br_t (by decide) ?_)
    rcases mr_ixn (n := 3) n (by omega) with ⟨_, nz⟩ | ⟨j, hj, rfl⟩
    · refine mr_in0 (n := 3) _ (by omega) nz ?_
      exact br_t rfl (h0 fun w => nz (by
        obtain ⟨j, hj, e⟩ := w.1 (by decide)
        exact ⟨j, by omega, e⟩))
    · refine mr_in1 (n := 3) _ (by omega) hj ?_
      repeat (first | refine br_f (by decide) ?_ | refine br_t (by decide) ?_)
      exact mr_y110 hi (h1 ⟨fun _ => ⟨j, by omega, rfl⟩, fun h => absurd h (by decide)⟩)
  · intro h1 h0
    repeat (first | refine br_f (by decide) ?_ | refine br_t (by decide) ?_)
    rcases mr_ixn (n := 2) n (by omega) with ⟨_, nz⟩ | ⟨j, hj, rfl⟩
    · refine mr_in0 (n := 2) _ (by omega) nz ?_
      exact br_t rfl (h0 fun w => nz (by
        obtain ⟨j, hj, e⟩ := w.2 (by decide)
        exact ⟨j, by omega, e⟩))
    · refine mr_in1 (n := 2) _ (by omega) hj ?_
      repeat (first | refine br_f (by decide) ?_ | refine br_t (by decide) ?_)
      exact mr_y110 hi (h1 ⟨fun h => absurd h (by decide), fun _ => ⟨j, by omega, rfl⟩⟩)
  · intro h1 h0
    repeat (first | refine br_f (by decide) ?_ | refine br_t (by decide) ?_)
    rcases mr_ixn (n := 2) n (by omega) with ⟨_, nz⟩ | ⟨j, hj, rfl⟩
    · refine mr_in0 (n := 2) _ (by omega) nz ?_
      exact br_t rfl (h0 fun w => nz (by
        obtain ⟨j, hj, e⟩ := w.2 (by decide)
        exact ⟨j, by omega, e⟩))
    · refine mr_in1 (n := 2) _ (by omega) hj ?_
      repeat (first | refine br_f (by decide) ?_ | refine br_t (by decide) ?_)
      exact mr_y110 hi (h1 ⟨fun h => absurd h (by decide), fun _ => ⟨j, by omega, rfl⟩⟩)
  · intro h1 h0
    repeat (first | refine br_f (by decide) ?_ | refine br_t (by decide) ?_)
    rcases mr_ixn (n := 3) n (by omega) with ⟨_, nz⟩ | ⟨j, hj, rfl⟩
    · refine mr_in0 (n := 3) _ (by omega) nz ?_
      exact br_t rfl (h0 fun w => nz (by
        obtain ⟨j, hj, e⟩ := w.1 (by decide)
        exact ⟨j, by omega, e⟩))
    · refine mr_in1 (n := 3) _ (by omega) hj ?_
      repeat (first | refine br_f (by decide) ?_ | refine br_t (by decide) ?_)
      exact mr_y110 hi (h1 ⟨fun _ => ⟨j, by omega, rfl⟩, fun h => absurd h (by decide)⟩)
  · intro h1 h0
    repeat (first | refine br_f (by decide) ?_ | refine br_t (by decide) ?_)
    rcases mr_ixn (n := 3) n (by omega) with ⟨_, nz⟩ | ⟨j, hj, rfl⟩
    · refine mr_in0 (n := 3) _ (by omega) nz ?_
      exact br_t rfl (h0 fun w => nz (by
        obtain ⟨j, hj, e⟩ := w.1 (by decide)
        exact ⟨j, by omega, e⟩))
    · refine mr_in1 (n := 3) _ (by omega) hj ?_
      repeat (first | refine br_f (by decide) ?_ | refine br_t (by decide) ?_)
      exact mr_y110 hi (h1 ⟨fun _ => ⟨j, by omega, rfl⟩, fun h => absurd h (by decide)⟩)
  · intro h1 h0
    repeat (first | refine br_f (by decide) ?_ | refine br_t (by decide) ?_)
    exact mr_y110 hi (h1 ⟨fun h => absurd h (by decide), fun h => absurd h (by decide)⟩)
  · intro h1 h0
    repeat (first | refine br_f (by decide) ?_ | refine br_t (by decide) ?_)
    rcases mr_ixn (n := 3) n (by omega) with ⟨_, nz⟩ | ⟨j, hj, rfl⟩
    · refine mr_in0 (n := 3) _ (by omega) nz ?_
      exact br_t rfl (h0 fun w => nz (by
        obtain ⟨j, hj, e⟩ := w.1 (by decide)
        exact ⟨j, by omega, e⟩))
    · refine mr_in1 (n := 3) _ (by omega) hj ?_
      repeat (first | refine br_f (by decide) ?_ | refine br_t (by decide) ?_)
      exact mr_y110 hi (h1 ⟨fun _ => ⟨j, by omega, rfl⟩, fun h => absurd h (by decide)⟩)
  · intro h1 h0
    repeat (first | refine br_f (by decide) ?_ | refine br_t (by decide) ?_)
    rcases mr_ixn (n := 3) n (by omega) with ⟨_, nz⟩ | ⟨j, hj, rfl⟩
    · refine mr_in0 (n := 3) _ (by omega) nz ?_
      exact br_t rfl (h0 fun w => nz (by
        obtain ⟨j, hj, e⟩ := w.1 (by decide)
        exact ⟨j, by omega, e⟩))
    · refine mr_in1 (n := 3) _ (by omega) hj ?_
      repeat (first | refine br_f (by decide) ?_ | refine br_t (by decide) ?_)
      exact mr_y110 hi (h1 ⟨fun _ => ⟨j, by omega, rfl⟩, fun h => absurd h (by decide)⟩)
  · intro h1 h0
    repeat (first | refine br_f (by decide) ?_ | refine br_t (by decide) ?_)
    exact mr_y110 hi (h1 ⟨fun h => absurd h (by decide), fun h => absurd h (by decide)⟩)
end
/-- below -1, -1, or a natural -/
theorem mr_m1 (x : Int32) : x < -1 ∨ x = -1 ∨ ∃ j : Nat, j < 2 ^ 31 ∧ x = nI j := by
  by_cases z : x < 0
  · have h : x.toInt < 0 := by
      have := Int32.lt_iff_toInt_lt.mp z
      rw [show (0 : Int32).toInt = 0 from by decide] at this
      exact this
    by_cases e : x.toInt = -1
    · exact Or.inr (Or.inl (Int32.toInt_inj.mp (by rw [e]; decide)))
    · refine Or.inl (Int32.lt_iff_toInt_lt.mpr ?_)
      rw [show (-1 : Int32).toInt = -1 from by decide]
      omega
  · exact Or.inr (Or.inr (nI_of z))
theorem mr_n1 {j : Nat} (h : j < 2 ^ 31) : ¬ nI j < -1 := fun z => by
  have := Int32.lt_iff_toInt_lt.mp z
  rw [show (-1 : Int32).toInt = -1 from by decide, nI_toInt h] at this
  omega
theorem mr_m1lt {j : Nat} (h : j < 2 ^ 31) : (-1 : Int32) < nI j := Int32.lt_iff_toInt_lt.mpr (by rw [show (-1 : Int32).toInt = -1 from by decide, nI_toInt h]; omega)
theorem mr_dnlt {c q : Nat} (hc : c < 4) (hq : q < 2 ^ 31) : nI c - 1 < nI q ↔ c ≤ q := by
  rw [Int32.lt_iff_toInt_lt, nI_toInt hq]
  have e : (nI c - 1).toInt = (c : Int) - 1 := by
    rw [Int32.toInt_sub, nI_toInt (by omega), show (1 : Int32).toInt = 1 from by decide]
    exact Int.bmod_eq_of_le (by omega) (by omega)
  rw [e]
  omega
theorem mr_dnm1 {c : Nat} (hc : c < 4) : ¬ nI c - 1 < -1 := fun z => by
  have := Int32.lt_iff_toInt_lt.mp z
  have e : (nI c - 1).toInt = (c : Int) - 1 := by
    rw [Int32.toInt_sub, nI_toInt (by omega), show (1 : Int32).toInt = 1 from by decide]
    exact Int.bmod_eq_of_le (by omega) (by omega)
  rw [show (-1 : Int32).toInt = -1 from by decide, e] at this
  omega
section
variable {tc cf fc la oc sc mc g1 g2 fr ov en : Int32} {op ns ab sr cl tk fo du de ke gs gv kd fs fv ls lv ss sv he nd : Nat → Int32} {gl fi lo st : Nat → Int64} {R : Nat → Nat → Prop} {f : Nat} {d : Nat → Nat}
theorem mr_ym1 {j n : Nat} {post : Int32 → Prop} (v : SY) (hn : n < 1000000) (hj : j ≤ n) (h : post 1) : wpY_in post v (nI j) (-1) (nI n) :=
  mr_yin v _ _ _ (fun _ _ => h) (fun q => by
    rcases q with q | q
    · exact absurd q (mr_n1 (by omega))
    · exact absurd q (nI_nlt hj (by omega)))
end
end
section
/-! the start of both sides -/
def mr_fill (n : Nat) : Nat → Int32 := fun j => if j < n then -1 else 0
theorem mr_fill_s (n : Nat) : upd (mr_fill n) n (-1) = mr_fill (n + 1) := by
  funext j
  unfold upd mr_fill
  by_cases e : j = n
  · subst e
    rw [if_pos rfl, if_pos (by omega)]
  · rw [if_neg e]
    by_cases z : j < n
    · rw [if_pos z, if_pos (by omega)]
    · rw [if_neg z, if_neg (by omega)]
theorem mr_fill_0 : mr_fill 0 = fun _ => 0 := by
  funext j
  unfold mr_fill
  rw [if_neg (by omega)]
section
variable {tc cf fc la oc sc mc g1 g2 fr ov en : Int32} {op ns ab sr cl tk fo du de ke gs gv kd fs fv ls lv ss sv he nd : Nat → Int32} {gl fi lo st : Nat → Int64} {R : Nat → Nat → Prop} {f : Nat} {d : Nat → Nat}
theorem mr_xi116 (post : SX → Prop) (h : ∃ n136 : Nat, wX_init_136 post tc cf fc la oc sc mc g1 g2 n136 0 op ns (mr_fill 4) sr gl cl fi tk fo du de lo st ke) : wX_init_116 post tc cf fc la oc sc mc g1 g2 5 0 op ns (mr_fill 0) sr gl cl fi tk fo du de lo st ke := by
  obtain ⟨t, rfl, e⟩ := mr_lpE (fun (post : SX → Prop) n i (t : Nat → Int32) => wX_init_116 post tc cf fc la oc sc mc g1 g2 n (nI i) op ns t sr gl cl fi tk fo du de lo st ke) (fun post t => ∃ n136 : Nat, wX_init_136 post tc cf fc la oc sc mc g1 g2 n136 0 op ns t sr gl cl fi tk fo du de lo st ke) (fun i t => t = mr_fill i) 4 (fun s h post n hk => br_t (by decide) hk) (fun i t hi h => ⟨mr_fill (i + 1), rfl, fun post n h2 => by
    subst h
    exact br_f (nI_ge (b := 4) hi (by decide)) ⟨vp_in_nI hi (by decide), nm_r (e' := mr_fill (i + 1)) (by rw [nI_clamp (by omega), mr_fill_s]) (nm_r (nI_1 i) h2)⟩⟩) (mr_fill 0) rfl
  exact e post 5 (by omega) h
theorem mr_xi136 (post : SX → Prop) (h : wpX_collectFromAt (fun r => post (tc, r, fc, la, oc, sc, mc, g1, g2, op, ns, ab, mr_fill 16, gl, cl, fi, tk, fo, du, de, lo, st, ke)) 2) : wX_init_136 post tc cf fc la oc sc mc g1 g2 17 0 op ns ab (mr_fill 0) gl cl fi tk fo du de lo st ke := by
  obtain ⟨t, rfl, e⟩ := mr_lpE (fun (post : SX → Prop) n i (t : Nat → Int32) => wX_init_136 post tc cf fc la oc sc mc g1 g2 n (nI i) op ns ab t gl cl fi tk fo du de lo st ke) (fun post t => wpX_collectFromAt (fun r => post (tc, r, fc, la, oc, sc, mc, g1, g2, op, ns, ab, t, gl, cl, fi, tk, fo, du, de, lo, st, ke)) 2) (fun i t => t = mr_fill i) 16 (fun s h post n hk => br_t (by decide) hk) (fun i t hi h => ⟨mr_fill (i + 1), rfl, fun post n h2 => by
    subst h
    exact br_f (nI_ge (b := 16) hi (by decide)) ⟨vp_in_nI hi (by decide), nm_r (e' := mr_fill (i + 1)) (by rw [nI_clamp (by omega), mr_fill_s]) (nm_r (nI_1 i) h2)⟩⟩) (mr_fill 0) rfl
  exact e post 17 (by omega) h
theorem mr_yi169 (post : SY → Prop) (h : ∃ n189 : Nat, wY_init_189 post fr g1 g2 sc mc oc ov en n189 0 op ns (mr_fill 4) sr gs gv kd fs fv ls lv ss sv he du nd ke) : wY_init_169 post fr g1 g2 sc mc oc ov en 5 0 op ns (mr_fill 0) sr gs gv kd fs fv ls lv ss sv he du nd ke := by
  obtain ⟨t, rfl, e⟩ := mr_lpE (fun (post : SY → Prop) n i (t : Nat → Int32) => wY_init_169 post fr g1 g2 sc mc oc ov en n (nI i) op ns t sr gs gv kd fs fv ls lv ss sv he du nd ke) (fun post t => ∃ n189 : Nat, wY_init_189 post fr g1 g2 sc mc oc ov en n189 0 op ns t sr gs gv kd fs fv ls lv ss sv he du nd ke) (fun i t => t = mr_fill i) 4 (fun s h post n hk => br_t (by decide) hk) (fun i t hi h => ⟨mr_fill (i + 1), rfl, fun post n h2 => by
    subst h
    exact br_f (nI_ge (b := 4) hi (by decide)) ⟨vp_in_nI hi (by decide), nm_r (e' := mr_fill (i + 1)) (by rw [nI_clamp (by omega), mr_fill_s]) (nm_r (nI_1 i) h2)⟩⟩) (mr_fill 0) rfl
  exact e post 5 (by omega) h
theorem mr_yi189 (post : SY → Prop) (h : post (fr, g1, g2, sc, mc, oc, ov, en, op, ns, ab, mr_fill 16, gs, gv, kd, fs, fv, ls, lv, ss, sv, he, du, nd, ke)) : wY_init_189 post fr g1 g2 sc mc oc ov en 17 0 op ns ab (mr_fill 0) gs gv kd fs fv ls lv ss sv he du nd ke := by
  obtain ⟨t, rfl, e⟩ := mr_lpE (fun (post : SY → Prop) n i (t : Nat → Int32) => wY_init_189 post fr g1 g2 sc mc oc ov en n (nI i) op ns ab t gs gv kd fs fv ls lv ss sv he du nd ke) (fun post t => post (fr, g1, g2, sc, mc, oc, ov, en, op, ns, ab, t, gs, gv, kd, fs, fv, ls, lv, ss, sv, he, du, nd, ke)) (fun i t => t = mr_fill i) 16 (fun s h post n hk => br_t (by decide) hk) (fun i t hi h => ⟨mr_fill (i + 1), rfl, fun post n h2 => by
    subst h
    exact br_f (nI_ge (b := 16) hi (by decide)) ⟨vp_in_nI hi (by decide), nm_r (e' := mr_fill (i + 1)) (by rw [nI_clamp (by omega), mr_fill_s]) (nm_r (nI_1 i) h2)⟩⟩) (mr_fill 0) rfl
  exact e post 17 (by omega) h
theorem mr_mkR (H : mr_E R tc cf op ns ab sr gl cl fi tk gs gv kd fs fv) : mr_Rl (tc, cf, 0, la, oc, sc, mc, g1, g2, op, ns, ab, sr, gl, cl, fi, tk, fo, du, de, lo, st, ke) (0, g1, g2, sc, mc, oc, ov, en, op, ns, ab, sr, gs, gv, kd, fs, fv, ls, lv, ss, sv, he, du, nd, ke) :=
  ⟨R, tc, cf, la, oc, sc, mc, g1, g2, ov, en, op, ns, ab, sr, cl, tk, fo, du, de, ke, gs, gv, kd, fs, fv, ls, lv, ss, sv, he, nd, gl, fi, lo, st, rfl, rfl, H⟩
end
theorem mr_init : wpX_init (fun u => wpY_init (fun v => mr_Rl u v)) := by
  unfold wpX_init
  refine ⟨5, ?_⟩
  rw [← mr_fill_0]
  refine mr_xi116 _ ⟨17, mr_xi136 _ ?_⟩
  refine And.intro (by decide) ?_
  unfold wpY_init
  refine ⟨5, ?_⟩
  rw [← mr_fill_0]
  refine mr_yi169 _ ⟨17, mr_yi189 _ ?_⟩
  have z : ∀ j, mr_fill 0 j = 0 := fun j => by rw [mr_fill_0]
  refine ⟨fun _ _ => False, _, _, _, _, _, _, _, _, _, _, _, _, _, _, _, _, _, _, _, _, _, _, _, _, _, _, _, _, _, _, _, _, _, _, _, rfl, rfl, ⟨fun i hi => ⟨0, by decide, z i, fun h => absurd h (by decide), fun h => absurd h (by decide)⟩, fun c hc => Or.inl (if_pos hc), fun k hk => Or.inl (if_pos hk)⟩, fun g hg => ?_, ⟨fun x y h => h.elim, fun x x' y h => h.elim, fun x y y' h => h.elim⟩, ?_, 16, by decide, by decide⟩
  · rw [z g]
    exact mr_V0
  · rw [mr_cn_0 _ 16 (fun i _ => z i)]
    rfl
end
section
/-! what is owed -/
def i_Rel (k : Nat) (u : SX) (v : SY) : Prop := mr_Rl u v
theorem i_up {k : Nat} {u : SX} {v : SY} (h : i_Rel k u v) : i_Rel (k + 4) u v := h
theorem i_vc0 : wpX_init (fun u => wpY_init (fun v => i_Rel 0 u v)) := mr_init
theorem i_vc_run {k : Nat} {u : SX} {v : SY} (I : i_Rel k u v) (hk : k + 4 ≤ 2048) (v1 : Int32) (v2 : Int32) : wpX_run (fun r u' => wpY_run (fun r' v' => r' = r ∧ i_Rel (k + 4) u' v') v v1 v2) u v1 v2 := by
  have I2 := I
  obtain ⟨R, tc, cf, la, oc, sc, mc, g1, g2, ov, en, op, ns, ab, sr, cl, tk, fo, du, de, ke, gs, gv, kd, fs, fv, ls, lv, ss, sv, he, nd, gl, fi, lo, st, rfl, rfl, hcd, hg, hhv, htc, hcf⟩ := I
  obtain ⟨r, uE, vE, hR, hX, hY⟩ := mr_run (la := la) (oc := oc) (sc := sc) (mc := mc) (g1 := g1) (g2 := g2) (ov := ov) (en := en) (fo := fo) (du := du) (de := de) (ke := ke) (ls := ls) (lv := lv) (ss := ss) (sv := sv) (he := he) (nd := nd) (lo := lo) (st := st) v1 v2 ⟨hcd, hg, hhv, htc, hcf⟩
  exact hX _ (hY _ ⟨rfl, hR⟩)
theorem i_vc_givenSort {k : Nat} {u : SX} {v : SY} (I : i_Rel k u v) (hk : k + 4 ≤ 2048) : wpX_givenSort (fun r => wpY_givenSort (fun r' => r' = r ∧ i_Rel (k + 4) u v) v) u := by
  have I2 := I
  obtain ⟨R, tc, cf, la, oc, sc, mc, g1, g2, ov, en, op, ns, ab, sr, cl, tk, fo, du, de, ke, gs, gv, kd, fs, fv, ls, lv, ss, sv, he, nd, gl, fi, lo, st, rfl, rfl, hcd, hg, hhv, htc, hcf⟩ := I
  exact ⟨rfl, I2⟩
theorem i_vc_given {k : Nat} {u : SX} {v : SY} (I : i_Rel k u v) (hk : k + 4 ≤ 2048) : wpX_given (fun r => wpY_given (fun r' => r' = r ∧ i_Rel (k + 4) u v) v) u := by
  have I2 := I
  obtain ⟨R, tc, cf, la, oc, sc, mc, g1, g2, ov, en, op, ns, ab, sr, cl, tk, fo, du, de, ke, gs, gv, kd, fs, fv, ls, lv, ss, sv, he, nd, gl, fi, lo, st, rfl, rfl, hcd, hg, hhv, htc, hcf⟩ := I
  exact ⟨rfl, I2⟩
theorem i_vc_steps {k : Nat} {u : SX} {v : SY} (I : i_Rel k u v) (hk : k + 4 ≤ 2048) : wpX_steps (fun r => wpY_steps (fun r' => r' = r ∧ i_Rel (k + 4) u v) v) u := by
  have I2 := I
  obtain ⟨R, tc, cf, la, oc, sc, mc, g1, g2, ov, en, op, ns, ab, sr, cl, tk, fo, du, de, ke, gs, gv, kd, fs, fv, ls, lv, ss, sv, he, nd, gl, fi, lo, st, rfl, rfl, hcd, hg, hhv, htc, hcf⟩ := I
  exact ⟨rfl, I2⟩
theorem i_vc_made {k : Nat} {u : SX} {v : SY} (I : i_Rel k u v) (hk : k + 4 ≤ 2048) : wpX_made (fun r => wpY_made (fun r' => r' = r ∧ i_Rel (k + 4) u v) v) u := by
  have I2 := I
  obtain ⟨R, tc, cf, la, oc, sc, mc, g1, g2, ov, en, op, ns, ab, sr, cl, tk, fo, du, de, ke, gs, gv, kd, fs, fv, ls, lv, ss, sv, he, nd, gl, fi, lo, st, rfl, rfl, hcd, hg, hhv, htc, hcf⟩ := I
  exact ⟨rfl, I2⟩
theorem i_vc_printed {k : Nat} {u : SX} {v : SY} (I : i_Rel k u v) (hk : k + 4 ≤ 2048) : wpX_printed (fun r => wpY_printed (fun r' => r' = r ∧ i_Rel (k + 4) u v) v) u := by
  have I2 := I
  obtain ⟨R, tc, cf, la, oc, sc, mc, g1, g2, ov, en, op, ns, ab, sr, cl, tk, fo, du, de, ke, gs, gv, kd, fs, fv, ls, lv, ss, sv, he, nd, gl, fi, lo, st, rfl, rfl, hcd, hg, hhv, htc, hcf⟩ := I
  exact ⟨rfl, I2⟩
theorem i_vc_output {k : Nat} {u : SX} {v : SY} (I : i_Rel k u v) (hk : k + 4 ≤ 2048) (v1 : Int32) : wpX_output (fun r => wpY_output (fun r' => r' = r ∧ i_Rel (k + 4) u v) v v1) u v1 := by
  have I2 := I
  obtain ⟨R, tc, cf, la, oc, sc, mc, g1, g2, ov, en, op, ns, ab, sr, cl, tk, fo, du, de, ke, gs, gv, kd, fs, fv, ls, lv, ss, sv, he, nd, gl, fi, lo, st, rfl, rfl, hcd, hg, hhv, htc, hcf⟩ := I
  rcases mr_ixn (n := 19) v1 (by omega) with ⟨z, nz⟩ | ⟨j, hj, rfl⟩
  · have hY : wpY_output (fun r' => r' = 0 ∧ i_Rel (k + 4) (tc, cf, 0, la, oc, sc, mc, g1, g2, op, ns, ab, sr, gl, cl, fi, tk, fo, du, de, lo, st, ke) (0, g1, g2, sc, mc, oc, ov, en, op, ns, ab, sr, gs, gv, kd, fs, fv, ls, lv, ss, sv, he, du, nd, ke)) (0, g1, g2, sc, mc, oc, ov, en, op, ns, ab, sr, gs, gv, kd, fs, fv, ls, lv, ss, sv, he, du, nd, ke) v1 := by
      unfold wpY_output
      dsimp only
      refine mr_in0 (n := 19) _ (by omega) nz ?_
      exact br_t rfl ⟨rfl, I2⟩
    rcases z with z | z
    · exact br_t z hY
    · exact br_c (fun _ => hY) (fun _ => br_c (fun _ => hY) (fun _ => br_f (Int32.not_lt.mpr z) hY))
  · by_cases q : oc ≤ nI j
    · refine br_f (nI_pos (by omega)) (br_t q ?_)
      unfold wpY_output
      dsimp only
      refine mr_in1 (n := 19) _ (by omega) hj ?_
      exact br_f (by decide) (br_t q ⟨rfl, I2⟩)
    · refine br_f (nI_pos (by omega)) (br_f q (br_t (nI_lt (b := 20) (by omega) (by decide)) ⟨vp_in_nI (by omega) (by decide), ?_⟩))
      unfold wpY_output
      dsimp only
      refine mr_in1 (n := 19) _ (by omega) hj ?_
      exact br_f (by decide) (br_f q ⟨vp_in_nI (by omega) (by decide), rfl, I2⟩)
theorem i_vc_sort {k : Nat} {u : SX} {v : SY} (I : i_Rel k u v) (hk : k + 4 ≤ 2048) (v1 : Int32) (v2 : Int32) : wpX_sort (fun r => wpY_sort (fun r' => r' = r ∧ i_Rel (k + 4) u v) v v1 v2) u v1 v2 := by
  have I2 := I
  obtain ⟨R, tc, cf, la, oc, sc, mc, g1, g2, ov, en, op, ns, ab, sr, cl, tk, fo, du, de, ke, gs, gv, kd, fs, fv, ls, lv, ss, sv, he, nd, gl, fi, lo, st, rfl, rfl, hcd, hg, hhv, htc, hcf⟩ := I
  obtain ⟨rX, rY, hX, hY, hR⟩ := mr_look (tc := tc) (cf := cf) (fc := 0) (la := la) (oc := oc) (sc := sc) (mc := mc) (g1 := g1) (g2 := g2) (op := op) (ns := ns) (ab := ab) (sr := sr) (fo := fo) (du := du) (de := de) (lo := lo) (st := st) (ke := ke) (fr := 0) (ov := ov) (en := en) (ls := ls) (lv := lv) (ss := ss) (sv := sv) (he := he) (nd := nd) hg hhv v1 v2
  unfold wpX_sort
  dsimp only
  refine hX _ ?_
  rcases hR with ⟨rfl, rfl⟩ | ⟨rfl, rfl⟩ | ⟨s, w, hV, rfl⟩
  · refine br_f (by decide) ?_
    unfold wpY_sort
    dsimp only
    refine hY _ ?_
    exact br_f (by decide) (br_t rfl ⟨rfl, I2⟩)
  · refine br_f (by decide) ?_
    unfold wpY_sort
    dsimp only
    refine hY _ ?_
    exact br_t rfl ⟨rfl, I2⟩
  · refine br_t (Int64.not_lt.mp (mr_V_n0 hV)) ?_
    unfold wpX_sortOf
    rw [mr_V_int hV]
    unfold wpY_sort
    dsimp only
    refine hY _ ?_
    have hs : s = 0 ∨ s = 1 ∨ s = 2 := by
      rcases hV with ⟨_, q⟩ | ⟨_, q⟩ | ⟨_, _, _, _, _, q, _⟩
      · exact Or.inl q
      · exact Or.inr (Or.inl q)
      · exact Or.inr (Or.inr q)
    exact br_f (mr_lk_2 hs) (br_f (mr_lk_1 hs) ⟨mr_lk_s hs, I2⟩)
theorem i_vc_number {k : Nat} {u : SX} {v : SY} (I : i_Rel k u v) (hk : k + 4 ≤ 2048) (v1 : Int32) (v2 : Int32) : wpX_number (fun r => wpY_number (fun r' => r' = r ∧ i_Rel (k + 4) u v) v v1 v2) u v1 v2 := by
  have I2 := I
  obtain ⟨R, tc, cf, la, oc, sc, mc, g1, g2, ov, en, op, ns, ab, sr, cl, tk, fo, du, de, ke, gs, gv, kd, fs, fv, ls, lv, ss, sv, he, nd, gl, fi, lo, st, rfl, rfl, hcd, hg, hhv, htc, hcf⟩ := I
  obtain ⟨rX, rY, hX, hY, hR⟩ := mr_look (tc := tc) (cf := cf) (fc := 0) (la := la) (oc := oc) (sc := sc) (mc := mc) (g1 := g1) (g2 := g2) (op := op) (ns := ns) (ab := ab) (sr := sr) (fo := fo) (du := du) (de := de) (lo := lo) (st := st) (ke := ke) (fr := 0) (ov := ov) (en := en) (ls := ls) (lv := lv) (ss := ss) (sv := sv) (he := he) (nd := nd) hg hhv v1 v2
  unfold wpX_number
  dsimp only
  refine hX _ ?_
  rcases hR with ⟨rfl, rfl⟩ | ⟨rfl, rfl⟩ | ⟨s, w, hV, rfl⟩
  · refine br_f (by decide) ?_
    unfold wpY_number
    dsimp only
    unfold wpY_sort
    dsimp only
    refine hY _ ?_
    refine br_f (by decide) (br_t rfl ?_)
    refine hY _ ?_
    exact br_t (by decide) ⟨rfl, I2⟩
  · refine br_f (by decide) ?_
    unfold wpY_number
    dsimp only
    unfold wpY_sort
    dsimp only
    refine hY _ ?_
    refine br_t rfl ?_
    refine hY _ ?_
    exact br_t (by decide) ⟨rfl, I2⟩
  · refine br_t (Int64.not_lt.mp (mr_V_n0 hV)) ?_
    have hs : s = 0 ∨ s = 1 ∨ s = 2 := by
      rcases hV with ⟨_, q⟩ | ⟨_, q⟩ | ⟨_, _, _, _, _, q, _⟩
      · exact Or.inl q
      · exact Or.inr (Or.inl q)
      · exact Or.inr (Or.inr q)
    have hN : ∀ g : Int32, (s ≤ 0 → 0 = g) → (¬ s ≤ 0 → mr_num kd s w = g) → wpY_number (fun r' => r' = g ∧ i_Rel (k + 4) (tc, cf, 0, la, oc, sc, mc, g1, g2, op, ns, ab, sr, gl, cl, fi, tk, fo, du, de, lo, st, ke) (0, g1, g2, sc, mc, oc, ov, en, op, ns, ab, sr, gs, gv, kd, fs, fv, ls, lv, ss, sv, he, du, nd, ke)) (0, g1, g2, sc, mc, oc, ov, en, op, ns, ab, sr, gs, gv, kd, fs, fv, ls, lv, ss, sv, he, du, nd, ke) v1 v2 := fun g a b => by
      unfold wpY_number
      dsimp only
      unfold wpY_sort
      dsimp only
      refine hY _ ?_
      refine br_f (mr_lk_2 hs) (br_f (mr_lk_1 hs) ?_)
      rw [mr_lk_s hs]
      refine hY _ ?_
      refine br_c (fun q => ⟨a q, I2⟩) (fun q => ⟨?_, I2⟩)
      rw [mr_lk_n hs]
      exact b q
    rcases hV with ⟨rfl, rfl⟩ | ⟨rfl, rfl⟩ | ⟨x, y, hx, hy, rfl, rfl, rfl, r⟩
    · refine br_t mr_0_lt ?_
      rw [mr_0_i]
      exact hN 0 (fun _ => rfl) (fun q => absurd (by decide) q)
    · refine br_t (mr_I_lt w) ?_
      rw [mr_I_i]
      exact hN w (fun q => absurd q (by decide)) (fun _ => rfl)
    · refine br_f (mr_O_nlt hx) ?_
      rw [mr_O_i, nI_clamp (n := x) (by omega)]
      refine ⟨vp_in_nI hx (by decide), hN _ (fun q => absurd q (by decide)) (fun _ => ?_)⟩
      rw [mr_num, if_pos rfl, nI_clamp (n := y) (by omega)]
      exact (mr_HVok hhv r).2.2.symm
theorem i_vc_needed {k : Nat} {u : SX} {v : SY} (I : i_Rel k u v) (hk : k + 4 ≤ 2048) : wpX_needed (fun r u' => wpY_needed (fun r' v' => r' = r ∧ i_Rel (k + 4) u' v') v) u := by
  have I2 := I
  obtain ⟨R, tc, cf, la, oc, sc, mc, g1, g2, ov, en, op, ns, ab, sr, cl, tk, fo, du, de, ke, gs, gv, kd, fs, fv, ls, lv, ss, sv, he, nd, gl, fi, lo, st, rfl, rfl, hcd, hg, hhv, htc, hcf⟩ := I
  have hrv : mr_RV R 0 (fun _ => 0) gl lo st gs gv ls lv ss sv := ⟨hg, fun k hk => by omega, fun f i hf => by omega⟩
  obtain ⟨tk', fo', hIs, eX⟩ := mr_xcollect (tc := tc) (cf := cf) (la := la) (oc := oc) (sc := sc) (mc := mc) (g1 := g1) (g2 := g2) (op := op) (ns := ns) (ab := ab) (sr := sr) (cl := cl) (tk := tk) (fo := fo) (du := du) (de := de) (ke := ke) (F := 0) (d := fun _ => 0) (by omega) (fun f hf => by omega) (fun g hg => by omega) (mr_XW_of hrv hhv)
  obtain ⟨nd', hIsY, eY⟩ := mr_ymark (g1 := g1) (g2 := g2) (sc := sc) (mc := mc) (oc := oc) (ov := ov) (en := en) (op := op) (ns := ns) (ab := ab) (sr := sr) (kd := kd) (he := he) (du := du) (nd := nd) (ke := ke) (F := 0) (d := fun _ => 0) (by omega) (fun f hf => by omega) (fun g hg => by omega) (mr_YW_of hrv hhv)
  have hc := mr_count hrv hhv hIs hIsY
  unfold wpX_needed
  dsimp only
  refine eX _ ?_
  unfold wpY_needed
  dsimp only
  refine eY _ ?_
  exact ⟨congrArg nI hc.symm, mr_mkR (R := mr_cut R (mr_rX gl lo st 0 (fun _ => 0)) (mr_eX fi)) ⟨hcd, (mr_cutRV (ed := mr_eX fi) hrv).1, mr_cutHV hhv (fun x hx h => (hIs x hx).mpr h), rfl, hcf⟩⟩
theorem i_vc_clear {k : Nat} {u : SX} {v : SY} (I : i_Rel k u v) (hk : k + 4 ≤ 2048) (v1 : Int32) : wpX_clear (fun r u' => wpY_clear (fun r' v' => r' = r ∧ i_Rel (k + 4) u' v') v v1) u v1 := by
  have I2 := I
  obtain ⟨R, tc, cf, la, oc, sc, mc, g1, g2, ov, en, op, ns, ab, sr, cl, tk, fo, du, de, ke, gs, gv, kd, fs, fv, ls, lv, ss, sv, he, nd, gl, fi, lo, st, rfl, rfl, hcd, hg, hhv, htc, hcf⟩ := I
  rcases mr_ixn (n := 3) v1 (by omega) with ⟨z, nz⟩ | ⟨j, hj, rfl⟩
  · have hY : wpY_clear (fun r' v' => r' = 0 ∧ i_Rel (k + 4) (tc, cf, 0, la, oc, sc, mc, g1, g2, op, ns, ab, sr, gl, cl, fi, tk, fo, du, de, lo, st, ke) v') (0, g1, g2, sc, mc, oc, ov, en, op, ns, ab, sr, gs, gv, kd, fs, fv, ls, lv, ss, sv, he, du, nd, ke) v1 := by
      unfold wpY_clear
      dsimp only
      refine mr_in0 (n := 3) _ (by omega) nz ?_
      exact br_t rfl ⟨rfl, I2⟩
    rcases z with z | z
    · exact br_t z hY
    · exact br_c (fun _ => hY) (fun _ => br_f (Int32.not_lt.mpr z) hY)
  · refine br_f (nI_pos (by omega)) (br_t (nI_lt (b := 4) (by omega) (by decide)) ?_)
    rw [nI_clamp (n := j) (by omega)]
    refine ⟨vp_in_nI (by omega) (by decide), nm_e ?_⟩
    unfold wpY_clear
    dsimp only
    refine mr_in1 (n := 3) _ (by omega) hj ?_
    refine br_f (by decide) ?_
    rw [nI_clamp (n := j) (by omega)]
    refine ⟨vp_in_nI (by omega) (by decide), nm_e ⟨rfl, mr_mkR (R := R) ⟨hcd, fun g hg' => ?_, hhv, htc, hcf⟩⟩⟩
    by_cases e : g = j
    · subst e
      rw [pk_uLs, pk_us]
      exact mr_V0
    · rw [pk_uLn e, pk_un e]
      exact hg g hg'
theorem i_vc_level {k : Nat} {u : SX} {v : SY} (I : i_Rel k u v) (hk : k + 4 ≤ 2048) (v1 : Int32) : wpX_level (fun r u' => wpY_level (fun r' => r' = r ∧ i_Rel (k + 4) u' v) v v1) u v1 := by
  have I2 := I
  obtain ⟨R, tc, cf, la, oc, sc, mc, g1, g2, ov, en, op, ns, ab, sr, cl, tk, fo, du, de, ke, gs, gv, kd, fs, fv, ls, lv, ss, sv, he, nd, gl, fi, lo, st, rfl, rfl, hcd, hg, hhv, htc, hcf⟩ := I
  rcases mr_ixn (n := 2) v1 (by omega) with ⟨z, nz⟩ | ⟨j, hj, rfl⟩
  · have hY : wpY_level (fun r' => r' = 0 ∧ i_Rel (k + 4) (tc, cf, 0, la, oc, sc, mc, g1, g2, op, ns, ab, sr, gl, cl, fi, tk, fo, du, de, lo, st, ke) (0, g1, g2, sc, mc, oc, ov, en, op, ns, ab, sr, gs, gv, kd, fs, fv, ls, lv, ss, sv, he, du, nd, ke)) (0, g1, g2, sc, mc, oc, ov, en, op, ns, ab, sr, gs, gv, kd, fs, fv, ls, lv, ss, sv, he, du, nd, ke) v1 := by
      unfold wpY_level
      dsimp only
      refine mr_in0 (n := 2) _ (by omega) nz ?_
      exact ⟨rfl, rfl, I2⟩
    rcases z with z | z
    · exact br_t z hY
    · exact br_c (fun _ => hY) (fun _ => br_f (Int32.not_lt.mpr z) hY)
  · have e : nI j * 16 / 2 = nI (j * 16 / 2) := by
      rw [show (16 : Int32) = nI 16 from rfl, pk_mul]
      exact pk_div (d := 2) (by omega) (by decide) (by decide)
    refine br_f (nI_pos (by omega)) (br_t (nI_lt (b := 3) (by omega) (by decide)) ?_)
    unfold wpX_collectFromAt
    rw [e]
    refine ⟨by decide, ?_⟩
    unfold wpY_level
    dsimp only
    refine mr_in1 (n := 2) _ (by omega) hj ?_
    exact ⟨rfl, rfl, mr_mkR (R := R) ⟨hcd, hg, hhv, htc, j * 16 / 2, by omega, rfl⟩⟩
theorem i_vc_code {k : Nat} {u : SX} {v : SY} (I : i_Rel k u v) (hk : k + 4 ≤ 2048) (v1 : Int32) (v2 : Int32) (v3 : Int32) : wpX_code (fun r u' => wpY_code (fun r' v' => r' = r ∧ i_Rel (k + 4) u' v') v v1 v2 v3) u v1 v2 v3 := by
  have I2 := I
  obtain ⟨R, tc, cf, la, oc, sc, mc, g1, g2, ov, en, op, ns, ab, sr, cl, tk, fo, du, de, ke, gs, gv, kd, fs, fv, ls, lv, ss, sv, he, nd, gl, fi, lo, st, rfl, rfl, hcd, hg, hhv, htc, hcf⟩ := I
  have hY0 : (¬ (∃ j, j ≤ 59 ∧ v1 = nI j) ∨ ¬ (∃ j, j ≤ 23 ∧ v2 = nI j)) → wpY_code (fun r' v' => r' = 0 ∧ i_Rel (k + 4) (tc, cf, 0, la, oc, sc, mc, g1, g2, op, ns, ab, sr, gl, cl, fi, tk, fo, du, de, lo, st, ke) v') (0, g1, g2, sc, mc, oc, ov, en, op, ns, ab, sr, gs, gv, kd, fs, fv, ls, lv, ss, sv, he, du, nd, ke) v1 v2 v3 := fun q => by
    unfold wpY_code
    dsimp only
    rcases mr_ixn (n := 59) v1 (by omega) with ⟨z, nz⟩ | ⟨i, hi, rfl⟩
    · refine mr_in0 (n := 59) _ (by omega) nz ?_
      exact br_t rfl ⟨rfl, I2⟩
    · refine mr_in1 (n := 59) _ (by omega) hi ?_
      refine br_f (by decide) ?_
      refine mr_in0 (n := 23) _ (by omega) (q.resolve_left fun w => w ⟨i, hi, rfl⟩) ?_
      exact br_t rfl ⟨rfl, I2⟩
  rcases mr_ixn (n := 59) v1 (by omega) with ⟨z, nz⟩ | ⟨i, hi, rfl⟩
  · have hY := hY0 (Or.inl nz)
    rcases z with z | z
    · exact br_t z hY
    · exact br_c (fun _ => hY) (fun _ => br_t z hY)
  · refine br_f (nI_pos (by omega)) (br_f (nI_ge (b := 60) (by omega) (by decide)) ?_)
    rcases mr_ixn (n := 23) v2 (by omega) with ⟨z, nz⟩ | ⟨o, ho, rfl⟩
    · have hY := hY0 (Or.inr nz)
      rcases z with z | z
      · exact br_t z hY
      · exact br_c (fun _ => hY) (fun _ => br_f (Int32.not_lt.mpr z) hY)
    · refine br_f (nI_pos (by omega)) (br_t (nI_lt (b := 24) (by omega) (by decide)) ?_)
      refine mr_xfits o (by omega) (fun q => br_f (by decide) ?_) (fun q => br_t rfl ?_)
      · rw [nI_clamp (n := i) (by omega)]
        refine ⟨vp_in_nI (by omega) (by decide), nm_e ⟨vp_in_nI (by omega) (by decide), nm_e (mr_yfits hi o (by omega) (fun _ => ⟨rfl, mr_mkR (R := R) ⟨⟨fun i' hi' => ?_, hcd.2.1, hcd.2.2⟩, hg, hhv, htc, hcf⟩⟩) (fun w => absurd q w))⟩⟩
        by_cases e : i' = i
        · subst e
          rw [pk_us, pk_us]
          exact ⟨o, by omega, rfl, q⟩
        · rw [pk_un e, pk_un e]
          exact hcd.1 i' hi'
      · exact mr_yfits hi o (by omega) (fun w => absurd w q) (fun _ => ⟨rfl, I2⟩)
theorem i_vc_above {k : Nat} {u : SX} {v : SY} (I : i_Rel k u v) (hk : k + 4 ≤ 2048) (v1 : Int32) (v2 : Int32) : wpX_above (fun r u' => wpY_above (fun r' v' => r' = r ∧ i_Rel (k + 4) u' v') v v1 v2) u v1 v2 := by
  have I2 := I
  obtain ⟨R, tc, cf, la, oc, sc, mc, g1, g2, ov, en, op, ns, ab, sr, cl, tk, fo, du, de, ke, gs, gv, kd, fs, fv, ls, lv, ss, sv, he, nd, gl, fi, lo, st, rfl, rfl, hcd, hg, hhv, htc, hcf⟩ := I
  have hYn : ∀ c, c ≤ 3 → v1 = nI c → (v2 < -1 ∨ nI c - 1 < v2) → wpY_above (fun r' v' => r' = 0 ∧ i_Rel (k + 4) (tc, cf, 0, la, oc, sc, mc, g1, g2, op, ns, ab, sr, gl, cl, fi, tk, fo, du, de, lo, st, ke) v') (0, g1, g2, sc, mc, oc, ov, en, op, ns, ab, sr, gs, gv, kd, fs, fv, ls, lv, ss, sv, he, du, nd, ke) v1 v2 := fun c hc e q => by
    subst e
    unfold wpY_above
    dsimp only
    refine mr_in1 (n := 3) _ (by omega) hc ?_
    refine br_f (by decide) ?_
    refine mr_yin _ _ _ _ (fun a b => ?_) (fun _ => br_t rfl ⟨rfl, I2⟩)
    rcases q with q | q
    · exact absurd q (Int32.not_lt.mpr a)
    · exact absurd q (Int32.not_lt.mpr b)
  have hYy : ∀ c, c ≤ 3 → v1 = nI c → ¬ (v2 < -1 ∨ nI c - 1 < v2) → mr_ok 4 v2 → wpY_above (fun r' v' => r' = 1 ∧ i_Rel (k + 4) (tc, cf, 0, la, oc, sc, mc, g1, g2, op, ns, upd ab c v2, sr, gl, cl, fi, tk, fo, du, de, lo, st, ke) v') (0, g1, g2, sc, mc, oc, ov, en, op, ns, ab, sr, gs, gv, kd, fs, fv, ls, lv, ss, sv, he, du, nd, ke) v1 v2 := fun c hc e q hok => by
    subst e
    unfold wpY_above
    dsimp only
    refine mr_in1 (n := 3) _ (by omega) hc ?_
    refine br_f (by decide) ?_
    refine mr_yin _ _ _ _ (fun a b => br_f (by decide) ?_) (fun w => absurd w q)
    rw [nI_clamp (n := c) (by omega)]
    refine ⟨vp_in_nI (by omega) (by decide), nm_e ⟨rfl, mr_mkR (R := R) ⟨⟨hcd.1, fun c' hc' => ?_, hcd.2.2⟩, hg, hhv, htc, hcf⟩⟩⟩
    by_cases e : c' = c
    · subst e
      rw [pk_us]
      exact hok
    · rw [pk_un e]
      exact hcd.2.1 c' hc'
  rcases mr_ixn (n := 3) v1 (by omega) with ⟨z, nz⟩ | ⟨c, hc, rfl⟩
  · have hY : wpY_above (fun r' v' => r' = 0 ∧ i_Rel (k + 4) (tc, cf, 0, la, oc, sc, mc, g1, g2, op, ns, ab, sr, gl, cl, fi, tk, fo, du, de, lo, st, ke) v') (0, g1, g2, sc, mc, oc, ov, en, op, ns, ab, sr, gs, gv, kd, fs, fv, ls, lv, ss, sv, he, du, nd, ke) v1 v2 := by
      unfold wpY_above
      dsimp only
      refine mr_in0 (n := 3) _ (by omega) nz ?_
      exact br_t rfl ⟨rfl, I2⟩
    rcases z with z | z
    · exact br_t z hY
    · exact br_c (fun _ => hY) (fun _ => br_t z hY)
  · refine br_f (nI_pos (by omega)) (br_f (nI_ge (b := 4) (by omega) (by decide)) ?_)
    have i3 : vp_in (nI c) 4 := vp_in_nI (by omega) (by decide)
    have i4 : (nI c).toNatClampNeg = c := nI_clamp (by omega)
    rcases mr_m1 v2 with z | rfl | ⟨q, hq, rfl⟩
    · exact br_t z (hYn c hc rfl (Or.inl z))
    · refine br_f (by decide) (br_t (mr_m1lt (by omega)) ⟨i3, ?_⟩)
      rw [i4]
      exact nm_e (hYy c hc rfl (fun w => by
        rcases w with w | w
        · exact absurd w (by decide)
        · exact mr_dnm1 (by omega) w) (Or.inl rfl))
    · refine br_f (mr_n1 hq) ?_
      by_cases w : q < c
      · refine br_t (nI_lt w (by omega)) ⟨i3, ?_⟩
        rw [i4]
        exact nm_e (hYy c hc rfl (fun w2 => by
          rcases w2 with w2 | w2
          · exact mr_n1 hq w2
          · have := (mr_dnlt (by omega) hq).mp w2
            omega) (Or.inr ⟨q, by omega, rfl⟩))
      · exact br_f (nI_nlt (by omega) hq) (hYn c hc rfl (Or.inr ((mr_dnlt (by omega) hq).mpr (by omega))))
theorem i_vc_method {k : Nat} {u : SX} {v : SY} (I : i_Rel k u v) (hk : k + 4 ≤ 2048) (v1 : Int32) (v2 : Int32) (v3 : Int32) : wpX_method (fun r u' => wpY_method (fun r' v' => r' = r ∧ i_Rel (k + 4) u' v') v v1 v2 v3) u v1 v2 v3 := by
  have I2 := I
  obtain ⟨R, tc, cf, la, oc, sc, mc, g1, g2, ov, en, op, ns, ab, sr, cl, tk, fo, du, de, ke, gs, gv, kd, fs, fv, ls, lv, ss, sv, he, nd, gl, fi, lo, st, rfl, rfl, hcd, hg, hhv, htc, hcf⟩ := I
  have i3 : ∀ c s, c ≤ 3 → s ≤ 3 → vp_in (nI (4 * c + s)) 16 := fun c s hc hs => vp_in_nI (by omega) (by decide)
  have hYn : ∀ c s, c ≤ 3 → s ≤ 3 → v1 = nI c → v2 = nI s → (v3 < -1 ∨ 59 < v3) → wpY_method (fun r' v' => r' = 0 ∧ i_Rel (k + 4) (tc, cf, 0, la, oc, sc, mc, g1, g2, op, ns, ab, sr, gl, cl, fi, tk, fo, du, de, lo, st, ke) v') (0, g1, g2, sc, mc, oc, ov, en, op, ns, ab, sr, gs, gv, kd, fs, fv, ls, lv, ss, sv, he, du, nd, ke) v1 v2 v3 := fun c s hc hs e e2 q => by
    subst e e2
    unfold wpY_method
    dsimp only
    refine mr_in1 (n := 3) _ (by omega) hc ?_
    refine br_f (by decide) ?_
    refine mr_in1 (n := 3) _ (by omega) hs ?_
    refine br_f (by decide) ?_
    refine mr_yin _ _ _ _ (fun a b => ?_) (fun _ => br_t rfl ⟨rfl, I2⟩)
    rcases q with q | q
    · exact absurd q (Int32.not_lt.mpr a)
    · exact absurd q (Int32.not_lt.mpr b)
  have hYy : ∀ c s, c ≤ 3 → s ≤ 3 → v1 = nI c → v2 = nI s → ¬ (v3 < -1 ∨ 59 < v3) → mr_ok 60 v3 → wpY_method (fun r' v' => r' = 1 ∧ i_Rel (k + 4) (tc, cf, 0, la, oc, sc, mc, g1, g2, op, ns, ab, upd sr (4 * c + s) v3, gl, cl, fi, tk, fo, du, de, lo, st, ke) v') (0, g1, g2, sc, mc, oc, ov, en, op, ns, ab, sr, gs, gv, kd, fs, fv, ls, lv, ss, sv, he, du, nd, ke) v1 v2 v3 := fun c s hc hs e e2 q hok => by
    subst e e2
    unfold wpY_method
    dsimp only
    refine mr_in1 (n := 3) _ (by omega) hc ?_
    refine br_f (by decide) ?_
    refine mr_in1 (n := 3) _ (by omega) hs ?_
    refine br_f (by decide) ?_
    refine mr_yin _ _ _ _ (fun a b => br_f (by decide) ?_) (fun w => absurd w q)
    rw [mr_y4 c s, nI_clamp (n := 4 * c + s) (by omega)]
    refine ⟨i3 c s hc hs, nm_e ⟨rfl, mr_mkR (R := R) ⟨⟨hcd.1, hcd.2.1, fun c' hc' => ?_⟩, hg, hhv, htc, hcf⟩⟩⟩
    by_cases e : c' = 4 * c + s
    · subst e
      rw [pk_us]
      exact hok
    · rw [pk_un e]
      exact hcd.2.2 c' hc'
  have hY0 : (¬ (∃ j, j ≤ 3 ∧ v1 = nI j) ∨ ¬ (∃ j, j ≤ 3 ∧ v2 = nI j)) → wpY_method (fun r' v' => r' = 0 ∧ i_Rel (k + 4) (tc, cf, 0, la, oc, sc, mc, g1, g2, op, ns, ab, sr, gl, cl, fi, tk, fo, du, de, lo, st, ke) v') (0, g1, g2, sc, mc, oc, ov, en, op, ns, ab, sr, gs, gv, kd, fs, fv, ls, lv, ss, sv, he, du, nd, ke) v1 v2 v3 := fun q => by
    unfold wpY_method
    dsimp only
    rcases mr_ixn (n := 3) v1 (by omega) with ⟨z, nz⟩ | ⟨i, hi, rfl⟩
    · refine mr_in0 (n := 3) _ (by omega) nz ?_
      exact br_t rfl ⟨rfl, I2⟩
    · refine mr_in1 (n := 3) _ (by omega) hi ?_
      refine br_f (by decide) ?_
      refine mr_in0 (n := 3) _ (by omega) (q.resolve_left fun w => w ⟨i, hi, rfl⟩) ?_
      exact br_t rfl ⟨rfl, I2⟩
  rcases mr_ixn (n := 3) v1 (by omega) with ⟨z, nz⟩ | ⟨c, hc, rfl⟩
  · have hY := hY0 (Or.inl nz)
    rcases z with z | z
    · exact br_t z hY
    · exact br_c (fun _ => hY) (fun _ => br_t z hY)
  · refine br_f (nI_pos (by omega)) (br_f (nI_ge (b := 4) (by omega) (by decide)) ?_)
    rcases mr_ixn (n := 3) v2 (by omega) with ⟨z, nz⟩ | ⟨s, hs, rfl⟩
    · have hY := hY0 (Or.inr nz)
      rcases z with z | z
      · exact br_t z hY
      · exact br_c (fun _ => hY) (fun _ => br_f (Int32.not_lt.mpr z) hY)
    · refine br_f (nI_pos (by omega)) (br_t (nI_lt (b := 4) (by omega) (by decide)) ?_)
      rw [mr_x4 c s, nI_clamp (n := 4 * c + s) (by omega)]
      rcases mr_m1 v3 with z | rfl | ⟨q, hq, rfl⟩
      · exact br_t z (hYn c s hc hs rfl rfl (Or.inl z))
      · exact br_f (by decide) (br_t (by decide) ⟨i3 c s hc hs, nm_e (hYy c s hc hs rfl rfl (by decide) (Or.inl rfl))⟩)
      · refine br_f (mr_n1 hq) ?_
        by_cases w : q < 60
        · exact br_t (nI_lt (b := 60) w (by decide)) ⟨i3 c s hc hs, nm_e (hYy c s hc hs rfl rfl (fun w2 => by
            rcases w2 with w2 | w2
            · exact mr_n1 hq w2
            · exact absurd w2 (nI_nlt (a := 59) (by omega) (by decide))) (Or.inr ⟨q, w, rfl⟩))⟩
        · exact br_f (nI_nlt (b := 60) (by omega) hq) (hYn c s hc hs rfl rfl (Or.inr (nI_lt (a := 59) (by omega) hq)))
end
