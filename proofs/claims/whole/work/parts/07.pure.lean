/-! what a look answers as a long; the code; the walk over the rows above a row -/
theorem mr_lk_t {n s : Int32} (hs : s = 0 ∨ s = 1 ∨ s = 2) : (8 * n.toInt64 + s.toInt64).toInt = 8 * n.toInt + s.toInt := by
  have a := Int32.le_toInt n
  have b := Int32.toInt_lt n
  have c : 0 ≤ s.toInt ∧ s.toInt ≤ 2 := by rcases hs with rfl | rfl | rfl <;> decide
  rw [Int64.toInt_add, Int64.toInt_mul, Int32.toInt_toInt64, Int32.toInt_toInt64, show (8 : Int64).toInt = 8 from by decide, Int.bmod_eq_of_le (n := 8 * n.toInt) (by omega) (by omega)]
  exact Int.bmod_eq_of_le (by omega) (by omega)
theorem mr_lk_1 {n s : Int32} (hs : s = 0 ∨ s = 1 ∨ s = 2) : ¬ 8 * n.toInt64 + s.toInt64 = -1 := fun h => by
  have h1 := mr_lk_t (n := n) hs
  rw [h, show (-1 : Int64).toInt = -1 from by decide] at h1
  have c : 0 ≤ s.toInt ∧ s.toInt ≤ 2 := by rcases hs with rfl | rfl | rfl <;> decide
  omega
theorem mr_lk_2 {n s : Int32} (hs : s = 0 ∨ s = 1 ∨ s = 2) : ¬ 8 * n.toInt64 + s.toInt64 = -2 := fun h => by
  have h1 := mr_lk_t (n := n) hs
  rw [h, show (-2 : Int64).toInt = -2 from by decide] at h1
  have c : 0 ≤ s.toInt ∧ s.toInt ≤ 2 := by rcases hs with rfl | rfl | rfl <;> decide
  omega
theorem mr_lk_n {n s : Int32} (hs : s = 0 ∨ s = 1 ∨ s = 2) : ((8 * n.toInt64 + s.toInt64) >>> ((3 : Int32).toInt64 &&& 63)).toInt32 = n := by
  have a := Int32.le_toInt n
  have b := Int32.toInt_lt n
  have c : 0 ≤ s.toInt ∧ s.toInt ≤ 2 := by rcases hs with rfl | rfl | rfl <;> decide
  apply Int32.toInt_inj.mp
  have e : ((8 * n.toInt64 + s.toInt64) >>> ((3 : Int32).toInt64 &&& 63)).toInt = (8 * n.toInt64 + s.toInt64).toInt >>> 3 := by
    have hD : (((3 : Int32).toInt64 &&& 63).toBitVec.smod 64).toNat = 3 := by decide
    have h2 : ((8 * n.toInt64 + s.toInt64) >>> ((3 : Int32).toInt64 &&& 63)).toInt = (8 * n.toInt64 + s.toInt64).toInt >>> (((3 : Int32).toInt64 &&& 63).toBitVec.smod 64).toNat := BitVec.toInt_sshiftRight ..
    rw [h2, hD]
  rw [Int64.toInt_toInt32, e, mr_lk_t hs, Int.shiftRight_eq_div_pow]
  have g : (8 * n.toInt + s.toInt) / ((2 ^ 3 : Nat) : Int) = n.toInt := by
    have : ((2 ^ 3 : Nat) : Int) = 8 := by decide
    rw [this]
    omega
  rw [g]
  exact Int.bmod_eq_of_le (by omega) (by omega)
theorem mr_lk_s {n s : Int32} (hs : s = 0 ∨ s = 1 ∨ s = 2) : ((8 * n.toInt64 + s.toInt64) &&& 7).toInt32 = s := by
  have h1 := mr_lk_t (n := n) hs
  generalize 8 * n.toInt64 + s.toInt64 = z at h1 ⊢
  have h2 : z &&& 7 = lN (z.toBitVec.toNat % 8) := by
    obtain ⟨k, hk, rfl⟩ := wb_of z
    rw [wb_tn hk]
    exact wb_mask (k := 3) hk (by decide)
  rw [h2, lN_i]
  have h3 : z.toInt = z.toBitVec.toInt := rfl
  rw [h3, BitVec.toInt_eq_toNat_cond] at h1
  have h4 := z.toBitVec.isLt
  have h5 : (z.toBitVec.toNat % 8 : Nat) = s.toInt.toNat := by
    have c : 0 ≤ s.toInt ∧ s.toInt ≤ 2 := by rcases hs with rfl | rfl | rfl <;> decide
    split at h1 <;> omega
  rw [h5]
  rcases hs with rfl | rfl | rfl <;> decide
/-- which operands fit an instruction -/
def mr_fit (o : Nat) (n : Int32) : Prop :=
  ((o = 3 ∨ o = 4 ∨ o = 15 ∨ o = 18 ∨ o = 19 ∨ o = 21 ∨ o = 22) → ∃ j : Nat, j < 4 ∧ n = nI j) ∧ ((o = 16 ∨ o = 17) → ∃ j : Nat, j < 3 ∧ n = nI j)
def mr_ok (m : Nat) (c : Int32) : Prop := c = -1 ∨ ∃ a : Nat, a < m ∧ c = nI a
def mr_CD (op ns ab sr : Nat → Int32) : Prop :=
  (∀ i, i < 60 → ∃ o, o < 24 ∧ op i = nI o ∧ mr_fit o (ns i)) ∧ (∀ c, c < 4 → mr_ok 4 (ab c)) ∧ (∀ k, k < 16 → mr_ok 60 (sr k))
theorem mr_ne1 {a : Nat} (h : a < 2 ^ 31) : ¬ nI a = -1 := fun e => by
  have h1 := nI_toInt h
  rw [e, show (-1 : Int32).toInt = -1 from by decide] at h1
  omega
/-- the method that a slot means, looked for in k rows from c on -/
def mr_fd (ab sr : Nat → Int32) (slot : Nat) : Nat → Int32 → Int32
  | 0, _ => -1
  | k + 1, c => if c = -1 then -1 else if sr (4 * c.toNatClampNeg + slot) = -1 then mr_fd ab sr slot k (ab c.toNatClampNeg) else sr (4 * c.toNatClampNeg + slot)
theorem mr_fd_1 (ab sr : Nat → Int32) (slot k : Nat) : mr_fd ab sr slot k (-1) = -1 := by
  cases k with
  | zero => rfl
  | succ k => rw [mr_fd, if_pos rfl]
theorem mr_fd_n {ab sr : Nat → Int32} {slot k a : Nat} (ha : a < 4) (h : sr (4 * a + slot) = -1) : mr_fd ab sr slot (k + 1) (nI a) = mr_fd ab sr slot k (ab a) := by
  rw [mr_fd, if_neg (mr_ne1 (by omega)), nI_clamp (by omega), if_pos h]
theorem mr_fd_s {ab sr : Nat → Int32} {slot k a : Nat} (ha : a < 4) (h : ¬ sr (4 * a + slot) = -1) : mr_fd ab sr slot (k + 1) (nI a) = sr (4 * a + slot) := by
  rw [mr_fd, if_neg (mr_ne1 (by omega)), nI_clamp (by omega), if_neg h]
theorem mr_fd_ok {op ns ab sr : Nat → Int32} (h : mr_CD op ns ab sr) {slot : Nat} (hs : slot < 4) : ∀ (k : Nat) (c : Int32), mr_ok 4 c → mr_ok 60 (mr_fd ab sr slot k c) := by
  intro k
  induction k with
  | zero => intro c _; exact Or.inl rfl
  | succ k ih =>
    intro c hc
    rcases hc with rfl | ⟨a, ha, rfl⟩
    · rw [mr_fd_1]; exact Or.inl rfl
    · by_cases z : sr (4 * a + slot) = -1
      · rw [mr_fd_n ha z]
        exact ih _ (h.2.1 a ha)
      · rw [mr_fd_s ha z]
        exact h.2.2 _ (by omega)
/-- is c, or a row above it within k, the row n -/
def mr_is (ab : Nat → Int32) (n : Int32) : Nat → Int32 → Int32
  | 0, _ => 0
  | k + 1, c => if c = -1 then 0 else if c = n then 1 else mr_is ab n k (ab c.toNatClampNeg)
theorem mr_is_1 (ab : Nat → Int32) (n : Int32) (k : Nat) : mr_is ab n k (-1) = 0 := by
  cases k with
  | zero => rfl
  | succ k => rw [mr_is, if_pos rfl]
theorem mr_is_n {ab : Nat → Int32} {n : Int32} {k a : Nat} (ha : a < 4) (h : ¬ nI a = n) : mr_is ab n (k + 1) (nI a) = mr_is ab n k (ab a) := by
  rw [mr_is, if_neg (mr_ne1 (by omega)), if_neg h, nI_clamp (by omega)]
theorem mr_is_s {ab : Nat → Int32} {n : Int32} {k a : Nat} (ha : a < 4) (h : nI a = n) : mr_is ab n (k + 1) (nI a) = 1 := by
  rw [mr_is, if_neg (mr_ne1 (by omega)), if_pos h]
theorem mr_is_01 (ab : Nat → Int32) (n : Int32) : ∀ (k : Nat) (c : Int32), mr_is ab n k c = 0 ∨ mr_is ab n k c = 1 := by
  intro k
  induction k with
  | zero => intro c; exact Or.inl rfl
  | succ k ih =>
    intro c
    rw [mr_is]
    split
    · exact Or.inl rfl
    · split
      · exact Or.inr rfl
      · exact ih _
