/-! the values of X: nothing is 0, an int mr_I w, an object mr_O p -/
def mr_I (w : Int32) : Int64 := lN (4294967296 + w.toBitVec.toNat)
def mr_O (p : Nat) : Int64 := lN (8589934592 + p)
theorem mr_L0 : (0 : Int64) = lN 0 := rfl
theorem mr_LO : (8589934592 : Int64) = lN 8589934592 := rfl
theorem mr_int (a : Int32) : (4294967296 : Int64) ||| (a.toInt64 &&& 4294967295) = mr_I a := by
  have hl : a.toBitVec.toNat < 2 ^ 32 := a.toBitVec.isLt
  have h1 : a.toInt64 &&& 4294967295 = lN a.toBitVec.toNat := by
    apply wb_inj
    apply BitVec.eq_of_toNat_eq
    show (a.toBitVec.signExtend 64 &&& 4294967295#64).toNat = (BitVec.ofNat 64 a.toBitVec.toNat).toNat
    rw [BitVec.toNat_and, show (4294967295#64).toNat = 2 ^ 32 - 1 from by decide, Nat.and_two_pow_sub_one_eq_mod, BitVec.toNat_ofNat, BitVec.toNat_signExtend, BitVec.toNat_setWidth]
    split <;> omega
  rw [h1]
  have h2 := g_or (k := 32) (p := 4294967296) (a := a.toBitVec.toNat) (b := 1) (by decide) (by omega) (by omega)
  rw [show 1 * 4294967296 = 4294967296 from rfl] at h2
  exact h2
theorem mr_nI32 (m : Nat) : nI (4294967296 + m) = nI m := by
  apply Int32.toBitVec_inj.mp
  apply BitVec.eq_of_toNat_eq
  show (BitVec.ofNat 32 (4294967296 + m)).toNat = (BitVec.ofNat 32 m).toNat
  rw [BitVec.toNat_ofNat, BitVec.toNat_ofNat]
  omega
theorem mr_nIw (w : Int32) : nI w.toBitVec.toNat = w := by
  apply Int32.toBitVec_inj.mp
  show BitVec.ofNat 32 _ = _
  simp
theorem mr_I_i (w : Int32) : (mr_I w).toInt32 = w := by
  rw [mr_I, lN_i, mr_nI32, mr_nIw]
theorem mr_O_i (p : Nat) : (mr_O p).toInt32 = nI p := by
  rw [mr_O, lN_i, show 8589934592 + p = 4294967296 + (4294967296 + p) from by omega, mr_nI32, mr_nI32]
theorem mr_0_i : (0 : Int64).toInt32 = 0 := by decide
theorem mr_sh : (((32 : Int32).toInt64 &&& 63).toBitVec.smod 64).toNat = 32 := by decide
theorem mr_I_s (w : Int32) : (mr_I w >>> ((32 : Int32).toInt64 &&& 63)).toInt32 = 1 := by
  have hl : w.toBitVec.toNat < 2 ^ 32 := w.toBitVec.isLt
  rw [mr_I, pf_shr mr_sh (by omega), lN_i, show (4294967296 + w.toBitVec.toNat) / 2 ^ 32 = 1 from by omega]
  rfl
theorem mr_O_s {p : Nat} (h : p < 16) : (mr_O p >>> ((32 : Int32).toInt64 &&& 63)).toInt32 = 2 := by
  rw [mr_O, pf_shr mr_sh (by omega), lN_i, show (8589934592 + p) / 2 ^ 32 = 2 from by omega]
  rfl
theorem mr_0_s : ((0 : Int64) >>> ((32 : Int32).toInt64 &&& 63)).toInt32 = 0 := by decide
theorem mr_I_lt (w : Int32) : mr_I w < 8589934592 := by
  have hl : w.toBitVec.toNat < 2 ^ 32 := w.toBitVec.isLt
  rw [mr_LO, mr_I, pk_lLT (by omega) (by omega)]
  omega
theorem mr_I_nle (w : Int32) : ¬ 8589934592 ≤ mr_I w := Int64.not_le.mpr (mr_I_lt w)
theorem mr_O_le {p : Nat} (h : p < 16) : 8589934592 ≤ mr_O p := by
  rw [mr_LO, mr_O, pk_lLE (by omega) (by omega)]
  omega
theorem mr_O_nlt {p : Nat} (h : p < 16) : ¬ mr_O p < 8589934592 := Int64.not_lt.mpr (mr_O_le h)
theorem mr_0_lt : (0 : Int64) < 8589934592 := by decide
theorem mr_0_nle : ¬ (8589934592 : Int64) ≤ 0 := by decide
theorem mr_I_n0 (w : Int32) : ¬ mr_I w < 0 := by
  have hl : w.toBitVec.toNat < 2 ^ 32 := w.toBitVec.isLt
  rw [mr_L0, mr_I, pk_lLT (by omega) (by omega)]
  omega
theorem mr_O_n0 {p : Nat} (h : p < 16) : ¬ mr_O p < 0 := by
  rw [mr_L0, mr_O, pk_lLT (by omega) (by omega)]
  omega
theorem mr_I_inj {a b : Int32} (h : mr_I a = mr_I b) : a = b := by
  rw [← mr_I_i a, h, mr_I_i]
theorem mr_O_inj {a b : Nat} (ha : a < 16) (hb : b < 16) (h : mr_O a = mr_O b) : a = b := by
  have h2 := (pk_lEQ (by omega) (by omega)).mp h
  omega
theorem mr_I_ne0 (w : Int32) : mr_I w ≠ 0 := fun h => by
  have h2 := mr_I_s w
  rw [h, mr_0_s] at h2
  exact absurd h2 (by decide)
theorem mr_O_ne0 {p : Nat} (hp : p < 16) : mr_O p ≠ 0 := fun h => by
  have h2 := mr_O_s hp
  rw [h, mr_0_s] at h2
  exact absurd h2 (by decide)
theorem mr_I_neO {w : Int32} {p : Nat} (hp : p < 16) : mr_I w ≠ mr_O p := fun h => by
  have h2 := mr_O_s hp
  rw [← h, mr_I_s] at h2
  exact absurd h2 (by decide)
theorem mr_mk (p : Nat) (h : p < 16) : (8589934592 : Int64) + (nI p).toInt64 = mr_O p := by
  rw [nI_l (by omega), mr_LO, lN_add, mr_O]
/-- V R v s w: X's value v is Y's value (s, w), objects by R -/
def mr_V (R : Nat → Nat → Prop) (v : Int64) (s w : Int32) : Prop :=
  (v = 0 ∧ s = 0) ∨ (v = mr_I w ∧ s = 1) ∨ (∃ x y : Nat, x < 16 ∧ y < 16 ∧ v = mr_O x ∧ s = 2 ∧ w = nI y ∧ R x y)
theorem mr_V0 {R : Nat → Nat → Prop} {w : Int32} : mr_V R 0 0 w := Or.inl ⟨rfl, rfl⟩
theorem mr_VI {R : Nat → Nat → Prop} {w : Int32} : mr_V R (mr_I w) 1 w := Or.inr (Or.inl ⟨rfl, rfl⟩)
theorem mr_VO {R : Nat → Nat → Prop} {x y : Nat} (hx : x < 16) (hy : y < 16) (h : R x y) : mr_V R (mr_O x) 2 (nI y) := Or.inr (Or.inr ⟨x, y, hx, hy, rfl, rfl, rfl, h⟩)
/-- the same objects, seen by another R -/
theorem mr_V_mono {R Q : Nat → Nat → Prop} {v : Int64} {s w : Int32} (h : mr_V R v s w) (hq : ∀ x y, x < 16 → y < 16 → v = mr_O x → s = 2 → w = nI y → R x y → Q x y) : mr_V Q v s w := by
  rcases h with h | h | ⟨x, y, hx, hy, a, b, c, d⟩
  · exact Or.inl h
  · exact Or.inr (Or.inl h)
  · exact Or.inr (Or.inr ⟨x, y, hx, hy, a, b, c, hq x y hx hy a b c d⟩)
/-- SAME, on both sides -/
theorem mr_V_same {R : Nat → Nat → Prop} (h1 : ∀ x x' y, R x y → R x' y → x = x') (h2 : ∀ x y y', R x y → R x y' → y = y') {v v' : Int64} {s w s' w' : Int32} (h : mr_V R v s w) (h' : mr_V R v' s' w') : v = v' ↔ (s = s' ∧ (s = 0 ∨ w = w')) := by
  rcases h with ⟨rfl, rfl⟩ | ⟨rfl, rfl⟩ | ⟨x, y, hx, hy, rfl, rfl, rfl, r⟩ <;> rcases h' with ⟨rfl, rfl⟩ | ⟨rfl, rfl⟩ | ⟨x', y', hx', hy', rfl, rfl, rfl, r'⟩
  · exact ⟨fun _ => ⟨rfl, Or.inl rfl⟩, fun _ => rfl⟩
  · exact ⟨fun z => absurd z.symm (mr_I_ne0 _), fun z => absurd z.1 (by decide)⟩
  · exact ⟨fun z => absurd z.symm (mr_O_ne0 hx'), fun z => absurd z.1 (by decide)⟩
  · exact ⟨fun z => absurd z (mr_I_ne0 _), fun z => absurd z.1 (by decide)⟩
  · refine ⟨fun z => ⟨rfl, Or.inr (mr_I_inj z)⟩, fun z => ?_⟩
    rcases z.2 with z | z
    · exact absurd z (by decide)
    · rw [z]
  · exact ⟨fun z => absurd z (mr_I_neO hx'), fun z => absurd z.1 (by decide)⟩
  · exact ⟨fun z => absurd z (mr_O_ne0 hx), fun z => absurd z.1 (by decide)⟩
  · exact ⟨fun z => absurd z.symm (mr_I_neO hx), fun z => absurd z.1 (by decide)⟩
  · refine ⟨fun z => ⟨rfl, Or.inr ?_⟩, fun z => ?_⟩
    · cases mr_O_inj hx hx' z
      rw [h2 x y y' r r']
    · rcases z.2 with z | z
      · exact absurd z (by decide)
      · cases (nI_eq (by omega) (by omega)).mp z
        rw [h1 x x' y r r']
/-- what X asks of a value, as Y's sort says it -/
theorem mr_V_int {R : Nat → Nat → Prop} {v : Int64} {s w : Int32} (h : mr_V R v s w) : (v >>> ((32 : Int32).toInt64 &&& 63)).toInt32 = s := by
  rcases h with ⟨rfl, rfl⟩ | ⟨rfl, rfl⟩ | ⟨x, y, hx, hy, rfl, rfl, rfl, r⟩
  · exact mr_0_s
  · exact mr_I_s _
  · exact mr_O_s hx
theorem mr_V_obj {R : Nat → Nat → Prop} {v : Int64} {s w : Int32} (h : mr_V R v s w) : 8589934592 ≤ v ↔ s = 2 := by
  rcases h with ⟨rfl, rfl⟩ | ⟨rfl, rfl⟩ | ⟨x, y, hx, hy, rfl, rfl, rfl, r⟩
  · exact ⟨fun z => absurd z mr_0_nle, fun z => absurd z (by decide)⟩
  · exact ⟨fun z => absurd z (mr_I_nle _), fun z => absurd z (by decide)⟩
  · exact ⟨fun _ => rfl, fun _ => mr_O_le hx⟩
theorem mr_V_low {R : Nat → Nat → Prop} {v : Int64} {s w : Int32} (h : mr_V R v s w) (h1 : s = 1) : v = mr_I w := by
  rcases h with ⟨rfl, rfl⟩ | ⟨rfl, _⟩ | ⟨x, y, hx, hy, rfl, rfl, rfl, r⟩
  · exact absurd h1 (by decide)
  · rfl
  · exact absurd h1 (by decide)
theorem mr_V_ob {R : Nat → Nat → Prop} {v : Int64} {s w : Int32} (h : mr_V R v s w) (h1 : s = 2) : ∃ x y : Nat, x < 16 ∧ y < 16 ∧ v = mr_O x ∧ w = nI y ∧ R x y := by
  rcases h with ⟨rfl, rfl⟩ | ⟨rfl, rfl⟩ | ⟨x, y, hx, hy, a, b, c, r⟩
  · exact absurd h1 (by decide)
  · exact absurd h1 (by decide)
  · exact ⟨x, y, hx, hy, a, c, r⟩
theorem mr_V_n0 {R : Nat → Nat → Prop} {v : Int64} {s w : Int32} (h : mr_V R v s w) : ¬ v < 0 := by
  rcases h with ⟨rfl, rfl⟩ | ⟨rfl, rfl⟩ | ⟨x, y, hx, hy, rfl, rfl, rfl, r⟩
  · decide
  · exact mr_I_n0 _
  · exact mr_O_n0 hx
/-- what is a value of X at all -/
def mr_W (v : Int64) : Prop := ¬ 8589934592 ≤ v ∨ ∃ x : Nat, x < 16 ∧ v = mr_O x
theorem mr_V_W {R : Nat → Nat → Prop} {v : Int64} {s w : Int32} (h : mr_V R v s w) : mr_W v := by
  rcases h with ⟨rfl, rfl⟩ | ⟨rfl, rfl⟩ | ⟨x, y, hx, hy, rfl, rfl, rfl, r⟩
  · exact Or.inl mr_0_nle
  · exact Or.inl (mr_I_nle _)
  · exact Or.inr ⟨x, hx, rfl⟩
