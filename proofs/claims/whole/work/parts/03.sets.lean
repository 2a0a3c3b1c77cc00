/-! counting flags, least sets, and the two heaps seen through R -/
def mr_cn (P : Nat → Int32) : Nat → Nat
  | 0 => 0
  | n + 1 => mr_cn P n + (if P n = 0 then 0 else 1)
theorem mr_cn_le (P : Nat → Int32) : ∀ n, mr_cn P n ≤ n := by
  intro n
  induction n with
  | zero => exact Nat.le_refl 0
  | succ n ih => simp only [mr_cn]; split <;> omega
theorem mr_cn_0 (P : Nat → Int32) : ∀ n, (∀ i, i < n → P i = 0) → mr_cn P n = 0 := by
  intro n
  induction n with
  | zero => intro _; rfl
  | succ n ih =>
    intro h
    simp only [mr_cn]
    rw [ih (fun i hi => h i (by omega)), if_pos (h n (by omega))]
theorem mr_cn_congr (P Q : Nat → Int32) : ∀ n, (∀ i, i < n → (P i = 0 ↔ Q i = 0)) → mr_cn P n = mr_cn Q n := by
  intro n
  induction n with
  | zero => intro _; rfl
  | succ n ih =>
    intro h
    simp only [mr_cn]
    rw [ih (fun i hi => h i (by omega))]
    by_cases z : P n = 0
    · rw [if_pos z, if_pos ((h n (by omega)).mp z)]
    · rw [if_neg z, if_neg (fun y => z ((h n (by omega)).mpr y))]
theorem mr_cn_upd (P : Nat → Int32) (k : Nat) (v : Int32) (hv : v ≠ 0) (hk : P k = 0) : ∀ n, k < n → mr_cn (upd P k v) n = mr_cn P n + 1 := by
  intro n
  induction n with
  | zero => intro h; omega
  | succ n ih =>
    intro h
    simp only [mr_cn]
    by_cases e : n = k
    · subst e
      rw [pk_us, if_neg hv, if_pos hk, mr_cn_congr (upd P n v) P n (fun i hi => by rw [pk_un (by omega)])]
    · rw [ih (by omega), pk_un e]
      omega
theorem mr_cn_off (P : Nat → Int32) (k : Nat) (hk : P k ≠ 0) : ∀ n, k < n → mr_cn (upd P k 0) n + 1 = mr_cn P n := by
  intro n h
  have h1 := mr_cn_upd (upd P k 0) k 1 (by decide) pk_us n h
  rw [← h1]
  refine mr_cn_congr _ _ n (fun i hi => ?_)
  by_cases e : i = k
  · subst e
    rw [pk_us]
    exact ⟨fun z => absurd z (by decide), fun z => absurd z hk⟩
  · rw [pk_un e, pk_un e]
theorem mr_cn_inj (R : Nat → Nat → Prop) (hR : ∀ x x' y, R x y → R x' y → x = x') (P : Nat → Int32) (m : Nat) : ∀ (n : Nat) (Q : Nat → Int32), (∀ x, x < n → P x ≠ 0 → ∃ y, y < m ∧ Q y ≠ 0 ∧ R x y) → mr_cn P n ≤ mr_cn Q m := by
  intro n
  induction n with
  | zero => intro Q _; exact Nat.zero_le _
  | succ n ih =>
    intro Q h
    simp only [mr_cn]
    by_cases z : P n = 0
    · rw [if_pos z]
      exact ih Q (fun x hx => h x (by omega))
    · rw [if_neg z]
      obtain ⟨y, hy, hq, hr⟩ := h n (by omega) z
      have h2 := mr_cn_off Q y hq m hy
      have h3 := ih (upd Q y 0) (fun x hx hp => by
        obtain ⟨y', a, b, c⟩ := h x (by omega) hp
        refine ⟨y', a, ?_, c⟩
        by_cases e : y' = y
        · subst e
          have := hR x n y' c hr
          omega
        · rw [pk_un e]
          exact b)
      omega
theorem mr_cn_mono (P Q : Nat → Int32) (n : Nat) (h : ∀ x, x < n → P x ≠ 0 → Q x ≠ 0) : mr_cn P n ≤ mr_cn Q n :=
  mr_cn_inj (fun x y => x = y) (fun _ _ _ a b => a.trans b.symm) P n n Q (fun x hx hp => ⟨x, hx, h x hx hp, rfl⟩)
theorem mr_cn_lt (P Q : Nat → Int32) (n k : Nat) (hk : k < n) (h : ∀ x, x < n → P x ≠ 0 → Q x ≠ 0) (hp : P k = 0) (hq : Q k ≠ 0) : mr_cn P n < mr_cn Q n := by
  have h1 := mr_cn_upd P k 1 (by decide) hp n hk
  have h2 := mr_cn_mono (upd P k 1) Q n (fun x hx z => by
    by_cases e : x = k
    · subst e; exact hq
    · rw [pk_un e] at z; exact h x hx z)
  omega
theorem mr_cn_full (P : Nat → Int32) (n : Nat) (h : mr_cn P n = n) (x : Nat) (hx : x < n) : P x ≠ 0 := fun z => by
  have h1 := mr_cn_upd P x 1 (by decide) z n hx
  have h2 := mr_cn_le (upd P x 1) n
  omega
theorem mr_cn_room (P : Nat → Int32) : ∀ n, mr_cn P n < n → ∃ x, x < n ∧ P x = 0 ∧ ∀ y, y < x → P y ≠ 0 := by
  intro n h
  have h1 : ∃ x, x < n ∧ P x = 0 := by
    induction n with
    | zero => omega
    | succ n ih =>
      simp only [mr_cn] at h
      by_cases z : P n = 0
      · exact ⟨n, by omega, z⟩
      · rw [if_neg z] at h
        obtain ⟨x, a, b⟩ := ih (by omega)
        exact ⟨x, by omega, b⟩
  obtain ⟨x, ⟨a, b⟩, c⟩ := pk_least (fun x => x < n ∧ P x = 0) h1
  exact ⟨x, a, b, fun y hy z => c y hy ⟨by omega, z⟩⟩
/-- the least set that holds the roots and is kept by the edges -/
def mr_Cl (root : Nat → Prop) (edge : Nat → Nat → Prop) (S : Nat → Prop) : Prop :=
  (∀ x, root x → S x) ∧ (∀ x y, S x → edge x y → S y)
def mr_L (root : Nat → Prop) (edge : Nat → Nat → Prop) (x : Nat) : Prop := ∀ S, mr_Cl root edge S → S x
theorem mr_L_cl (root : Nat → Prop) (edge : Nat → Nat → Prop) : mr_Cl root edge (mr_L root edge) :=
  ⟨fun x h S hS => hS.1 x h, fun x y h e S hS => hS.2 x y (h S hS) e⟩
/-- what is needed on one side is, through R, needed on the other -/
theorem mr_L_tr (R : Nat → Nat → Prop) {r1 r2 : Nat → Prop} {e1 e2 : Nat → Nat → Prop} (hr : ∀ x, r1 x → ∃ y, R x y ∧ r2 y) (he : ∀ x y x', R x y → e1 x x' → ∃ y', R x' y' ∧ e2 y y') {x : Nat} (h : mr_L r1 e1 x) : ∃ y, R x y ∧ mr_L r2 e2 y := by
  refine h (fun x => ∃ y, R x y ∧ mr_L r2 e2 y) ⟨fun x hx => ?_, fun x x' hx ex => ?_⟩
  · obtain ⟨y, a, b⟩ := hr x hx
    exact ⟨y, a, (mr_L_cl r2 e2).1 y b⟩
  · obtain ⟨y, a, b⟩ := hx
    obtain ⟨y', c, d⟩ := he x y x' a ex
    exact ⟨y', c, (mr_L_cl r2 e2).2 y y' b d⟩
/-- a flag array tells just the needed ones -/
def mr_Is (T : Nat → Int32) (root : Nat → Prop) (edge : Nat → Nat → Prop) : Prop := ∀ x, x < 16 → (T x ≠ 0 ↔ mr_L root edge x)
theorem mr_Is_cn {R : Nat → Nat → Prop} (h1 : ∀ x x' y, R x y → R x' y → x = x') (h2 : ∀ x y y', R x y → R x y' → y = y') (hb : ∀ x y, R x y → x < 16 ∧ y < 16) {r1 r2 : Nat → Prop} {e1 e2 : Nat → Nat → Prop} (hr : ∀ x, r1 x → ∃ y, R x y ∧ r2 y) (he : ∀ x y x', R x y → e1 x x' → ∃ y', R x' y' ∧ e2 y y') (hr' : ∀ y, r2 y → ∃ x, R x y ∧ r1 x) (he' : ∀ x y y', R x y → e2 y y' → ∃ x', R x' y' ∧ e1 x x') {T U : Nat → Int32} (hT : mr_Is T r1 e1) (hU : mr_Is U r2 e2) : mr_cn T 16 = mr_cn U 16 := by
  have a := mr_cn_inj R h1 T 16 16 U (fun x hx z => by
    obtain ⟨y, p, q⟩ := mr_L_tr R hr he ((hT x hx).mp z)
    exact ⟨y, (hb x y p).2, (hU y (hb x y p).2).mpr q, p⟩)
  have b := mr_cn_inj (fun y x => R x y) (fun y y' x p q => h2 x y y' p q) U 16 16 T (fun y hy z => by
    obtain ⟨x, p, q⟩ := mr_L_tr (fun y x => R x y) hr' (fun y x y' p q => he' x y y' p q) ((hU y hy).mp z)
    exact ⟨x, (hb x y p).1, (hT x (hb x y p).1).mpr q, p⟩)
  omega
