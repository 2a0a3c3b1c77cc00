/-! what the two heaps hold: roots and edges of X and of Y; the relation of the two -/
/-- roots of X: globals, the locals and the stacks of F frames of depths d -/
def mr_rX (gl lo st : Nat → Int64) (F : Nat) (d : Nat → Nat) (x : Nat) : Prop :=
  (∃ g, g < 4 ∧ gl g = mr_O x ∧ x < 16) ∨ (∃ k, k < 4 * F ∧ lo k = mr_O x ∧ x < 16) ∨ (∃ f i, f < F ∧ i < d f ∧ st (6 * f + i) = mr_O x ∧ x < 16)
def mr_eX (fi : Nat → Int64) (x x' : Nat) : Prop := ∃ j, j < 3 ∧ fi (3 * x + j) = mr_O x' ∧ x' < 16
def mr_P (s w : Int32) (y : Nat) : Prop := s = 2 ∧ w = nI y ∧ y < 16
def mr_rY (gs gv ls lv ss sv : Nat → Int32) (F : Nat) (d : Nat → Nat) (y : Nat) : Prop :=
  (∃ g, g < 4 ∧ mr_P (gs g) (gv g) y) ∨ (∃ k, k < 4 * F ∧ mr_P (ls k) (lv k) y) ∨ (∃ f i, f < F ∧ i < d f ∧ mr_P (ss (6 * f + i)) (sv (6 * f + i)) y)
def mr_eY (fs fv : Nat → Int32) (y y' : Nat) : Prop := ∃ j, j < 3 ∧ mr_P (fs (3 * y + j)) (fv (3 * y + j)) y'
/-- the values that the machine holds are the same through R -/
def mr_RV (R : Nat → Nat → Prop) (F : Nat) (d : Nat → Nat) (gl lo st : Nat → Int64) (gs gv ls lv ss sv : Nat → Int32) : Prop :=
  (∀ g, g < 4 → mr_V R (gl g) (gs g) (gv g)) ∧ (∀ k, k < 4 * F → mr_V R (lo k) (ls k) (lv k)) ∧ (∀ f i, f < F → i < d f → mr_V R (st (6 * f + i)) (ss (6 * f + i)) (sv (6 * f + i)))
/-- the objects that R pairs are the same through R -/
def mr_HV (R : Nat → Nat → Prop) (cl : Nat → Int32) (fi : Nat → Int64) (tk kd fs fv : Nat → Int32) : Prop :=
  (∀ x y, R x y → x < 16 ∧ y < 16 ∧ tk x ≠ 0 ∧ (∃ c, c < 4 ∧ cl x = nI c ∧ kd y = nI c) ∧ ∀ j, j < 3 → mr_V R (fi (3 * x + j)) (fs (3 * y + j)) (fv (3 * y + j))) ∧ (∀ x x' y, R x y → R x' y → x = x') ∧ (∀ x y y', R x y → R x y' → y = y')
theorem mr_V_X {R : Nat → Nat → Prop} {v : Int64} {s w : Int32} {x : Nat} (h : mr_V R v s w) (hx : x < 16) (e : v = mr_O x) : ∃ y, R x y ∧ mr_P s w y := by
  rcases h with ⟨rfl, rfl⟩ | ⟨rfl, rfl⟩ | ⟨x', y, hx', hy, rfl, rfl, rfl, r⟩
  · exact absurd e.symm (mr_O_ne0 hx)
  · exact absurd e (mr_I_neO hx)
  · cases mr_O_inj hx' hx e
    exact ⟨y, r, rfl, rfl, hy⟩
theorem mr_V_Y {R : Nat → Nat → Prop} {v : Int64} {s w : Int32} {y : Nat} (h : mr_V R v s w) (e : mr_P s w y) : ∃ x, R x y ∧ v = mr_O x ∧ x < 16 := by
  obtain ⟨e1, e2, e3⟩ := e
  rcases h with ⟨rfl, rfl⟩ | ⟨rfl, rfl⟩ | ⟨x', y', hx', hy, rfl, rfl, rfl, r⟩
  · exact absurd e1 (by decide)
  · exact absurd e1 (by decide)
  · cases (nI_eq (by omega) (by omega)).mp e2
    exact ⟨x', r, rfl, hx'⟩
theorem mr_tr1 {R : Nat → Nat → Prop} {F : Nat} {d : Nat → Nat} {gl lo st : Nat → Int64} {gs gv ls lv ss sv : Nat → Int32} (h : mr_RV R F d gl lo st gs gv ls lv ss sv) (x : Nat) (hx : mr_rX gl lo st F d x) : ∃ y, R x y ∧ mr_rY gs gv ls lv ss sv F d y := by
  rcases hx with ⟨g, a, b, c⟩ | ⟨k, a, b, c⟩ | ⟨f, i, a, a', b, c⟩
  · obtain ⟨y, p, q⟩ := mr_V_X (h.1 g a) c b
    exact ⟨y, p, Or.inl ⟨g, a, q⟩⟩
  · obtain ⟨y, p, q⟩ := mr_V_X (h.2.1 k a) c b
    exact ⟨y, p, Or.inr (Or.inl ⟨k, a, q⟩)⟩
  · obtain ⟨y, p, q⟩ := mr_V_X (h.2.2 f i a a') c b
    exact ⟨y, p, Or.inr (Or.inr ⟨f, i, a, a', q⟩)⟩
theorem mr_tr2 {R : Nat → Nat → Prop} {F : Nat} {d : Nat → Nat} {gl lo st : Nat → Int64} {gs gv ls lv ss sv : Nat → Int32} (h : mr_RV R F d gl lo st gs gv ls lv ss sv) (y : Nat) (hy : mr_rY gs gv ls lv ss sv F d y) : ∃ x, R x y ∧ mr_rX gl lo st F d x := by
  rcases hy with ⟨g, a, b⟩ | ⟨k, a, b⟩ | ⟨f, i, a, a', b⟩
  · obtain ⟨x, p, q, r⟩ := mr_V_Y (h.1 g a) b
    exact ⟨x, p, Or.inl ⟨g, a, q, r⟩⟩
  · obtain ⟨x, p, q, r⟩ := mr_V_Y (h.2.1 k a) b
    exact ⟨x, p, Or.inr (Or.inl ⟨k, a, q, r⟩)⟩
  · obtain ⟨x, p, q, r⟩ := mr_V_Y (h.2.2 f i a a') b
    exact ⟨x, p, Or.inr (Or.inr ⟨f, i, a, a', q, r⟩)⟩
theorem mr_te1 {R : Nat → Nat → Prop} {cl : Nat → Int32} {fi : Nat → Int64} {tk kd fs fv : Nat → Int32} (h : mr_HV R cl fi tk kd fs fv) (x y x' : Nat) (r : R x y) (e : mr_eX fi x x') : ∃ y', R x' y' ∧ mr_eY fs fv y y' := by
  obtain ⟨j, a, b, c⟩ := e
  obtain ⟨y', p, q⟩ := mr_V_X ((h.1 x y r).2.2.2.2 j a) c b
  exact ⟨y', p, j, a, q⟩
theorem mr_te2 {R : Nat → Nat → Prop} {cl : Nat → Int32} {fi : Nat → Int64} {tk kd fs fv : Nat → Int32} (h : mr_HV R cl fi tk kd fs fv) (x y y' : Nat) (r : R x y) (e : mr_eY fs fv y y') : ∃ x', R x' y' ∧ mr_eX fi x x' := by
  obtain ⟨j, a, b⟩ := e
  obtain ⟨x', p, q, s⟩ := mr_V_Y ((h.1 x y r).2.2.2.2 j a) b
  exact ⟨x', p, j, a, q, s⟩
/-- as many needed objects on both sides -/
theorem mr_count {R : Nat → Nat → Prop} {F : Nat} {d : Nat → Nat} {gl lo st : Nat → Int64} {gs gv ls lv ss sv : Nat → Int32} (h : mr_RV R F d gl lo st gs gv ls lv ss sv) {cl : Nat → Int32} {fi : Nat → Int64} {tk kd fs fv : Nat → Int32} (hh : mr_HV R cl fi tk kd fs fv) {T U : Nat → Int32} (hT : mr_Is T (mr_rX gl lo st F d) (mr_eX fi)) (hU : mr_Is U (mr_rY gs gv ls lv ss sv F d) (mr_eY fs fv)) : mr_cn T 16 = mr_cn U 16 :=
  mr_Is_cn hh.2.1 hh.2.2 (fun x y r => ⟨(hh.1 x y r).1, (hh.1 x y r).2.1⟩) (mr_tr1 h) (mr_te1 hh) (mr_tr2 h) (mr_te2 hh) hT hU
/-- X needs only what it has taken -/
theorem mr_L_tk {R : Nat → Nat → Prop} {F : Nat} {d : Nat → Nat} {gl lo st : Nat → Int64} {gs gv ls lv ss sv : Nat → Int32} (h : mr_RV R F d gl lo st gs gv ls lv ss sv) {cl : Nat → Int32} {fi : Nat → Int64} {tk kd fs fv : Nat → Int32} (hh : mr_HV R cl fi tk kd fs fv) {x : Nat} (hx : mr_L (mr_rX gl lo st F d) (mr_eX fi) x) : tk x ≠ 0 := by
  obtain ⟨y, r, _⟩ := mr_L_tr R (mr_tr1 h) (mr_te1 hh) hx
  exact (hh.1 x y r).2.2.1
/-- R cut down to what is needed -/
def mr_cut (R : Nat → Nat → Prop) (rt : Nat → Prop) (ed : Nat → Nat → Prop) (x y : Nat) : Prop := R x y ∧ mr_L rt ed x
theorem mr_cutV {R : Nat → Nat → Prop} {rt : Nat → Prop} {ed : Nat → Nat → Prop} {v : Int64} {s w : Int32} (h : mr_V R v s w) (hx : ∀ x, x < 16 → v = mr_O x → mr_L rt ed x) : mr_V (mr_cut R rt ed) v s w :=
  mr_V_mono h (fun x _ a _ b _ _ r => ⟨r, hx x a b⟩)
theorem mr_cutRV {R : Nat → Nat → Prop} {F : Nat} {d : Nat → Nat} {gl lo st : Nat → Int64} {gs gv ls lv ss sv : Nat → Int32} {ed : Nat → Nat → Prop} (h : mr_RV R F d gl lo st gs gv ls lv ss sv) : mr_RV (mr_cut R (mr_rX gl lo st F d) ed) F d gl lo st gs gv ls lv ss sv :=
  ⟨fun g a => mr_cutV (h.1 g a) (fun _ c b => (mr_L_cl _ _).1 _ (Or.inl ⟨g, a, b, c⟩)), fun k a => mr_cutV (h.2.1 k a) (fun _ c b => (mr_L_cl _ _).1 _ (Or.inr (Or.inl ⟨k, a, b, c⟩))), fun f i a a' => mr_cutV (h.2.2 f i a a') (fun _ c b => (mr_L_cl _ _).1 _ (Or.inr (Or.inr ⟨f, i, a, a', b, c⟩)))⟩
/-- after a collection by X: R cut down, and just the needed places taken -/
theorem mr_cutHV {R : Nat → Nat → Prop} {cl : Nat → Int32} {fi : Nat → Int64} {tk kd fs fv : Nat → Int32} {rt : Nat → Prop} (h : mr_HV R cl fi tk kd fs fv) {T : Nat → Int32} (hT : ∀ x, x < 16 → mr_L rt (mr_eX fi) x → T x ≠ 0) : mr_HV (mr_cut R rt (mr_eX fi)) cl fi T kd fs fv :=
  ⟨fun x y r => ⟨(h.1 x y r.1).1, (h.1 x y r.1).2.1, hT x (h.1 x y r.1).1 r.2, (h.1 x y r.1).2.2.2.1, fun j a => mr_cutV ((h.1 x y r.1).2.2.2.2 j a) (fun x' c b => (mr_L_cl _ _).2 x x' r.2 ⟨j, a, b, c⟩)⟩, fun x x' y p q => h.2.1 x x' y p.1 q.1, fun x y y' p q => h.2.2 x y y' p.1 q.1⟩
/-- a new object: at p in X, at q in Y, where neither is needed -/
def mr_add (R : Nat → Nat → Prop) (p q : Nat) (x y : Nat) : Prop := R x y ∨ (x = p ∧ y = q)
theorem mr_addV {R : Nat → Nat → Prop} {p q : Nat} {v : Int64} {s w : Int32} (h : mr_V R v s w) : mr_V (mr_add R p q) v s w :=
  mr_V_mono h (fun _ _ _ _ _ _ _ r => Or.inl r)
theorem mr_addRV {R : Nat → Nat → Prop} {p q : Nat} {F : Nat} {d : Nat → Nat} {gl lo st : Nat → Int64} {gs gv ls lv ss sv : Nat → Int32} (h : mr_RV R F d gl lo st gs gv ls lv ss sv) : mr_RV (mr_add R p q) F d gl lo st gs gv ls lv ss sv :=
  ⟨fun g a => mr_addV (h.1 g a), fun k a => mr_addV (h.2.1 k a), fun f i a a' => mr_addV (h.2.2 f i a a')⟩
/-- the arrays after a NEW -/
theorem mr_addHV {R : Nat → Nat → Prop} {cl : Nat → Int32} {fi : Nat → Int64} {tk kd fs fv : Nat → Int32} {p q c : Nat} (h : mr_HV R cl fi tk kd fs fv) (hp : p < 16) (hq : q < 16) (hc : c < 4) (tp : tk p = 0) (nq : ∀ x, ¬ R x q) {cl' : Nat → Int32} {fi' : Nat → Int64} {tk' kd' fs' : Nat → Int32} (ecl : ∀ x, x ≠ p → cl' x = cl x) (eclp : cl' p = nI c) (ekd : ∀ y, y ≠ q → kd' y = kd y) (ekdq : kd' q = nI c) (efi : ∀ x j, j < 3 → x ≠ p → fi' (3 * x + j) = fi (3 * x + j)) (efip : ∀ j, j < 3 → fi' (3 * p + j) = 0) (efs : ∀ y j, j < 3 → y ≠ q → fs' (3 * y + j) = fs (3 * y + j)) (efsq : ∀ j, j < 3 → fs' (3 * q + j) = 0) (etk : ∀ x, tk x ≠ 0 → tk' x ≠ 0) (etkp : tk' p ≠ 0) : mr_HV (mr_add R p q) cl' fi' tk' kd' fs' fv := by
  have np : ∀ y, ¬ R p y := fun y r => (h.1 p y r).2.2.1 tp
  refine ⟨fun x y r => ?_, fun x x' y r r' => ?_, fun x y y' r r' => ?_⟩
  · rcases r with r | ⟨rfl, rfl⟩
    · have hx : x ≠ p := fun e => np y (e ▸ r)
      have hy : y ≠ q := fun e => nq x (e ▸ r)
      obtain ⟨a, b, c', ⟨k, k1, k2, k3⟩, e⟩ := h.1 x y r
      refine ⟨a, b, etk x c', ⟨k, k1, by rw [ecl x hx]; exact k2, by rw [ekd y hy]; exact k3⟩, fun j hj => ?_⟩
      rw [efi x j hj hx, efs y j hj hy]
      exact mr_addV (e j hj)
    · refine ⟨hp, hq, etkp, ⟨c, hc, eclp, ekdq⟩, fun j hj => ?_⟩
      rw [efip j hj, efsq j hj]
      exact mr_V0
  · rcases r with r | ⟨a, b⟩ <;> rcases r' with r' | ⟨a', b'⟩
    · exact h.2.1 x x' y r r'
    · exact absurd (b' ▸ r) (nq x)
    · exact absurd (b ▸ r') (nq x')
    · exact a.trans a'.symm
  · rcases r with r | ⟨a, b⟩ <;> rcases r' with r' | ⟨a', b'⟩
    · exact h.2.2 x y y' r r'
    · exact absurd (a' ▸ r) (np y)
    · exact absurd (a ▸ r') (np y')
    · exact b.trans b'.symm
/-- a field of a pair of objects is put -/
theorem mr_putHV {R : Nat → Nat → Prop} {cl : Nat → Int32} {fi : Nat → Int64} {tk kd fs fv : Nat → Int32} (h : mr_HV R cl fi tk kd fs fv) {x y n : Nat} (r : R x y) (hn : n < 3) {v : Int64} {s w : Int32} (hv : mr_V R v s w) : mr_HV R cl (vp_updL fi (3 * x + n) v) tk kd (upd fs (3 * y + n) s) (upd fv (3 * y + n) w) := by
  refine ⟨fun x' y' r' => ?_, h.2.1, h.2.2⟩
  obtain ⟨a, b, c, d, e⟩ := h.1 x' y' r'
  refine ⟨a, b, c, d, fun j hj => ?_⟩
  by_cases ex : x' = x
  · cases ex
    cases h.2.2 x y y' r r'
    by_cases ej : j = n
    · cases ej
      rw [pk_uLs, pk_us, pk_us]
      exact hv
    · rw [pk_uLn (by omega), pk_un (by omega), pk_un (by omega)]
      exact e j hj
  · have ey : y' ≠ y := fun z => ex (h.2.1 x' x y (z ▸ r') r)
    rw [pk_uLn (by omega), pk_un (by omega), pk_un (by omega)]
    exact e j hj
