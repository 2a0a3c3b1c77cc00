/-! X's worklist and Y's sweeps, as mathematics -/
def mr_WI (rt : Nat → Prop) (ed : Nat → Nat → Prop) (tk fo : Nat → Int32) (c : Nat) : Prop :=
  c = mr_cn tk 16 ∧ (∀ i, i < c → ∃ p, p < 16 ∧ fo i = nI p ∧ tk p ≠ 0) ∧ (∀ p, p < 16 → tk p ≠ 0 → ∃ i, i < c ∧ fo i = nI p) ∧ (∀ p, p < 16 → tk p ≠ 0 → mr_L rt ed p)
def mr_Gr (tk fo : Nat → Int32) (c : Nat) (tk' fo' : Nat → Int32) (c' : Nat) : Prop :=
  c ≤ c' ∧ (∀ p, tk p ≠ 0 → tk' p ≠ 0) ∧ (∀ i, i < c → fo' i = fo i)
theorem mr_Gr_r (tk fo : Nat → Int32) (c : Nat) : mr_Gr tk fo c tk fo c := ⟨Nat.le_refl c, fun _ h => h, fun _ _ => rfl⟩
theorem mr_Gr_t {tk fo : Nat → Int32} {c : Nat} {tk' fo' : Nat → Int32} {c' : Nat} {tk'' fo'' : Nat → Int32} {c'' : Nat} (h : mr_Gr tk fo c tk' fo' c') (h' : mr_Gr tk' fo' c' tk'' fo'' c'') : mr_Gr tk fo c tk'' fo'' c'' :=
  ⟨Nat.le_trans h.1 h'.1, fun p z => h'.2.1 p (h.2.1 p z), fun i hi => (h'.2.2 i (Nat.lt_of_lt_of_le hi h.1)).trans (h.2.2 i hi)⟩
theorem mr_WI_0 (rt : Nat → Prop) (ed : Nat → Nat → Prop) (tk fo : Nat → Int32) (h : ∀ x, x < 16 → tk x = 0) : mr_WI rt ed tk fo 0 :=
  ⟨(mr_cn_0 tk 16 h).symm, fun i hi => absurd hi (Nat.not_lt_zero i), fun p hp z => absurd (h p hp) z, fun p hp z => absurd (h p hp) z⟩
theorem mr_WI_c {rt : Nat → Prop} {ed : Nat → Nat → Prop} {tk fo : Nat → Int32} {c : Nat} (h : mr_WI rt ed tk fo c) : c ≤ 16 := by
  rw [h.1]; exact mr_cn_le tk 16
theorem mr_WI_p {rt : Nat → Prop} {ed : Nat → Nat → Prop} {tk fo : Nat → Int32} {c : Nat} (h : mr_WI rt ed tk fo c) {p : Nat} (hp : p < 16) (z : tk p = 0) (hl : mr_L rt ed p) : c < 16 ∧ mr_WI rt ed (upd tk p 1) (upd fo c (nI p)) (c + 1) ∧ mr_Gr tk fo c (upd tk p 1) (upd fo c (nI p)) (c + 1) := by
  have h1 := mr_cn_upd tk p 1 (by decide) z 16 hp
  have h2 := mr_cn_le (upd tk p 1) 16
  have h3 := h.1
  have hu : ∀ q, tk q ≠ 0 → upd tk p 1 q ≠ 0 := fun q hq => by
    by_cases e : q = p
    · subst e; rw [pk_us]; decide
    · rw [pk_un e]; exact hq
  refine ⟨by omega, ⟨by omega, fun i hi => ?_, fun q hq hz => ?_, fun q hq hz => ?_⟩, by omega, hu, fun i hi => pk_un (by omega)⟩
  · by_cases e : i = c
    · subst e
      exact ⟨p, hp, pk_us, by rw [pk_us]; decide⟩
    · obtain ⟨q, a, b, d⟩ := h.2.1 i (by omega)
      exact ⟨q, a, by rw [pk_un e]; exact b, hu q d⟩
  · by_cases e : q = p
    · subst e
      exact ⟨c, by omega, pk_us⟩
    · rw [pk_un e] at hz
      obtain ⟨i, a, b⟩ := h.2.2.1 q hq hz
      exact ⟨i, by omega, by rw [pk_un (by omega)]; exact b⟩
  · by_cases e : q = p
    · subst e; exact hl
    · rw [pk_un e] at hz
      exact h.2.2.2 q hq hz
/-- v is marked, if it is an object -/
def mr_Mk (tk : Nat → Int32) (v : Int64) : Prop := ∀ x, x < 16 → v = mr_O x → tk x ≠ 0
theorem mr_Mk_g {tk fo : Nat → Int32} {c : Nat} {tk' fo' : Nat → Int32} {c' : Nat} {v : Int64} (h : mr_Mk tk v) (g : mr_Gr tk fo c tk' fo' c') : mr_Mk tk' v := fun x a b => g.2.1 x (h x a b)
/-- one call of reach: what it leaves -/
theorem mr_reach {rt : Nat → Prop} {ed : Nat → Nat → Prop} {tk fo : Nat → Int32} {c : Nat} (h : mr_WI rt ed tk fo c) {v : Int64} (hW : mr_W v) (hl : ∀ x, x < 16 → v = mr_O x → mr_L rt ed x) : (mr_Mk tk v ∧ (¬ 8589934592 ≤ v ∨ ∃ p, p < 16 ∧ v = mr_O p ∧ tk p ≠ 0)) ∨ (∃ p, p < 16 ∧ v = mr_O p ∧ tk p = 0 ∧ c < 16 ∧ mr_WI rt ed (upd tk p 1) (upd fo c (nI p)) (c + 1) ∧ mr_Gr tk fo c (upd tk p 1) (upd fo c (nI p)) (c + 1) ∧ mr_Mk (upd tk p 1) v) := by
  rcases hW with h1 | ⟨x, hx, rfl⟩
  · exact Or.inl ⟨fun x hx e => absurd (e ▸ mr_O_le hx) h1, Or.inl h1⟩
  · by_cases z : tk x = 0
    · obtain ⟨a, b, d⟩ := mr_WI_p h hx z (hl x hx rfl)
      refine Or.inr ⟨x, hx, rfl, z, a, b, d, fun y hy e => ?_⟩
      cases mr_O_inj hx hy e
      rw [pk_us]; decide
    · refine Or.inl ⟨fun y hy e => ?_, Or.inr ⟨x, hx, rfl, z⟩⟩
      cases mr_O_inj hx hy e
      exact z
/-- the worklist is done: just the needed ones are taken -/
theorem mr_WI_end {gl lo st : Nat → Int64} {F : Nat} {d : Nat → Nat} {fi : Nat → Int64} {tk fo : Nat → Int32} {c : Nat} (h : mr_WI (mr_rX gl lo st F d) (mr_eX fi) tk fo c) (hg : ∀ g, g < 4 → mr_Mk tk (gl g)) (hlo : ∀ k, k < 4 * F → mr_Mk tk (lo k)) (hst : ∀ f i, f < F → i < d f → mr_Mk tk (st (6 * f + i))) (hf : ∀ i p, i < c → p < 16 → fo i = nI p → ∀ j, j < 3 → mr_Mk tk (fi (3 * p + j))) : mr_Is tk (mr_rX gl lo st F d) (mr_eX fi) := by
  intro x hx
  refine ⟨h.2.2.2 x hx, fun hL => ?_⟩
  refine (hL (fun x => x < 16 ∧ tk x ≠ 0) ⟨fun x hx => ?_, fun x y hx e => ?_⟩).2
  · rcases hx with ⟨g, a, b, c⟩ | ⟨k, a, b, c⟩ | ⟨f, i, a, a', b, c⟩
    · exact ⟨c, hg g a x c b⟩
    · exact ⟨c, hlo k a x c b⟩
    · exact ⟨c, hst f i a a' x c b⟩
  · obtain ⟨j, a, b, c⟩ := e
    obtain ⟨i, hi, e2⟩ := h.2.2.1 x hx.1 hx.2
    exact ⟨c, hf i x hi hx.1 e2 j a y c b⟩
/-- Y's flags: sound, the roots in, and done or many -/
def mr_MI (rt : Nat → Prop) (ed : Nat → Nat → Prop) (nd : Nat → Int32) : Prop := ∀ y, y < 16 → nd y ≠ 0 → mr_L rt ed y
def mr_Up (nd nd' : Nat → Int32) : Prop := ∀ y, nd y ≠ 0 → nd' y ≠ 0
theorem mr_Up_t {a b c : Nat → Int32} (h : mr_Up a b) (h' : mr_Up b c) : mr_Up a c := fun y z => h' y (h y z)
theorem mr_Up_u (nd : Nat → Int32) (q : Nat) : mr_Up nd (upd nd q 1) := fun y z => by
  by_cases e : y = q
  · subst e; rw [pk_us]; decide
  · rw [pk_un e]; exact z
theorem mr_MI_u {rt : Nat → Prop} {ed : Nat → Nat → Prop} {nd : Nat → Int32} {q : Nat} (h : mr_MI rt ed nd) (hq : mr_L rt ed q) : mr_MI rt ed (upd nd q 1) := fun y hy z => by
  by_cases e : y = q
  · subst e; exact hq
  · rw [pk_un e] at z; exact h y hy z
def mr_Dn (rt : Nat → Prop) (ed : Nat → Nat → Prop) (nd : Nat → Int32) (r : Nat) : Prop := (∀ y, y < 16 → mr_L rt ed y → nd y ≠ 0) ∨ r ≤ mr_cn nd 16
theorem mr_round {rt : Nat → Prop} {ed : Nat → Nat → Prop} {nd nd' : Nat → Int32} {r : Nat} (hb : ∀ y, rt y → y < 16) (hb' : ∀ y y', ed y y' → y' < 16) (hr : ∀ y, rt y → nd y ≠ 0) (hu : mr_Up nd nd') (he : ∀ y y', y < 16 → nd y ≠ 0 → ed y y' → nd' y' ≠ 0) (h : mr_Dn rt ed nd r) : mr_Dn rt ed nd' (r + 1) := by
  rcases h with h | h
  · exact Or.inl (fun y hy z => hu y (h y hy z))
  · by_cases z : ∀ y, y < 16 → nd' y ≠ 0 → nd y ≠ 0
    · refine Or.inl (fun y hy hL => hu y ?_)
      refine (hL (fun y => y < 16 ∧ nd y ≠ 0) ⟨fun y a => ⟨hb y a, hr y a⟩, fun y y' a e => ⟨hb' y y' e, z y' (hb' y y' e) (he y y' a.1 a.2 e)⟩⟩).2
    · have hx : ∃ k, k < 16 ∧ nd k = 0 ∧ nd' k ≠ 0 := by
        refine Classical.byContradiction fun no => z fun y hy hn hz => no ⟨y, hy, hz, hn⟩
      obtain ⟨k, a, b, c⟩ := hx
      have := mr_cn_lt nd nd' 16 k a (fun x _ w => hu x w) b c
      exact Or.inr (by omega)
theorem mr_Dn_end {rt : Nat → Prop} {ed : Nat → Nat → Prop} {nd : Nat → Int32} (h : mr_Dn rt ed nd 16) (hm : mr_MI rt ed nd) : mr_Is nd rt ed := by
  intro y hy
  refine ⟨hm y hy, fun hL => ?_⟩
  rcases h with h | h
  · exact h y hy hL
  · have := mr_cn_le nd 16
    exact mr_cn_full nd 16 (by omega) y hy
theorem mr_rY_b {gs gv ls lv ss sv : Nat → Int32} {F : Nat} {d : Nat → Nat} (y : Nat) (h : mr_rY gs gv ls lv ss sv F d y) : y < 16 := by
  rcases h with ⟨g, a, b⟩ | ⟨k, a, b⟩ | ⟨f, i, a, a', b⟩
  · exact b.2.2
  · exact b.2.2
  · exact b.2.2
theorem mr_eY_b {fs fv : Nat → Int32} (y y' : Nat) (h : mr_eY fs fv y y') : y' < 16 := by
  obtain ⟨j, a, b⟩ := h
  exact b.2.2
