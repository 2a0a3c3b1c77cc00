/-! Y marks: one end, whatever is asked of it -/
abbrev mr_JY : Type := Int32 → Int32 → Int32 → Int32 → Int32 → Int32 → Int32 → Int32 → Int32 → (Nat → Int32) → (Nat → Int32) → (Nat → Int32) → (Nat → Int32) → (Nat → Int32) → (Nat → Int32) → (Nat → Int32) → (Nat → Int32) → (Nat → Int32) → (Nat → Int32) → (Nat → Int32) → (Nat → Int32) → (Nat → Int32) → (Nat → Int32) → (Nat → Int32) → (Nat → Int32) → (Nat → Int32) → Prop
section
variable {tc cf fc la oc sc mc g1 g2 fr ov en : Int32} {op ns ab sr cl tk fo du de ke gs gv kd fs fv ls lv ss sv he nd : Nat → Int32} {gl fi lo st : Nat → Int64} {R : Nat → Nat → Prop} {f : Nat} {d : Nat → Nat}
/-- an object that Y meets is one of the sixteen -/
def mr_O16 (s w : Int32) : Prop := s = 2 → ∃ y : Nat, y < 16 ∧ w = nI y
theorem mr_V_O16 {v : Int64} {s w : Int32} (h : mr_V R v s w) : mr_O16 s w := fun e => by
  obtain ⟨x, y, _, hy, _, ew, _⟩ := mr_V_ob h e
  exact ⟨y, hy, ew⟩
theorem mr_ymeet {rt : Nat → Prop} {ed : Nat → Nat → Prop} (nd : Nat → Int32) {s w : Int32} (h : mr_MI rt ed nd) (ho : mr_O16 s w) (hl : ∀ y, mr_P s w y → mr_L rt ed y) : ∃ nd' : Nat → Int32, mr_MI rt ed nd' ∧ mr_Up nd nd' ∧ (∀ y, mr_P s w y → nd' y ≠ 0) ∧ ∀ post : SY → Prop, post (fr, g1, g2, sc, mc, oc, ov, en, op, ns, ab, sr, gs, gv, kd, fs, fv, ls, lv, ss, sv, he, du, nd', ke) → wpY_meet post (fr, g1, g2, sc, mc, oc, ov, en, op, ns, ab, sr, gs, gv, kd, fs, fv, ls, lv, ss, sv, he, du, nd, ke) s w := by
  by_cases z : s = 2
  · obtain ⟨y, hy, rfl⟩ := ho z
    refine ⟨upd nd y 1, mr_MI_u h (hl y ⟨z, rfl, hy⟩), mr_Up_u nd y, fun y' h' => ?_, fun post hp => ?_⟩
    · cases (nI_eq (by omega) (by have := h'.2.2; omega)).mp h'.2.1
      rw [pk_us]; decide
    · unfold wpY_meet
      dsimp only
      rw [mr_and15 hy, mr_b1]
      exact br_t z ⟨vp_in_nI hy (by decide), nm_r (e' := upd nd y 1) (by rw [nI_clamp (by omega)]) hp⟩
  · exact ⟨nd, h, fun _ q => q, fun y h' => absurd h'.1 z, fun post hp => br_f z hp⟩
def mr_YW (gs gv ls lv ss sv fs fv : Nat → Int32) (F : Nat) (d : Nat → Nat) : Prop :=
  (∀ g, g < 4 → mr_O16 (gs g) (gv g)) ∧ (∀ k, k < 4 * F → mr_O16 (ls k) (lv k)) ∧ (∀ g i, g < F → i < d g → mr_O16 (ss (6 * g + i)) (sv (6 * g + i))) ∧ (∀ y, mr_L (mr_rY gs gv ls lv ss sv F d) (mr_eY fs fv) y → ∀ j, j < 3 → mr_O16 (fs (3 * y + j)) (fv (3 * y + j)))
theorem mr_ym2 (n0 : Nat → Int32) : ∃ nd' : Nat → Int32, (∀ x, x < 16 → nd' x = 0) ∧ ∀ (post : Int32 → SY → Prop) (n : Nat), 16 < n → (∃ n23 : Nat, wY_mark_23 post n23 0 fr g1 g2 sc mc oc ov en op ns ab sr gs gv kd fs fv ls lv ss sv he du nd' ke) → wY_mark_2 post fr g1 g2 sc mc oc ov en n 0 op ns ab sr gs gv kd fs fv ls lv ss sv he du n0 ke := by
  refine mr_lpE (fun (post : Int32 → SY → Prop) n i (t : Nat → Int32) => wY_mark_2 post fr g1 g2 sc mc oc ov en n (nI i) op ns ab sr gs gv kd fs fv ls lv ss sv he du t ke) (fun post t => ∃ n23 : Nat, wY_mark_23 post n23 0 fr g1 g2 sc mc oc ov en op ns ab sr gs gv kd fs fv ls lv ss sv he du t ke) (fun i t => ∀ x, x < i → t x = 0) 16 (fun s h post n hk => br_t (by decide) hk) (fun i t hi h => ⟨upd t i 0, fun x hx => ?_, fun post n h2 => ?_⟩) n0 (fun x hx => absurd hx (Nat.not_lt_zero x))
  · by_cases e : x = i
    · subst e; exact pk_us
    · rw [pk_un e]; exact h x (by omega)
  · exact br_f (nI_ge (b := 16) hi (by decide)) ⟨vp_in_nI hi (by decide), nm_r (e' := upd t i 0) (by rw [nI_clamp (by omega), mr_b0]) (nm_r (nI_1 i) h2)⟩
theorem mr_ym23 {F : Nat} (hW : mr_YW gs gv ls lv ss sv fs fv F d) (n0 : Nat → Int32) (h : mr_MI (mr_rY gs gv ls lv ss sv F d) (mr_eY fs fv) n0) : ∃ nd' : Nat → Int32, (mr_MI (mr_rY gs gv ls lv ss sv F d) (mr_eY fs fv) nd' ∧ ∀ g, g < 4 → ∀ y, mr_P (gs g) (gv g) y → nd' y ≠ 0) ∧ ∀ (post : Int32 → SY → Prop) (n : Nat), 4 < n → (∃ n52 : Nat, wY_mark_52 post n52 0 (nI F) g1 g2 sc mc oc ov en op ns ab sr gs gv kd fs fv ls lv ss sv he du nd' ke) → wY_mark_23 post n 0 (nI F) g1 g2 sc mc oc ov en op ns ab sr gs gv kd fs fv ls lv ss sv he du n0 ke := by
  refine mr_lpE (fun (post : Int32 → SY → Prop) n i (t : Nat → Int32) => wY_mark_23 post n (nI i) (nI F) g1 g2 sc mc oc ov en op ns ab sr gs gv kd fs fv ls lv ss sv he du t ke) (fun post t => ∃ n52 : Nat, wY_mark_52 post n52 0 (nI F) g1 g2 sc mc oc ov en op ns ab sr gs gv kd fs fv ls lv ss sv he du t ke) (fun i t => mr_MI (mr_rY gs gv ls lv ss sv F d) (mr_eY fs fv) t ∧ ∀ g, g < i → ∀ y, mr_P (gs g) (gv g) y → t y ≠ 0) 4 (fun s h post n hk => br_t (by decide) hk) (fun i t hi h => ?_) n0 ⟨h, fun g hg => absurd hg (Nat.not_lt_zero g)⟩
  obtain ⟨t', a, b, c, e⟩ := mr_ymeet (fr := nI F) (g1 := g1) (g2 := g2) (sc := sc) (mc := mc) (oc := oc) (ov := ov) (en := en) (op := op) (ns := ns) (ab := ab) (sr := sr) (kd := kd) (du := du) (ke := ke) (gs := gs) (gv := gv) (fs := fs) (fv := fv) (ls := ls) (lv := lv) (ss := ss) (sv := sv) (he := he) t h.1 (hW.1 i hi) (fun y hy => (mr_L_cl _ _).1 y (Or.inl ⟨i, hi, hy⟩))
  refine ⟨t', ⟨a, fun g hg y hy => ?_⟩, fun post n h2 => ?_⟩
  · by_cases eg : g = i
    · subst eg; exact c y hy
    · exact b y (h.2 g (by omega) y hy)
  · refine br_f (nI_ge (b := 4) hi (by decide)) ⟨vp_in_nI hi (by decide), vp_in_nI hi (by decide), ?_⟩
    rw [nI_clamp (by omega)]
    exact e _ (nm_r (nI_1 i) h2)
theorem mr_ym52 {F : Nat} (hF : F ≤ 10) (hW : mr_YW gs gv ls lv ss sv fs fv F d) (n0 : Nat → Int32) (h : mr_MI (mr_rY gs gv ls lv ss sv F d) (mr_eY fs fv) n0) : ∃ nd' : Nat → Int32, (mr_MI (mr_rY gs gv ls lv ss sv F d) (mr_eY fs fv) nd' ∧ mr_Up n0 nd' ∧ ∀ g, g < 4 * F → ∀ y, mr_P (ls g) (lv g) y → nd' y ≠ 0) ∧ ∀ (post : Int32 → SY → Prop) (n : Nat), 4 * F < n → (∃ n86 : Nat, wY_mark_86 post n86 0 (nI F) g1 g2 sc mc oc ov en op ns ab sr gs gv kd fs fv ls lv ss sv he du nd' ke) → wY_mark_52 post n 0 (nI F) g1 g2 sc mc oc ov en op ns ab sr gs gv kd fs fv ls lv ss sv he du n0 ke := by
  refine mr_lpE (fun (post : Int32 → SY → Prop) n i (t : Nat → Int32) => wY_mark_52 post n (nI i) (nI F) g1 g2 sc mc oc ov en op ns ab sr gs gv kd fs fv ls lv ss sv he du t ke) (fun post t => ∃ n86 : Nat, wY_mark_86 post n86 0 (nI F) g1 g2 sc mc oc ov en op ns ab sr gs gv kd fs fv ls lv ss sv he du t ke) (fun i t => mr_MI (mr_rY gs gv ls lv ss sv F d) (mr_eY fs fv) t ∧ mr_Up n0 t ∧ ∀ g, g < i → ∀ y, mr_P (ls g) (lv g) y → t y ≠ 0) (4 * F) (fun s h post n hk => br_t (by rw [mr_y4']; exact nI_le (Nat.le_refl _) (by omega)) hk) (fun i t hi h => ?_) n0 ⟨h, fun _ q => q, fun g hg => absurd hg (Nat.not_lt_zero g)⟩
  obtain ⟨t', a, b, c, e⟩ := mr_ymeet (fr := nI F) (g1 := g1) (g2 := g2) (sc := sc) (mc := mc) (oc := oc) (ov := ov) (en := en) (op := op) (ns := ns) (ab := ab) (sr := sr) (kd := kd) (du := du) (ke := ke) (gs := gs) (gv := gv) (fs := fs) (fv := fv) (ls := ls) (lv := lv) (ss := ss) (sv := sv) (he := he) t h.1 (hW.2.1 i hi) (fun y hy => (mr_L_cl _ _).1 y (Or.inr (Or.inl ⟨i, hi, hy⟩)))
  refine ⟨t', ⟨a, mr_Up_t h.2.1 b, fun g hg y hy => ?_⟩, fun post n h2 => ?_⟩
  · by_cases eg : g = i
    · subst eg; exact c y hy
    · exact b y (h.2.2 g (by omega) y hy)
  · refine br_f (by rw [mr_y4']; exact nI_ge hi (by omega)) ⟨vp_in_nI (by omega) (by decide), vp_in_nI (by omega) (by decide), ?_⟩
    rw [nI_clamp (by omega)]
    exact e _ (nm_r (nI_1 i) h2)
theorem mr_ym86 {F : Nat} (hF : F ≤ 10) (hB : mr_B F d he) (hd : ∀ g, g < F → d g ≤ 6) (hW : mr_YW gs gv ls lv ss sv fs fv F d) (n0 : Nat → Int32) (h : mr_MI (mr_rY gs gv ls lv ss sv F d) (mr_eY fs fv) n0) : ∃ nd' : Nat → Int32, (mr_MI (mr_rY gs gv ls lv ss sv F d) (mr_eY fs fv) nd' ∧ mr_Up n0 nd' ∧ ∀ k, k < 6 * F → k % 6 < d (k / 6) → ∀ y, mr_P (ss k) (sv k) y → nd' y ≠ 0) ∧ ∀ (post : Int32 → SY → Prop) (n : Nat), 6 * F < n → (∃ n137 : Nat, wY_mark_137 post n137 0 (nI F) g1 g2 sc mc oc ov en op ns ab sr gs gv kd fs fv ls lv ss sv he du nd' ke) → wY_mark_86 post n 0 (nI F) g1 g2 sc mc oc ov en op ns ab sr gs gv kd fs fv ls lv ss sv he du n0 ke := by
  refine mr_lpE (fun (post : Int32 → SY → Prop) n i (t : Nat → Int32) => wY_mark_86 post n (nI i) (nI F) g1 g2 sc mc oc ov en op ns ab sr gs gv kd fs fv ls lv ss sv he du t ke) (fun post t => ∃ n137 : Nat, wY_mark_137 post n137 0 (nI F) g1 g2 sc mc oc ov en op ns ab sr gs gv kd fs fv ls lv ss sv he du t ke) (fun i t => mr_MI (mr_rY gs gv ls lv ss sv F d) (mr_eY fs fv) t ∧ mr_Up n0 t ∧ ∀ k, k < i → k % 6 < d (k / 6) → ∀ y, mr_P (ss k) (sv k) y → t y ≠ 0) (6 * F) (fun s h post n hk => br_t (by rw [mr_y6']; exact nI_le (Nat.le_refl _) (by omega)) hk) (fun i t hi h => ?_) n0 ⟨h, fun _ q => q, fun g hg => absurd hg (Nat.not_lt_zero g)⟩
  have e1 : nI i / 6 = nI (i / 6) := pk_div (d := 6) (by omega) (by decide) (by decide)
  have e2 : nI i - nI i / 6 * 6 = nI (i % 6) := pk_rem (d := 6) (by omega) (by decide) (by decide)
  have h6 : i / 6 < F := by omega
  have hh : he (nI (i / 6)).toNatClampNeg = nI (d (i / 6)) := by rw [nI_clamp (by omega), hB _ h6]
  have hd6 := hd _ h6
  by_cases z : d (i / 6) ≤ i % 6
  · refine ⟨t, ⟨h.1, h.2.1, fun k hk hk2 y hy => ?_⟩, fun post n h2 => ?_⟩
    · by_cases ek : k = i
      · subst ek; omega
      · exact h.2.2 k (by omega) hk2 y hy
    · refine br_f (by rw [mr_y6']; exact nI_ge hi (by omega)) ⟨by decide, by decide, ?_⟩
      rw [e2, e1, hh]
      exact ⟨vp_in_nI (by omega) (by decide), br_t (nI_le z (by omega)) (nm_r (nI_1 i) h2)⟩
  · have ei : 6 * (i / 6) + i % 6 = i := by omega
    obtain ⟨t', a, b, c, e⟩ := mr_ymeet (fr := nI F) (g1 := g1) (g2 := g2) (sc := sc) (mc := mc) (oc := oc) (ov := ov) (en := en) (op := op) (ns := ns) (ab := ab) (sr := sr) (kd := kd) (du := du) (ke := ke) (gs := gs) (gv := gv) (fs := fs) (fv := fv) (ls := ls) (lv := lv) (ss := ss) (sv := sv) (he := he) t h.1 (s := ss i) (w := sv i) (by have := hW.2.2.1 (i / 6) (i % 6) h6 (by omega); rw [ei] at this; exact this) (fun y hy => (mr_L_cl _ _).1 y (Or.inr (Or.inr ⟨i / 6, i % 6, h6, by omega, by rw [ei]; exact hy⟩)))
    refine ⟨t', ⟨a, mr_Up_t h.2.1 b, fun k hk hk2 y hy => ?_⟩, fun post n h2 => ?_⟩
    · by_cases ek : k = i
      · subst ek; exact c y hy
      · exact b y (h.2.2 k (by omega) hk2 y hy)
    · refine br_f (by rw [mr_y6']; exact nI_ge hi (by omega)) ⟨by decide, by decide, ?_⟩
      rw [e2, e1, hh]
      refine ⟨vp_in_nI (by omega) (by decide), br_f (nI_ge (by omega) (by omega)) ⟨vp_in_nI (by omega) (by decide), vp_in_nI (by omega) (by decide), ?_⟩⟩
      rw [nI_clamp (n := i) (by omega)]
      exact e _ (nm_r (nI_1 i) h2)
theorem mr_ym145 {F : Nat} (hW : mr_YW gs gv ls lv ss sv fs fv F d) (r : Nat) (n0 : Nat → Int32) (h : mr_MI (mr_rY gs gv ls lv ss sv F d) (mr_eY fs fv) n0) : ∃ nd' : Nat → Int32, (mr_MI (mr_rY gs gv ls lv ss sv F d) (mr_eY fs fv) nd' ∧ mr_Up n0 nd' ∧ ∀ k, k < 48 → n0 (k / 3) ≠ 0 → ∀ y, mr_P (fs k) (fv k) y → nd' y ≠ 0) ∧ ∀ (a : (Int32 → SY → Prop) × mr_JY) (n : Nat), 48 < n → a.2 (nI (r + 1)) (nI F) g1 g2 sc mc oc ov en op ns ab sr gs gv kd fs fv ls lv ss sv he du nd' ke → wY_mark_145 a.1 a.2 (nI r) n 0 (nI F) g1 g2 sc mc oc ov en op ns ab sr gs gv kd fs fv ls lv ss sv he du n0 ke := by
  refine mr_lpE (fun (a : (Int32 → SY → Prop) × mr_JY) n i (t : Nat → Int32) => wY_mark_145 a.1 a.2 (nI r) n (nI i) (nI F) g1 g2 sc mc oc ov en op ns ab sr gs gv kd fs fv ls lv ss sv he du t ke) (fun a t => a.2 (nI (r + 1)) (nI F) g1 g2 sc mc oc ov en op ns ab sr gs gv kd fs fv ls lv ss sv he du t ke) (fun i t => mr_MI (mr_rY gs gv ls lv ss sv F d) (mr_eY fs fv) t ∧ mr_Up n0 t ∧ ∀ k, k < i → n0 (k / 3) ≠ 0 → ∀ y, mr_P (fs k) (fv k) y → t y ≠ 0) 48 (fun s h a n hk => br_t (by decide) (nm_r (nI_1 r) hk)) (fun i t hi h => ?_) n0 ⟨h, fun _ q => q, fun g hg => absurd hg (Nat.not_lt_zero g)⟩
  have e1 : nI i / 3 = nI (i / 3) := pk_div (d := 3) (by omega) (by decide) (by decide)
  have ei : 3 * (i / 3) + i % 3 = i := by omega
  by_cases z : t (i / 3) = 0
  · refine ⟨t, ⟨h.1, h.2.1, fun k hk hk2 y hy => ?_⟩, fun a n h2 => ?_⟩
    · by_cases ek : k = i
      · subst ek; exact absurd z (h.2.1 _ hk2)
      · exact h.2.2 k (by omega) hk2 y hy
    · refine br_f (nI_ge (b := 48) hi (by decide)) ⟨by decide, ?_⟩
      rw [e1, nI_clamp (n := i / 3) (by omega)]
      exact ⟨vp_in_nI (by omega) (by decide), br_t z (nm_r (nI_1 i) h2)⟩
  · have hL := h.1 (i / 3) (by omega) z
    obtain ⟨t', a, b, c, e⟩ := mr_ymeet (fr := nI F) (g1 := g1) (g2 := g2) (sc := sc) (mc := mc) (oc := oc) (ov := ov) (en := en) (op := op) (ns := ns) (ab := ab) (sr := sr) (kd := kd) (du := du) (ke := ke) (gs := gs) (gv := gv) (fs := fs) (fv := fv) (ls := ls) (lv := lv) (ss := ss) (sv := sv) (he := he) t h.1 (s := fs i) (w := fv i) (by have := hW.2.2.2 (i / 3) hL (i % 3) (by omega); rw [ei] at this; exact this) (fun y hy => (mr_L_cl _ _).2 (i / 3) y hL ⟨i % 3, by omega, by rw [ei]; exact hy⟩)
    refine ⟨t', ⟨a, mr_Up_t h.2.1 b, fun k hk hk2 y hy => ?_⟩, fun J n h2 => ?_⟩
    · by_cases ek : k = i
      · subst ek; exact c y hy
      · exact b y (h.2.2 k (by omega) hk2 y hy)
    · refine br_f (nI_ge (b := 48) hi (by decide)) ⟨by decide, ?_⟩
      rw [e1, nI_clamp (n := i / 3) (by omega)]
      refine ⟨vp_in_nI (by omega) (by decide), br_f z ⟨vp_in_nI (by omega) (by decide), vp_in_nI (by omega) (by decide), ?_⟩⟩
      rw [nI_clamp (n := i) (by omega)]
      exact e _ (nm_r (nI_1 i) h2)
theorem mr_ym137 {F : Nat} (hW : mr_YW gs gv ls lv ss sv fs fv F d) (n0 : Nat → Int32) (h : mr_MI (mr_rY gs gv ls lv ss sv F d) (mr_eY fs fv) n0) (hr : ∀ y, mr_rY gs gv ls lv ss sv F d y → n0 y ≠ 0) : ∃ nd' : Nat → Int32, (mr_MI (mr_rY gs gv ls lv ss sv F d) (mr_eY fs fv) nd' ∧ (∀ y, mr_rY gs gv ls lv ss sv F d y → nd' y ≠ 0) ∧ mr_Dn (mr_rY gs gv ls lv ss sv F d) (mr_eY fs fv) nd' 16) ∧ ∀ (post : Int32 → SY → Prop) (n : Nat), 16 < n → (∃ n194 : Nat, wY_mark_194 post (nI F) g1 g2 sc mc oc ov en op ns ab sr gs gv kd fs fv ls lv ss sv he du nd' ke n194 0 0) → wY_mark_137 post n 0 (nI F) g1 g2 sc mc oc ov en op ns ab sr gs gv kd fs fv ls lv ss sv he du n0 ke := by
  refine mr_lpE (fun (post : Int32 → SY → Prop) n i (t : Nat → Int32) => wY_mark_137 post n (nI i) (nI F) g1 g2 sc mc oc ov en op ns ab sr gs gv kd fs fv ls lv ss sv he du t ke) (fun post t => ∃ n194 : Nat, wY_mark_194 post (nI F) g1 g2 sc mc oc ov en op ns ab sr gs gv kd fs fv ls lv ss sv he du t ke n194 0 0) (fun i t => mr_MI (mr_rY gs gv ls lv ss sv F d) (mr_eY fs fv) t ∧ (∀ y, mr_rY gs gv ls lv ss sv F d y → t y ≠ 0) ∧ mr_Dn (mr_rY gs gv ls lv ss sv F d) (mr_eY fs fv) t i) 16 (fun s h post n hk => br_t (by decide) hk) (fun i t hi h => ?_) n0 ⟨h, hr, Or.inr (Nat.zero_le _)⟩
  obtain ⟨t', ⟨a, b, c⟩, e⟩ := mr_ym145 (g1 := g1) (g2 := g2) (sc := sc) (mc := mc) (oc := oc) (ov := ov) (en := en) (op := op) (ns := ns) (ab := ab) (sr := sr) (kd := kd) (du := du) (ke := ke) (he := he) hW i t h.1
  refine ⟨t', ⟨a, fun y hy => b y (h.2.1 y hy), mr_round mr_rY_b mr_eY_b h.2.1 b (fun y y' hy hz ⟨j, hj, hp⟩ => c (3 * y + j) (by omega) (by rw [show (3 * y + j) / 3 = y from by omega]; exact hz) y' hp) h.2.2⟩, fun post n h2 => br_f (nI_ge (b := 16) hi (by decide)) ⟨49, e (post, wY_mark_137 post n) 49 (by omega) h2⟩⟩
theorem mr_ym194 (post : Int32 → SY → Prop) (h : post (nI (mr_cn nd 16)) (fr, g1, g2, sc, mc, oc, ov, en, op, ns, ab, sr, gs, gv, kd, fs, fv, ls, lv, ss, sv, he, du, nd, ke)) : wY_mark_194 post fr g1 g2 sc mc oc ov en op ns ab sr gs gv kd fs fv ls lv ss sv he du nd ke 17 0 0 := by
  have key : ∀ (i t : Nat), i < 16 → t = mr_cn nd i → ∃ s' : Nat, s' = mr_cn nd (i + 1) ∧ ∀ (a : Int32 → SY → Prop) (n : Nat), wY_mark_194 a fr g1 g2 sc mc oc ov en op ns ab sr gs gv kd fs fv ls lv ss sv he du nd ke n (nI s') (nI (i + 1)) → wY_mark_194 a fr g1 g2 sc mc oc ov en op ns ab sr gs gv kd fs fv ls lv ss sv he du nd ke (n + 1) (nI t) (nI i) := by
    intro i t hi h
    subst h
    have hs : mr_cn nd (i + 1) = mr_cn nd i + (if nd i = 0 then 0 else 1) := rfl
    refine ⟨mr_cn nd (i + 1), rfl, fun post n h2 => br_f (nI_ge (b := 16) hi (by decide)) ⟨vp_in_nI hi (by decide), ?_⟩⟩
    rw [nI_clamp (n := i) (by omega)]
    by_cases z : nd i = 0
    · rw [if_pos z] at hs
      rw [hs] at h2
      exact br_t z (nm_r (nI_1 i) h2)
    · rw [if_neg z] at hs
      rw [hs] at h2
      exact br_f z (nm_r (nI_1 _) (nm_r (nI_1 i) h2))
  obtain ⟨c, rfl, e⟩ := mr_lpE (fun (post : Int32 → SY → Prop) n i (c : Nat) => wY_mark_194 post fr g1 g2 sc mc oc ov en op ns ab sr gs gv kd fs fv ls lv ss sv he du nd ke n (nI c) (nI i)) (fun post c => post (nI c) (fr, g1, g2, sc, mc, oc, ov, en, op, ns, ab, sr, gs, gv, kd, fs, fv, ls, lv, ss, sv, he, du, nd, ke)) (fun i c => c = mr_cn nd i) 16 (fun s h post n hk => br_t (by decide) hk) key 0 rfl
  exact e post 17 (by omega) h
theorem mr_ymark {F : Nat} (hF : F ≤ 10) (hB : mr_B F d he) (hd : ∀ g, g < F → d g ≤ 6) (hW : mr_YW gs gv ls lv ss sv fs fv F d) : ∃ nd' : Nat → Int32, mr_Is nd' (mr_rY gs gv ls lv ss sv F d) (mr_eY fs fv) ∧ ∀ post : Int32 → SY → Prop, post (nI (mr_cn nd' 16)) (nI F, g1, g2, sc, mc, oc, ov, en, op, ns, ab, sr, gs, gv, kd, fs, fv, ls, lv, ss, sv, he, du, nd', ke) → wpY_mark post (nI F, g1, g2, sc, mc, oc, ov, en, op, ns, ab, sr, gs, gv, kd, fs, fv, ls, lv, ss, sv, he, du, nd, ke) := by
  obtain ⟨t0, h0, e0⟩ := mr_ym2 (fr := nI F) (g1 := g1) (g2 := g2) (sc := sc) (mc := mc) (oc := oc) (ov := ov) (en := en) (op := op) (ns := ns) (ab := ab) (sr := sr) (kd := kd) (du := du) (ke := ke) (gs := gs) (gv := gv) (fs := fs) (fv := fv) (ls := ls) (lv := lv) (ss := ss) (sv := sv) (he := he) nd
  obtain ⟨t1, ⟨a1, b1⟩, e1⟩ := mr_ym23 (g1 := g1) (g2 := g2) (sc := sc) (mc := mc) (oc := oc) (ov := ov) (en := en) (op := op) (ns := ns) (ab := ab) (sr := sr) (kd := kd) (du := du) (ke := ke) (he := he) hW t0 (fun y hy z => absurd (h0 y hy) z)
  obtain ⟨t2, ⟨a2, u2, b2⟩, e2⟩ := mr_ym52 (g1 := g1) (g2 := g2) (sc := sc) (mc := mc) (oc := oc) (ov := ov) (en := en) (op := op) (ns := ns) (ab := ab) (sr := sr) (kd := kd) (du := du) (ke := ke) (he := he) hF hW t1 a1
  obtain ⟨t3, ⟨a3, u3, b3⟩, e3⟩ := mr_ym86 (g1 := g1) (g2 := g2) (sc := sc) (mc := mc) (oc := oc) (ov := ov) (en := en) (op := op) (ns := ns) (ab := ab) (sr := sr) (kd := kd) (du := du) (ke := ke) hF hB hd hW t2 a2
  obtain ⟨t4, ⟨a4, b4, c4⟩, e4⟩ := mr_ym137 (g1 := g1) (g2 := g2) (sc := sc) (mc := mc) (oc := oc) (ov := ov) (en := en) (op := op) (ns := ns) (ab := ab) (sr := sr) (kd := kd) (du := du) (ke := ke) (he := he) hW t3 a3 (fun y hy => by
    rcases hy with ⟨g, a, b⟩ | ⟨k, a, b⟩ | ⟨g, i, a, a', b⟩
    · exact u3 y (u2 y (b1 g a y b))
    · exact u3 y (b2 k a y b)
    · have := hd g a
      exact b3 (6 * g + i) (by omega) (by rw [show (6 * g + i) % 6 = i from by omega, show (6 * g + i) / 6 = g from by omega]; exact a') y b)
  refine ⟨t4, mr_Dn_end c4 a4, fun post hp => ?_⟩
  exact ⟨17, e0 post 17 (by omega) ⟨5, e1 post 5 (by omega) ⟨4 * F + 1, e2 post (4 * F + 1) (by omega) ⟨6 * F + 1, e3 post (6 * F + 1) (by omega) ⟨17, e4 post 17 (by omega) ⟨17, mr_ym194 post hp⟩⟩⟩⟩⟩⟩
end
