/-! X collects: one end, whatever is asked of it -/
abbrev mr_JX : Type := Int32 → Int32 → Int32 → Int32 → Int32 → Int32 → Int32 → Int32 → Int32 → Int32 → (Nat → Int32) → (Nat → Int32) → (Nat → Int32) → (Nat → Int32) → (Nat → Int64) → (Nat → Int32) → (Nat → Int64) → (Nat → Int32) → (Nat → Int32) → (Nat → Int32) → (Nat → Int32) → (Nat → Int64) → (Nat → Int64) → (Nat → Int32) → Prop
abbrev mr_T3 : Type := (Nat → Int32) × (Nat → Int32) × Nat
section
variable {tc cf fc la oc sc mc g1 g2 fr ov en : Int32} {op ns ab sr cl tk fo du de ke gs gv kd fs fv ls lv ss sv he nd : Nat → Int32} {gl fi lo st : Nat → Int64} {R : Nat → Nat → Prop} {f : Nat} {d : Nat → Nat}
theorem mr_xreach {rt : Nat → Prop} {ed : Nat → Nat → Prop} (s : mr_T3) {v : Int64} (h : mr_WI rt ed s.1 s.2.1 s.2.2) (hW : mr_W v) (hl : ∀ x, x < 16 → v = mr_O x → mr_L rt ed x) : ∃ s' : mr_T3, mr_WI rt ed s'.1 s'.2.1 s'.2.2 ∧ mr_Gr s.1 s.2.1 s.2.2 s'.1 s'.2.1 s'.2.2 ∧ mr_Mk s'.1 v ∧ ∀ post : SX → Prop, post (nI s'.2.2, cf, fc, la, oc, sc, mc, g1, g2, op, ns, ab, sr, gl, cl, fi, s'.1, s'.2.1, du, de, lo, st, ke) → wpX_reach post (nI s.2.2, cf, fc, la, oc, sc, mc, g1, g2, op, ns, ab, sr, gl, cl, fi, s.1, s.2.1, du, de, lo, st, ke) v := by
  obtain ⟨tk, fo, c⟩ := s
  dsimp only at h ⊢
  rcases mr_reach h hW hl with ⟨hm, h1 | ⟨p, hp, rfl, z⟩⟩ | ⟨p, hp, rfl, z, hc, h2, h3, h4⟩
  · exact ⟨(tk, fo, c), h, mr_Gr_r _ _ _, hm, fun post hp => br_t (Int64.not_le.mp h1) hp⟩
  · refine ⟨(tk, fo, c), h, mr_Gr_r _ _ _, hm, fun post hq => ?_⟩
    unfold wpX_reach
    dsimp only
    rw [mr_O_i, nI_clamp (by omega)]
    exact br_f (mr_O_nlt hp) ⟨vp_in_nI hp (by decide), br_f z hq⟩
  · refine ⟨(upd tk p 1, upd fo c (nI p), c + 1), h2, h3, h4, fun post hq => ?_⟩
    unfold wpX_reach
    dsimp only
    rw [mr_O_i, nI_clamp (by omega), mr_b1]
    exact br_f (mr_O_nlt hp) ⟨vp_in_nI hp (by decide), br_t z ⟨vp_in_nI hp (by decide), nm_e ⟨vp_in_nI hc (by decide), nm_r (e' := upd fo c (nI p)) (by rw [nI_clamp (by omega)]) (nm_r (nI_1 c) hq)⟩⟩⟩
/-- what holds of all that X can meet -/
def mr_XW (gl lo st fi : Nat → Int64) (F : Nat) (d : Nat → Nat) : Prop :=
  (∀ g, g < 4 → mr_W (gl g)) ∧ (∀ k, k < 4 * F → mr_W (lo k)) ∧ (∀ g i, g < F → i < d g → mr_W (st (6 * g + i))) ∧ (∀ x, mr_L (mr_rX gl lo st F d) (mr_eX fi) x → ∀ j, j < 3 → mr_W (fi (3 * x + j)))
theorem mr_xc7 (cf' : Int32) : ∃ tk' : Nat → Int32, (∀ x, x < 16 → tk' x = 0) ∧ ∀ (post : SX → Prop) (n : Nat), 16 < n → (∃ n28 : Nat, wX_collect_28 post n28 0 0 cf' fc la oc sc mc g1 g2 op ns ab sr gl cl fi tk' fo du de lo st ke) → wX_collect_7 post 0 cf' fc la oc sc mc g1 g2 n 0 op ns ab sr gl cl fi tk fo du de lo st ke := by
  refine mr_lpE (fun (post : SX → Prop) n i (t : Nat → Int32) => wX_collect_7 post 0 cf' fc la oc sc mc g1 g2 n (nI i) op ns ab sr gl cl fi t fo du de lo st ke) (fun post t => ∃ n28 : Nat, wX_collect_28 post n28 0 0 cf' fc la oc sc mc g1 g2 op ns ab sr gl cl fi t fo du de lo st ke) (fun i t => ∀ x, x < i → t x = 0) 16 (fun s h post n hk => br_t (by decide) hk) (fun i t hi h => ⟨upd t i 0, fun x hx => ?_, fun post n h2 => ?_⟩) tk (fun x hx => absurd hx (Nat.not_lt_zero x))
  · by_cases e : x = i
    · subst e; exact pk_us
    · rw [pk_un e]; exact h x (by omega)
  · exact br_f (nI_ge (b := 16) hi (by decide)) ⟨vp_in_nI hi (by decide), nm_r (e' := upd t i 0) (by rw [nI_clamp (by omega), mr_b0]) (nm_r (nI_1 i) h2)⟩
theorem mr_xc28 {F : Nat} (hF : F ≤ 10) (hW : mr_XW gl lo st fi F d) (s : mr_T3) (h : mr_WI (mr_rX gl lo st F d) (mr_eX fi) s.1 s.2.1 s.2.2) : ∃ s' : mr_T3, (mr_WI (mr_rX gl lo st F d) (mr_eX fi) s'.1 s'.2.1 s'.2.2 ∧ ∀ g, g < 4 → mr_Mk s'.1 (gl g)) ∧ ∀ (post : SX → Prop) (n : Nat), 4 < n → (∃ n51 : Nat, wX_collect_51 post n51 0 (nI s'.2.2) cf (nI F) la oc sc mc g1 g2 op ns ab sr gl cl fi s'.1 s'.2.1 du de lo st ke) → wX_collect_28 post n 0 (nI s.2.2) cf (nI F) la oc sc mc g1 g2 op ns ab sr gl cl fi s.1 s.2.1 du de lo st ke := by
  refine mr_lpE (fun (post : SX → Prop) n i (s : mr_T3) => wX_collect_28 post n (nI i) (nI s.2.2) cf (nI F) la oc sc mc g1 g2 op ns ab sr gl cl fi s.1 s.2.1 du de lo st ke) (fun post s => ∃ n51 : Nat, wX_collect_51 post n51 0 (nI s.2.2) cf (nI F) la oc sc mc g1 g2 op ns ab sr gl cl fi s.1 s.2.1 du de lo st ke) (fun i s => mr_WI (mr_rX gl lo st F d) (mr_eX fi) s.1 s.2.1 s.2.2 ∧ ∀ g, g < i → mr_Mk s.1 (gl g)) 4 (fun s h post n hk => br_t (by decide) hk) (fun i s hi h => ?_) s ⟨h, fun g hg => absurd hg (Nat.not_lt_zero g)⟩
  obtain ⟨s', a, b, c, e⟩ := mr_xreach (cf := cf) (fc := nI F) (la := la) (oc := oc) (sc := sc) (mc := mc) (g1 := g1) (g2 := g2) (op := op) (ns := ns) (ab := ab) (sr := sr) (gl := gl) (cl := cl) (fi := fi) (du := du) (de := de) (lo := lo) (st := st) (ke := ke) s h.1 (hW.1 i hi) (fun x hx ex => (mr_L_cl _ _).1 x (Or.inl ⟨i, hi, ex, hx⟩))
  refine ⟨s', ⟨a, fun g hg => ?_⟩, fun post n h2 => ?_⟩
  · by_cases eg : g = i
    · subst eg; exact c
    · exact mr_Mk_g (h.2 g (by omega)) b
  · refine br_f (nI_ge (b := 4) hi (by decide)) ⟨vp_in_nI hi (by decide), ?_⟩
    rw [nI_clamp (by omega)]
    exact e _ (nm_r (nI_1 i) h2)
theorem mr_xc51 {F : Nat} (hF : F ≤ 10) (hW : mr_XW gl lo st fi F d) (s : mr_T3) (h : mr_WI (mr_rX gl lo st F d) (mr_eX fi) s.1 s.2.1 s.2.2) : ∃ s' : mr_T3, (mr_WI (mr_rX gl lo st F d) (mr_eX fi) s'.1 s'.2.1 s'.2.2 ∧ mr_Gr s.1 s.2.1 s.2.2 s'.1 s'.2.1 s'.2.2 ∧ ∀ k, k < 4 * F → mr_Mk s'.1 (lo k)) ∧ ∀ (post : SX → Prop) (n : Nat), 4 * F < n → (∃ n79 : Nat, wX_collect_79 post n79 0 (nI s'.2.2) cf (nI F) la oc sc mc g1 g2 op ns ab sr gl cl fi s'.1 s'.2.1 du de lo st ke) → wX_collect_51 post n 0 (nI s.2.2) cf (nI F) la oc sc mc g1 g2 op ns ab sr gl cl fi s.1 s.2.1 du de lo st ke := by
  have s0 := s
  refine mr_lpE (fun (post : SX → Prop) n i (s : mr_T3) => wX_collect_51 post n (nI i) (nI s.2.2) cf (nI F) la oc sc mc g1 g2 op ns ab sr gl cl fi s.1 s.2.1 du de lo st ke) (fun post s => ∃ n79 : Nat, wX_collect_79 post n79 0 (nI s.2.2) cf (nI F) la oc sc mc g1 g2 op ns ab sr gl cl fi s.1 s.2.1 du de lo st ke) (fun i s' => mr_WI (mr_rX gl lo st F d) (mr_eX fi) s'.1 s'.2.1 s'.2.2 ∧ mr_Gr s.1 s.2.1 s.2.2 s'.1 s'.2.1 s'.2.2 ∧ ∀ k, k < i → mr_Mk s'.1 (lo k)) (4 * F) (fun s h post n hk => br_t (by rw [mr_x4']; exact nI_le (Nat.le_refl _) (by omega)) hk) (fun i t hi h => ?_) s ⟨h, mr_Gr_r _ _ _, fun g hg => absurd hg (Nat.not_lt_zero g)⟩
  obtain ⟨s', a, b, c, e⟩ := mr_xreach (cf := cf) (fc := nI F) (la := la) (oc := oc) (sc := sc) (mc := mc) (g1 := g1) (g2 := g2) (op := op) (ns := ns) (ab := ab) (sr := sr) (gl := gl) (cl := cl) (fi := fi) (du := du) (de := de) (lo := lo) (st := st) (ke := ke) t h.1 (hW.2.1 i hi) (fun x hx ex => (mr_L_cl _ _).1 x (Or.inr (Or.inl ⟨i, hi, ex, hx⟩)))
  refine ⟨s', ⟨a, mr_Gr_t h.2.1 b, fun g hg => ?_⟩, fun post n h2 => ?_⟩
  · by_cases eg : g = i
    · subst eg; exact c
    · exact mr_Mk_g (h.2.2 g (by omega)) b
  · refine br_f (by rw [mr_x4']; exact nI_ge hi (by omega)) ⟨vp_in_nI (by omega) (by decide), ?_⟩
    rw [nI_clamp (by omega)]
    exact e _ (nm_r (nI_1 i) h2)
theorem mr_xc89 {F : Nat} (hF : F ≤ 10) (hB : mr_B F d de) (hd : ∀ g, g < F → d g ≤ 6) (hW : mr_XW gl lo st fi F d) (g : Nat) (hg : g < F) (s : mr_T3) (h : mr_WI (mr_rX gl lo st F d) (mr_eX fi) s.1 s.2.1 s.2.2) : ∃ s' : mr_T3, (mr_WI (mr_rX gl lo st F d) (mr_eX fi) s'.1 s'.2.1 s'.2.2 ∧ mr_Gr s.1 s.2.1 s.2.2 s'.1 s'.2.1 s'.2.2 ∧ ∀ k, k < d g → mr_Mk s'.1 (st (6 * g + k))) ∧ ∀ (a : (SX → Prop) × mr_JX) (n : Nat), d g < n → a.2 (nI (g + 1)) (nI s'.2.2) cf (nI F) la oc sc mc g1 g2 op ns ab sr gl cl fi s'.1 s'.2.1 du de lo st ke → wX_collect_89 a.1 a.2 (nI g) n 0 (nI s.2.2) cf (nI F) la oc sc mc g1 g2 op ns ab sr gl cl fi s.1 s.2.1 du de lo st ke := by
  have hg6 := hd g hg
  have i1 : vp_in (nI g) 10 := vp_in_nI (by omega) (by decide)
  have i2 : (nI g).toNatClampNeg = g := nI_clamp (by omega)
  refine mr_lpE (fun (a : (SX → Prop) × mr_JX) n i (s : mr_T3) => wX_collect_89 a.1 a.2 (nI g) n (nI i) (nI s.2.2) cf (nI F) la oc sc mc g1 g2 op ns ab sr gl cl fi s.1 s.2.1 du de lo st ke) (fun a s => a.2 (nI (g + 1)) (nI s.2.2) cf (nI F) la oc sc mc g1 g2 op ns ab sr gl cl fi s.1 s.2.1 du de lo st ke) (fun i s' => mr_WI (mr_rX gl lo st F d) (mr_eX fi) s'.1 s'.2.1 s'.2.2 ∧ mr_Gr s.1 s.2.1 s.2.2 s'.1 s'.2.1 s'.2.2 ∧ ∀ k, k < i → mr_Mk s'.1 (st (6 * g + k))) (d g) (fun s h a n hk => And.intro i1 (br_t (by rw [i2, hB g hg]; exact nI_le (Nat.le_refl _) (by omega)) (nm_r (nI_1 g) hk))) (fun i t hi h => ?_) s ⟨h, mr_Gr_r _ _ _, fun g hg => absurd hg (Nat.not_lt_zero g)⟩
  obtain ⟨s', a, b, c, e⟩ := mr_xreach (cf := cf) (fc := nI F) (la := la) (oc := oc) (sc := sc) (mc := mc) (g1 := g1) (g2 := g2) (op := op) (ns := ns) (ab := ab) (sr := sr) (gl := gl) (cl := cl) (fi := fi) (du := du) (de := de) (lo := lo) (st := st) (ke := ke) t h.1 (hW.2.2.1 g i hg hi) (fun x hx ex => (mr_L_cl _ _).1 x (Or.inr (Or.inr ⟨g, i, hg, hi, ex, hx⟩)))
  refine ⟨s', ⟨a, mr_Gr_t h.2.1 b, fun k hk => ?_⟩, fun J n h2 => ?_⟩
  · by_cases eg : k = i
    · subst eg; exact c
    · exact mr_Mk_g (h.2.2 k (by omega)) b
  · refine And.intro i1 (br_f (by rw [i2, hB g hg]; exact nI_ge hi (by omega)) ⟨by rw [mr_x6]; exact vp_in_nI (by omega) (by decide), ?_⟩)
    rw [mr_x6, nI_clamp (by omega)]
    exact e _ (nm_r (nI_1 i) h2)
theorem mr_xc79 {F : Nat} (hF : F ≤ 10) (hB : mr_B F d de) (hd : ∀ g, g < F → d g ≤ 6) (hW : mr_XW gl lo st fi F d) (s : mr_T3) (h : mr_WI (mr_rX gl lo st F d) (mr_eX fi) s.1 s.2.1 s.2.2) : ∃ s' : mr_T3, (mr_WI (mr_rX gl lo st F d) (mr_eX fi) s'.1 s'.2.1 s'.2.2 ∧ mr_Gr s.1 s.2.1 s.2.2 s'.1 s'.2.1 s'.2.2 ∧ ∀ g k, g < F → k < d g → mr_Mk s'.1 (st (6 * g + k))) ∧ ∀ (post : SX → Prop) (n : Nat), F < n → (∃ n128 : Nat, wX_collect_128 post n128 0 (nI s'.2.2) cf (nI F) la oc sc mc g1 g2 op ns ab sr gl cl fi s'.1 s'.2.1 du de lo st ke) → wX_collect_79 post n 0 (nI s.2.2) cf (nI F) la oc sc mc g1 g2 op ns ab sr gl cl fi s.1 s.2.1 du de lo st ke := by
  refine mr_lpE (fun (post : SX → Prop) n i (s : mr_T3) => wX_collect_79 post n (nI i) (nI s.2.2) cf (nI F) la oc sc mc g1 g2 op ns ab sr gl cl fi s.1 s.2.1 du de lo st ke) (fun post s => ∃ n128 : Nat, wX_collect_128 post n128 0 (nI s.2.2) cf (nI F) la oc sc mc g1 g2 op ns ab sr gl cl fi s.1 s.2.1 du de lo st ke) (fun i s' => mr_WI (mr_rX gl lo st F d) (mr_eX fi) s'.1 s'.2.1 s'.2.2 ∧ mr_Gr s.1 s.2.1 s.2.2 s'.1 s'.2.1 s'.2.2 ∧ ∀ g k, g < i → k < d g → mr_Mk s'.1 (st (6 * g + k))) F (fun s h post n hk => br_t (nI_le (Nat.le_refl _) (by omega)) hk) (fun i t hi h => ?_) s ⟨h, mr_Gr_r _ _ _, fun g _ hg => absurd hg (Nat.not_lt_zero g)⟩
  obtain ⟨s', ⟨a, b, c⟩, e⟩ := mr_xc89 (cf := cf) (la := la) (oc := oc) (sc := sc) (mc := mc) (g1 := g1) (g2 := g2) (op := op) (ns := ns) (ab := ab) (sr := sr) (cl := cl) (du := du) (ke := ke) hF hB hd hW i hi t h.1
  refine ⟨s', ⟨a, mr_Gr_t h.2.1 b, fun g k hg hk => ?_⟩, fun post n h2 => ?_⟩
  · by_cases eg : g = i
    · subst eg; exact c k hk
    · exact mr_Mk_g (h.2.2 g k (by omega) hk) b
  · exact br_f (nI_ge hi (by omega)) ⟨d i + 1, e (post, wX_collect_79 post n) (d i + 1) (by omega) h2⟩
theorem mr_xc144 {F : Nat} (hW : mr_XW gl lo st fi F d) (i p : Nat) (hp : p < 16) (s : mr_T3) (hi : i < s.2.2) (ei : s.2.1 i = nI p) (h : mr_WI (mr_rX gl lo st F d) (mr_eX fi) s.1 s.2.1 s.2.2) : ∃ s' : mr_T3, (mr_WI (mr_rX gl lo st F d) (mr_eX fi) s'.1 s'.2.1 s'.2.2 ∧ mr_Gr s.1 s.2.1 s.2.2 s'.1 s'.2.1 s'.2.2 ∧ ∀ j, j < 3 → mr_Mk s'.1 (fi (3 * p + j))) ∧ ∀ (a : (SX → Prop) × mr_JX) (n : Nat), 3 < n → a.2 (nI (i + 1)) (nI s'.2.2) cf (nI F) la oc sc mc g1 g2 op ns ab sr gl cl fi s'.1 s'.2.1 du de lo st ke → wX_collect_144 a.1 a.2 (nI i) n 0 (nI s.2.2) cf (nI F) la oc sc mc g1 g2 op ns ab sr gl cl fi s.1 s.2.1 du de lo st ke := by
  have hc := mr_WI_c h
  have i1 : vp_in (nI i) 16 := vp_in_nI (by omega) (by decide)
  have i2 : (nI i).toNatClampNeg = i := nI_clamp (by omega)
  obtain ⟨q, hq, eq, tq⟩ := h.2.1 i hi
  cases (nI_eq (by omega) (by omega)).mp (ei.symm.trans eq)
  have hL := h.2.2.2 p hp tq
  refine mr_lpE (fun (a : (SX → Prop) × mr_JX) n j (s : mr_T3) => wX_collect_144 a.1 a.2 (nI i) n (nI j) (nI s.2.2) cf (nI F) la oc sc mc g1 g2 op ns ab sr gl cl fi s.1 s.2.1 du de lo st ke) (fun a s => a.2 (nI (i + 1)) (nI s.2.2) cf (nI F) la oc sc mc g1 g2 op ns ab sr gl cl fi s.1 s.2.1 du de lo st ke) (fun j s' => mr_WI (mr_rX gl lo st F d) (mr_eX fi) s'.1 s'.2.1 s'.2.2 ∧ mr_Gr s.1 s.2.1 s.2.2 s'.1 s'.2.1 s'.2.2 ∧ ∀ k, k < j → mr_Mk s'.1 (fi (3 * p + k))) 3 (fun s h a n hk => br_t (by decide) (nm_r (nI_1 i) hk)) (fun j t hj h => ?_) s ⟨h, mr_Gr_r _ _ _, fun g hg => absurd hg (Nat.not_lt_zero g)⟩
  obtain ⟨s', a, b, c, e⟩ := mr_xreach (cf := cf) (fc := nI F) (la := la) (oc := oc) (sc := sc) (mc := mc) (g1 := g1) (g2 := g2) (op := op) (ns := ns) (ab := ab) (sr := sr) (gl := gl) (cl := cl) (fi := fi) (du := du) (de := de) (lo := lo) (st := st) (ke := ke) t h.1 (hW.2.2.2 p hL j hj) (fun x hx ex => (mr_L_cl _ _).2 p x hL ⟨j, hj, ex, hx⟩)
  have ef : t.2.1 (nI i).toNatClampNeg * 3 + nI j = nI (3 * p + j) := by rw [i2, h.2.1.2.2 i hi, ei, mr_x3]
  refine ⟨s', ⟨a, mr_Gr_t h.2.1 b, fun k hk => ?_⟩, fun J n h2 => ?_⟩
  · by_cases eg : k = j
    · subst eg; exact c
    · exact mr_Mk_g (h.2.2 k (by omega)) b
  · refine br_f (nI_ge (b := 3) hj (by decide)) ⟨i1, by rw [ef]; exact vp_in_nI (by omega) (by decide), ?_⟩
    rw [ef, nI_clamp (by omega)]
    exact e _ (nm_r (nI_1 j) h2)
end
