/-! X's worklist, the whole collection, and whether the memory is full -/
section
variable {tc cf fc la oc sc mc g1 g2 fr ov en : Int32} {op ns ab sr cl tk fo du de ke gs gv kd fs fv ls lv ss sv he nd : Nat → Int32} {gl fi lo st : Nat → Int64} {R : Nat → Nat → Prop} {f : Nat} {d : Nat → Nat}
theorem mr_xc128 {F : Nat} (hW : mr_XW gl lo st fi F d) (s : mr_T3) (h : mr_WI (mr_rX gl lo st F d) (mr_eX fi) s.1 s.2.1 s.2.2) (hg : ∀ g, g < 4 → mr_Mk s.1 (gl g)) (hlo : ∀ k, k < 4 * F → mr_Mk s.1 (lo k)) (hst : ∀ g k, g < F → k < d g → mr_Mk s.1 (st (6 * g + k))) : ∃ s' : mr_T3, (mr_WI (mr_rX gl lo st F d) (mr_eX fi) s'.1 s'.2.1 s'.2.2 ∧ mr_Gr s.1 s.2.1 s.2.2 s'.1 s'.2.1 s'.2.2 ∧ ∀ i p, i < s'.2.2 → p < 16 → s'.2.1 i = nI p → ∀ j, j < 3 → mr_Mk s'.1 (fi (3 * p + j))) ∧ ∀ (post : SX → Prop) (n : Nat), 16 < n → post (nI s'.2.2, cf, nI F, la, oc, sc, mc, g1, g2, op, ns, ab, sr, gl, cl, fi, s'.1, s'.2.1, du, de, lo, st, ke) → wX_collect_128 post n 0 (nI s.2.2) cf (nI F) la oc sc mc g1 g2 op ns ab sr gl cl fi s.1 s.2.1 du de lo st ke := by
  refine mr_lpX (fun (post : SX → Prop) n i (s : mr_T3) => wX_collect_128 post n (nI i) (nI s.2.2) cf (nI F) la oc sc mc g1 g2 op ns ab sr gl cl fi s.1 s.2.1 du de lo st ke) (fun post s => post (nI s.2.2, cf, nI F, la, oc, sc, mc, g1, g2, op, ns, ab, sr, gl, cl, fi, s.1, s.2.1, du, de, lo, st, ke)) (fun i s' => mr_WI (mr_rX gl lo st F d) (mr_eX fi) s'.1 s'.2.1 s'.2.2 ∧ mr_Gr s.1 s.2.1 s.2.2 s'.1 s'.2.1 s'.2.2 ∧ ∀ i' p, i' < i → i' < s'.2.2 → p < 16 → s'.2.1 i' = nI p → ∀ j, j < 3 → mr_Mk s'.1 (fi (3 * p + j))) _ 16 (fun t h => ⟨⟨h.1, h.2.1, fun i p hi => h.2.2 i p (Nat.lt_of_lt_of_le hi (mr_WI_c h.1)) hi⟩, fun post n hk => br_t (by decide) hk⟩) (fun i t hi h => ?_) 16 0 s rfl ⟨h, mr_Gr_r _ _ _, fun i p hi => absurd hi (Nat.not_lt_zero i)⟩
  have hc := mr_WI_c h.1
  by_cases z : t.2.2 ≤ i
  · exact Or.inl ⟨⟨h.1, h.2.1, fun i' p hi' => h.2.2 i' p (Nat.lt_of_lt_of_le hi' z) hi'⟩, fun post n hk => br_f (nI_ge (b := 16) hi (by decide)) (br_t (nI_le z (by omega)) hk)⟩
  · have z2 : i < t.2.2 := Nat.lt_of_not_le z
    obtain ⟨p, hp, ep, tp⟩ := h.1.2.1 i z2
    obtain ⟨s', ⟨a, b, c⟩, e⟩ := mr_xc144 (cf := cf) (la := la) (oc := oc) (sc := sc) (mc := mc) (g1 := g1) (g2 := g2) (op := op) (ns := ns) (ab := ab) (sr := sr) (cl := cl) (du := du) (ke := ke) (de := de) hW i p hp t z2 ep h.1
    refine Or.inr ⟨s', ⟨a, mr_Gr_t h.2.1 b, fun i' q hi' hi2 hq eq j hj => ?_⟩, fun post n h2 => br_f (nI_ge (b := 16) hi (by decide)) (br_f (nI_ge z2 (by omega)) ⟨4, e (post, wX_collect_128 post n) 4 (by omega) h2⟩)⟩
    by_cases ei : i' = i
    · subst ei
      rw [b.2.2 i' z2, ep] at eq
      cases (nI_eq (by omega) (by omega)).mp eq
      exact c j hj
    · rw [b.2.2 i' (by omega)] at eq
      exact mr_Mk_g (h.2.2 i' q (by omega) (by omega) hq eq j hj) b
theorem mr_xcollect {F : Nat} (hF : F ≤ 10) (hB : mr_B F d de) (hd : ∀ g, g < F → d g ≤ 6) (hW : mr_XW gl lo st fi F d) : ∃ (tk' fo' : Nat → Int32), mr_Is tk' (mr_rX gl lo st F d) (mr_eX fi) ∧ ∀ post : SX → Prop, post (nI (mr_cn tk' 16), cf, nI F, la, oc, sc, mc, g1, g2, op, ns, ab, sr, gl, cl, fi, tk', fo', du, de, lo, st, ke) → wpX_collect post (tc, cf, nI F, la, oc, sc, mc, g1, g2, op, ns, ab, sr, gl, cl, fi, tk, fo, du, de, lo, st, ke) := by
  obtain ⟨tk0, h0, e0⟩ := mr_xc7 (fc := nI F) (tk := tk) (fo := fo) (gl := gl) (fi := fi) (lo := lo) (st := st) (de := de) (la := la) (oc := oc) (sc := sc) (mc := mc) (g1 := g1) (g2 := g2) (op := op) (ns := ns) (ab := ab) (sr := sr) (cl := cl) (du := du) (ke := ke) cf
  obtain ⟨s1, ⟨a1, b1⟩, e1⟩ := mr_xc28 (de := de) (cf := cf) (la := la) (oc := oc) (sc := sc) (mc := mc) (g1 := g1) (g2 := g2) (op := op) (ns := ns) (ab := ab) (sr := sr) (cl := cl) (du := du) (ke := ke) hF hW (tk0, fo, 0) (mr_WI_0 _ _ tk0 fo h0)
  obtain ⟨s2, ⟨a2, g2', b2⟩, e2⟩ := mr_xc51 (de := de) (cf := cf) (la := la) (oc := oc) (sc := sc) (mc := mc) (g1 := g1) (g2 := g2) (op := op) (ns := ns) (ab := ab) (sr := sr) (cl := cl) (du := du) (ke := ke) hF hW s1 a1
  obtain ⟨s3, ⟨a3, g3, b3⟩, e3⟩ := mr_xc79 (cf := cf) (la := la) (oc := oc) (sc := sc) (mc := mc) (g1 := g1) (g2 := g2) (op := op) (ns := ns) (ab := ab) (sr := sr) (cl := cl) (du := du) (ke := ke) hF hB hd hW s2 a2
  obtain ⟨s4, ⟨a4, g4, b4⟩, e4⟩ := mr_xc128 (de := de) (cf := cf) (la := la) (oc := oc) (sc := sc) (mc := mc) (g1 := g1) (g2 := g2) (op := op) (ns := ns) (ab := ab) (sr := sr) (cl := cl) (du := du) (ke := ke) hW s3 a3 (fun g hg => mr_Mk_g (mr_Mk_g (b1 g hg) g2') g3) (fun k hk => mr_Mk_g (b2 k hk) g3) b3
  refine ⟨s4.1, s4.2.1, mr_WI_end a4 (fun g hg => mr_Mk_g (mr_Mk_g (mr_Mk_g (b1 g hg) g2') g3) g4) (fun k hk => mr_Mk_g (mr_Mk_g (b2 k hk) g3) g4) (fun g k hg hk => mr_Mk_g (b3 g k hg hk) g4) b4, fun post hp => ?_⟩
  rw [← a4.1] at hp
  exact ⟨17, e0 post 17 (by omega) ⟨5, e1 post 5 (by omega) ⟨4 * F + 1, e2 post (4 * F + 1) (by omega) ⟨F + 1, e3 post (F + 1) (by omega) ⟨17, e4 post 17 (by omega) hp⟩⟩⟩⟩⟩
theorem mr_xfull {F m : Nat} (hF : F ≤ 10) (hm : m ≤ 16) (hB : mr_B F d de) (hd : ∀ g, g < F → d g ≤ 6) (hW : mr_XW gl lo st fi F d) (hL : ∀ x, x < 16 → mr_L (mr_rX gl lo st F d) (mr_eX fi) x → tk x ≠ 0) : ∃ (tk' fo' : Nat → Int32), (∀ x, x < 16 → mr_L (mr_rX gl lo st F d) (mr_eX fi) x → tk' x ≠ 0) ∧ (mr_cn tk' 16 = 16 → mr_Is tk' (mr_rX gl lo st F d) (mr_eX fi)) ∧ ∀ post : Int32 → SX → Prop, (mr_cn tk' 16 < 16 → post 0 (nI (mr_cn tk' 16), nI m, nI F, la, oc, sc, mc, g1, g2, op, ns, ab, sr, gl, cl, fi, tk', fo', du, de, lo, st, ke)) → (mr_cn tk' 16 = 16 → post 1 (nI (mr_cn tk' 16), nI m, nI F, la, oc, sc, mc, g1, g2, op, ns, ab, sr, gl, cl, fi, tk', fo', du, de, lo, st, ke)) → wpX_isMemoryFull post (nI (mr_cn tk 16), nI m, nI F, la, oc, sc, mc, g1, g2, op, ns, ab, sr, gl, cl, fi, tk, fo, du, de, lo, st, ke) := by
  have h15 : ∀ (tk fo : Nat → Int32) (post : Int32 → SX → Prop), (mr_cn tk 16 < 16 → post 0 (nI (mr_cn tk 16), nI m, nI F, la, oc, sc, mc, g1, g2, op, ns, ab, sr, gl, cl, fi, tk, fo, du, de, lo, st, ke)) → (mr_cn tk 16 = 16 → post 1 (nI (mr_cn tk 16), nI m, nI F, la, oc, sc, mc, g1, g2, op, ns, ab, sr, gl, cl, fi, tk, fo, du, de, lo, st, ke)) → wX_isMemoryFull_15 post (nI (mr_cn tk 16)) (nI m) (nI F) la oc sc mc g1 g2 op ns ab sr gl cl fi tk fo du de lo st ke := fun tk fo post p q => by
    have := mr_cn_le tk 16
    unfold wX_isMemoryFull_15
    exact pk_lt (mr_cn tk 16) 16 p (fun z => q (by omega))
  have hc := mr_cn_le tk 16
  by_cases z : mr_cn tk 16 < m
  · refine ⟨tk, fo, hL, fun y => by omega, fun post p q => ?_⟩
    unfold wpX_isMemoryFull
    dsimp only
    exact br_t (nI_lt z (by omega)) (h15 tk fo post p q)
  · obtain ⟨tk', fo', a, e⟩ := mr_xcollect (tc := nI (mr_cn tk 16)) (tk := tk) (fo := fo) (cf := nI m) (la := la) (oc := oc) (sc := sc) (mc := mc) (g1 := g1) (g2 := g2) (op := op) (ns := ns) (ab := ab) (sr := sr) (cl := cl) (du := du) (ke := ke) hF hB hd hW
    refine ⟨tk', fo', fun x hx y => (a x hx).mpr y, fun _ => a, fun post p q => ?_⟩
    unfold wpX_isMemoryFull
    dsimp only
    exact br_f (nI_nlt (by omega) (by omega)) (e _ (h15 tk' fo' post p q))
end
