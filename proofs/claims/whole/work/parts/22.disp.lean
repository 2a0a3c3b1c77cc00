/-! NEW; every other instruction but CALL, by its number -/
section
variable {tc cf fc la oc sc mc g1 g2 fr ov en : Int32} {op ns ab sr cl tk fo du de ke gs gv kd fs fv ls lv ss sv he nd : Nat → Int32} {gl fi lo st : Nat → Int64} {R : Nat → Nat → Prop} {f : Nat} {d : Nat → Nat}
theorem mr_o15 {p j : Nat} (H : mr_H R f d tc cf op ns ab sr gl cl fi tk de lo st gs gv kd fs fv ls lv ss sv he) (hk : d f < 6) (hj : j < 4) (hc : mr_cn tk 16 < 16) (hc' : mr_cn nd 16 < 16) (hq : ∀ q, q < 16 → nd q = 0 → ∀ x, ¬ R x q) : ∃ (u' : SX) (v' : SY), (∀ Q : Int32 → SX → Prop, Q (-1) u' → wpX_work Q (tc, cf, nI (f + 1), nI f, nI p, sc, mc, g1, g2, op, ns, ab, sr, gl, cl, fi, tk, fo, du, de, lo, st, ke) (nI 15) (nI j)) ∧ (∀ Q : SY → Prop, Q v' → wpY_make Q (nI (f + 1), g1, g2, sc, mc, nI p, 0, en, op, ns, ab, sr, gs, gv, kd, fs, fv, ls, lv, ss, sv, he, du, nd, ke) (nI j)) ∧ mr_Md sc (p + 1) u' v' := by
  obtain ⟨hf, hcd, hb, hb', hdb, hrv, hhv, htc, hcf⟩ := H
  subst htc
  have e := hb f (by omega)
  have e' := hb' f (by omega)
  obtain ⟨px, fi', hpx, tpx, x1, x2, eX⟩ := mr_xmake (c := nI j) (cf := cf) (fc := nI (f + 1)) (oc := nI p) (sc := sc) (mc := mc) (g1 := g1) (g2 := g2) (op := op) (ns := ns) (ab := ab) (sr := sr) (gl := gl) (cl := cl) (fi := fi) (tk := tk) (fo := fo) (du := du) (de := de) (lo := lo) (st := st) (ke := ke) hf hk e hc
  obtain ⟨q, fs', hq16, nq, y1, y2, eY⟩ := mr_ymake (c := nI j) (g1 := g1) (g2 := g2) (sc := sc) (mc := mc) (oc := nI p) (ov := 0) (en := en) (op := op) (ns := ns) (ab := ab) (sr := sr) (gs := gs) (gv := gv) (kd := kd) (fs := fs) (fv := fv) (ls := ls) (lv := lv) (ss := ss) (sv := sv) (he := he) (du := du) (nd := nd) (ke := ke) hf hk e' hc'
  apply mr_ex3
  · intro Q hQ
    unfold wpX_work
    dsimp only
    repeat (first | refine br_f (by decide) ?_ | refine br_t (by decide) ?_)
    exact eX _ hQ
  · intro Q hQ
    exact eY _ hQ
  · refine mr_mkM (R := mr_add R px q) (f := f) (d := mr_ud d f (d f + 1)) (p := p) (by omega) ?_
    try dsimp only
    exact ⟨hf, hcd, mr_B_u hb, mr_B_u hb', mr_DB_u hdb (by omega), mr_RVpush hdb (mr_addRV hrv) (Nat.le_refl _) (mr_VO hpx hq16 (Or.inr ⟨rfl, rfl⟩)), mr_addHV hhv hpx hq16 hj tpx (hq q hq16 nq) (fun x hx => pk_un hx) pk_us (fun y hy => pk_un hy) pk_us x1 x2 y1 y2 (fun x hx => mr_Up_u tk px x hx) (by rw [pk_us]; decide), congrArg nI (mr_cn_upd tk px 1 (by decide) tpx 16 hpx).symm, hcf⟩
theorem mr_finS {i o p s : Nat} (hf : f < 10) (hi : i < 60) (ei : du f = nI i) (eo : op i = nI o) (ho : o < 24) (h0 : o ≠ 0) (h13 : o ≠ 13) (h15 : o ≠ 15) (h19 : o ≠ 19) (h20 : o ≠ 20) (ht : mr_tk o ≠ 2) (h : ∃ (u' : SX) (v' : SY), (∀ Q : Int32 → SX → Prop, Q (-1) u' → wpX_work Q (tc, cf, nI (f + 1), nI f, nI p, nI (s + 1), mc, g1, g2, op, ns, ab, sr, gl, cl, fi, tk, fo, upd du f (nI (i + 1)), de, lo, st, ke) (nI o) (ns i)) ∧ (∀ Q : SY → Prop, Q v' → wpY_simple Q (nI (f + 1), g1, g2, nI (s + 1), mc, nI p, 0, en, op, ns, ab, sr, gs, gv, kd, fs, fv, ls, lv, ss, sv, he, upd du f (nI (i + 1)), nd, ke) (nI o) (ns i)) ∧ mr_Md (nI (s + 1)) (p + 1) u' v') : ∃ (r : Int32) (u' : SX) (v' : SY), (∀ Q : Int32 → SX → Prop, Q r u' → wpX_work Q (tc, cf, nI (f + 1), nI f, nI p, nI (s + 1), mc, g1, g2, op, ns, ab, sr, gl, cl, fi, tk, fo, upd du f (nI (i + 1)), de, lo, st, ke) (nI o) (ns i)) ∧ (∀ Q : SY → Prop, Q v' → wpY_work Q (nI (f + 1), g1, g2, nI s, mc, nI p, 0, en, op, ns, ab, sr, gs, gv, kd, fs, fv, ls, lv, ss, sv, he, du, nd, ke)) ∧ ((r = -1 ∧ mr_Md (nI (s + 1)) (p + 1) u' v') ∨ (r ≠ -1 ∧ mr_En r u' v')) := by
  obtain ⟨u', v', hX, hY, hM⟩ := h
  exact ⟨-1, u', v', hX, mr_ywS hf hi ei eo rfl ho h0 h13 h15 h19 h20 ht hY, Or.inl ⟨rfl, hM⟩⟩
theorem mr_finT {i o p s : Nat} (hf : f < 10) (hi : i < 60) (ei : du f = nI i) (eo : op i = nI o) (ho : o < 24) (h0 : o ≠ 0) (h13 : o ≠ 13) (h15 : o ≠ 15) (h19 : o ≠ 19) (h20 : o ≠ 20) (ht : mr_tk o = 2) (h : ∃ (u' : SX) (v' : SY), (∀ Q : Int32 → SX → Prop, Q (-1) u' → wpX_work Q (tc, cf, nI (f + 1), nI f, nI p, nI (s + 1), mc, g1, g2, op, ns, ab, sr, gl, cl, fi, tk, fo, upd du f (nI (i + 1)), de, lo, st, ke) (nI o) (ns i)) ∧ (∀ Q : SY → Prop, Q v' → wpY_two Q (nI (f + 1), g1, g2, nI (s + 1), mc, nI p, 0, en, op, ns, ab, sr, gs, gv, kd, fs, fv, ls, lv, ss, sv, he, upd du f (nI (i + 1)), nd, ke) (nI o) (ns i)) ∧ mr_Md (nI (s + 1)) (p + 1) u' v') : ∃ (r : Int32) (u' : SX) (v' : SY), (∀ Q : Int32 → SX → Prop, Q r u' → wpX_work Q (tc, cf, nI (f + 1), nI f, nI p, nI (s + 1), mc, g1, g2, op, ns, ab, sr, gl, cl, fi, tk, fo, upd du f (nI (i + 1)), de, lo, st, ke) (nI o) (ns i)) ∧ (∀ Q : SY → Prop, Q v' → wpY_work Q (nI (f + 1), g1, g2, nI s, mc, nI p, 0, en, op, ns, ab, sr, gs, gv, kd, fs, fv, ls, lv, ss, sv, he, du, nd, ke)) ∧ ((r = -1 ∧ mr_Md (nI (s + 1)) (p + 1) u' v') ∨ (r ≠ -1 ∧ mr_En r u' v')) := by
  obtain ⟨u', v', hX, hY, hM⟩ := h
  exact ⟨-1, u', v', hX, mr_ywT hf hi ei eo rfl ho h0 h13 h15 h19 h20 ht hY, Or.inl ⟨rfl, hM⟩⟩
theorem mr_disp {i p s : Nat} (H : mr_H R f d tc cf op ns ab sr gl cl fi tk de lo st gs gv kd fs fv ls lv ss sv he) (hi : i < 60) (ei : du f = nI i) (hp : p < 1000) (o : Nat) (ho : o < 24) (eo : op i = nI o) (hfit : mr_fit o (ns i)) (hnf : ¬ (d f < mr_tk o ∨ (d f = 6 ∧ mr_tk o < mr_lv o))) (hso : mr_so o (ss (6 * f + (d f - 1))) (ss (6 * f + (d f - 2)))) (h15 : o ≠ 15) (h19 : o ≠ 19) : ∃ (r : Int32) (u' : SX) (v' : SY), (∀ Q : Int32 → SX → Prop, Q r u' → wpX_work Q (tc, cf, nI (f + 1), nI f, nI p, nI (s + 1), mc, g1, g2, op, ns, ab, sr, gl, cl, fi, tk, fo, upd du f (nI (i + 1)), de, lo, st, ke) (nI o) (ns i)) ∧ (∀ Q : SY → Prop, Q v' → wpY_work Q (nI (f + 1), g1, g2, nI s, mc, nI p, 0, en, op, ns, ab, sr, gs, gv, kd, fs, fv, ls, lv, ss, sv, he, du, nd, ke)) ∧ ((r = -1 ∧ mr_Md (nI (s + 1)) (p + 1) u' v') ∨ (r ≠ -1 ∧ mr_En r u' v')) := by
  have hf := H.1
  have d6 := H.2.2.2.2.1.1
  revert eo hfit hnf hso h15 h19
  revert o
  apply mr_24
  · intro eo hfit hnf hso h15 h19
    exact ⟨0, _, _, fun Q hq => mr_x0 Q hq, fun Q hq => mr_yw0 hf hi ei eo (fun Q h => h) Q hq, Or.inr ⟨by decide, mr_mkE (mr_HE H)⟩⟩
  · intro eo hfit hnf hso h15 h19
    have h6 : d f < 6 := Nat.lt_of_le_of_ne d6 fun q => hnf (Or.inr ⟨q, by decide⟩)
    exact mr_finS hf hi ei eo (by decide) (by decide) (by decide) (by decide) (by decide) (by decide) (by decide) (mr_o1 H h6)
  · intro eo hfit hnf hso h15 h19
    have h6 : d f < 6 := Nat.lt_of_le_of_ne d6 fun q => hnf (Or.inr ⟨q, by decide⟩)
    exact mr_finS hf hi ei eo (by decide) (by decide) (by decide) (by decide) (by decide) (by decide) (by decide) (mr_o2 H h6)
  · intro eo hfit hnf hso h15 h19
    obtain ⟨j, hj, ej⟩ := hfit.1 (by decide)
    have h6 : d f < 6 := Nat.lt_of_le_of_ne d6 fun q => hnf (Or.inr ⟨q, by decide⟩)
    refine mr_finS hf hi ei eo (by decide) (by decide) (by decide) (by decide) (by decide) (by decide) (by decide) ?_
    rw [ej]
    exact mr_o3 H h6 hj
  · intro eo hfit hnf hso h15 h19
    obtain ⟨j, hj, ej⟩ := hfit.1 (by decide)
    have h1 : 1 ≤ d f := Nat.le_of_not_lt fun q => hnf (Or.inl q)
    refine mr_finS hf hi ei eo (by decide) (by decide) (by decide) (by decide) (by decide) (by decide) (by decide) ?_
    rw [ej]
    exact mr_o4 H (k := d f - 1) (by omega) hj
  · intro eo hfit hnf hso h15 h19
    have h1 : 1 ≤ d f := Nat.le_of_not_lt fun q => hnf (Or.inl q)
    exact mr_finS hf hi ei eo (by decide) (by decide) (by decide) (by decide) (by decide) (by decide) (by decide) (mr_o5 H (k := d f - 1) (by omega))
  · intro eo hfit hnf hso h15 h19
    have h1 : 1 ≤ d f := Nat.le_of_not_lt fun q => hnf (Or.inl q)
    have h6 : d f < 6 := Nat.lt_of_le_of_ne d6 fun q => hnf (Or.inr ⟨q, by decide⟩)
    exact mr_finS hf hi ei eo (by decide) (by decide) (by decide) (by decide) (by decide) (by decide) (by decide) (mr_o6 H (k := d f - 1) (by omega) (by omega))
  · intro eo hfit hnf hso h15 h19
    have h1 : 2 ≤ d f := Nat.le_of_not_lt fun q => hnf (Or.inl q)
    have e21 : d f - 2 + 1 = d f - 1 := by omega
    exact mr_finT hf hi ei eo (by decide) (by decide) (by decide) (by decide) (by decide) (by decide) rfl (mr_o7 H (k := d f - 2) (by omega))
  · intro eo hfit hnf hso h15 h19
    have h1 : 2 ≤ d f := Nat.le_of_not_lt fun q => hnf (Or.inl q)
    have e21 : d f - 2 + 1 = d f - 1 := by omega
    exact mr_finT hf hi ei eo (by decide) (by decide) (by decide) (by decide) (by decide) (by decide) rfl (mr_o8 H (k := d f - 2) (by omega) (by rw [e21]; exact (hso.1 (by decide)).1) (hso.1 (by decide)).2)
  · intro eo hfit hnf hso h15 h19
    have h1 : 2 ≤ d f := Nat.le_of_not_lt fun q => hnf (Or.inl q)
    have e21 : d f - 2 + 1 = d f - 1 := by omega
    exact mr_finT hf hi ei eo (by decide) (by decide) (by decide) (by decide) (by decide) (by decide) rfl (mr_o9 H (k := d f - 2) (by omega) (by rw [e21]; exact (hso.1 (by decide)).1) (hso.1 (by decide)).2)
  · intro eo hfit hnf hso h15 h19
    have h1 : 2 ≤ d f := Nat.le_of_not_lt fun q => hnf (Or.inl q)
    have e21 : d f - 2 + 1 = d f - 1 := by omega
    exact mr_finT hf hi ei eo (by decide) (by decide) (by decide) (by decide) (by decide) (by decide) rfl (mr_o10 H (k := d f - 2) (by omega) (by rw [e21]; exact (hso.1 (by decide)).1) (hso.1 (by decide)).2)
  · intro eo hfit hnf hso h15 h19
    have h1 : 2 ≤ d f := Nat.le_of_not_lt fun q => hnf (Or.inl q)
    have e21 : d f - 2 + 1 = d f - 1 := by omega
    exact mr_finT hf hi ei eo (by decide) (by decide) (by decide) (by decide) (by decide) (by decide) rfl (mr_o11 H (k := d f - 2) (by omega) (by rw [e21]; exact (hso.1 (by decide)).1) (hso.1 (by decide)).2)
  · intro eo hfit hnf hso h15 h19
    have h1 : 2 ≤ d f := Nat.le_of_not_lt fun q => hnf (Or.inl q)
    have e21 : d f - 2 + 1 = d f - 1 := by omega
    exact mr_finT hf hi ei eo (by decide) (by decide) (by decide) (by decide) (by decide) (by decide) rfl (mr_o12 H (k := d f - 2) (by omega))
  · intro eo hfit hnf hso h15 h19
    exact ⟨-1, _, _, fun Q hq => mr_x13 hf Q hq, fun Q hq => mr_yw13 hf hi ei eo rfl Q hq, Or.inl ⟨rfl, mr_mkM (by omega) H⟩⟩
  · intro eo hfit hnf hso h15 h19
    have h1 : 1 ≤ d f := Nat.le_of_not_lt fun q => hnf (Or.inl q)
    exact mr_finS hf hi ei eo (by decide) (by decide) (by decide) (by decide) (by decide) (by decide) (by decide) (mr_o14 H (k := d f - 1) (by omega) (hso.2.1 (by decide)))
  · intro eo hfit hnf hso h15 h19
    exact absurd rfl h15
  · intro eo hfit hnf hso h15 h19
    obtain ⟨j, hj, ej⟩ := hfit.2 (by decide)
    have h1 : 1 ≤ d f := Nat.le_of_not_lt fun q => hnf (Or.inl q)
    refine mr_finS hf hi ei eo (by decide) (by decide) (by decide) (by decide) (by decide) (by decide) (by decide) ?_
    rw [ej]
    exact mr_o16 H (k := d f - 1) (by omega) (hso.2.2.1 rfl) hj
  · intro eo hfit hnf hso h15 h19
    obtain ⟨j, hj, ej⟩ := hfit.2 (by decide)
    have h1 : 2 ≤ d f := Nat.le_of_not_lt fun q => hnf (Or.inl q)
    have e21 : d f - 2 + 1 = d f - 1 := by omega
    refine mr_finT hf hi ei eo (by decide) (by decide) (by decide) (by decide) (by decide) (by decide) rfl ?_
    rw [ej]
    exact mr_o17 H (k := d f - 2) (by omega) (hso.2.2.2 (by decide)) hj
  · intro eo hfit hnf hso h15 h19
    obtain ⟨j, hj, ej⟩ := hfit.1 (by decide)
    have h1 : 1 ≤ d f := Nat.le_of_not_lt fun q => hnf (Or.inl q)
    refine mr_finS hf hi ei eo (by decide) (by decide) (by decide) (by decide) (by decide) (by decide) (by decide) ?_
    rw [ej]
    exact mr_o18 H (k := d f - 1) (by omega) hj
  · intro eo hfit hnf hso h15 h19
    exact absurd rfl h19
  · intro eo hfit hnf hso h15 h19
    have h1 : 1 ≤ d f := Nat.le_of_not_lt fun q => hnf (Or.inl q)
    by_cases f0 : f = 0
    · subst f0
      obtain ⟨u', v', hX, hY, hM⟩ := mr_o20a (p := p) (n := ns i) (mc := mc) (sc := nI (s + 1)) (g1 := g1) (g2 := g2) (fo := fo) (du := upd du 0 (nI (i + 1))) (ke := ke) (en := en) (nd := nd) H (k := d 0 - 1) (by omega)
      exact ⟨0, u', v', hX, mr_yw20 hf hi ei eo hY, Or.inr ⟨by decide, hM⟩⟩
    · obtain ⟨g, rfl⟩ : ∃ g, f = g + 1 := ⟨f - 1, by omega⟩
      obtain ⟨u', v', hX, hY, hM⟩ := mr_o20b (p := p) (n := ns i) (mc := mc) (sc := nI (s + 1)) (g1 := g1) (g2 := g2) (fo := fo) (du := upd du (g + 1) (nI (i + 1))) (ke := ke) (en := en) (nd := nd) H (k := d (g + 1) - 1) (by omega)
      exact ⟨-1, u', v', hX, mr_yw20 hf hi ei eo hY, Or.inl ⟨rfl, hM⟩⟩
  · intro eo hfit hnf hso h15 h19
    obtain ⟨j, hj, ej⟩ := hfit.1 (by decide)
    have h6 : d f < 6 := Nat.lt_of_le_of_ne d6 fun q => hnf (Or.inr ⟨q, by decide⟩)
    refine mr_finS hf hi ei eo (by decide) (by decide) (by decide) (by decide) (by decide) (by decide) (by decide) ?_
    rw [ej]
    exact mr_o21 H h6 hj
  · intro eo hfit hnf hso h15 h19
    obtain ⟨j, hj, ej⟩ := hfit.1 (by decide)
    have h1 : 1 ≤ d f := Nat.le_of_not_lt fun q => hnf (Or.inl q)
    refine mr_finS hf hi ei eo (by decide) (by decide) (by decide) (by decide) (by decide) (by decide) (by decide) ?_
    rw [ej]
    exact mr_o22 H (k := d f - 1) (by omega) hj
  · intro eo hfit hnf hso h15 h19
    have h1 : 1 ≤ d f := Nat.le_of_not_lt fun q => hnf (Or.inl q)
    exact mr_finS hf hi ei eo (by decide) (by decide) (by decide) (by decide) (by decide) (by decide) (by decide) (mr_o23 H (k := d f - 1) (by omega) (hso.2.1 (by decide)) hp)
end
