/-! the relation while a run goes on; heads of Y's work for the other instructions -/
def mr_H (R : Nat → Nat → Prop) (f : Nat) (d : Nat → Nat) (tc cf : Int32) (op ns ab sr : Nat → Int32) (gl : Nat → Int64) (cl : Nat → Int32) (fi : Nat → Int64) (tk de : Nat → Int32) (lo st : Nat → Int64) (gs gv kd fs fv ls lv ss sv he : Nat → Int32) : Prop :=
  f < 10 ∧ mr_CD op ns ab sr ∧ mr_B (f + 1) d de ∧ mr_B (f + 1) d he ∧ mr_DB f d ∧ mr_RV R (f + 1) d gl lo st gs gv ls lv ss sv ∧ mr_HV R cl fi tk kd fs fv ∧ tc = nI (mr_cn tk 16) ∧ ∃ m : Nat, m ≤ 16 ∧ cf = nI m
/-- between two calls -/
def mr_E (R : Nat → Nat → Prop) (tc cf : Int32) (op ns ab sr : Nat → Int32) (gl : Nat → Int64) (cl : Nat → Int32) (fi : Nat → Int64) (tk gs gv kd fs fv : Nat → Int32) : Prop :=
  mr_CD op ns ab sr ∧ (∀ g, g < 4 → mr_V R (gl g) (gs g) (gv g)) ∧ mr_HV R cl fi tk kd fs fv ∧ tc = nI (mr_cn tk 16) ∧ ∃ m : Nat, m ≤ 16 ∧ cf = nI m
/-- a run goes on: S steps, at most P ints out -/
def mr_Md (S : Int32) (P : Nat) (u : SX) (v : SY) : Prop :=
  ∃ (R : Nat → Nat → Prop) (f : Nat) (d : Nat → Nat) (p : Nat) (tc cf mc g1 g2 en : Int32) (op ns ab sr cl tk fo du de ke gs gv kd fs fv ls lv ss sv he nd : Nat → Int32) (gl fi lo st : Nat → Int64), p ≤ P ∧ u = (tc, cf, nI (f + 1), nI f, nI p, S, mc, g1, g2, op, ns, ab, sr, gl, cl, fi, tk, fo, du, de, lo, st, ke) ∧ v = (nI (f + 1), g1, g2, S, mc, nI p, 0, en, op, ns, ab, sr, gs, gv, kd, fs, fv, ls, lv, ss, sv, he, du, nd, ke) ∧ mr_H R f d tc cf op ns ab sr gl cl fi tk de lo st gs gv kd fs fv ls lv ss sv he
/-- a run has ended with r -/
def mr_En (r : Int32) (u : SX) (v : SY) : Prop :=
  ∃ (R : Nat → Nat → Prop) (tc cf fc la oc sc mc g1 g2 fr : Int32) (op ns ab sr cl tk fo du de ke gs gv kd fs fv ls lv ss sv he nd : Nat → Int32) (gl fi lo st : Nat → Int64), u = (tc, cf, fc, la, oc, sc, mc, g1, g2, op, ns, ab, sr, gl, cl, fi, tk, fo, du, de, lo, st, ke) ∧ v = (fr, g1, g2, sc, mc, oc, 1, r, op, ns, ab, sr, gs, gv, kd, fs, fv, ls, lv, ss, sv, he, du, nd, ke) ∧ mr_E R tc cf op ns ab sr gl cl fi tk gs gv kd fs fv
section
variable {tc cf fc la oc sc mc g1 g2 fr ov en : Int32} {op ns ab sr cl tk fo du de ke gs gv kd fs fv ls lv ss sv he nd : Nat → Int32} {gl fi lo st : Nat → Int64} {R : Nat → Nat → Prop} {f : Nat} {d : Nat → Nat}
theorem mr_mkM {S : Int32} {p P : Nat} (hp : p ≤ P) (H : mr_H R f d tc cf op ns ab sr gl cl fi tk de lo st gs gv kd fs fv ls lv ss sv he) : mr_Md S P (tc, cf, nI (f + 1), nI f, nI p, S, mc, g1, g2, op, ns, ab, sr, gl, cl, fi, tk, fo, du, de, lo, st, ke) (nI (f + 1), g1, g2, S, mc, nI p, 0, en, op, ns, ab, sr, gs, gv, kd, fs, fv, ls, lv, ss, sv, he, du, nd, ke) :=
  ⟨R, f, d, p, tc, cf, mc, g1, g2, en, op, ns, ab, sr, cl, tk, fo, du, de, ke, gs, gv, kd, fs, fv, ls, lv, ss, sv, he, nd, gl, fi, lo, st, hp, rfl, rfl, H⟩
theorem mr_mkE {r : Int32} (H : mr_E R tc cf op ns ab sr gl cl fi tk gs gv kd fs fv) : mr_En r (tc, cf, fc, la, oc, sc, mc, g1, g2, op, ns, ab, sr, gl, cl, fi, tk, fo, du, de, lo, st, ke) (fr, g1, g2, sc, mc, oc, 1, r, op, ns, ab, sr, gs, gv, kd, fs, fv, ls, lv, ss, sv, he, du, nd, ke) :=
  ⟨R, tc, cf, fc, la, oc, sc, mc, g1, g2, fr, op, ns, ab, sr, cl, tk, fo, du, de, ke, gs, gv, kd, fs, fv, ls, lv, ss, sv, he, nd, gl, fi, lo, st, rfl, rfl, H⟩
theorem mr_HE (H : mr_H R f d tc cf op ns ab sr gl cl fi tk de lo st gs gv kd fs fv ls lv ss sv he) : mr_E R tc cf op ns ab sr gl cl fi tk gs gv kd fs fv := ⟨H.2.1, H.2.2.2.2.2.1.1, H.2.2.2.2.2.2.1, H.2.2.2.2.2.2.2.1, H.2.2.2.2.2.2.2.2⟩
theorem mr_yw0 {i s : Nat} {v' : SY} (hf : f < 10) (hi : i < 60) (ei : du f = nI i) (eo : op i = nI 0) (L : ∀ Q : SY → Prop, Q v' → wpY_stop Q (nI (f + 1), g1, g2, nI (s + 1), mc, oc, 0, en, op, ns, ab, sr, gs, gv, kd, fs, fv, ls, lv, ss, sv, he, upd du f (nI (i + 1)), nd, ke) 0) (post : SY → Prop) (h : post v') : wpY_work post (nI (f + 1), g1, g2, nI s, mc, oc, 0, en, op, ns, ab, sr, gs, gv, kd, fs, fv, ls, lv, ss, sv, he, du, nd, ke) := by
  obtain ⟨fr', g1', g2', sc', mc', oc', ov', en', op', ns', ab', sr', gs', gv', kd', fs', fv', ls', lv', ss', sv', he', du', nd', ke'⟩ := v'
  have i1 : vp_in (nI f) 10 := vp_in_nI hf (by decide)
  have i2 : (nI f).toNatClampNeg = f := nI_clamp (by omega)
  have i3 : vp_in (nI i) 60 := vp_in_nI hi (by decide)
  have i4 : (nI i).toNatClampNeg = i := nI_clamp (by omega)
  unfold wpY_work
  dsimp only
  rw [nI_pred f, i2, ei, nI_1 s, nI_1 i]
  refine ⟨i1, nm_e ?_⟩
  rw [i4]
  exact ⟨i3, nm_r eo ⟨i1, i1, nm_e (nm_e (br_t rfl (L _ h)))⟩⟩
theorem mr_yw15 {i s : Nat} {n : Int32} {v' : SY} (hf : f < 10) (hi : i < 60) (ei : du f = nI i) (eo : op i = nI 15) (en'' : ns i = n) (L : ∀ Q : SY → Prop, Q v' → wpY_make Q (nI (f + 1), g1, g2, nI (s + 1), mc, oc, 0, en, op, ns, ab, sr, gs, gv, kd, fs, fv, ls, lv, ss, sv, he, upd du f (nI (i + 1)), nd, ke) n) (post : SY → Prop) (h : post v') : wpY_work post (nI (f + 1), g1, g2, nI s, mc, oc, 0, en, op, ns, ab, sr, gs, gv, kd, fs, fv, ls, lv, ss, sv, he, du, nd, ke) := by
  obtain ⟨fr', g1', g2', sc', mc', oc', ov', en', op', ns', ab', sr', gs', gv', kd', fs', fv', ls', lv', ss', sv', he', du', nd', ke'⟩ := v'
  have i1 : vp_in (nI f) 10 := vp_in_nI hf (by decide)
  have i2 : (nI f).toNatClampNeg = f := nI_clamp (by omega)
  have i3 : vp_in (nI i) 60 := vp_in_nI hi (by decide)
  have i4 : (nI i).toNatClampNeg = i := nI_clamp (by omega)
  unfold wpY_work
  dsimp only
  rw [nI_pred f, i2, ei, nI_1 s, nI_1 i]
  refine ⟨i1, nm_e ?_⟩
  rw [i4, en'']
  exact ⟨i3, nm_r eo ⟨i1, i1, nm_e (nm_e (br_f (by decide) (br_f (by decide) (br_t rfl ⟨i3, L _ h⟩))))⟩⟩
theorem mr_yw19 {i s : Nat} {n : Int32} {v' : SY} (hf : f < 10) (hi : i < 60) (ei : du f = nI i) (eo : op i = nI 19) (en'' : ns i = n) (L : ∀ Q : SY → Prop, Q v' → wpY_call Q (nI (f + 1), g1, g2, nI (s + 1), mc, oc, 0, en, op, ns, ab, sr, gs, gv, kd, fs, fv, ls, lv, ss, sv, he, upd du f (nI (i + 1)), nd, ke) n) (post : SY → Prop) (h : post v') : wpY_work post (nI (f + 1), g1, g2, nI s, mc, oc, 0, en, op, ns, ab, sr, gs, gv, kd, fs, fv, ls, lv, ss, sv, he, du, nd, ke) := by
  obtain ⟨fr', g1', g2', sc', mc', oc', ov', en', op', ns', ab', sr', gs', gv', kd', fs', fv', ls', lv', ss', sv', he', du', nd', ke'⟩ := v'
  have i1 : vp_in (nI f) 10 := vp_in_nI hf (by decide)
  have i2 : (nI f).toNatClampNeg = f := nI_clamp (by omega)
  have i3 : vp_in (nI i) 60 := vp_in_nI hi (by decide)
  have i4 : (nI i).toNatClampNeg = i := nI_clamp (by omega)
  unfold wpY_work
  dsimp only
  rw [nI_pred f, i2, ei, nI_1 s, nI_1 i]
  refine ⟨i1, nm_e ?_⟩
  rw [i4, en'']
  exact ⟨i3, nm_r eo ⟨i1, i1, nm_e (nm_e (br_f (by decide) (br_f (by decide) (br_f (by decide) (br_t rfl ⟨i3, L _ h⟩)))))⟩⟩
theorem mr_yw20 {i s : Nat} {v' : SY} (hf : f < 10) (hi : i < 60) (ei : du f = nI i) (eo : op i = nI 20) (L : ∀ Q : SY → Prop, Q v' → wpY_leave Q (nI (f + 1), g1, g2, nI (s + 1), mc, oc, 0, en, op, ns, ab, sr, gs, gv, kd, fs, fv, ls, lv, ss, sv, he, upd du f (nI (i + 1)), nd, ke)) (post : SY → Prop) (h : post v') : wpY_work post (nI (f + 1), g1, g2, nI s, mc, oc, 0, en, op, ns, ab, sr, gs, gv, kd, fs, fv, ls, lv, ss, sv, he, du, nd, ke) := by
  obtain ⟨fr', g1', g2', sc', mc', oc', ov', en', op', ns', ab', sr', gs', gv', kd', fs', fv', ls', lv', ss', sv', he', du', nd', ke'⟩ := v'
  have i1 : vp_in (nI f) 10 := vp_in_nI hf (by decide)
  have i2 : (nI f).toNatClampNeg = f := nI_clamp (by omega)
  have i3 : vp_in (nI i) 60 := vp_in_nI hi (by decide)
  have i4 : (nI i).toNatClampNeg = i := nI_clamp (by omega)
  unfold wpY_work
  dsimp only
  rw [nI_pred f, i2, ei, nI_1 s, nI_1 i]
  refine ⟨i1, nm_e ?_⟩
  rw [i4]
  exact ⟨i3, nm_r eo ⟨i1, i1, nm_e (nm_e (br_f (by decide) (br_f (by decide) (br_f (by decide) (br_f (by decide) (br_t rfl (L _ h)))))))⟩⟩
theorem mr_yw13 {i s : Nat} {n : Int32} (hf : f < 10) (hi : i < 60) (ei : du f = nI i) (eo : op i = nI 13) (en'' : ns i = n) (post : SY → Prop) (h : post (nI (f + 1), g1, g2, nI (s + 1), mc, oc, 0, en, op, ns, ab, sr, gs, gv, kd, fs, fv, ls, lv, ss, sv, he, upd (upd du f (nI (i + 1))) f n, nd, ke)) : wpY_work post (nI (f + 1), g1, g2, nI s, mc, oc, 0, en, op, ns, ab, sr, gs, gv, kd, fs, fv, ls, lv, ss, sv, he, du, nd, ke) := by
  have i1 : vp_in (nI f) 10 := vp_in_nI hf (by decide)
  have i2 : (nI f).toNatClampNeg = f := nI_clamp (by omega)
  have i3 : vp_in (nI i) 60 := vp_in_nI hi (by decide)
  have i4 : (nI i).toNatClampNeg = i := nI_clamp (by omega)
  unfold wpY_work
  dsimp only
  rw [nI_pred f, i2, ei, nI_1 s, nI_1 i]
  refine ⟨i1, nm_e ?_⟩
  rw [i4, en'']
  exact ⟨i3, nm_r eo ⟨i1, i1, nm_e (nm_e (br_f (by decide) (br_t rfl ⟨i3, i1, nm_e h⟩)))⟩⟩
end
