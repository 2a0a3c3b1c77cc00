/-! the run: both loops end alike -/
def mr_Rl (u : SX) (v : SY) : Prop :=
  ∃ (R : Nat → Nat → Prop) (tc cf la oc sc mc g1 g2 ov en : Int32) (op ns ab sr cl tk fo du de ke gs gv kd fs fv ls lv ss sv he nd : Nat → Int32) (gl fi lo st : Nat → Int64), u = (tc, cf, 0, la, oc, sc, mc, g1, g2, op, ns, ab, sr, gl, cl, fi, tk, fo, du, de, lo, st, ke) ∧ v = (0, g1, g2, sc, mc, oc, ov, en, op, ns, ab, sr, gs, gv, kd, fs, fv, ls, lv, ss, sv, he, du, nd, ke) ∧ mr_E R tc cf op ns ab sr gl cl fi tk gs gv kd fs fv
def mr_RX (post : Int32 → SX → Prop) (n : Nat) (x5 x6 : Int32) (u : SX) : Prop := match u with
  | (tc, cf, fc, la, oc, sc, mc, g1, g2, op, ns, ab, sr, gl, cl, fi, tk, fo, du, de, lo, st, ke) => wX_run_43 post n x5 x6 tc cf fc la oc sc mc g1 g2 op ns ab sr gl cl fi tk fo du de lo st ke
def mr_RY (post : Int32 → SY → Prop) (n : Nat) (x3 : Int32) (v : SY) : Prop := match v with
  | (fr, g1, g2, sc, mc, oc, ov, en, op, ns, ab, sr, gs, gv, kd, fs, fv, ls, lv, ss, sv, he, du, nd, ke) => wY_run_44 post n x3 fr g1 g2 sc mc oc ov en op ns ab sr gs gv kd fs fv ls lv ss sv he du nd ke
theorem mr_loop : ∀ (m s : Nat) (u : SX) (v : SY), s + m = 300 → mr_Md (nI s) s u v → ∃ (r : Int32) (uE : SX) (vE : SY), mr_Rl uE vE ∧ (∀ post : Int32 → SX → Prop, post r uE → mr_RX post (m + 2) (-1) (nI s) u) ∧ (∀ post : Int32 → SY → Prop, post r vE → mr_RY post (m + 2) (nI s) v) := by
  intro m
  induction m with
  | zero =>
    intro s u v hs hM
    obtain ⟨R, f, d, p, tc, cf, mc, g1, g2, en, op, ns, ab, sr, cl, tk, fo, du, de, ke, gs, gv, kd, fs, fv, ls, lv, ss, sv, he, nd, gl, fi, lo, st, hp, rfl, rfl, H⟩ := hM
    have s3 : s = 300 := hs
    have n300 : ¬ (300 : Int32) < nI s := nI_nlt (a := 300) (by omega) (by decide)
    have n302 : ¬ (302 : Int32) ≤ nI s := nI_ge (b := 302) (by omega) (by decide)
    obtain ⟨r, u', v', hX, hY, hO⟩ := mr_step (mc := mc) (g1 := g1) (g2 := g2) (en := en) (fo := fo) (du := du) (ke := ke) (nd := nd) H (by omega) hp
    rcases hO with ⟨_, h2, _⟩ | ⟨hr, hE⟩
    · omega
    · obtain ⟨R2, tc2, cf2, fc2, la2, oc2, sc2, mc2, g12, g22, fr2, op2, ns2, ab2, sr2, cl2, tk2, fo2, du2, de2, ke2, gs2, gv2, kd2, fs2, fv2, ls2, lv2, ss2, sv2, he2, nd2, gl2, fi2, lo2, st2, rfl, rfl, HE⟩ := hE
      refine ⟨r, _, _, ⟨R2, tc2, cf2, la2, oc2, sc2, mc2, g12, g22, 1, r, op2, ns2, ab2, sr2, cl2, tk2, fo2, du2, de2, ke2, gs2, gv2, kd2, fs2, fv2, ls2, lv2, ss2, sv2, he2, nd2, gl2, fi2, lo2, st2, rfl, rfl, HE⟩, fun post h => ?_, fun post h => ?_⟩
      · exact br_f n300 (br_t rfl (hX _ (nm_r (nI_1 s) (br_c (fun _ => h) (fun _ => br_f hr h)))))
      · rcases hY with hA | ⟨v1, hc, hw⟩
        · exact br_f n302 (br_t rfl (hA _ (br_t rfl (nm_r (nI_1 s) (br_c (fun _ => h) (fun _ => br_f (by decide) h))))))
        · obtain ⟨fr3, g13, g23, sc3, mc3, oc3, ov3, en3, op3, ns3, ab3, sr3, gs3, gv3, kd3, fs3, fv3, ls3, lv3, ss3, sv3, he3, du3, nd3, ke3⟩ := v1
          exact br_f n302 (br_t rfl (hc _ (br_f (by decide) (hw _ (nm_r (nI_1 s) (br_c (fun _ => h) (fun _ => br_f (by decide) h)))))))
  | succ m ih =>
    intro s u v hs hM
    obtain ⟨R, f, d, p, tc, cf, mc, g1, g2, en, op, ns, ab, sr, cl, tk, fo, du, de, ke, gs, gv, kd, fs, fv, ls, lv, ss, sv, he, nd, gl, fi, lo, st, hp, rfl, rfl, H⟩ := hM
    have n300 : ¬ (300 : Int32) < nI s := nI_nlt (a := 300) (by omega) (by decide)
    have n302 : ¬ (302 : Int32) ≤ nI s := nI_ge (b := 302) (by omega) (by decide)
    obtain ⟨r, u', v', hX, hY, hO⟩ := mr_step (mc := mc) (g1 := g1) (g2 := g2) (en := en) (fo := fo) (du := du) (ke := ke) (nd := nd) H (by omega) hp
    rcases hO with ⟨rfl, h2, hM⟩ | ⟨hr, hE⟩
    · obtain ⟨r', uE, vE, hR, hX', hY'⟩ := ih (s + 1) u' v' (by omega) hM
      obtain ⟨R1, f1, d1, p1, tc1, cf1, mc1, g11, g21, en1, op1, ns1, ab1, sr1, cl1, tk1, fo1, du1, de1, ke1, gs1, gv1, kd1, fs1, fv1, ls1, lv1, ss1, sv1, he1, nd1, gl1, fi1, lo1, st1, hp1, rfl, rfl, H1⟩ := hM
      refine ⟨r', uE, vE, hR, fun post h => ?_, fun post h => ?_⟩
      · exact br_f n300 (br_t rfl (hX _ (nm_r (nI_1 s) (hX' post h))))
      · rcases hY with hA | ⟨v1, hc, hw⟩
        · exact br_f n302 (br_t rfl (hA _ (br_t rfl (nm_r (nI_1 s) (hY' post h)))))
        · obtain ⟨fr3, g13, g23, sc3, mc3, oc3, ov3, en3, op3, ns3, ab3, sr3, gs3, gv3, kd3, fs3, fv3, ls3, lv3, ss3, sv3, he3, du3, nd3, ke3⟩ := v1
          exact br_f n302 (br_t rfl (hc _ (br_f (by decide) (hw _ (nm_r (nI_1 s) (hY' post h))))))
    · obtain ⟨R2, tc2, cf2, fc2, la2, oc2, sc2, mc2, g12, g22, fr2, op2, ns2, ab2, sr2, cl2, tk2, fo2, du2, de2, ke2, gs2, gv2, kd2, fs2, fv2, ls2, lv2, ss2, sv2, he2, nd2, gl2, fi2, lo2, st2, rfl, rfl, HE⟩ := hE
      refine ⟨r, _, _, ⟨R2, tc2, cf2, la2, oc2, sc2, mc2, g12, g22, 1, r, op2, ns2, ab2, sr2, cl2, tk2, fo2, du2, de2, ke2, gs2, gv2, kd2, fs2, fv2, ls2, lv2, ss2, sv2, he2, nd2, gl2, fi2, lo2, st2, rfl, rfl, HE⟩, fun post h => ?_, fun post h => ?_⟩
      · exact br_f n300 (br_t rfl (hX _ (nm_r (nI_1 s) (br_c (fun _ => h) (fun _ => br_f hr h)))))
      · rcases hY with hA | ⟨v1, hc, hw⟩
        · exact br_f n302 (br_t rfl (hA _ (br_t rfl (nm_r (nI_1 s) (br_c (fun _ => h) (fun _ => br_f (by decide) h))))))
        · obtain ⟨fr3, g13, g23, sc3, mc3, oc3, ov3, en3, op3, ns3, ab3, sr3, gs3, gv3, kd3, fs3, fv3, ls3, lv3, ss3, sv3, he3, du3, nd3, ke3⟩ := v1
          exact br_f n302 (br_t rfl (hc _ (br_f (by decide) (hw _ (nm_r (nI_1 s) (br_c (fun _ => h) (fun _ => br_f (by decide) h)))))))
section
variable {tc cf fc la oc sc mc g1 g2 fr ov en : Int32} {op ns ab sr cl tk fo du de ke gs gv kd fs fv ls lv ss sv he nd : Nat → Int32} {gl fi lo st : Nat → Int64} {R : Nat → Nat → Prop} {f : Nat} {d : Nat → Nat}
theorem mr_run (a b : Int32) (H : mr_E R tc cf op ns ab sr gl cl fi tk gs gv kd fs fv) : ∃ (r : Int32) (uE : SX) (vE : SY), mr_Rl uE vE ∧ (∀ post : Int32 → SX → Prop, post r uE → wpX_run post (tc, cf, 0, la, oc, sc, mc, g1, g2, op, ns, ab, sr, gl, cl, fi, tk, fo, du, de, lo, st, ke) a b) ∧ (∀ post : Int32 → SY → Prop, post r vE → wpY_run post (0, g1, g2, sc, mc, oc, ov, en, op, ns, ab, sr, gs, gv, kd, fs, fv, ls, lv, ss, sv, he, du, nd, ke) a b) := by
  obtain ⟨hcd, hg, hhv, htc, hcf⟩ := H
  obtain ⟨ls', ⟨l0, l1, l2, l3, l4⟩, eY⟩ := mr_yenter (F := 0) (a := a) (s := 1) (w := b) (g1 := 0) (g2 := 0) (sc := 0) (mc := 0) (oc := 0) (ov := 0) (en := en) (op := op) (ns := ns) (ab := ab) (sr := sr) (gs := gs) (gv := gv) (kd := kd) (fs := fs) (fv := fv) (ls := ls) (lv := lv) (ss := ss) (sv := sv) (he := he) (du := du) (nd := nd) (ke := ke) (by omega)
  have hrv0 : mr_RV R 0 (fun _ => 0) gl lo st gs gv ls lv ss sv := ⟨hg, fun k hk => by omega, fun f i hf => by omega⟩
  have hM : mr_Md (nI 0) 0 (tc, cf, nI (0 + 1), nI 0, nI 0, nI 0, 0, 0, 0, op, ns, ab, sr, gl, cl, fi, tk, fo, upd du 0 a, upd de 0 (nI 0), vp_updL (vp_updL (vp_updL (vp_updL lo (4 * 0) 0) (4 * 0 + 1) (mr_I b)) (4 * 0 + 2) 0) (4 * 0 + 3) 0, st, ke) (nI (0 + 1), 0, 0, nI 0, 0, nI 0, 0, en, op, ns, ab, sr, gs, gv, kd, fs, fv, ls', upd lv (4 * 0 + 1) b, ss, sv, upd he 0 (nI 0), upd du 0 a, nd, ke) := by
    refine mr_mkM (R := R) (f := 0) (d := mr_ud (fun _ => 0) 0 0) (p := 0) (by omega) ?_
    refine ⟨by omega, hcd, mr_B_n (F := 0) (fun g hg => by omega), mr_B_n (F := 0) (fun g hg => by omega), ⟨by rw [mr_ud_s]; omega, fun g hg => by omega⟩, mr_RVenter (F := 0) hrv0 (fun j hj => by omega) (fun j hj => by omega) (fun j hj => by omega) (fun i hi => ?_), hhv, htc, hcf⟩
    have hi4 : i = 0 ∨ i = 1 ∨ i = 2 ∨ i = 3 := by omega
    rcases hi4 with rfl | rfl | rfl | rfl
    · rw [pk_uLn (by omega), pk_uLn (by omega), pk_uLn (by omega), Nat.add_zero (4 * 0), pk_uLs, l1]
      exact mr_V0
    · rw [pk_uLn (by omega), pk_uLn (by omega), pk_uLs, pk_us, l2]
      exact mr_VI
    · rw [pk_uLn (by omega), pk_uLs, l3]
      exact mr_V0
    · rw [pk_uLs, l4]
      exact mr_V0
  obtain ⟨r, uE, vE, hR, hX, hY⟩ := mr_loop 300 0 _ _ (by omega) hM
  refine ⟨r, uE, vE, hR, fun post h => ?_, fun post h => ?_⟩
  · unfold wpX_run
    dsimp only
    unfold wpX_intValue
    rw [mr_int]
    exact mr_xenter (F := 0) (by omega) ⟨302, hX post h⟩
  · unfold wpY_run
    dsimp only
    exact eY _ ⟨302, hY post h⟩
end
