/-! JUMP, STOP, RETURN, CALL -/
section
variable {tc cf fc la oc sc mc g1 g2 fr ov en : Int32} {op ns ab sr cl tk fo du de ke gs gv kd fs fv ls lv ss sv he nd : Nat → Int32} {gl fi lo st : Nat → Int64} {R : Nat → Nat → Prop} {f : Nat} {d : Nat → Nat}
theorem mr_B_n {F k : Nat} (h : mr_B F d de) : mr_B (F + 1) (mr_ud d F k) (upd de F (nI k)) := fun g hg => by
  by_cases e : g = F
  · subst e; rw [pk_us, mr_ud_s]
  · rw [pk_un e, mr_ud_n e]; exact h g (by omega)
theorem mr_x13 {n : Int32} (hf : f < 10) (Q : Int32 → SX → Prop) (h : Q (-1) (tc, cf, fc, nI f, oc, sc, mc, g1, g2, op, ns, ab, sr, gl, cl, fi, tk, fo, upd du f n, de, lo, st, ke)) : wpX_work Q (tc, cf, fc, nI f, oc, sc, mc, g1, g2, op, ns, ab, sr, gl, cl, fi, tk, fo, du, de, lo, st, ke) (nI 13) n := by
  unfold wpX_work
  dsimp only
  repeat (first | refine br_f (by decide) ?_ | refine br_t (by decide) ?_)
  rw [nI_clamp (n := f) (by omega)]
  exact ⟨vp_in_nI hf (by decide), nm_e h⟩
theorem mr_x0 {n : Int32} (Q : Int32 → SX → Prop) (h : Q 0 (tc, cf, fc, la, oc, sc, mc, g1, g2, op, ns, ab, sr, gl, cl, fi, tk, fo, du, de, lo, st, ke)) : wpX_work Q (tc, cf, fc, la, oc, sc, mc, g1, g2, op, ns, ab, sr, gl, cl, fi, tk, fo, du, de, lo, st, ke) (nI 0) n := br_t rfl h
theorem mr_o20a {p k : Nat} {n : Int32} (H : mr_H R 0 d tc cf op ns ab sr gl cl fi tk de lo st gs gv kd fs fv ls lv ss sv he) (ek : d 0 = k + 1) : ∃ (u' : SX) (v' : SY), (∀ Q : Int32 → SX → Prop, Q 0 u' → wpX_work Q (tc, cf, nI (0 + 1), nI 0, nI p, sc, mc, g1, g2, op, ns, ab, sr, gl, cl, fi, tk, fo, du, de, lo, st, ke) (nI 20) n) ∧ (∀ Q : SY → Prop, Q v' → wpY_leave Q (nI (0 + 1), g1, g2, sc, mc, nI p, 0, en, op, ns, ab, sr, gs, gv, kd, fs, fv, ls, lv, ss, sv, he, du, nd, ke)) ∧ mr_En 0 u' v' := by
  have HE := mr_HE H
  obtain ⟨hf, hcd, hb, hb', hdb, hrv, hhv, htc, hcf⟩ := H
  have e : de 0 = nI (k + 1) := by rw [hb 0 (by omega), ek]
  have e' : he 0 = nI (k + 1) := by rw [hb' 0 (by omega), ek]
  have d6 := hdb.1
  have hV := hrv.2.2 0 k (by omega) (by omega)
  have hN : ∃ g : Int32, (∀ (Q : Int32 → Prop) (w : SX), w = (tc, cf, nI 0, nI 0, nI p, sc, mc, ss (6 * 0 + k), g2, op, ns, ab, sr, gl, cl, fi, tk, fo, du, upd de 0 (nI k), lo, st, ke) → Q g → wpX_numberOf Q w (st (6 * 0 + k))) ∧ ((ss (6 * 0 + k) = 2 → vp_in (sv (6 * 0 + k) &&& 15) 16 ∧ kd (sv (6 * 0 + k) &&& 15).toNatClampNeg = g) ∧ (¬ ss (6 * 0 + k) = 2 → ss (6 * 0 + k) = 1 → sv (6 * 0 + k) = g) ∧ (¬ ss (6 * 0 + k) = 2 → ¬ ss (6 * 0 + k) = 1 → 0 = g)) := by
    generalize hs : ss (6 * 0 + k) = s at hV ⊢
    generalize hw : sv (6 * 0 + k) = w at hV ⊢
    generalize hgv : st (6 * 0 + k) = v at hV ⊢
    rcases hV with ⟨rfl, rfl⟩ | ⟨rfl, rfl⟩ | ⟨x, y, hx, hy, rfl, rfl, rfl, r⟩
    · exact ⟨0, fun Q w ew hq => by subst ew; exact br_t mr_0_lt hq, fun z => absurd z (by decide), fun _ z => absurd z (by decide), fun _ _ => rfl⟩
    · refine ⟨w, fun Q u ew hq => ?_, fun z => absurd z (by decide), fun _ _ => rfl, fun _ z => absurd rfl z⟩
      subst ew
      refine br_t (mr_I_lt w) ?_
      rw [mr_I_i]
      exact hq
    · refine ⟨cl x, fun Q u ew hq => ?_, fun _ => ?_, fun z => absurd rfl z, fun z => absurd rfl z⟩
      · subst ew
        refine br_f (mr_O_nlt hx) ?_
        rw [mr_O_i, nI_clamp (n := x) (by omega)]
        exact ⟨vp_in_nI hx (by decide), hq⟩
      · rw [mr_and15 hy, nI_clamp (n := y) (by omega)]
        exact ⟨vp_in_nI hy (by decide), (mr_HVok hhv r).2.2.symm⟩
  obtain ⟨g, hX, hY2, hY1, hY0⟩ := hN
  refine mr_ex3 (tc, cf, nI 0, nI 0, nI p, sc, mc, ss (6 * 0 + k), g, op, ns, ab, sr, gl, cl, fi, tk, fo, du, upd de 0 (nI k), lo, st, ke) (nI 0, ss (6 * 0 + k), g, sc, mc, nI p, 1, 0, op, ns, ab, sr, gs, gv, kd, fs, fv, ls, lv, ss, sv, he, du, nd, ke) ?_ ?_ ?_
  · intro Q hQ
    unfold wpX_work
    dsimp only
    repeat (first | refine br_f (by decide) ?_ | refine br_t (by decide) ?_)
    unfold wpX_leaveFrame
    dsimp only
    refine mr_xpop (f := 0) (k := k) (by omega) (by omega) e ?_
    dsimp only
    rw [nI_pred 0]
    refine nm_e (br_t (by decide) ?_)
    unfold wpX_sortOf
    rw [mr_V_int hV]
    exact hX _ _ rfl hQ
  · intro Q hQ
    unfold wpY_leave
    dsimp only
    refine mr_yat (f := 0) (t := 0) (k := k) (by omega) (by omega) e' (fun i j0 => ⟨i, nm_r (e' := ss (6 * 0 + k)) (by rw [j0]) ?_⟩)
    refine mr_yat (f := 0) (t := 0) (k := k) (by omega) (by omega) e' (fun i j0 => ⟨i, nm_r (e' := sv (6 * 0 + k)) (by rw [j0]) ?_⟩)
    rw [nI_pred 0]
    refine nm_e (br_t (by decide) ?_)
    by_cases s2 : ss (6 * 0 + k) = 2
    · refine br_t s2 ⟨(hY2 s2).1, ?_⟩
      rw [(hY2 s2).2]
      exact hQ
    · by_cases s1 : ss (6 * 0 + k) = 1
      · refine br_f s2 (br_t s1 ?_)
        rw [hY1 s2 s1]
        exact hQ
      · refine br_f s2 (br_f s1 ?_)
        rw [← hY0 s2 s1] at hQ
        exact hQ
  · exact mr_mkE HE
theorem mr_o20b {p k : Nat} {n : Int32} (H : mr_H R (f + 1) d tc cf op ns ab sr gl cl fi tk de lo st gs gv kd fs fv ls lv ss sv he) (ek : d (f + 1) = k + 1) : ∃ (u' : SX) (v' : SY), (∀ Q : Int32 → SX → Prop, Q (-1) u' → wpX_work Q (tc, cf, nI (f + 1 + 1), nI (f + 1), nI p, sc, mc, g1, g2, op, ns, ab, sr, gl, cl, fi, tk, fo, du, de, lo, st, ke) (nI 20) n) ∧ (∀ Q : SY → Prop, Q v' → wpY_leave Q (nI (f + 1 + 1), g1, g2, sc, mc, nI p, 0, en, op, ns, ab, sr, gs, gv, kd, fs, fv, ls, lv, ss, sv, he, du, nd, ke)) ∧ mr_Md sc (p + 1) u' v' := by
  obtain ⟨hf, hcd, hb, hb', hdb, hrv, hhv, htc, hcf⟩ := H
  have e : de (f + 1) = nI (k + 1) := by rw [hb (f + 1) (by omega), ek]
  have e' : he (f + 1) = nI (k + 1) := by rw [hb' (f + 1) (by omega), ek]
  have d6 := hdb.1
  have d4 := hdb.2 f (by omega)
  have hV := hrv.2.2 (f + 1) k (by omega) (by omega)
  have f1 : ¬ nI (f + 1) ≤ 0 := nI_nle (by omega) (by omega)
  apply mr_ex3
  · intro Q hQ
    unfold wpX_work
    dsimp only
    repeat (first | refine br_f (by decide) ?_ | refine br_t (by decide) ?_)
    unfold wpX_leaveFrame
    dsimp only
    refine mr_xpop (f := f + 1) (k := k) (by omega) (by omega) e ?_
    dsimp only
    rw [nI_pred (f + 1)]
    refine nm_e (br_f f1 ?_)
    rw [nI_pred f]
    refine nm_e (mr_xpush (f := f) (k := d f) (by omega) (by omega) ?_ hQ)
    rw [pk_un (by omega)]
    exact hb f (by omega)
  · intro Q hQ
    unfold wpY_leave
    dsimp only
    refine mr_yat (f := f + 1) (t := 0) (k := k) (by omega) (by omega) e' (fun i j0 => ⟨i, nm_r (e' := ss (6 * (f + 1) + k)) (by rw [j0]) ?_⟩)
    refine mr_yat (f := f + 1) (t := 0) (k := k) (by omega) (by omega) e' (fun i j0 => ⟨i, nm_r (e' := sv (6 * (f + 1) + k)) (by rw [j0]) ?_⟩)
    rw [nI_pred (f + 1)]
    refine nm_e (br_f f1 (mr_ypush (f := f) (k := d f) (by omega) (by omega) (hb' f (by omega)) hQ))
  · have hdb' : mr_DB f d := ⟨by omega, fun g hg => hdb.2 g (by omega)⟩
    refine mr_mkM (R := R) (f := f) (d := mr_ud d f (d f + 1)) (p := p) (by omega) ?_
    try dsimp only
    exact ⟨by omega, hcd, mr_B_u (fun g hg => by rw [pk_un (by omega)]; exact hb g (by omega)), mr_B_u (fun g hg => hb' g (by omega)), mr_DB_u hdb' (by omega), mr_RVpush hdb' (mr_RVleave hrv) (Nat.le_refl _) hV, hhv, htc, hcf⟩
theorem mr_o19 {p k j : Nat} (H : mr_H R f d tc cf op ns ab sr gl cl fi tk de lo st gs gv kd fs fv ls lv ss sv he) (ek : d f = k + 2) (h2 : ss (6 * f + k) = 2) (hj : j < 4) (hf9 : f + 1 < 10) : ∃ (u' : SX) (v' : SY), (∀ Q : Int32 → SX → Prop, Q (-1) u' → wpX_work Q (tc, cf, nI (f + 1), nI f, nI p, sc, mc, g1, g2, op, ns, ab, sr, gl, cl, fi, tk, fo, du, de, lo, st, ke) (nI 19) (nI j)) ∧ (∀ Q : SY → Prop, Q v' → wpY_call Q (nI (f + 1), g1, g2, sc, mc, nI p, 0, en, op, ns, ab, sr, gs, gv, kd, fs, fv, ls, lv, ss, sv, he, du, nd, ke) (nI j)) ∧ mr_Md sc (p + 1) u' v' := by
  obtain ⟨hf, hcd, hb, hb', hdb, hrv, hhv, htc, hcf⟩ := H
  have e : de f = nI (k + 2) := by rw [hb f (by omega), ek]
  have e' : he f = nI (k + 2) := by rw [hb' f (by omega), ek]
  have d6 := hdb.1
  obtain ⟨x, y, hx, hy, ev, ew, r⟩ := mr_V_ob (hrv.2.2 f k (by omega) (by omega)) h2
  obtain ⟨o1, o2, o3⟩ := mr_HVok hhv r
  obtain ⟨ls', ⟨l0, l1, l2, l3, l4⟩, eY⟩ := mr_yenter (F := f + 1) (a := mr_fd ab sr j 4 (kd y)) (s := ss (6 * f + (k + 1))) (w := sv (6 * f + (k + 1))) (g1 := g1) (g2 := g2) (sc := sc) (mc := mc) (oc := nI p) (ov := 0) (en := en) (op := op) (ns := ns) (ab := ab) (sr := sr) (gs := gs) (gv := gv) (kd := kd) (fs := fs) (fv := fv) (ls := ls) (lv := lv) (ss := ss) (sv := sv) (he := upd he f (nI k)) (du := du) (nd := nd) (ke := ke) hf9
  have e44 : 4 * nI (f + 1 + 1) - 4 = nI (4 * (f + 1)) := by rw [mr_y4', show (4 : Int32) = nI 4 from rfl, pk_sub (by omega)]; exact congrArg nI (by omega)
  apply mr_ex3
  · intro Q hQ
    unfold wpX_work
    dsimp only
    repeat (first | refine br_f (by decide) ?_ | refine br_t (by decide) ?_)
    unfold wpX_callMethod
    dsimp only
    refine mr_xcs (k := k) hf (by omega) e hx ev hcd hj o2 ?_
    refine mr_xpop (k := k + 1) hf (by omega) e ?_
    dsimp only
    refine mr_xpop (k := k) hf (by omega) pk_us ?_
    dsimp only
    exact mr_xenter hf9 hQ
  · intro Q hQ
    unfold wpY_call
    dsimp only
    refine mr_yat (t := 1) (k := k) hf (by omega) e' (fun i j0 => ⟨i, nm_r (e' := nI y) (by rw [j0, ew]) ?_⟩)
    refine mr_yat (t := 0) (k := k + 1) hf (by omega) e' (fun i j0 => ⟨i, nm_r (e' := ss (6 * f + (k + 1))) (by rw [j0]) ?_⟩)
    refine mr_yat (t := 0) (k := k + 1) hf (by omega) e' (fun i j0 => ⟨i, nm_r (e' := sv (6 * f + (k + 1))) (by rw [j0]) ?_⟩)
    refine mr_yfind hy hcd hj o1 ?_
    refine mr_ydrop (t := 2) (k := k) hf e' ?_
    refine eY _ ?_
    dsimp only
    rw [e44, nI_clamp (n := 4 * (f + 1)) (by omega)]
    exact ⟨vp_in_nI (by omega) (by decide), nm_e ⟨vp_in_nI (by omega) (by decide), nm_e hQ⟩⟩
  · rw [o3]
    refine mr_mkM (R := R) (f := f + 1) (d := mr_ud (mr_ud d f k) (f + 1) 0) (p := p) (by omega) ?_
    try dsimp only
    refine ⟨hf9, hcd, mr_B_n (mr_B_e (mr_B_u (mr_B_u hb)) (fun g _ => by unfold mr_ud; split <;> rfl)), mr_B_n (mr_B_u hb'), ⟨by rw [mr_ud_s]; omega, fun g hg => ?_⟩, mr_RVenter (mr_RVpop hdb hrv (by omega)) (fun j hj => ?_) (fun j hj => ?_) (fun j hj => ?_) (fun i hi => ?_), hhv, htc, hcf⟩
    · rw [mr_ud_n (by omega)]
      by_cases eg : g = f
      · subst eg; rw [mr_ud_s]; omega
      · rw [mr_ud_n eg]; exact hdb.2 g (by omega)
    · rw [pk_uLn (by omega), pk_uLn (by omega), pk_uLn (by omega), pk_uLn (by omega)]
    · rw [pk_un (by omega)]; exact l0 j hj
    · rw [pk_un (by omega), pk_un (by omega)]
    · have hi4 : i = 0 ∨ i = 1 ∨ i = 2 ∨ i = 3 := by omega
      rcases hi4 with rfl | rfl | rfl | rfl
      · rw [Nat.add_zero (4 * (f + 1)), pk_uLn (by omega), pk_uLn (by omega), pk_uLn (by omega), pk_uLs, pk_us, pk_us, ev]
        exact mr_VO hx hy r
      · rw [pk_uLn (by omega), pk_uLn (by omega), pk_uLs, pk_un (by omega), pk_un (by omega), pk_us, l2]
        exact hrv.2.2 f (k + 1) (by omega) (by omega)
      · rw [pk_uLn (by omega), pk_uLs, pk_un (by omega), l3]
        exact mr_V0
      · rw [pk_uLs, pk_un (by omega), l4]
        exact mr_V0
end
