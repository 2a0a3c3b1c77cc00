/-! the instructions that take two values -/
section
variable {tc cf fc la oc sc mc g1 g2 fr ov en : Int32} {op ns ab sr cl tk fo du de ke gs gv kd fs fv ls lv ss sv he nd : Nat → Int32} {gl fi lo st : Nat → Int64} {R : Nat → Nat → Prop} {f : Nat} {d : Nat → Nat}
theorem mr_o8 {p k : Nat} {n : Int32} (H : mr_H R f d tc cf op ns ab sr gl cl fi tk de lo st gs gv kd fs fv ls lv ss sv he) (ek : d f = k + 2) (h1 : ss (6 * f + (k + 1)) = 1) (h2 : ss (6 * f + k) = 1) : ∃ (u' : SX) (v' : SY), (∀ Q : Int32 → SX → Prop, Q (-1) u' → wpX_work Q (tc, cf, nI (f + 1), nI f, nI p, sc, mc, g1, g2, op, ns, ab, sr, gl, cl, fi, tk, fo, du, de, lo, st, ke) (nI 8) n) ∧ (∀ Q : SY → Prop, Q v' → wpY_two Q (nI (f + 1), g1, g2, sc, mc, nI p, 0, en, op, ns, ab, sr, gs, gv, kd, fs, fv, ls, lv, ss, sv, he, du, nd, ke) (nI 8) n) ∧ mr_Md sc (p + 1) u' v' := by
  obtain ⟨hf, hcd, hb, hb', hdb, hrv, hhv, htc, hcf⟩ := H
  have e : de f = nI (k + 2) := by rw [hb f (by omega), ek]
  have e' : he f = nI (k + 2) := by rw [hb' f (by omega), ek]
  have d6 := hdb.1
  have hv1 := mr_V_low (hrv.2.2 f (k + 1) (by omega) (by omega)) h1
  have hv2 := mr_V_low (hrv.2.2 f k (by omega) (by omega)) h2
  apply mr_ex3
  · intro Q hQ
    unfold wpX_work
    dsimp only
    repeat (first | refine br_f (by decide) ?_ | refine br_t (by decide) ?_)
    unfold wpX_calculate
    dsimp only
    refine mr_xpop (k := k + 1) hf (by omega) e ?_
    dsimp only
    refine mr_xpop (k := k) hf (by omega) pk_us ?_
    dsimp only
    repeat (first | refine br_f (by decide) ?_ | refine br_t (by decide) ?_)
    rw [hv1, hv2, mr_I_i, mr_I_i]
    exact mr_xpushInt (k := k) hf (by omega) pk_us hQ
  · intro Q hQ
    unfold wpY_two
    dsimp only
    refine mr_yat (t := 1) (k := k) hf (by omega) e' (fun i j0 => ⟨i, nm_r (e' := ss (6 * f + k)) (by rw [j0]) ?_⟩)
    refine mr_yat (t := 1) (k := k) hf (by omega) e' (fun i j0 => ⟨i, nm_r (e' := sv (6 * f + k)) (by rw [j0]) ?_⟩)
    refine mr_yat (t := 0) (k := k + 1) hf (by omega) e' (fun i j0 => ⟨i, nm_r (e' := ss (6 * f + (k + 1))) (by rw [j0]) ?_⟩)
    refine mr_yat (t := 0) (k := k + 1) hf (by omega) e' (fun i j0 => ⟨i, nm_r (e' := sv (6 * f + (k + 1))) (by rw [j0]) ?_⟩)
    refine mr_ydrop (t := 2) (k := k) hf e' ?_
    repeat (first | refine br_f (by decide) ?_ | refine br_t (by decide) ?_)
    exact mr_ypush (k := k) hf (by omega) pk_us hQ
  · refine mr_mkM (R := R) (d := mr_ud d f (k + 1)) (p := p) (by omega) ?_
    try dsimp only
    exact ⟨hf, hcd, mr_B_e (mr_B_u (mr_B_u (mr_B_u hb))) (fun g _ => by unfold mr_ud; split <;> rfl), mr_B_e (mr_B_u (mr_B_u hb')) (fun g _ => by unfold mr_ud; split <;> rfl), mr_DB_u hdb (by omega), mr_RVpush hdb hrv (by omega) mr_VI, hhv, htc, hcf⟩
theorem mr_o9 {p k : Nat} {n : Int32} (H : mr_H R f d tc cf op ns ab sr gl cl fi tk de lo st gs gv kd fs fv ls lv ss sv he) (ek : d f = k + 2) (h1 : ss (6 * f + (k + 1)) = 1) (h2 : ss (6 * f + k) = 1) : ∃ (u' : SX) (v' : SY), (∀ Q : Int32 → SX → Prop, Q (-1) u' → wpX_work Q (tc, cf, nI (f + 1), nI f, nI p, sc, mc, g1, g2, op, ns, ab, sr, gl, cl, fi, tk, fo, du, de, lo, st, ke) (nI 9) n) ∧ (∀ Q : SY → Prop, Q v' → wpY_two Q (nI (f + 1), g1, g2, sc, mc, nI p, 0, en, op, ns, ab, sr, gs, gv, kd, fs, fv, ls, lv, ss, sv, he, du, nd, ke) (nI 9) n) ∧ mr_Md sc (p + 1) u' v' := by
  obtain ⟨hf, hcd, hb, hb', hdb, hrv, hhv, htc, hcf⟩ := H
  have e : de f = nI (k + 2) := by rw [hb f (by omega), ek]
  have e' : he f = nI (k + 2) := by rw [hb' f (by omega), ek]
  have d6 := hdb.1
  have hv1 := mr_V_low (hrv.2.2 f (k + 1) (by omega) (by omega)) h1
  have hv2 := mr_V_low (hrv.2.2 f k (by omega) (by omega)) h2
  apply mr_ex3
  · intro Q hQ
    unfold wpX_work
    dsimp only
    repeat (first | refine br_f (by decide) ?_ | refine br_t (by decide) ?_)
    unfold wpX_calculate
    dsimp only
    refine mr_xpop (k := k + 1) hf (by omega) e ?_
    dsimp only
    refine mr_xpop (k := k) hf (by omega) pk_us ?_
    dsimp only
    repeat (first | refine br_f (by decide) ?_ | refine br_t (by decide) ?_)
    rw [hv1, hv2, mr_I_i, mr_I_i]
    exact mr_xpushInt (k := k) hf (by omega) pk_us hQ
  · intro Q hQ
    unfold wpY_two
    dsimp only
    refine mr_yat (t := 1) (k := k) hf (by omega) e' (fun i j0 => ⟨i, nm_r (e' := ss (6 * f + k)) (by rw [j0]) ?_⟩)
    refine mr_yat (t := 1) (k := k) hf (by omega) e' (fun i j0 => ⟨i, nm_r (e' := sv (6 * f + k)) (by rw [j0]) ?_⟩)
    refine mr_yat (t := 0) (k := k + 1) hf (by omega) e' (fun i j0 => ⟨i, nm_r (e' := ss (6 * f + (k + 1))) (by rw [j0]) ?_⟩)
    refine mr_yat (t := 0) (k := k + 1) hf (by omega) e' (fun i j0 => ⟨i, nm_r (e' := sv (6 * f + (k + 1))) (by rw [j0]) ?_⟩)
    refine mr_ydrop (t := 2) (k := k) hf e' ?_
    repeat (first | refine br_f (by decide) ?_ | refine br_t (by decide) ?_)
    exact mr_ypush (k := k) hf (by omega) pk_us hQ
  · refine mr_mkM (R := R) (d := mr_ud d f (k + 1)) (p := p) (by omega) ?_
    try dsimp only
    exact ⟨hf, hcd, mr_B_e (mr_B_u (mr_B_u (mr_B_u hb))) (fun g _ => by unfold mr_ud; split <;> rfl), mr_B_e (mr_B_u (mr_B_u hb')) (fun g _ => by unfold mr_ud; split <;> rfl), mr_DB_u hdb (by omega), mr_RVpush hdb hrv (by omega) mr_VI, hhv, htc, hcf⟩
theorem mr_o10 {p k : Nat} {n : Int32} (H : mr_H R f d tc cf op ns ab sr gl cl fi tk de lo st gs gv kd fs fv ls lv ss sv he) (ek : d f = k + 2) (h1 : ss (6 * f + (k + 1)) = 1) (h2 : ss (6 * f + k) = 1) : ∃ (u' : SX) (v' : SY), (∀ Q : Int32 → SX → Prop, Q (-1) u' → wpX_work Q (tc, cf, nI (f + 1), nI f, nI p, sc, mc, g1, g2, op, ns, ab, sr, gl, cl, fi, tk, fo, du, de, lo, st, ke) (nI 10) n) ∧ (∀ Q : SY → Prop, Q v' → wpY_two Q (nI (f + 1), g1, g2, sc, mc, nI p, 0, en, op, ns, ab, sr, gs, gv, kd, fs, fv, ls, lv, ss, sv, he, du, nd, ke) (nI 10) n) ∧ mr_Md sc (p + 1) u' v' := by
  obtain ⟨hf, hcd, hb, hb', hdb, hrv, hhv, htc, hcf⟩ := H
  have e : de f = nI (k + 2) := by rw [hb f (by omega), ek]
  have e' : he f = nI (k + 2) := by rw [hb' f (by omega), ek]
  have d6 := hdb.1
  have hv1 := mr_V_low (hrv.2.2 f (k + 1) (by omega) (by omega)) h1
  have hv2 := mr_V_low (hrv.2.2 f k (by omega) (by omega)) h2
  apply mr_ex3
  · intro Q hQ
    unfold wpX_work
    dsimp only
    repeat (first | refine br_f (by decide) ?_ | refine br_t (by decide) ?_)
    unfold wpX_calculate
    dsimp only
    refine mr_xpop (k := k + 1) hf (by omega) e ?_
    dsimp only
    refine mr_xpop (k := k) hf (by omega) pk_us ?_
    dsimp only
    repeat (first | refine br_f (by decide) ?_ | refine br_t (by decide) ?_)
    rw [hv1, hv2, mr_I_i, mr_I_i]
    exact mr_xpushInt (k := k) hf (by omega) pk_us hQ
  · intro Q hQ
    unfold wpY_two
    dsimp only
    refine mr_yat (t := 1) (k := k) hf (by omega) e' (fun i j0 => ⟨i, nm_r (e' := ss (6 * f + k)) (by rw [j0]) ?_⟩)
    refine mr_yat (t := 1) (k := k) hf (by omega) e' (fun i j0 => ⟨i, nm_r (e' := sv (6 * f + k)) (by rw [j0]) ?_⟩)
    refine mr_yat (t := 0) (k := k + 1) hf (by omega) e' (fun i j0 => ⟨i, nm_r (e' := ss (6 * f + (k + 1))) (by rw [j0]) ?_⟩)
    refine mr_yat (t := 0) (k := k + 1) hf (by omega) e' (fun i j0 => ⟨i, nm_r (e' := sv (6 * f + (k + 1))) (by rw [j0]) ?_⟩)
    refine mr_ydrop (t := 2) (k := k) hf e' ?_
    repeat (first | refine br_f (by decide) ?_ | refine br_t (by decide) ?_)
    exact mr_ypush (k := k) hf (by omega) pk_us hQ
  · refine mr_mkM (R := R) (d := mr_ud d f (k + 1)) (p := p) (by omega) ?_
    try dsimp only
    exact ⟨hf, hcd, mr_B_e (mr_B_u (mr_B_u (mr_B_u hb))) (fun g _ => by unfold mr_ud; split <;> rfl), mr_B_e (mr_B_u (mr_B_u hb')) (fun g _ => by unfold mr_ud; split <;> rfl), mr_DB_u hdb (by omega), mr_RVpush hdb hrv (by omega) mr_VI, hhv, htc, hcf⟩
theorem mr_o11 {p k : Nat} {n : Int32} (H : mr_H R f d tc cf op ns ab sr gl cl fi tk de lo st gs gv kd fs fv ls lv ss sv he) (ek : d f = k + 2) (h1 : ss (6 * f + (k + 1)) = 1) (h2 : ss (6 * f + k) = 1) : ∃ (u' : SX) (v' : SY), (∀ Q : Int32 → SX → Prop, Q (-1) u' → wpX_work Q (tc, cf, nI (f + 1), nI f, nI p, sc, mc, g1, g2, op, ns, ab, sr, gl, cl, fi, tk, fo, du, de, lo, st, ke) (nI 11) n) ∧ (∀ Q : SY → Prop, Q v' → wpY_two Q (nI (f + 1), g1, g2, sc, mc, nI p, 0, en, op, ns, ab, sr, gs, gv, kd, fs, fv, ls, lv, ss, sv, he, du, nd, ke) (nI 11) n) ∧ mr_Md sc (p + 1) u' v' := by
  obtain ⟨hf, hcd, hb, hb', hdb, hrv, hhv, htc, hcf⟩ := H
  have e : de f = nI (k + 2) := by rw [hb f (by omega), ek]
  have e' : he f = nI (k + 2) := by rw [hb' f (by omega), ek]
  have d6 := hdb.1
  have hv1 := mr_V_low (hrv.2.2 f (k + 1) (by omega) (by omega)) h1
  have hv2 := mr_V_low (hrv.2.2 f k (by omega) (by omega)) h2
  by_cases z : sv (6 * f + (k + 1)) ≤ sv (6 * f + k)
  · apply mr_ex3
    · intro Q hQ
      unfold wpX_work
      dsimp only
      repeat (first | refine br_f (by decide) ?_ | refine br_t (by decide) ?_)
      unfold wpX_calculate
      dsimp only
      refine mr_xpop (k := k + 1) hf (by omega) e ?_
      dsimp only
      refine mr_xpop (k := k) hf (by omega) pk_us ?_
      dsimp only
      repeat (first | refine br_f (by decide) ?_ | refine br_t (by decide) ?_)
      rw [hv1, hv2, mr_I_i, mr_I_i]
      exact br_t z (mr_xpushInt (k := k) hf (by omega) pk_us hQ)
    · intro Q hQ
      unfold wpY_two
      dsimp only
      refine mr_yat (t := 1) (k := k) hf (by omega) e' (fun i j0 => ⟨i, nm_r (e' := ss (6 * f + k)) (by rw [j0]) ?_⟩)
      refine mr_yat (t := 1) (k := k) hf (by omega) e' (fun i j0 => ⟨i, nm_r (e' := sv (6 * f + k)) (by rw [j0]) ?_⟩)
      refine mr_yat (t := 0) (k := k + 1) hf (by omega) e' (fun i j0 => ⟨i, nm_r (e' := ss (6 * f + (k + 1))) (by rw [j0]) ?_⟩)
      refine mr_yat (t := 0) (k := k + 1) hf (by omega) e' (fun i j0 => ⟨i, nm_r (e' := sv (6 * f + (k + 1))) (by rw [j0]) ?_⟩)
      refine mr_ydrop (t := 2) (k := k) hf e' ?_
      repeat (first | refine br_f (by decide) ?_ | refine br_t (by decide) ?_)
      exact br_t z (mr_ypush (k := k) hf (by omega) pk_us hQ)
    · refine mr_mkM (R := R) (d := mr_ud d f (k + 1)) (p := p) (by omega) ?_
      try dsimp only
      exact ⟨hf, hcd, mr_B_e (mr_B_u (mr_B_u (mr_B_u hb))) (fun g _ => by unfold mr_ud; split <;> rfl), mr_B_e (mr_B_u (mr_B_u hb')) (fun g _ => by unfold mr_ud; split <;> rfl), mr_DB_u hdb (by omega), mr_RVpush hdb hrv (by omega) mr_VI, hhv, htc, hcf⟩
  · apply mr_ex3
    · intro Q hQ
      unfold wpX_work
      dsimp only
      repeat (first | refine br_f (by decide) ?_ | refine br_t (by decide) ?_)
      unfold wpX_calculate
      dsimp only
      refine mr_xpop (k := k + 1) hf (by omega) e ?_
      dsimp only
      refine mr_xpop (k := k) hf (by omega) pk_us ?_
      dsimp only
      repeat (first | refine br_f (by decide) ?_ | refine br_t (by decide) ?_)
      rw [hv1, hv2, mr_I_i, mr_I_i]
      exact br_f z (mr_xpushInt (k := k) hf (by omega) pk_us hQ)
    · intro Q hQ
      unfold wpY_two
      dsimp only
      refine mr_yat (t := 1) (k := k) hf (by omega) e' (fun i j0 => ⟨i, nm_r (e' := ss (6 * f + k)) (by rw [j0]) ?_⟩)
      refine mr_yat (t := 1) (k := k) hf (by omega) e' (fun i j0 => ⟨i, nm_r (e' := sv (6 * f + k)) (by rw [j0]) ?_⟩)
      refine mr_yat (t := 0) (k := k + 1) hf (by omega) e' (fun i j0 => ⟨i, nm_r (e' := ss (6 * f + (k + 1))) (by rw [j0]) ?_⟩)
      refine mr_yat (t := 0) (k := k + 1) hf (by omega) e' (fun i j0 => ⟨i, nm_r (e' := sv (6 * f + (k + 1))) (by rw [j0]) ?_⟩)
      refine mr_ydrop (t := 2) (k := k) hf e' ?_
      repeat (first | refine br_f (by decide) ?_ | refine br_t (by decide) ?_)
      exact br_f z (mr_ypush (k := k) hf (by omega) pk_us hQ)
    · refine mr_mkM (R := R) (d := mr_ud d f (k + 1)) (p := p) (by omega) ?_
      try dsimp only
      exact ⟨hf, hcd, mr_B_e (mr_B_u (mr_B_u (mr_B_u hb))) (fun g _ => by unfold mr_ud; split <;> rfl), mr_B_e (mr_B_u (mr_B_u hb')) (fun g _ => by unfold mr_ud; split <;> rfl), mr_DB_u hdb (by omega), mr_RVpush hdb hrv (by omega) mr_VI, hhv, htc, hcf⟩
theorem mr_o12 {p k : Nat} {n : Int32} (H : mr_H R f d tc cf op ns ab sr gl cl fi tk de lo st gs gv kd fs fv ls lv ss sv he) (ek : d f = k + 2) : ∃ (u' : SX) (v' : SY), (∀ Q : Int32 → SX → Prop, Q (-1) u' → wpX_work Q (tc, cf, nI (f + 1), nI f, nI p, sc, mc, g1, g2, op, ns, ab, sr, gl, cl, fi, tk, fo, du, de, lo, st, ke) (nI 12) n) ∧ (∀ Q : SY → Prop, Q v' → wpY_two Q (nI (f + 1), g1, g2, sc, mc, nI p, 0, en, op, ns, ab, sr, gs, gv, kd, fs, fv, ls, lv, ss, sv, he, du, nd, ke) (nI 12) n) ∧ mr_Md sc (p + 1) u' v' := by
  obtain ⟨hf, hcd, hb, hb', hdb, hrv, hhv, htc, hcf⟩ := H
  have e : de f = nI (k + 2) := by rw [hb f (by omega), ek]
  have e' : he f = nI (k + 2) := by rw [hb' f (by omega), ek]
  have d6 := hdb.1
  have hV1 := hrv.2.2 f (k + 1) (by omega) (by omega)
  have hV := hrv.2.2 f k (by omega) (by omega)
  have hs := mr_V_same hhv.2.1 hhv.2.2 hV hV1
  by_cases z : st (6 * f + k) = st (6 * f + (k + 1))
  · apply mr_ex3
    · intro Q hQ
      unfold wpX_work
      dsimp only
      repeat (first | refine br_f (by decide) ?_ | refine br_t (by decide) ?_)
      unfold wpX_calculate
      dsimp only
      refine mr_xpop (k := k + 1) hf (by omega) e ?_
      dsimp only
      refine mr_xpop (k := k) hf (by omega) pk_us ?_
      dsimp only
      repeat (first | refine br_f (by decide) ?_ | refine br_t (by decide) ?_)
      exact br_t z (mr_xpushInt (k := k) hf (by omega) pk_us hQ)
    · intro Q hQ
      unfold wpY_two
      dsimp only
      refine mr_yat (t := 1) (k := k) hf (by omega) e' (fun i j0 => ⟨i, nm_r (e' := ss (6 * f + k)) (by rw [j0]) ?_⟩)
      refine mr_yat (t := 1) (k := k) hf (by omega) e' (fun i j0 => ⟨i, nm_r (e' := sv (6 * f + k)) (by rw [j0]) ?_⟩)
      refine mr_yat (t := 0) (k := k + 1) hf (by omega) e' (fun i j0 => ⟨i, nm_r (e' := ss (6 * f + (k + 1))) (by rw [j0]) ?_⟩)
      refine mr_yat (t := 0) (k := k + 1) hf (by omega) e' (fun i j0 => ⟨i, nm_r (e' := sv (6 * f + (k + 1))) (by rw [j0]) ?_⟩)
      refine mr_ydrop (t := 2) (k := k) hf e' ?_
      repeat (first | refine br_f (by decide) ?_ | refine br_t (by decide) ?_)
      obtain ⟨q1, q2⟩ := hs.mp z
      refine br_t q1 ?_
      by_cases s0 : ss (6 * f + k) = 0
      · exact br_t s0 (mr_ypush (k := k) hf (by omega) pk_us hQ)
      · exact br_f s0 (br_t (q2.resolve_left s0) (mr_ypush (k := k) hf (by omega) pk_us hQ))
    · refine mr_mkM (R := R) (d := mr_ud d f (k + 1)) (p := p) (by omega) ?_
      try dsimp only
      exact ⟨hf, hcd, mr_B_e (mr_B_u (mr_B_u (mr_B_u hb))) (fun g _ => by unfold mr_ud; split <;> rfl), mr_B_e (mr_B_u (mr_B_u hb')) (fun g _ => by unfold mr_ud; split <;> rfl), mr_DB_u hdb (by omega), mr_RVpush hdb hrv (by omega) mr_VI, hhv, htc, hcf⟩
  · apply mr_ex3
    · intro Q hQ
      unfold wpX_work
      dsimp only
      repeat (first | refine br_f (by decide) ?_ | refine br_t (by decide) ?_)
      unfold wpX_calculate
      dsimp only
      refine mr_xpop (k := k + 1) hf (by omega) e ?_
      dsimp only
      refine mr_xpop (k := k) hf (by omega) pk_us ?_
      dsimp only
      repeat (first | refine br_f (by decide) ?_ | refine br_t (by decide) ?_)
      exact br_f z (mr_xpushInt (k := k) hf (by omega) pk_us hQ)
    · intro Q hQ
      unfold wpY_two
      dsimp only
      refine mr_yat (t := 1) (k := k) hf (by omega) e' (fun i j0 => ⟨i, nm_r (e' := ss (6 * f + k)) (by rw [j0]) ?_⟩)
      refine mr_yat (t := 1) (k := k) hf (by omega) e' (fun i j0 => ⟨i, nm_r (e' := sv (6 * f + k)) (by rw [j0]) ?_⟩)
      refine mr_yat (t := 0) (k := k + 1) hf (by omega) e' (fun i j0 => ⟨i, nm_r (e' := ss (6 * f + (k + 1))) (by rw [j0]) ?_⟩)
      refine mr_yat (t := 0) (k := k + 1) hf (by omega) e' (fun i j0 => ⟨i, nm_r (e' := sv (6 * f + (k + 1))) (by rw [j0]) ?_⟩)
      refine mr_ydrop (t := 2) (k := k) hf e' ?_
      repeat (first | refine br_f (by decide) ?_ | refine br_t (by decide) ?_)
      by_cases q1 : ss (6 * f + k) = ss (6 * f + (k + 1))
      · refine br_t q1 (br_f (fun s0 => z (hs.mpr ⟨q1, Or.inl s0⟩)) (br_f (fun s1 => z (hs.mpr ⟨q1, Or.inr s1⟩)) ?_))
        exact mr_ypush (k := k) hf (by omega) pk_us hQ
      · exact br_f q1 (mr_ypush (k := k) hf (by omega) pk_us hQ)
    · refine mr_mkM (R := R) (d := mr_ud d f (k + 1)) (p := p) (by omega) ?_
      try dsimp only
      exact ⟨hf, hcd, mr_B_e (mr_B_u (mr_B_u (mr_B_u hb))) (fun g _ => by unfold mr_ud; split <;> rfl), mr_B_e (mr_B_u (mr_B_u hb')) (fun g _ => by unfold mr_ud; split <;> rfl), mr_DB_u hdb (by omega), mr_RVpush hdb hrv (by omega) mr_VI, hhv, htc, hcf⟩
theorem mr_o17 {p k j : Nat} (H : mr_H R f d tc cf op ns ab sr gl cl fi tk de lo st gs gv kd fs fv ls lv ss sv he) (ek : d f = k + 2) (h2 : ss (6 * f + k) = 2) (hj : j < 3) : ∃ (u' : SX) (v' : SY), (∀ Q : Int32 → SX → Prop, Q (-1) u' → wpX_work Q (tc, cf, nI (f + 1), nI f, nI p, sc, mc, g1, g2, op, ns, ab, sr, gl, cl, fi, tk, fo, du, de, lo, st, ke) (nI 17) (nI j)) ∧ (∀ Q : SY → Prop, Q v' → wpY_two Q (nI (f + 1), g1, g2, sc, mc, nI p, 0, en, op, ns, ab, sr, gs, gv, kd, fs, fv, ls, lv, ss, sv, he, du, nd, ke) (nI 17) (nI j)) ∧ mr_Md sc (p + 1) u' v' := by
  obtain ⟨hf, hcd, hb, hb', hdb, hrv, hhv, htc, hcf⟩ := H
  have e : de f = nI (k + 2) := by rw [hb f (by omega), ek]
  have e' : he f = nI (k + 2) := by rw [hb' f (by omega), ek]
  have d6 := hdb.1
  obtain ⟨x, y, hx, hy, ev, ew, r⟩ := mr_V_ob (hrv.2.2 f k (by omega) (by omega)) h2
  apply mr_ex3
  · intro Q hQ
    unfold wpX_work
    dsimp only
    repeat (first | refine br_f (by decide) ?_ | refine br_t (by decide) ?_)
    refine mr_xpop (k := k + 1) hf (by omega) e ?_
    dsimp only
    repeat (first | refine br_f (by decide) ?_ | refine br_t (by decide) ?_)
    refine mr_xpop (k := k) hf (by omega) pk_us ?_
    dsimp only
    rw [ev, mr_O_i, mr_x3 x j, nI_clamp (n := 3 * x + j) (by omega)]
    exact ⟨vp_in_nI (by omega) (by decide), nm_e hQ⟩
  · intro Q hQ
    unfold wpY_two
    dsimp only
    refine mr_yat (t := 1) (k := k) hf (by omega) e' (fun i j0 => ⟨i, nm_r (e' := ss (6 * f + k)) (by rw [j0]) ?_⟩)
    refine mr_yat (t := 1) (k := k) hf (by omega) e' (fun i j0 => ⟨i, nm_r (e' := sv (6 * f + k)) (by rw [j0]) ?_⟩)
    refine mr_yat (t := 0) (k := k + 1) hf (by omega) e' (fun i j0 => ⟨i, nm_r (e' := ss (6 * f + (k + 1))) (by rw [j0]) ?_⟩)
    refine mr_yat (t := 0) (k := k + 1) hf (by omega) e' (fun i j0 => ⟨i, nm_r (e' := sv (6 * f + (k + 1))) (by rw [j0]) ?_⟩)
    refine mr_ydrop (t := 2) (k := k) hf e' ?_
    repeat (first | refine br_f (by decide) ?_ | refine br_t (by decide) ?_)
    rw [ew, mr_y3 y j, nI_clamp (n := 3 * y + j) (by omega)]
    exact ⟨vp_in_nI (by omega) (by decide), nm_e ⟨vp_in_nI (by omega) (by decide), nm_e hQ⟩⟩
  · refine mr_mkM (R := R) (d := mr_ud d f k) (p := p) (by omega) ?_
    try dsimp only
    exact ⟨hf, hcd, mr_B_e (mr_B_u (mr_B_u hb)) (fun g _ => by unfold mr_ud; split <;> rfl), mr_B_u hb', mr_DB_u hdb (by omega), mr_RVpop hdb hrv (by omega), mr_putHV hhv r hj (hrv.2.2 f (k + 1) (by omega) (by omega)), htc, hcf⟩
theorem mr_o7 {p k : Nat} {n : Int32} (H : mr_H R f d tc cf op ns ab sr gl cl fi tk de lo st gs gv kd fs fv ls lv ss sv he) (ek : d f = k + 2) : ∃ (u' : SX) (v' : SY), (∀ Q : Int32 → SX → Prop, Q (-1) u' → wpX_work Q (tc, cf, nI (f + 1), nI f, nI p, sc, mc, g1, g2, op, ns, ab, sr, gl, cl, fi, tk, fo, du, de, lo, st, ke) (nI 7) n) ∧ (∀ Q : SY → Prop, Q v' → wpY_two Q (nI (f + 1), g1, g2, sc, mc, nI p, 0, en, op, ns, ab, sr, gs, gv, kd, fs, fv, ls, lv, ss, sv, he, du, nd, ke) (nI 7) n) ∧ mr_Md sc (p + 1) u' v' := by
  obtain ⟨hf, hcd, hb, hb', hdb, hrv, hhv, htc, hcf⟩ := H
  have e : de f = nI (k + 2) := by rw [hb f (by omega), ek]
  have e' : he f = nI (k + 2) := by rw [hb' f (by omega), ek]
  have d6 := hdb.1
  apply mr_ex3
  · intro Q hQ
    unfold wpX_work
    dsimp only
    repeat (first | refine br_f (by decide) ?_ | refine br_t (by decide) ?_)
    refine mr_xpop (k := k + 1) hf (by omega) e ?_
    dsimp only
    repeat (first | refine br_f (by decide) ?_ | refine br_t (by decide) ?_)
    refine mr_xpop (k := k) hf (by omega) pk_us ?_
    dsimp only
    exact mr_xpush (k := k) hf (by omega) pk_us (mr_xpush (k := k + 1) hf (by omega) pk_us hQ)
  · intro Q hQ
    unfold wpY_two
    dsimp only
    refine mr_yat (t := 1) (k := k) hf (by omega) e' (fun i j0 => ⟨i, nm_r (e' := ss (6 * f + k)) (by rw [j0]) ?_⟩)
    refine mr_yat (t := 1) (k := k) hf (by omega) e' (fun i j0 => ⟨i, nm_r (e' := sv (6 * f + k)) (by rw [j0]) ?_⟩)
    refine mr_yat (t := 0) (k := k + 1) hf (by omega) e' (fun i j0 => ⟨i, nm_r (e' := ss (6 * f + (k + 1))) (by rw [j0]) ?_⟩)
    refine mr_yat (t := 0) (k := k + 1) hf (by omega) e' (fun i j0 => ⟨i, nm_r (e' := sv (6 * f + (k + 1))) (by rw [j0]) ?_⟩)
    refine mr_ydrop (t := 2) (k := k) hf e' ?_
    repeat (first | refine br_f (by decide) ?_ | refine br_t (by decide) ?_)
    exact mr_ypush (k := k) hf (by omega) pk_us (mr_ypush (k := k + 1) hf (by omega) pk_us hQ)
  · refine mr_mkM (R := R) (d := mr_ud d f (k + 2)) (p := p) (by omega) ?_
    try dsimp only
    exact ⟨hf, hcd, mr_B_e (mr_B_u (mr_B_u (mr_B_u (mr_B_u hb)))) (fun g _ => by unfold mr_ud; split <;> rfl), mr_B_e (mr_B_u (mr_B_u (mr_B_u hb'))) (fun g _ => by unfold mr_ud; split <;> rfl), mr_DB_u hdb (by omega), mr_RVtop (k := k + 2) hdb hrv (fun j hj => by rw [pk_uLn (by omega), pk_uLn (by omega)]) (fun j hj => by rw [pk_un (by omega), pk_un (by omega)]) (fun j hj => by rw [pk_un (by omega), pk_un (by omega)]) (fun i hi => by
      by_cases e1 : i = k + 1
      · subst e1
        rw [pk_uLs, pk_us, pk_us]
        exact hrv.2.2 f k (by omega) (by omega)
      · rw [pk_uLn (j := 6 * f + i) (k := 6 * f + (k + 1)) (by omega), pk_un (j := 6 * f + i) (k := 6 * f + (k + 1)) (by omega), pk_un (j := 6 * f + i) (k := 6 * f + (k + 1)) (by omega)]
        by_cases e2 : i = k
        · subst e2
          rw [pk_uLs, pk_us, pk_us]
          exact hrv.2.2 f (i + 1) (by omega) (by omega)
        · rw [pk_uLn (j := 6 * f + i) (k := 6 * f + k) (by omega), pk_un (j := 6 * f + i) (k := 6 * f + k) (by omega), pk_un (j := 6 * f + i) (k := 6 * f + k) (by omega)]
          exact hrv.2.2 f i (by omega) (by omega)), hhv, htc, hcf⟩
end
