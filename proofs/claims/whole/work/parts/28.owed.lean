/-! what is owed -/
def i_Rel (k : Nat) (u : SX) (v : SY) : Prop := mr_Rl u v
theorem i_up {k : Nat} {u : SX} {v : SY} (h : i_Rel k u v) : i_Rel (k + 4) u v := h
theorem i_vc0 : wpX_init (fun u => wpY_init (fun v => i_Rel 0 u v)) := mr_init
theorem i_vc_run {k : Nat} {u : SX} {v : SY} (I : i_Rel k u v) (hk : k + 4 ≤ 2048) (v1 : Int32) (v2 : Int32) : wpX_run (fun r u' => wpY_run (fun r' v' => r' = r ∧ i_Rel (k + 4) u' v') v v1 v2) u v1 v2 := by
  have I2 := I
  obtain ⟨R, tc, cf, la, oc, sc, mc, g1, g2, ov, en, op, ns, ab, sr, cl, tk, fo, du, de, ke, gs, gv, kd, fs, fv, ls, lv, ss, sv, he, nd, gl, fi, lo, st, rfl, rfl, hcd, hg, hhv, htc, hcf⟩ := I
  obtain ⟨r, uE, vE, hR, hX, hY⟩ := mr_run (la := la) (oc := oc) (sc := sc) (mc := mc) (g1 := g1) (g2 := g2) (ov := ov) (en := en) (fo := fo) (du := du) (de := de) (ke := ke) (ls := ls) (lv := lv) (ss := ss) (sv := sv) (he := he) (nd := nd) (lo := lo) (st := st) v1 v2 ⟨hcd, hg, hhv, htc, hcf⟩
  exact hX _ (hY _ ⟨rfl, hR⟩)
theorem i_vc_givenSort {k : Nat} {u : SX} {v : SY} (I : i_Rel k u v) (hk : k + 4 ≤ 2048) : wpX_givenSort (fun r => wpY_givenSort (fun r' => r' = r ∧ i_Rel (k + 4) u v) v) u := by
  have I2 := I
  obtain ⟨R, tc, cf, la, oc, sc, mc, g1, g2, ov, en, op, ns, ab, sr, cl, tk, fo, du, de, ke, gs, gv, kd, fs, fv, ls, lv, ss, sv, he, nd, gl, fi, lo, st, rfl, rfl, hcd, hg, hhv, htc, hcf⟩ := I
  exact ⟨rfl, I2⟩
theorem i_vc_given {k : Nat} {u : SX} {v : SY} (I : i_Rel k u v) (hk : k + 4 ≤ 2048) : wpX_given (fun r => wpY_given (fun r' => r' = r ∧ i_Rel (k + 4) u v) v) u := by
  have I2 := I
  obtain ⟨R, tc, cf, la, oc, sc, mc, g1, g2, ov, en, op, ns, ab, sr, cl, tk, fo, du, de, ke, gs, gv, kd, fs, fv, ls, lv, ss, sv, he, nd, gl, fi, lo, st, rfl, rfl, hcd, hg, hhv, htc, hcf⟩ := I
  exact ⟨rfl, I2⟩
theorem i_vc_steps {k : Nat} {u : SX} {v : SY} (I : i_Rel k u v) (hk : k + 4 ≤ 2048) : wpX_steps (fun r => wpY_steps (fun r' => r' = r ∧ i_Rel (k + 4) u v) v) u := by
  have I2 := I
  obtain ⟨R, tc, cf, la, oc, sc, mc, g1, g2, ov, en, op, ns, ab, sr, cl, tk, fo, du, de, ke, gs, gv, kd, fs, fv, ls, lv, ss, sv, he, nd, gl, fi, lo, st, rfl, rfl, hcd, hg, hhv, htc, hcf⟩ := I
  exact ⟨rfl, I2⟩
theorem i_vc_made {k : Nat} {u : SX} {v : SY} (I : i_Rel k u v) (hk : k + 4 ≤ 2048) : wpX_made (fun r => wpY_made (fun r' => r' = r ∧ i_Rel (k + 4) u v) v) u := by
  have I2 := I
  obtain ⟨R, tc, cf, la, oc, sc, mc, g1, g2, ov, en, op, ns, ab, sr, cl, tk, fo, du, de, ke, gs, gv, kd, fs, fv, ls, lv, ss, sv, he, nd, gl, fi, lo, st, rfl, rfl, hcd, hg, hhv, htc, hcf⟩ := I
  exact ⟨rfl, I2⟩
theorem i_vc_printed {k : Nat} {u : SX} {v : SY} (I : i_Rel k u v) (hk : k + 4 ≤ 2048) : wpX_printed (fun r => wpY_printed (fun r' => r' = r ∧ i_Rel (k + 4) u v) v) u := by
  have I2 := I
  obtain ⟨R, tc, cf, la, oc, sc, mc, g1, g2, ov, en, op, ns, ab, sr, cl, tk, fo, du, de, ke, gs, gv, kd, fs, fv, ls, lv, ss, sv, he, nd, gl, fi, lo, st, rfl, rfl, hcd, hg, hhv, htc, hcf⟩ := I
  exact ⟨rfl, I2⟩
theorem i_vc_output {k : Nat} {u : SX} {v : SY} (I : i_Rel k u v) (hk : k + 4 ≤ 2048) (v1 : Int32) : wpX_output (fun r => wpY_output (fun r' => r' = r ∧ i_Rel (k + 4) u v) v v1) u v1 := by
  have I2 := I
  obtain ⟨R, tc, cf, la, oc, sc, mc, g1, g2, ov, en, op, ns, ab, sr, cl, tk, fo, du, de, ke, gs, gv, kd, fs, fv, ls, lv, ss, sv, he, nd, gl, fi, lo, st, rfl, rfl, hcd, hg, hhv, htc, hcf⟩ := I
  rcases mr_ixn (n := 19) v1 (by omega) with ⟨z, nz⟩ | ⟨j, hj, rfl⟩
  · have hY : wpY_output (fun r' => r' = 0 ∧ i_Rel (k + 4) (tc, cf, 0, la, oc, sc, mc, g1, g2, op, ns, ab, sr, gl, cl, fi, tk, fo, du, de, lo, st, ke) (0, g1, g2, sc, mc, oc, ov, en, op, ns, ab, sr, gs, gv, kd, fs, fv, ls, lv, ss, sv, he, du, nd, ke)) (0, g1, g2, sc, mc, oc, ov, en, op, ns, ab, sr, gs, gv, kd, fs, fv, ls, lv, ss, sv, he, du, nd, ke) v1 := by
      unfold wpY_output
      dsimp only
      refine mr_in0 (n := 19) _ (by omega) nz ?_
      exact br_t rfl ⟨rfl, I2⟩
    rcases z with z | z
    · exact br_t z hY
    · exact br_c (fun _ => hY) (fun _ => br_c (fun _ => hY) (fun _ => br_f (Int32.not_lt.mpr z) hY))
  · by_cases q : oc ≤ nI j
    · refine br_f (nI_pos (by omega)) (br_t q ?_)
      unfold wpY_output
      dsimp only
      refine mr_in1 (n := 19) _ (by omega) hj ?_
      exact br_f (by decide) (br_t q ⟨rfl, I2⟩)
    · refine br_f (nI_pos (by omega)) (br_f q (br_t (nI_lt (b := 20) (by omega) (by decide)) ⟨vp_in_nI (by omega) (by decide), ?_⟩))
      unfold wpY_output
      dsimp only
      refine mr_in1 (n := 19) _ (by omega) hj ?_
      exact br_f (by decide) (br_f q ⟨vp_in_nI (by omega) (by decide), rfl, I2⟩)
theorem i_vc_sort {k : Nat} {u : SX} {v : SY} (I : i_Rel k u v) (hk : k + 4 ≤ 2048) (v1 : Int32) (v2 : Int32) : wpX_sort (fun r => wpY_sort (fun r' => r' = r ∧ i_Rel (k + 4) u v) v v1 v2) u v1 v2 := by
  have I2 := I
  obtain ⟨R, tc, cf, la, oc, sc, mc, g1, g2, ov, en, op, ns, ab, sr, cl, tk, fo, du, de, ke, gs, gv, kd, fs, fv, ls, lv, ss, sv, he, nd, gl, fi, lo, st, rfl, rfl, hcd, hg, hhv, htc, hcf⟩ := I
  obtain ⟨rX, rY, hX, hY, hR⟩ := mr_look (tc := tc) (cf := cf) (fc := 0) (la := la) (oc := oc) (sc := sc) (mc := mc) (g1 := g1) (g2 := g2) (op := op) (ns := ns) (ab := ab) (sr := sr) (fo := fo) (du := du) (de := de) (lo := lo) (st := st) (ke := ke) (fr := 0) (ov := ov) (en := en) (ls := ls) (lv := lv) (ss := ss) (sv := sv) (he := he) (nd := nd) hg hhv v1 v2
  unfold wpX_sort
  dsimp only
  refine hX _ ?_
  rcases hR with ⟨rfl, rfl⟩ | ⟨rfl, rfl⟩ | ⟨s, w, hV, rfl⟩
  · refine br_f (by decide) ?_
    unfold wpY_sort
    dsimp only
    refine hY _ ?_
    exact br_f (by decide) (br_t rfl ⟨rfl, I2⟩)
  · refine br_f (by decide) ?_
    unfold wpY_sort
    dsimp only
    refine hY _ ?_
    exact br_t rfl ⟨rfl, I2⟩
  · refine br_t (Int64.not_lt.mp (mr_V_n0 hV)) ?_
    unfold wpX_sortOf
    rw [mr_V_int hV]
    unfold wpY_sort
    dsimp only
    refine hY _ ?_
    have hs : s = 0 ∨ s = 1 ∨ s = 2 := by
      rcases hV with ⟨_, q⟩ | ⟨_, q⟩ | ⟨_, _, _, _, _, q, _⟩
      · exact Or.inl q
      · exact Or.inr (Or.inl q)
      · exact Or.inr (Or.inr q)
    exact br_f (mr_lk_2 hs) (br_f (mr_lk_1 hs) ⟨mr_lk_s hs, I2⟩)
theorem i_vc_number {k : Nat} {u : SX} {v : SY} (I : i_Rel k u v) (hk : k + 4 ≤ 2048) (v1 : Int32) (v2 : Int32) : wpX_number (fun r => wpY_number (fun r' => r' = r ∧ i_Rel (k + 4) u v) v v1 v2) u v1 v2 := by
  have I2 := I
  obtain ⟨R, tc, cf, la, oc, sc, mc, g1, g2, ov, en, op, ns, ab, sr, cl, tk, fo, du, de, ke, gs, gv, kd, fs, fv, ls, lv, ss, sv, he, nd, gl, fi, lo, st, rfl, rfl, hcd, hg, hhv, htc, hcf⟩ := I
  obtain ⟨rX, rY, hX, hY, hR⟩ := mr_look (tc := tc) (cf := cf) (fc := 0) (la := la) (oc := oc) (sc := sc) (mc := mc) (g1 := g1) (g2 := g2) (op := op) (ns := ns) (ab := ab) (sr := sr) (fo := fo) (du := du) (de := de) (lo := lo) (st := st) (ke := ke) (fr := 0) (ov := ov) (en := en) (ls := ls) (lv := lv) (ss := ss) (sv := sv) (he := he) (nd := nd) hg hhv v1 v2
  unfold wpX_number
  dsimp only
  refine hX _ ?_
  rcases hR with ⟨rfl, rfl⟩ | ⟨rfl, rfl⟩ | ⟨s, w, hV, rfl⟩
  · refine br_f (by decide) ?_
    unfold wpY_number
    dsimp only
    unfold wpY_sort
    dsimp only
    refine hY _ ?_
    refine br_f (by decide) (br_t rfl ?_)
    refine hY _ ?_
    exact br_t (by decide) ⟨rfl, I2⟩
  · refine br_f (by decide) ?_
    unfold wpY_number
    dsimp only
    unfold wpY_sort
    dsimp only
    refine hY _ ?_
    refine br_t rfl ?_
    refine hY _ ?_
    exact br_t (by decide) ⟨rfl, I2⟩
  · refine br_t (Int64.not_lt.mp (mr_V_n0 hV)) ?_
    have hs : s = 0 ∨ s = 1 ∨ s = 2 := by
      rcases hV with ⟨_, q⟩ | ⟨_, q⟩ | ⟨_, _, _, _, _, q, _⟩
      · exact Or.inl q
      · exact Or.inr (Or.inl q)
      · exact Or.inr (Or.inr q)
    have hN : ∀ g : Int32, (s ≤ 0 → 0 = g) → (¬ s ≤ 0 → mr_num kd s w = g) → wpY_number (fun r' => r' = g ∧ i_Rel (k + 4) (tc, cf, 0, la, oc, sc, mc, g1, g2, op, ns, ab, sr, gl, cl, fi, tk, fo, du, de, lo, st, ke) (0, g1, g2, sc, mc, oc, ov, en, op, ns, ab, sr, gs, gv, kd, fs, fv, ls, lv, ss, sv, he, du, nd, ke)) (0, g1, g2, sc, mc, oc, ov, en, op, ns, ab, sr, gs, gv, kd, fs, fv, ls, lv, ss, sv, he, du, nd, ke) v1 v2 := fun g a b => by
      unfold wpY_number
      dsimp only
      unfold wpY_sort
      dsimp only
      refine hY _ ?_
      refine br_f (mr_lk_2 hs) (br_f (mr_lk_1 hs) ?_)
      rw [mr_lk_s hs]
      refine hY _ ?_
      refine br_c (fun q => ⟨a q, I2⟩) (fun q => ⟨?_, I2⟩)
      rw [mr_lk_n hs]
      exact b q
    rcases hV with ⟨rfl, rfl⟩ | ⟨rfl, rfl⟩ | ⟨x, y, hx, hy, rfl, rfl, rfl, r⟩
    · refine br_t mr_0_lt ?_
      rw [mr_0_i]
      exact hN 0 (fun _ => rfl) (fun q => absurd (by decide) q)
    · refine br_t (mr_I_lt w) ?_
      rw [mr_I_i]
      exact hN w (fun q => absurd q (by decide)) (fun _ => rfl)
    · refine br_f (mr_O_nlt hx) ?_
      rw [mr_O_i, nI_clamp (n := x) (by omega)]
      refine ⟨vp_in_nI hx (by decide), hN _ (fun q => absurd q (by decide)) (fun _ => ?_)⟩
      rw [mr_num, if_pos rfl, nI_clamp (n := y) (by omega)]
      exact (mr_HVok hhv r).2.2.symm
theorem i_vc_needed {k : Nat} {u : SX} {v : SY} (I : i_Rel k u v) (hk : k + 4 ≤ 2048) : wpX_needed (fun r u' => wpY_needed (fun r' v' => r' = r ∧ i_Rel (k + 4) u' v') v) u := by
  have I2 := I
  obtain ⟨R, tc, cf, la, oc, sc, mc, g1, g2, ov, en, op, ns, ab, sr, cl, tk, fo, du, de, ke, gs, gv, kd, fs, fv, ls, lv, ss, sv, he, nd, gl, fi, lo, st, rfl, rfl, hcd, hg, hhv, htc, hcf⟩ := I
  have hrv : mr_RV R 0 (fun _ => 0) gl lo st gs gv ls lv ss sv := ⟨hg, fun k hk => by omega, fun f i hf => by omega⟩
  obtain ⟨tk', fo', hIs, eX⟩ := mr_xcollect (tc := tc) (cf := cf) (la := la) (oc := oc) (sc := sc) (mc := mc) (g1 := g1) (g2 := g2) (op := op) (ns := ns) (ab := ab) (sr := sr) (cl := cl) (tk := tk) (fo := fo) (du := du) (de := de) (ke := ke) (F := 0) (d := fun _ => 0) (by omega) (fun f hf => by omega) (fun g hg => by omega) (mr_XW_of hrv hhv)
  obtain ⟨nd', hIsY, eY⟩ := mr_ymark (g1 := g1) (g2 := g2) (sc := sc) (mc := mc) (oc := oc) (ov := ov) (en := en) (op := op) (ns := ns) (ab := ab) (sr := sr) (kd := kd) (he := he) (du := du) (nd := nd) (ke := ke) (F := 0) (d := fun _ => 0) (by omega) (fun f hf => by omega) (fun g hg => by omega) (mr_YW_of hrv hhv)
  have hc := mr_count hrv hhv hIs hIsY
  unfold wpX_needed
  dsimp only
  refine eX _ ?_
  unfold wpY_needed
  dsimp only
  refine eY _ ?_
  exact ⟨congrArg nI hc.symm, mr_mkR (R := mr_cut R (mr_rX gl lo st 0 (fun _ => 0)) (mr_eX fi)) ⟨hcd, (mr_cutRV (ed := mr_eX fi) hrv).1, mr_cutHV hhv (fun x hx h => (hIs x hx).mpr h), rfl, hcf⟩⟩
theorem i_vc_clear {k : Nat} {u : SX} {v : SY} (I : i_Rel k u v) (hk : k + 4 ≤ 2048) (v1 : Int32) : wpX_clear (fun r u' => wpY_clear (fun r' v' => r' = r ∧ i_Rel (k + 4) u' v') v v1) u v1 := by
  have I2 := I
  obtain ⟨R, tc, cf, la, oc, sc, mc, g1, g2, ov, en, op, ns, ab, sr, cl, tk, fo, du, de, ke, gs, gv, kd, fs, fv, ls, lv, ss, sv, he, nd, gl, fi, lo, st, rfl, rfl, hcd, hg, hhv, htc, hcf⟩ := I
  rcases mr_ixn (n := 3) v1 (by omega) with ⟨z, nz⟩ | ⟨j, hj, rfl⟩
  · have hY : wpY_clear (fun r' v' => r' = 0 ∧ i_Rel (k + 4) (tc, cf, 0, la, oc, sc, mc, g1, g2, op, ns, ab, sr, gl, cl, fi, tk, fo, du, de, lo, st, ke) v') (0, g1, g2, sc, mc, oc, ov, en, op, ns, ab, sr, gs, gv, kd, fs, fv, ls, lv, ss, sv, he, du, nd, ke) v1 := by
      unfold wpY_clear
      dsimp only
      refine mr_in0 (n := 3) _ (by omega) nz ?_
      exact br_t rfl ⟨rfl, I2⟩
    rcases z with z | z
    · exact br_t z hY
    · exact br_c (fun _ => hY) (fun _ => br_f (Int32.not_lt.mpr z) hY)
  · refine br_f (nI_pos (by omega)) (br_t (nI_lt (b := 4) (by omega) (by decide)) ?_)
    rw [nI_clamp (n := j) (by omega)]
    refine ⟨vp_in_nI (by omega) (by decide), nm_e ?_⟩
    unfold wpY_clear
    dsimp only
    refine mr_in1 (n := 3) _ (by omega) hj ?_
    refine br_f (by decide) ?_
    rw [nI_clamp (n := j) (by omega)]
    refine ⟨vp_in_nI (by omega) (by decide), nm_e ⟨rfl, mr_mkR (R := R) ⟨hcd, fun g hg' => ?_, hhv, htc, hcf⟩⟩⟩
    by_cases e : g = j
    · subst e
      rw [pk_uLs, pk_us]
      exact mr_V0
    · rw [pk_uLn e, pk_un e]
      exact hg g hg'
theorem i_vc_level {k : Nat} {u : SX} {v : SY} (I : i_Rel k u v) (hk : k + 4 ≤ 2048) (v1 : Int32) : wpX_level (fun r u' => wpY_level (fun r' => r' = r ∧ i_Rel (k + 4) u' v) v v1) u v1 := by
  have I2 := I
  obtain ⟨R, tc, cf, la, oc, sc, mc, g1, g2, ov, en, op, ns, ab, sr, cl, tk, fo, du, de, ke, gs, gv, kd, fs, fv, ls, lv, ss, sv, he, nd, gl, fi, lo, st, rfl, rfl, hcd, hg, hhv, htc, hcf⟩ := I
  rcases mr_ixn (n := 2) v1 (by omega) with ⟨z, nz⟩ | ⟨j, hj, rfl⟩
  · have hY : wpY_level (fun r' => r' = 0 ∧ i_Rel (k + 4) (tc, cf, 0, la, oc, sc, mc, g1, g2, op, ns, ab, sr, gl, cl, fi, tk, fo, du, de, lo, st, ke) (0, g1, g2, sc, mc, oc, ov, en, op, ns, ab, sr, gs, gv, kd, fs, fv, ls, lv, ss, sv, he, du, nd, ke)) (0, g1, g2, sc, mc, oc, ov, en, op, ns, ab, sr, gs, gv, kd, fs, fv, ls, lv, ss, sv, he, du, nd, ke) v1 := by
      unfold wpY_level
      dsimp only
      refine mr_in0 (n := 2) _ (by omega) nz ?_
      exact ⟨rfl, rfl, I2⟩
    rcases z with z | z
    · exact br_t z hY
    · exact br_c (fun _ => hY) (fun _ => br_f (Int32.not_lt.mpr z) hY)
  · have e : nI j * 16 / 2 = nI (j * 16 / 2) := by
      rw [show (16 : Int32) = nI 16 from rfl, pk_mul]
      exact pk_div (d := 2) (by omega) (by decide) (by decide)
    refine br_f (nI_pos (by omega)) (br_t (nI_lt (b := 3) (by omega) (by decide)) ?_)
    unfold wpX_collectFromAt
    rw [e]
    refine ⟨by decide, ?_⟩
    unfold wpY_level
    dsimp only
    refine mr_in1 (n := 2) _ (by omega) hj ?_
    exact ⟨rfl, rfl, mr_mkR (R := R) ⟨hcd, hg, hhv, htc, j * 16 / 2, by omega, rfl⟩⟩
theorem i_vc_code {k : Nat} {u : SX} {v : SY} (I : i_Rel k u v) (hk : k + 4 ≤ 2048) (v1 : Int32) (v2 : Int32) (v3 : Int32) : wpX_code (fun r u' => wpY_code (fun r' v' => r' = r ∧ i_Rel (k + 4) u' v') v v1 v2 v3) u v1 v2 v3 := by
  have I2 := I
  obtain ⟨R, tc, cf, la, oc, sc, mc, g1, g2, ov, en, op, ns, ab, sr, cl, tk, fo, du, de, ke, gs, gv, kd, fs, fv, ls, lv, ss, sv, he, nd, gl, fi, lo, st, rfl, rfl, hcd, hg, hhv, htc, hcf⟩ := I
  have hY0 : (¬ (∃ j, j ≤ 59 ∧ v1 = nI j) ∨ ¬ (∃ j, j ≤ 23 ∧ v2 = nI j)) → wpY_code (fun r' v' => r' = 0 ∧ i_Rel (k + 4) (tc, cf, 0, la, oc, sc, mc, g1, g2, op, ns, ab, sr, gl, cl, fi, tk, fo, du, de, lo, st, ke) v') (0, g1, g2, sc, mc, oc, ov, en, op, ns, ab, sr, gs, gv, kd, fs, fv, ls, lv, ss, sv, he, du, nd, ke) v1 v2 v3 := fun q => by
    unfold wpY_code
    dsimp only
    rcases mr_ixn (n := 59) v1 (by omega) with ⟨z, nz⟩ | ⟨i, hi, rfl⟩
    · refine mr_in0 (n := 59) _ (by omega) nz ?_
      exact br_t rfl ⟨rfl, I2⟩
    · refine mr_in1 (n := 59) _ (by omega) hi ?_
      refine br_f (by decide) ?_
      refine mr_in0 (n := 23) _ (by omega) (q.resolve_left fun w => w ⟨i, hi, rfl⟩) ?_
      exact br_t rfl ⟨rfl, I2⟩
  rcases mr_ixn (n := 59) v1 (by omega) with ⟨z, nz⟩ | ⟨i, hi, rfl⟩
  · have hY := hY0 (Or.inl nz)
    rcases z with z | z
    · exact br_t z hY
    · exact br_c (fun _ => hY) (fun _ => br_t z hY)
  · refine br_f (nI_pos (by omega)) (br_f (nI_ge (b := 60) (by omega) (by decide)) ?_)
    rcases mr_ixn (n := 23) v2 (by omega) with ⟨z, nz⟩ | ⟨o, ho, rfl⟩
    · have hY := hY0 (Or.inr nz)
      rcases z with z | z
      · exact br_t z hY
      · exact br_c (fun _ => hY) (fun _ => br_f (Int32.not_lt.mpr z) hY)
    · refine br_f (nI_pos (by omega)) (br_t (nI_lt (b := 24) (by omega) (by decide)) ?_)
      refine mr_xfits o (by omega) (fun q => br_f (by decide) ?_) (fun q => br_t rfl ?_)
      · rw [nI_clamp (n := i) (by omega)]
        refine ⟨vp_in_nI (by omega) (by decide), nm_e ⟨vp_in_nI (by omega) (by decide), nm_e (mr_yfits hi o (by omega) (fun _ => ⟨rfl, mr_mkR (R := R) ⟨⟨fun i' hi' => ?_, hcd.2.1, hcd.2.2⟩, hg, hhv, htc, hcf⟩⟩) (fun w => absurd q w))⟩⟩
        by_cases e : i' = i
        · subst e
          rw [pk_us, pk_us]
          exact ⟨o, by omega, rfl, q⟩
        · rw [pk_un e, pk_un e]
          exact hcd.1 i' hi'
      · exact mr_yfits hi o (by omega) (fun w => absurd w q) (fun _ => ⟨rfl, I2⟩)
theorem i_vc_above {k : Nat} {u : SX} {v : SY} (I : i_Rel k u v) (hk : k + 4 ≤ 2048) (v1 : Int32) (v2 : Int32) : wpX_above (fun r u' => wpY_above (fun r' v' => r' = r ∧ i_Rel (k + 4) u' v') v v1 v2) u v1 v2 := by
  have I2 := I
  obtain ⟨R, tc, cf, la, oc, sc, mc, g1, g2, ov, en, op, ns, ab, sr, cl, tk, fo, du, de, ke, gs, gv, kd, fs, fv, ls, lv, ss, sv, he, nd, gl, fi, lo, st, rfl, rfl, hcd, hg, hhv, htc, hcf⟩ := I
  have hYn : ∀ c, c ≤ 3 → v1 = nI c → (v2 < -1 ∨ nI c - 1 < v2) → wpY_above (fun r' v' => r' = 0 ∧ i_Rel (k + 4) (tc, cf, 0, la, oc, sc, mc, g1, g2, op, ns, ab, sr, gl, cl, fi, tk, fo, du, de, lo, st, ke) v') (0, g1, g2, sc, mc, oc, ov, en, op, ns, ab, sr, gs, gv, kd, fs, fv, ls, lv, ss, sv, he, du, nd, ke) v1 v2 := fun c hc e q => by
    subst e
    unfold wpY_above
    dsimp only
    refine mr_in1 (n := 3) _ (by omega) hc ?_
    refine br_f (by decide) ?_
    refine mr_yin _ _ _ _ (fun a b => ?_) (fun _ => br_t rfl ⟨rfl, I2⟩)
    rcases q with q | q
    · exact absurd q (Int32.not_lt.mpr a)
    · exact absurd q (Int32.not_lt.mpr b)
  have hYy : ∀ c, c ≤ 3 → v1 = nI c → ¬ (v2 < -1 ∨ nI c - 1 < v2) → mr_ok 4 v2 → wpY_above (fun r' v' => r' = 1 ∧ i_Rel (k + 4) (tc, cf, 0, la, oc, sc, mc, g1, g2, op, ns, upd ab c v2, sr, gl, cl, fi, tk, fo, du, de, lo, st, ke) v') (0, g1, g2, sc, mc, oc, ov, en, op, ns, ab, sr, gs, gv, kd, fs, fv, ls, lv, ss, sv, he, du, nd, ke) v1 v2 := fun c hc e q hok => by
    subst e
    unfold wpY_above
    dsimp only
    refine mr_in1 (n := 3) _ (by omega) hc ?_
    refine br_f (by decide) ?_
    refine mr_yin _ _ _ _ (fun a b => br_f (by decide) ?_) (fun w => absurd w q)
    rw [nI_clamp (n := c) (by omega)]
    refine ⟨vp_in_nI (by omega) (by decide), nm_e ⟨rfl, mr_mkR (R := R) ⟨⟨hcd.1, fun c' hc' => ?_, hcd.2.2⟩, hg, hhv, htc, hcf⟩⟩⟩
    by_cases e : c' = c
    · subst e
      rw [pk_us]
      exact hok
    · rw [pk_un e]
      exact hcd.2.1 c' hc'
  rcases mr_ixn (n := 3) v1 (by omega) with ⟨z, nz⟩ | ⟨c, hc, rfl⟩
  · have hY : wpY_above (fun r' v' => r' = 0 ∧ i_Rel (k + 4) (tc, cf, 0, la, oc, sc, mc, g1, g2, op, ns, ab, sr, gl, cl, fi, tk, fo, du, de, lo, st, ke) v') (0, g1, g2, sc, mc, oc, ov, en, op, ns, ab, sr, gs, gv, kd, fs, fv, ls, lv, ss, sv, he, du, nd, ke) v1 v2 := by
      unfold wpY_above
      dsimp only
      refine mr_in0 (n := 3) _ (by omega) nz ?_
      exact br_t rfl ⟨rfl, I2⟩
    rcases z with z | z
    · exact br_t z hY
    · exact br_c (fun _ => hY) (fun _ => br_t z hY)
  · refine br_f (nI_pos (by omega)) (br_f (nI_ge (b := 4) (by omega) (by decide)) ?_)
    have i3 : vp_in (nI c) 4 := vp_in_nI (by omega) (by decide)
    have i4 : (nI c).toNatClampNeg = c := nI_clamp (by omega)
    rcases mr_m1 v2 with z | rfl | ⟨q, hq, rfl⟩
    · exact br_t z (hYn c hc rfl (Or.inl z))
    · refine br_f (by decide) (br_t (mr_m1lt (by omega)) ⟨i3, ?_⟩)
      rw [i4]
      exact nm_e (hYy c hc rfl (fun w => by
        rcases w with w | w
        · exact absurd w (by decide)
        · exact mr_dnm1 (by omega) w) (Or.inl rfl))
    · refine br_f (mr_n1 hq) ?_
      by_cases w : q < c
      · refine br_t (nI_lt w (by omega)) ⟨i3, ?_⟩
        rw [i4]
        exact nm_e (hYy c hc rfl (fun w2 => by
          rcases w2 with w2 | w2
          · exact mr_n1 hq w2
          · have := (mr_dnlt (by omega) hq).mp w2
            omega) (Or.inr ⟨q, by omega, rfl⟩))
      · exact br_f (nI_nlt (by omega) hq) (hYn c hc rfl (Or.inr ((mr_dnlt (by omega) hq).mpr (by omega))))
theorem i_vc_method {k : Nat} {u : SX} {v : SY} (I : i_Rel k u v) (hk : k + 4 ≤ 2048) (v1 : Int32) (v2 : Int32) (v3 : Int32) : wpX_method (fun r u' => wpY_method (fun r' v' => r' = r ∧ i_Rel (k + 4) u' v') v v1 v2 v3) u v1 v2 v3 := by
  have I2 := I
  obtain ⟨R, tc, cf, la, oc, sc, mc, g1, g2, ov, en, op, ns, ab, sr, cl, tk, fo, du, de, ke, gs, gv, kd, fs, fv, ls, lv, ss, sv, he, nd, gl, fi, lo, st, rfl, rfl, hcd, hg, hhv, htc, hcf⟩ := I
  have i3 : ∀ c s, c ≤ 3 → s ≤ 3 → vp_in (nI (4 * c + s)) 16 := fun c s hc hs => vp_in_nI (by omega) (by decide)
  have hYn : ∀ c s, c ≤ 3 → s ≤ 3 → v1 = nI c → v2 = nI s → (v3 < -1 ∨ 59 < v3) → wpY_method (fun r' v' => r' = 0 ∧ i_Rel (k + 4) (tc, cf, 0, la, oc, sc, mc, g1, g2, op, ns, ab, sr, gl, cl, fi, tk, fo, du, de, lo, st, ke) v') (0, g1, g2, sc, mc, oc, ov, en, op, ns, ab, sr, gs, gv, kd, fs, fv, ls, lv, ss, sv, he, du, nd, ke) v1 v2 v3 := fun c s hc hs e e2 q => by
    subst e e2
    unfold wpY_method
    dsimp only
    refine mr_in1 (n := 3) _ (by omega) hc ?_
    refine br_f (by decide) ?_
    refine mr_in1 (n := 3) _ (by omega) hs ?_
    refine br_f (by decide) ?_
    refine mr_yin _ _ _ _ (fun a b => ?_) (fun _ => br_t rfl ⟨rfl, I2⟩)
    rcases q with q | q
    · exact absurd q (Int32.not_lt.mpr a)
    · exact absurd q (Int32.not_lt.mpr b)
  have hYy : ∀ c s, c ≤ 3 → s ≤ 3 → v1 = nI c → v2 = nI s → ¬ (v3 < -1 ∨ 59 < v3) → mr_ok 60 v3 → wpY_method (fun r' v' => r' = 1 ∧ i_Rel (k + 4) (tc, cf, 0, la, oc, sc, mc, g1, g2, op, ns, ab, upd sr (4 * c + s) v3, gl, cl, fi, tk, fo, du, de, lo, st, ke) v') (0, g1, g2, sc, mc, oc, ov, en, op, ns, ab, sr, gs, gv, kd, fs, fv, ls, lv, ss, sv, he, du, nd, ke) v1 v2 v3 := fun c s hc hs e e2 q hok => by
    subst e e2
    unfold wpY_method
    dsimp only
    refine mr_in1 (n := 3) _ (by omega) hc ?_
    refine br_f (by decide) ?_
    refine mr_in1 (n := 3) _ (by omega) hs ?_
    refine br_f (by decide) ?_
    refine mr_yin _ _ _ _ (fun a b => br_f (by decide) ?_) (fun w => absurd w q)
    rw [mr_y4 c s, nI_clamp (n := 4 * c + s) (by omega)]
    refine ⟨i3 c s hc hs, nm_e ⟨rfl, mr_mkR (R := R) ⟨⟨hcd.1, hcd.2.1, fun c' hc' => ?_⟩, hg, hhv, htc, hcf⟩⟩⟩
    by_cases e : c' = 4 * c + s
    · subst e
      rw [pk_us]
      exact hok
    · rw [pk_un e]
      exact hcd.2.2 c' hc'
  have hY0 : (¬ (∃ j, j ≤ 3 ∧ v1 = nI j) ∨ ¬ (∃ j, j ≤ 3 ∧ v2 = nI j)) → wpY_method (fun r' v' => r' = 0 ∧ i_Rel (k + 4) (tc, cf, 0, la, oc, sc, mc, g1, g2, op, ns, ab, sr, gl, cl, fi, tk, fo, du, de, lo, st, ke) v') (0, g1, g2, sc, mc, oc, ov, en, op, ns, ab, sr, gs, gv, kd, fs, fv, ls, lv, ss, sv, he, du, nd, ke) v1 v2 v3 := fun q => by
    unfold wpY_method
    dsimp only
    rcases mr_ixn (n := 3) v1 (by omega) with ⟨z, nz⟩ | ⟨i, hi, rfl⟩
    · refine mr_in0 (n := 3) _ (by omega) nz ?_
      exact br_t rfl ⟨rfl, I2⟩
    · refine mr_in1 (n := 3) _ (by omega) hi ?_
      refine br_f (by decide) ?_
      refine mr_in0 (n := 3) _ (by omega) (q.resolve_left fun w => w ⟨i, hi, rfl⟩) ?_
      exact br_t rfl ⟨rfl, I2⟩
  rcases mr_ixn (n := 3) v1 (by omega) with ⟨z, nz⟩ | ⟨c, hc, rfl⟩
  · have hY := hY0 (Or.inl nz)
    rcases z with z | z
    · exact br_t z hY
    · exact br_c (fun _ => hY) (fun _ => br_t z hY)
  · refine br_f (nI_pos (by omega)) (br_f (nI_ge (b := 4) (by omega) (by decide)) ?_)
    rcases mr_ixn (n := 3) v2 (by omega) with ⟨z, nz⟩ | ⟨s, hs, rfl⟩
    · have hY := hY0 (Or.inr nz)
      rcases z with z | z
      · exact br_t z hY
      · exact br_c (fun _ => hY) (fun _ => br_f (Int32.not_lt.mpr z) hY)
    · refine br_f (nI_pos (by omega)) (br_t (nI_lt (b := 4) (by omega) (by decide)) ?_)
      rw [mr_x4 c s, nI_clamp (n := 4 * c + s) (by omega)]
      rcases mr_m1 v3 with z | rfl | ⟨q, hq, rfl⟩
      · exact br_t z (hYn c s hc hs rfl rfl (Or.inl z))
      · exact br_f (by decide) (br_t (by decide) ⟨i3 c s hc hs, nm_e (hYy c s hc hs rfl rfl (by decide) (Or.inl rfl))⟩)
      · refine br_f (mr_n1 hq) ?_
        by_cases w : q < 60
        · exact br_t (nI_lt (b := 60) w (by decide)) ⟨i3 c s hc hs, nm_e (hYy c s hc hs rfl rfl (fun w2 => by
            rcases w2 with w2 | w2
            · exact mr_n1 hq w2
            · exact absurd w2 (nI_nlt (a := 59) (by omega) (by decide))) (Or.inr ⟨q, w, rfl⟩))⟩
        · exact br_f (nI_nlt (b := 60) (by omega) hq) (hYn c s hc hs rfl rfl (Or.inr (nI_lt (a := 59) (by omega) hq)))
