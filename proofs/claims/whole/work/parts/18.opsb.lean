/-! the instructions, further: ZERO, GET, IS, OUT, the ones that take two -/
section
variable {tc cf fc la oc sc mc g1 g2 fr ov en : Int32} {op ns ab sr cl tk fo du de ke gs gv kd fs fv ls lv ss sv he nd : Nat → Int32} {gl fi lo st : Nat → Int64} {R : Nat → Nat → Prop} {f : Nat} {d : Nat → Nat}
theorem mr_y207 {o : Nat} {n s w : Int32} {v : Int64} {post : SY → Prop} (hc : mr_CD op ns ab sr) (hh : mr_HV R cl fi tk kd fs fv) (hv : mr_V R v s w) (ho : o < 24) (h16 : o ≠ 16) (h18 : o ≠ 18) (h23 : o ≠ 23) (h : post (fr, g1, g2, sc, mc, oc, ov, en, op, ns, ab, sr, gs, gv, kd, fs, fv, ls, lv, ss, sv, he, du, nd, ke)) : wY_simple_207 post (nI o) n s w fr g1 g2 sc mc oc ov en op ns ab sr gs gv kd fs fv ls lv ss sv he du nd ke :=
  br_f (fun q => h16 ((nI_eq (b := 16) (by omega) (by decide)).mp q)) (mr_y239 hc hh hv (kd' := kd) (fs' := fs) (fv' := fv) (mr_y263n ho h18 h23 h))
theorem mr_x97 {k : Nat} {b : Int32} {post : SX → Prop} (hf : f < 10) (hk : k < 6) (e : de f = nI k) (hb : b = 0 ∨ b = 1) (h : post (tc, cf, fc, nI f, oc, sc, mc, g1, g2, op, ns, ab, sr, gl, cl, fi, tk, fo, du, upd de f (nI (k + 1)), lo, vp_updL st (6 * f + k) (mr_I b), ke)) : wX_useObject_97 post b tc cf fc (nI f) oc sc mc g1 g2 op ns ab sr gl cl fi tk fo du de lo st ke := by
  unfold wX_useObject_97 wX_useObject_110
  rcases hb with rfl | rfl
  · exact br_t rfl (mr_xpushInt hf hk e h)
  · exact br_f (by decide) (mr_xpushInt hf hk e h)
theorem mr_o14 {p k : Nat} {n : Int32} (H : mr_H R f d tc cf op ns ab sr gl cl fi tk de lo st gs gv kd fs fv ls lv ss sv he) (ek : d f = k + 1) (h1 : ss (6 * f + k) = 1) : ∃ (u' : SX) (v' : SY), (∀ Q : Int32 → SX → Prop, Q (-1) u' → wpX_work Q (tc, cf, nI (f + 1), nI f, nI p, sc, mc, g1, g2, op, ns, ab, sr, gl, cl, fi, tk, fo, du, de, lo, st, ke) (nI 14) n) ∧ (∀ Q : SY → Prop, Q v' → wpY_simple Q (nI (f + 1), g1, g2, sc, mc, nI p, 0, en, op, ns, ab, sr, gs, gv, kd, fs, fv, ls, lv, ss, sv, he, du, nd, ke) (nI 14) n) ∧ mr_Md sc (p + 1) u' v' := by
  obtain ⟨hf, hcd, hb, hb', hdb, hrv, hhv, htc, hcf⟩ := H
  have e : de f = nI (k + 1) := by rw [hb f (by omega), ek]
  have e' : he f = nI (k + 1) := by rw [hb' f (by omega), ek]
  have d6 := hdb.1
  have hv := mr_V_low (hrv.2.2 f k (by omega) (by omega)) h1
  have i1 : vp_in (nI f) 10 := vp_in_nI hf (by decide)
  have i2 : (nI f).toNatClampNeg = f := nI_clamp (by omega)
  by_cases hw : sv (6 * f + k) = 0
  · apply mr_ex3
    · intro Q hQ
      unfold wpX_work
      dsimp only
      repeat (first | refine br_f (by decide) ?_ | refine br_t (by decide) ?_)
      refine mr_xpop (k := k) hf (by omega) e ?_
      dsimp only
      rw [hv, mr_I_i, i2]
      exact br_t hw ⟨i1, nm_e hQ⟩
    · intro Q hQ
      refine mr_yone (k := k) hf (by omega) e' (by decide) (by decide) (by decide) (by decide) (by decide) (by decide) (fun z => absurd z (by decide)) (fun z z' => ?_)
      refine br_t rfl (br_t hw ?_)
      rw [nI_pred f, i2]
      exact ⟨i1, nm_e (mr_y207 hcd hhv (hrv.2.2 f k (by omega) (by omega)) (by decide) (by decide) (by decide) (by decide) hQ)⟩
    · refine mr_mkM (R := R) (d := mr_ud d f k) (p := p) (by omega) ?_
      try dsimp only
      exact ⟨hf, hcd, mr_B_u hb, mr_B_u hb', mr_DB_u hdb (by omega), mr_RVpop hdb hrv (by omega), hhv, htc, hcf⟩
  · apply mr_ex3
    · intro Q hQ
      unfold wpX_work
      dsimp only
      repeat (first | refine br_f (by decide) ?_ | refine br_t (by decide) ?_)
      refine mr_xpop (k := k) hf (by omega) e ?_
      dsimp only
      rw [hv, mr_I_i]
      exact br_f hw hQ
    · intro Q hQ
      refine mr_yone (k := k) hf (by omega) e' (by decide) (by decide) (by decide) (by decide) (by decide) (by decide) (fun z => absurd z (by decide)) (fun z z' => ?_)
      exact br_t rfl (br_f hw (mr_y207 hcd hhv (hrv.2.2 f k (by omega) (by omega)) (by decide) (by decide) (by decide) (by decide) hQ))
    · refine mr_mkM (R := R) (d := mr_ud d f k) (p := p) (by omega) ?_
      try dsimp only
      exact ⟨hf, hcd, mr_B_u hb, mr_B_u hb', mr_DB_u hdb (by omega), mr_RVpop hdb hrv (by omega), hhv, htc, hcf⟩
theorem mr_o16 {p k j : Nat} (H : mr_H R f d tc cf op ns ab sr gl cl fi tk de lo st gs gv kd fs fv ls lv ss sv he) (ek : d f = k + 1) (h2 : ss (6 * f + k) = 2) (hj : j < 3) : ∃ (u' : SX) (v' : SY), (∀ Q : Int32 → SX → Prop, Q (-1) u' → wpX_work Q (tc, cf, nI (f + 1), nI f, nI p, sc, mc, g1, g2, op, ns, ab, sr, gl, cl, fi, tk, fo, du, de, lo, st, ke) (nI 16) (nI j)) ∧ (∀ Q : SY → Prop, Q v' → wpY_simple Q (nI (f + 1), g1, g2, sc, mc, nI p, 0, en, op, ns, ab, sr, gs, gv, kd, fs, fv, ls, lv, ss, sv, he, du, nd, ke) (nI 16) (nI j)) ∧ mr_Md sc (p + 1) u' v' := by
  obtain ⟨hf, hcd, hb, hb', hdb, hrv, hhv, htc, hcf⟩ := H
  have e : de f = nI (k + 1) := by rw [hb f (by omega), ek]
  have e' : he f = nI (k + 1) := by rw [hb' f (by omega), ek]
  have d6 := hdb.1
  obtain ⟨x, y, hx, hy, ev, ew, r⟩ := mr_V_ob (hrv.2.2 f k (by omega) (by omega)) h2
  apply mr_ex3
  · intro Q hQ
    unfold wpX_work
    dsimp only
    repeat (first | refine br_f (by decide) ?_ | refine br_t (by decide) ?_)
    refine mr_xpop (k := k) hf (by omega) e ?_
    dsimp only
    repeat (first | refine br_f (by decide) ?_ | refine br_t (by decide) ?_)
    rw [ev, mr_O_i, mr_x3 x j, nI_clamp (n := 3 * x + j) (by omega)]
    exact ⟨vp_in_nI (by omega) (by decide), mr_xpush (k := k) hf (by omega) pk_us hQ⟩
  · intro Q hQ
    refine mr_yone (k := k) hf (by omega) e' (by decide) (by decide) (by decide) (by decide) (by decide) (by decide) (fun z => absurd z (by decide)) (fun z z' => ?_)
    refine br_f (by decide) (br_t rfl ?_)
    rw [ew, mr_y3 y j, nI_clamp (n := 3 * y + j) (by omega)]
    refine ⟨vp_in_nI (by omega) (by decide), vp_in_nI (by omega) (by decide), mr_ypush (k := k) hf (by omega) pk_us ?_⟩
    rw [← ew]
    exact mr_y239 hcd hhv (hrv.2.2 f k (by omega) (by omega)) (kd' := kd) (fs' := fs) (fv' := fv) (mr_y263n (by decide) (by decide) (by decide) hQ)
  · refine mr_mkM (R := R) (d := mr_ud d f (k + 1)) (p := p) (by omega) ?_
    try dsimp only
    exact ⟨hf, hcd, mr_B_e (mr_B_u (mr_B_u hb)) (fun g _ => by unfold mr_ud; split <;> rfl), mr_B_e (mr_B_u (mr_B_u hb')) (fun g _ => by unfold mr_ud; split <;> rfl), mr_DB_u hdb (by omega), mr_RVpush hdb hrv (by omega) ((hhv.1 x y r).2.2.2.2 j hj), hhv, htc, hcf⟩
theorem mr_o18 {p k j : Nat} (H : mr_H R f d tc cf op ns ab sr gl cl fi tk de lo st gs gv kd fs fv ls lv ss sv he) (ek : d f = k + 1) (hj : j < 4) : ∃ (u' : SX) (v' : SY), (∀ Q : Int32 → SX → Prop, Q (-1) u' → wpX_work Q (tc, cf, nI (f + 1), nI f, nI p, sc, mc, g1, g2, op, ns, ab, sr, gl, cl, fi, tk, fo, du, de, lo, st, ke) (nI 18) (nI j)) ∧ (∀ Q : SY → Prop, Q v' → wpY_simple Q (nI (f + 1), g1, g2, sc, mc, nI p, 0, en, op, ns, ab, sr, gs, gv, kd, fs, fv, ls, lv, ss, sv, he, du, nd, ke) (nI 18) (nI j)) ∧ mr_Md sc (p + 1) u' v' := by
  obtain ⟨hf, hcd, hb, hb', hdb, hrv, hhv, htc, hcf⟩ := H
  have e : de f = nI (k + 1) := by rw [hb f (by omega), ek]
  have e' : he f = nI (k + 1) := by rw [hb' f (by omega), ek]
  have d6 := hdb.1
  have hV := hrv.2.2 f k (by omega) (by omega)
  have hn : ¬ nI j = -1 := mr_ne1 (by omega)
  have h01 : mr_ib ab kd (nI j) (ss (6 * f + k)) (sv (6 * f + k)) = 0 ∨ mr_ib ab kd (nI j) (ss (6 * f + k)) (sv (6 * f + k)) = 1 := by
    unfold mr_ib
    split
    · exact mr_iy_01 _ _ _ _
    · exact Or.inl rfl
  refine mr_ex3 (tc, cf, nI (f + 1), nI f, nI p, sc, mc, g1, g2, op, ns, ab, sr, gl, cl, fi, tk, fo, du, upd (upd de f (nI k)) f (nI (k + 1)), lo, vp_updL st (6 * f + k) (mr_I (mr_ib ab kd (nI j) (ss (6 * f + k)) (sv (6 * f + k)))), ke) (nI (f + 1), g1, g2, sc, mc, nI p, 0, en, op, ns, ab, sr, gs, gv, kd, fs, fv, ls, lv, upd ss (6 * f + k) 1, upd sv (6 * f + k) (mr_ib ab kd (nI j) (ss (6 * f + k)) (sv (6 * f + k))), upd (upd he f (nI k)) f (nI (k + 1)), du, nd, ke) ?_ ?_ ?_
  · intro Q hQ
    unfold wpX_work
    dsimp only
    repeat (first | refine br_f (by decide) ?_ | refine br_t (by decide) ?_)
    refine mr_xpop (k := k) hf (by omega) e ?_
    dsimp only
    repeat (first | refine br_f (by decide) ?_ | refine br_t (by decide) ?_)
    by_cases z : ss (6 * f + k) = 2
    · obtain ⟨x, y, hx, hy, ev, ew, r⟩ := mr_V_ob hV z
      have eb : mr_ib ab kd (nI j) (ss (6 * f + k)) (sv (6 * f + k)) = mr_is ab (nI j) 4 (cl x) := by
        rw [mr_ib, if_pos z, ew, nI_clamp (by omega), mr_iy_is hn, (mr_HVok hhv r).2.2]
      rw [eb] at hQ h01
      rw [ev]
      refine br_f (mr_O_nlt hx) ?_
      rw [mr_O_i, nI_clamp (by omega)]
      refine ⟨vp_in_nI hx (by decide), mr_xisb hcd (mr_HVok hhv r).2.1 ?_⟩
      rcases h01 with q | q
      · rw [q] at hQ ⊢
        exact br_t rfl (mr_x97 (k := k) hf (by omega) pk_us (Or.inl rfl) hQ)
      · rw [q] at hQ ⊢
        exact br_f (by decide) (mr_x97 (k := k) hf (by omega) pk_us (Or.inr rfl) hQ)
    · have eb : mr_ib ab kd (nI j) (ss (6 * f + k)) (sv (6 * f + k)) = 0 := by rw [mr_ib, if_neg z]
      rw [eb] at hQ
      exact br_t (Int64.not_le.mp fun q => z ((mr_V_obj hV).mp q)) (mr_x97 (k := k) hf (by omega) pk_us (Or.inl rfl) hQ)
  · intro Q hQ
    refine mr_yone (k := k) hf (by omega) e' (by decide) (by decide) (by decide) (by decide) (by decide) (by decide) (fun z => absurd z (by decide)) (fun z z' => ?_)
    refine br_f (by decide) (br_f (by decide) (mr_y239 hcd hhv hV (kd' := kd) (fs' := fs) (fv' := fv) ?_))
    rcases h01 with q | q
    · rw [q] at hQ ⊢
      exact br_t rfl (br_t rfl (mr_ypush (k := k) hf (by omega) pk_us (br_f (by decide) hQ)))
    · rw [q] at hQ ⊢
      exact br_t rfl (br_f (by decide) (mr_ypush (k := k) hf (by omega) pk_us (br_f (by decide) hQ)))
  · refine mr_mkM (R := R) (d := mr_ud d f (k + 1)) (p := p) (by omega) ?_
    try dsimp only
    exact ⟨hf, hcd, mr_B_e (mr_B_u (mr_B_u hb)) (fun g _ => by unfold mr_ud; split <;> rfl), mr_B_e (mr_B_u (mr_B_u hb')) (fun g _ => by unfold mr_ud; split <;> rfl), mr_DB_u hdb (by omega), mr_RVpush hdb hrv (by omega) mr_VI, hhv, htc, hcf⟩
theorem mr_o23 {p k : Nat} {n : Int32} (H : mr_H R f d tc cf op ns ab sr gl cl fi tk de lo st gs gv kd fs fv ls lv ss sv he) (ek : d f = k + 1) (h1 : ss (6 * f + k) = 1) (hp : p < 1000) : ∃ (u' : SX) (v' : SY), (∀ Q : Int32 → SX → Prop, Q (-1) u' → wpX_work Q (tc, cf, nI (f + 1), nI f, nI p, sc, mc, g1, g2, op, ns, ab, sr, gl, cl, fi, tk, fo, du, de, lo, st, ke) (nI 23) n) ∧ (∀ Q : SY → Prop, Q v' → wpY_simple Q (nI (f + 1), g1, g2, sc, mc, nI p, 0, en, op, ns, ab, sr, gs, gv, kd, fs, fv, ls, lv, ss, sv, he, du, nd, ke) (nI 23) n) ∧ mr_Md sc (p + 1) u' v' := by
  obtain ⟨hf, hcd, hb, hb', hdb, hrv, hhv, htc, hcf⟩ := H
  have e : de f = nI (k + 1) := by rw [hb f (by omega), ek]
  have e' : he f = nI (k + 1) := by rw [hb' f (by omega), ek]
  have d6 := hdb.1
  have hv := mr_V_low (hrv.2.2 f k (by omega) (by omega)) h1
  by_cases h20 : 20 ≤ p
  · apply mr_ex3
    · intro Q hQ
      unfold wpX_work
      dsimp only
      repeat (first | refine br_f (by decide) ?_ | refine br_t (by decide) ?_)
      refine mr_xpop (k := k) hf (by omega) e ?_
      dsimp only
      refine br_f (by decide) ?_
      exact br_t (nI_le (a := 20) h20 (by omega)) (nm_r (nI_1 p) hQ)
    · intro Q hQ
      refine mr_yone (k := k) hf (by omega) e' (by decide) (by decide) (by decide) (by decide) (by decide) (by decide) (fun z => absurd z (by decide)) (fun z z' => ?_)
      refine br_f (by decide) (br_f (by decide) (mr_y239 hcd hhv (hrv.2.2 f k (by omega) (by omega)) (kd' := kd) (fs' := fs) (fv' := fv) (br_f (by decide) (br_t rfl ?_))))
      exact br_t (nI_le (a := 20) h20 (by omega)) (nm_r (nI_1 p) hQ)
    · refine mr_mkM (R := R) (d := mr_ud d f k) (p := p + 1) (by omega) ?_
      try dsimp only
      exact ⟨hf, hcd, mr_B_u hb, mr_B_u hb', mr_DB_u hdb (by omega), mr_RVpop hdb hrv (by omega), hhv, htc, hcf⟩
  · apply mr_ex3
    · intro Q hQ
      unfold wpX_work
      dsimp only
      repeat (first | refine br_f (by decide) ?_ | refine br_t (by decide) ?_)
      refine mr_xpop (k := k) hf (by omega) e ?_
      dsimp only
      refine br_f (by decide) ?_
      rw [hv, mr_I_i]
      exact br_f (nI_ge (b := 20) (by omega) (by decide)) ⟨vp_in_nI (by omega) (by decide), nm_r (e' := upd ke p (sv (6 * f + k))) (by rw [nI_clamp (by omega)]) (nm_r (nI_1 p) hQ)⟩
    · intro Q hQ
      refine mr_yone (k := k) hf (by omega) e' (by decide) (by decide) (by decide) (by decide) (by decide) (by decide) (fun z => absurd z (by decide)) (fun z z' => ?_)
      refine br_f (by decide) (br_f (by decide) (mr_y239 hcd hhv (hrv.2.2 f k (by omega) (by omega)) (kd' := kd) (fs' := fs) (fv' := fv) (br_f (by decide) (br_t rfl ?_))))
      exact br_f (nI_ge (b := 20) (by omega) (by decide)) ⟨vp_in_nI (by omega) (by decide), nm_r (e' := upd ke p (sv (6 * f + k))) (by rw [nI_clamp (by omega)]) (nm_r (nI_1 p) hQ)⟩
    · refine mr_mkM (R := R) (d := mr_ud d f k) (p := p + 1) (by omega) ?_
      try dsimp only
      exact ⟨hf, hcd, mr_B_u hb, mr_B_u hb', mr_DB_u hdb (by omega), mr_RVpop hdb hrv (by omega), hhv, htc, hcf⟩
end
