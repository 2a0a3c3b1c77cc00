/-! the instructions, one by one: both sides end, in related states again -/
theorem mr_ex3 {A : SX → Prop} {B : SY → Prop} {C : SX → SY → Prop} (u : SX) (v : SY) (a : A u) (b : B v) (c : C u v) : ∃ (u : SX) (v : SY), A u ∧ B v ∧ C u v := ⟨u, v, a, b, c⟩
section
variable {tc cf fc la oc sc mc g1 g2 fr ov en : Int32} {op ns ab sr cl tk fo du de ke gs gv kd fs fv ls lv ss sv he nd : Nat → Int32} {gl fi lo st : Nat → Int64} {R : Nat → Nat → Prop} {f : Nat} {d : Nat → Nat}
theorem mr_o1 {p : Nat} {n : Int32} (H : mr_H R f d tc cf op ns ab sr gl cl fi tk de lo st gs gv kd fs fv ls lv ss sv he) (hk : d f < 6) : ∃ (u' : SX) (v' : SY), (∀ Q : Int32 → SX → Prop, Q (-1) u' → wpX_work Q (tc, cf, nI (f + 1), nI f, nI p, sc, mc, g1, g2, op, ns, ab, sr, gl, cl, fi, tk, fo, du, de, lo, st, ke) (nI 1) n) ∧ (∀ Q : SY → Prop, Q v' → wpY_simple Q (nI (f + 1), g1, g2, sc, mc, nI p, 0, en, op, ns, ab, sr, gs, gv, kd, fs, fv, ls, lv, ss, sv, he, du, nd, ke) (nI 1) n) ∧ mr_Md sc (p + 1) u' v' := by
  obtain ⟨hf, hcd, hb, hb', hdb, hrv, hhv, htc, hcf⟩ := H
  have e := hb f (by omega)
  have e' := hb' f (by omega)
  apply mr_ex3
  · intro Q hQ
    unfold wpX_work
    dsimp only
    repeat (first | refine br_f (by decide) ?_ | refine br_t (by decide) ?_)
    exact mr_xpushInt hf hk e hQ
  · intro Q hQ
    unfold wpY_simple
    dsimp only
    refine nm_e ?_
    repeat (first | refine br_f (by decide) ?_ | refine br_t (by decide) ?_)
    exact mr_ypush hf hk e' hQ
  · exact mr_mkM (by omega) ⟨hf, hcd, mr_B_u hb, mr_B_u hb', mr_DB_u hdb (by omega), mr_RVpush hdb hrv (Nat.le_refl _) (mr_VI), hhv, htc, hcf⟩
theorem mr_o2 {p : Nat} {n : Int32} (H : mr_H R f d tc cf op ns ab sr gl cl fi tk de lo st gs gv kd fs fv ls lv ss sv he) (hk : d f < 6) : ∃ (u' : SX) (v' : SY), (∀ Q : Int32 → SX → Prop, Q (-1) u' → wpX_work Q (tc, cf, nI (f + 1), nI f, nI p, sc, mc, g1, g2, op, ns, ab, sr, gl, cl, fi, tk, fo, du, de, lo, st, ke) (nI 2) n) ∧ (∀ Q : SY → Prop, Q v' → wpY_simple Q (nI (f + 1), g1, g2, sc, mc, nI p, 0, en, op, ns, ab, sr, gs, gv, kd, fs, fv, ls, lv, ss, sv, he, du, nd, ke) (nI 2) n) ∧ mr_Md sc (p + 1) u' v' := by
  obtain ⟨hf, hcd, hb, hb', hdb, hrv, hhv, htc, hcf⟩ := H
  have e := hb f (by omega)
  have e' := hb' f (by omega)
  apply mr_ex3
  · intro Q hQ
    unfold wpX_work
    dsimp only
    repeat (first | refine br_f (by decide) ?_ | refine br_t (by decide) ?_)
    exact mr_xpush hf hk e hQ
  · intro Q hQ
    unfold wpY_simple
    dsimp only
    refine nm_e ?_
    repeat (first | refine br_f (by decide) ?_ | refine br_t (by decide) ?_)
    exact mr_ypush hf hk e' hQ
  · exact mr_mkM (by omega) ⟨hf, hcd, mr_B_u hb, mr_B_u hb', mr_DB_u hdb (by omega), mr_RVpush hdb hrv (Nat.le_refl _) (mr_V0), hhv, htc, hcf⟩
theorem mr_o3 {p j : Nat} (H : mr_H R f d tc cf op ns ab sr gl cl fi tk de lo st gs gv kd fs fv ls lv ss sv he) (hk : d f < 6) (hj : j < 4) : ∃ (u' : SX) (v' : SY), (∀ Q : Int32 → SX → Prop, Q (-1) u' → wpX_work Q (tc, cf, nI (f + 1), nI f, nI p, sc, mc, g1, g2, op, ns, ab, sr, gl, cl, fi, tk, fo, du, de, lo, st, ke) (nI 3) (nI j)) ∧ (∀ Q : SY → Prop, Q v' → wpY_simple Q (nI (f + 1), g1, g2, sc, mc, nI p, 0, en, op, ns, ab, sr, gs, gv, kd, fs, fv, ls, lv, ss, sv, he, du, nd, ke) (nI 3) (nI j)) ∧ mr_Md sc (p + 1) u' v' := by
  obtain ⟨hf, hcd, hb, hb', hdb, hrv, hhv, htc, hcf⟩ := H
  have e := hb f (by omega)
  have e' := hb' f (by omega)
  apply mr_ex3
  · intro Q hQ
    unfold wpX_work
    dsimp only
    repeat (first | refine br_f (by decide) ?_ | refine br_t (by decide) ?_)
    rw [mr_x4 f j, nI_clamp (n := 4 * f + j) (by omega)]
    exact ⟨vp_in_nI (by omega) (by decide), mr_xpush hf hk e hQ⟩
  · intro Q hQ
    unfold wpY_simple
    dsimp only
    refine nm_r (e' := nI (4 * f + j)) (by rw [nI_pred, pk_andN (n := j) (m := 3) (by omega) 2 (by decide), Nat.mod_eq_of_lt (by omega), mr_y4]) ?_
    repeat (first | refine br_f (by decide) ?_ | refine br_t (by decide) ?_)
    rw [nI_clamp (n := 4 * f + j) (by omega)]
    exact ⟨vp_in_nI (by omega) (by decide), vp_in_nI (by omega) (by decide), mr_ypush hf hk e' hQ⟩
  · exact mr_mkM (by omega) ⟨hf, hcd, mr_B_u hb, mr_B_u hb', mr_DB_u hdb (by omega), mr_RVpush hdb hrv (Nat.le_refl _) (hrv.2.1 (4 * f + j) (by omega)), hhv, htc, hcf⟩
theorem mr_o21 {p j : Nat} (H : mr_H R f d tc cf op ns ab sr gl cl fi tk de lo st gs gv kd fs fv ls lv ss sv he) (hk : d f < 6) (hj : j < 4) : ∃ (u' : SX) (v' : SY), (∀ Q : Int32 → SX → Prop, Q (-1) u' → wpX_work Q (tc, cf, nI (f + 1), nI f, nI p, sc, mc, g1, g2, op, ns, ab, sr, gl, cl, fi, tk, fo, du, de, lo, st, ke) (nI 21) (nI j)) ∧ (∀ Q : SY → Prop, Q v' → wpY_simple Q (nI (f + 1), g1, g2, sc, mc, nI p, 0, en, op, ns, ab, sr, gs, gv, kd, fs, fv, ls, lv, ss, sv, he, du, nd, ke) (nI 21) (nI j)) ∧ mr_Md sc (p + 1) u' v' := by
  obtain ⟨hf, hcd, hb, hb', hdb, hrv, hhv, htc, hcf⟩ := H
  have e := hb f (by omega)
  have e' := hb' f (by omega)
  apply mr_ex3
  · intro Q hQ
    unfold wpX_work
    dsimp only
    repeat (first | refine br_f (by decide) ?_ | refine br_t (by decide) ?_)
    rw [nI_clamp (n := j) (by omega)]
    exact ⟨vp_in_nI hj (by decide), mr_xpush hf hk e hQ⟩
  · intro Q hQ
    unfold wpY_simple
    dsimp only
    refine nm_e ?_
    repeat (first | refine br_f (by decide) ?_ | refine br_t (by decide) ?_)
    rw [nI_clamp (n := j) (by omega)]
    exact ⟨vp_in_nI hj (by decide), vp_in_nI hj (by decide), mr_ypush hf hk e' hQ⟩
  · exact mr_mkM (by omega) ⟨hf, hcd, mr_B_u hb, mr_B_u hb', mr_DB_u hdb (by omega), mr_RVpush hdb hrv (Nat.le_refl _) (hrv.1 j hj), hhv, htc, hcf⟩
theorem mr_o5 {p k : Nat} {n : Int32} (H : mr_H R f d tc cf op ns ab sr gl cl fi tk de lo st gs gv kd fs fv ls lv ss sv he) (ek : d f = k + 1) : ∃ (u' : SX) (v' : SY), (∀ Q : Int32 → SX → Prop, Q (-1) u' → wpX_work Q (tc, cf, nI (f + 1), nI f, nI p, sc, mc, g1, g2, op, ns, ab, sr, gl, cl, fi, tk, fo, du, de, lo, st, ke) (nI 5) n) ∧ (∀ Q : SY → Prop, Q v' → wpY_simple Q (nI (f + 1), g1, g2, sc, mc, nI p, 0, en, op, ns, ab, sr, gs, gv, kd, fs, fv, ls, lv, ss, sv, he, du, nd, ke) (nI 5) n) ∧ mr_Md sc (p + 1) u' v' := by
  obtain ⟨hf, hcd, hb, hb', hdb, hrv, hhv, htc, hcf⟩ := H
  have e : de f = nI (k + 1) := by rw [hb f (by omega), ek]
  have e' : he f = nI (k + 1) := by rw [hb' f (by omega), ek]
  have d6 := hdb.1
  apply mr_ex3
  · intro Q hQ
    unfold wpX_work
    dsimp only
    repeat (first | refine br_f (by decide) ?_ | refine br_t (by decide) ?_)
    refine mr_xpop (k := k) hf (by omega) e ?_
    repeat (first | refine br_f (by decide) ?_ | refine br_t (by decide) ?_)
    exact hQ
  · intro Q hQ
    refine mr_yone (k := k) hf (by omega) e' (by decide) (by decide) (by decide) (by decide) (by decide) (by decide) (fun z => ?_) (fun z z' => ?_)
    · exact absurd z (by decide)
    · exact mr_ytail hcd hhv (hrv.2.2 f k (by omega) (by omega)) (by decide) (by decide) (by decide) (by decide) (by decide) hQ
  · exact mr_mkM (by omega) ⟨hf, hcd, mr_B_u hb, mr_B_u hb', mr_DB_u hdb (by omega), mr_RVpop hdb hrv (by omega), hhv, htc, hcf⟩
theorem mr_o4 {p k j : Nat} (H : mr_H R f d tc cf op ns ab sr gl cl fi tk de lo st gs gv kd fs fv ls lv ss sv he) (ek : d f = k + 1) (hj : j < 4) : ∃ (u' : SX) (v' : SY), (∀ Q : Int32 → SX → Prop, Q (-1) u' → wpX_work Q (tc, cf, nI (f + 1), nI f, nI p, sc, mc, g1, g2, op, ns, ab, sr, gl, cl, fi, tk, fo, du, de, lo, st, ke) (nI 4) (nI j)) ∧ (∀ Q : SY → Prop, Q v' → wpY_simple Q (nI (f + 1), g1, g2, sc, mc, nI p, 0, en, op, ns, ab, sr, gs, gv, kd, fs, fv, ls, lv, ss, sv, he, du, nd, ke) (nI 4) (nI j)) ∧ mr_Md sc (p + 1) u' v' := by
  obtain ⟨hf, hcd, hb, hb', hdb, hrv, hhv, htc, hcf⟩ := H
  have e : de f = nI (k + 1) := by rw [hb f (by omega), ek]
  have e' : he f = nI (k + 1) := by rw [hb' f (by omega), ek]
  have d6 := hdb.1
  apply mr_ex3
  · intro Q hQ
    unfold wpX_work
    dsimp only
    repeat (first | refine br_f (by decide) ?_ | refine br_t (by decide) ?_)
    refine mr_xpop (k := k) hf (by omega) e ?_
    repeat (first | refine br_f (by decide) ?_ | refine br_t (by decide) ?_)
    rw [mr_x4 f j, nI_clamp (n := 4 * f + j) (by omega)]
    exact ⟨vp_in_nI (by omega) (by decide), nm_e hQ⟩
  · intro Q hQ
    refine mr_yone (k := k) hf (by omega) e' (by decide) (by decide) (by decide) (by decide) (by decide) (by decide) (fun z => ?_) (fun z z' => ?_)
    · unfold wY_simple_164
      repeat (first | refine br_f (by decide) ?_ | refine br_t (by decide) ?_)
      rw [nI_pred f, mr_y4 f j, nI_clamp (n := 4 * f + j) (by omega)]
      exact ⟨vp_in_nI (by omega) (by decide), nm_e ⟨vp_in_nI (by omega) (by decide), nm_e (mr_ytail hcd hhv (hrv.2.2 f k (by omega) (by omega)) (by decide) (by decide) (by decide) (by decide) (by decide) hQ)⟩⟩
    · exact absurd rfl z
  · exact mr_mkM (by omega) ⟨hf, hcd, mr_B_u hb, mr_B_u hb', mr_DB_u hdb (by omega), mr_RVloc (mr_RVpop hdb hrv (by omega)) (hrv.2.2 f k (by omega) (by omega)), hhv, htc, hcf⟩
theorem mr_o22 {p k j : Nat} (H : mr_H R f d tc cf op ns ab sr gl cl fi tk de lo st gs gv kd fs fv ls lv ss sv he) (ek : d f = k + 1) (hj : j < 4) : ∃ (u' : SX) (v' : SY), (∀ Q : Int32 → SX → Prop, Q (-1) u' → wpX_work Q (tc, cf, nI (f + 1), nI f, nI p, sc, mc, g1, g2, op, ns, ab, sr, gl, cl, fi, tk, fo, du, de, lo, st, ke) (nI 22) (nI j)) ∧ (∀ Q : SY → Prop, Q v' → wpY_simple Q (nI (f + 1), g1, g2, sc, mc, nI p, 0, en, op, ns, ab, sr, gs, gv, kd, fs, fv, ls, lv, ss, sv, he, du, nd, ke) (nI 22) (nI j)) ∧ mr_Md sc (p + 1) u' v' := by
  obtain ⟨hf, hcd, hb, hb', hdb, hrv, hhv, htc, hcf⟩ := H
  have e : de f = nI (k + 1) := by rw [hb f (by omega), ek]
  have e' : he f = nI (k + 1) := by rw [hb' f (by omega), ek]
  have d6 := hdb.1
  apply mr_ex3
  · intro Q hQ
    unfold wpX_work
    dsimp only
    repeat (first | refine br_f (by decide) ?_ | refine br_t (by decide) ?_)
    refine mr_xpop (k := k) hf (by omega) e ?_
    repeat (first | refine br_f (by decide) ?_ | refine br_t (by decide) ?_)
    rw [nI_clamp (n := j) (by omega)]
    exact ⟨vp_in_nI (by omega) (by decide), nm_e hQ⟩
  · intro Q hQ
    refine mr_yone (k := k) hf (by omega) e' (by decide) (by decide) (by decide) (by decide) (by decide) (by decide) (fun z => ?_) (fun z z' => ?_)
    · unfold wY_simple_164
      repeat (first | refine br_f (by decide) ?_ | refine br_t (by decide) ?_)
      rw [nI_clamp (n := j) (by omega)]
      exact ⟨vp_in_nI (by omega) (by decide), nm_e ⟨vp_in_nI (by omega) (by decide), nm_e (mr_ytail hcd hhv (hrv.2.2 f k (by omega) (by omega)) (by decide) (by decide) (by decide) (by decide) (by decide) hQ)⟩⟩
    · exact absurd rfl z'
  · exact mr_mkM (by omega) ⟨hf, hcd, mr_B_u hb, mr_B_u hb', mr_DB_u hdb (by omega), mr_RVglob (mr_RVpop hdb hrv (by omega)) (hrv.2.2 f k (by omega) (by omega)), hhv, htc, hcf⟩
theorem mr_o6 {p k : Nat} {n : Int32} (H : mr_H R f d tc cf op ns ab sr gl cl fi tk de lo st gs gv kd fs fv ls lv ss sv he) (ek : d f = k + 1) (hk : k < 5) : ∃ (u' : SX) (v' : SY), (∀ Q : Int32 → SX → Prop, Q (-1) u' → wpX_work Q (tc, cf, nI (f + 1), nI f, nI p, sc, mc, g1, g2, op, ns, ab, sr, gl, cl, fi, tk, fo, du, de, lo, st, ke) (nI 6) n) ∧ (∀ Q : SY → Prop, Q v' → wpY_simple Q (nI (f + 1), g1, g2, sc, mc, nI p, 0, en, op, ns, ab, sr, gs, gv, kd, fs, fv, ls, lv, ss, sv, he, du, nd, ke) (nI 6) n) ∧ mr_Md sc (p + 1) u' v' := by
  obtain ⟨hf, hcd, hb, hb', hdb, hrv, hhv, htc, hcf⟩ := H
  have e : de f = nI (k + 1) := by rw [hb f (by omega), ek]
  have e' : he f = nI (k + 1) := by rw [hb' f (by omega), ek]
  have d6 := hdb.1
  apply mr_ex3
  · intro Q hQ
    unfold wpX_work
    dsimp only
    repeat (first | refine br_f (by decide) ?_ | refine br_t (by decide) ?_)
    refine mr_xpop (k := k) hf (by omega) e ?_
    repeat (first | refine br_f (by decide) ?_ | refine br_t (by decide) ?_)
    exact mr_xpush (k := k) hf (by omega) pk_us (mr_xpush (k := k + 1) hf (by omega) pk_us hQ)
  · intro Q hQ
    unfold wpY_simple
    dsimp only
    refine nm_e ?_
    repeat (first | refine br_f (by decide) ?_ | refine br_t (by decide) ?_)
    refine mr_yat (t := 0) (k := k) hf (by omega) e' (fun i j => ⟨i, i, ?_⟩)
    rw [j]
    exact mr_ypush (k := k + 1) hf (by omega) e' hQ
  · refine mr_mkM (R := R) (d := mr_ud d f (k + 2)) (by omega) ?_
    dsimp only
    exact ⟨hf, hcd, mr_B_e (mr_B_u (mr_B_u (mr_B_u hb))) (fun g _ => by unfold mr_ud; split <;> rfl), mr_B_u hb', mr_DB_u hdb (by omega), mr_RVtop (k := k + 2) hdb hrv (fun j hj => by rw [pk_uLn (by omega), pk_uLn (by omega)]) (fun j hj => pk_un (by omega)) (fun j hj => pk_un (by omega)) (fun i hi => by
      by_cases e1 : i = k + 1
      · subst e1
        rw [pk_uLs, pk_us, pk_us]
        exact hrv.2.2 f k (by omega) (by omega)
      · rw [pk_uLn (by omega), pk_un (by omega), pk_un (by omega)]
        by_cases e2 : i = k
        · subst e2
          rw [pk_uLs]
          exact hrv.2.2 f i (by omega) (by omega)
        · rw [pk_uLn (by omega)]
          exact hrv.2.2 f i (by omega) (by omega)), hhv, htc, hcf⟩
end
