/-! X's step: its tests, and what comes behind them -/
section
variable {tc cf fc la oc sc mc g1 g2 fr ov en : Int32} {op ns ab sr cl tk fo du de ke gs gv kd fs fv ls lv ss sv he nd : Nat → Int32} {gl fi lo st : Nat → Int64} {R : Nat → Nat → Prop} {f : Nat} {d : Nat → Nat}
/-- the lower walk of calledStart, as a loop and as a method -/
theorem mr_xcs18 (post : Int32 → Prop) {op' ns' : Nat → Int32} (hc : mr_CD op' ns' ab sr) {slot : Nat} (hs : slot < 4) : ∀ (k j : Nat) (c : Int32), j + k = 4 → mr_ok 4 c → post (mr_fd ab sr slot k c) → wX_calledStart_18 post (nI slot) tc cf fc la oc sc mc g1 g2 op ns ab sr gl cl fi tk fo du de lo st ke (k + 1) c (nI j) := by
  intro k
  induction k with
  | zero =>
    intro j c hj _ h
    have : j = 4 := hj
    subst this
    exact br_t (by decide) h
  | succ k ih =>
    intro j c hj hc4 h
    have j4 : ¬ (4 : Int32) ≤ nI j := nI_ge (b := 4) (by omega) (by decide)
    rcases hc4 with rfl | ⟨a, ha, rfl⟩
    · rw [mr_fd_1] at h
      exact br_f j4 (br_t rfl h)
    · have e1 : nI a * 4 + nI slot = nI (4 * a + slot) := mr_x4 a slot
      have e2 : (nI (4 * a + slot)).toNatClampNeg = 4 * a + slot := nI_clamp (by omega)
      refine br_f j4 (br_f (mr_ne1 (by omega)) ?_)
      rw [e1, e2, nI_clamp (n := a) (by omega)]
      by_cases z : sr (4 * a + slot) = -1
      · rw [mr_fd_n ha z] at h
        exact ⟨vp_in_nI (by omega) (by decide), br_t z ⟨vp_in_nI ha (by decide), nm_e (nm_r (nI_1 j) (ih (j + 1) _ (by omega) (hc.2.1 a ha) h))⟩⟩
      · rw [mr_fd_s ha z] at h
        exact ⟨vp_in_nI (by omega) (by decide), br_f z ⟨vp_in_nI (by omega) (by decide), h⟩⟩
theorem mr_xcs {k x slot : Nat} {post : Int32 → Prop} {op' ns' : Nat → Int32} (hf : f < 10) (hk : k < 6) (e : de f = nI (k + 2)) (hx : x < 16) (hv : st (6 * f + k) = mr_O x) (hc : mr_CD op' ns' ab sr) (hs : slot < 4) (h4 : mr_ok 4 (cl x)) (h : post (mr_fd ab sr slot 4 (cl x))) : wpX_calledStart post (tc, cf, fc, nI f, oc, sc, mc, g1, g2, op, ns, ab, sr, gl, cl, fi, tk, fo, du, de, lo, st, ke) (nI slot) := by
  unfold wpX_calledStart
  dsimp only
  refine mr_xval (t := 2) hf hk e (by omega) ?_
  rw [hv, mr_O_i, nI_clamp (by omega)]
  exact ⟨vp_in_nI hx (by decide), nm_e ⟨5, mr_xcs18 post hc hs 4 0 _ rfl h4 h⟩⟩
theorem mr_xcode {post : Int32 → SX → Prop} (hf : f < 10) (hi : ¬ ∃ i, i < 60 ∧ du f = nI i) (h : post 1 (tc, cf, fc, nI f, oc, sc, mc, g1, g2, op, ns, ab, sr, gl, cl, fi, tk, fo, du, de, lo, st, ke)) : wpX_step post (tc, cf, fc, nI f, oc, sc, mc, g1, g2, op, ns, ab, sr, gl, cl, fi, tk, fo, du, de, lo, st, ke) := by
  have i1 : vp_in (nI f) 10 := vp_in_nI hf (by decide)
  have i2 : (nI f).toNatClampNeg = f := nI_clamp (by omega)
  unfold wpX_step
  dsimp only
  rw [i2]
  refine ⟨i1, nm_e ?_⟩
  rcases pk_ix (du f) (n := 60) (by decide) with z | z | z
  · exact br_t z h
  · exact br_c (fun _ => h) (fun _ => br_f (Int32.not_lt.mpr z) h)
  · exact absurd z hi
theorem mr_xtired {i : Nat} {post : Int32 → SX → Prop} (hf : f < 10) (hi : i < 60) (ei : du f = nI i) (h : post 2 (tc, cf, fc, nI f, oc, nI 300, mc, g1, g2, op, ns, ab, sr, gl, cl, fi, tk, fo, du, de, lo, st, ke)) : wpX_step post (tc, cf, fc, nI f, oc, nI 300, mc, g1, g2, op, ns, ab, sr, gl, cl, fi, tk, fo, du, de, lo, st, ke) := by
  have i1 : vp_in (nI f) 10 := vp_in_nI hf (by decide)
  have i2 : (nI f).toNatClampNeg = f := nI_clamp (by omega)
  unfold wpX_step
  dsimp only
  rw [i2]
  exact ⟨i1, nm_r ei (br_f (nI_pos (by omega)) (br_t (nI_lt (b := 60) hi (by decide)) (br_f (by decide) h)))⟩
/-- up to the sorts -/
theorem mr_xpre {i o s k : Nat} {n a wa b wb : Int32} {post : Int32 → SX → Prop} (hf : f < 10) (hi : i < 60) (ei : du f = nI i) (eo : op i = nI o) (en' : ns i = n) (ho : o < 24) (hs : s < 300) (hk : k ≤ 6) (e : de f = nI k) (hA : 1 ≤ k → mr_V R (st (6 * f + (k - 1))) a wa) (hB : 2 ≤ k → mr_V R (st (6 * f + (k - 2))) b wb) (h3 : (k < mr_tk o ∨ (k = 6 ∧ mr_tk o < mr_lv o)) → post 3 (tc, cf, nI (f + 1), nI f, oc, nI s, mc, g1, g2, op, ns, ab, sr, gl, cl, fi, tk, fo, du, de, lo, st, ke)) (h4 : ¬ (k < mr_tk o ∨ (k = 6 ∧ mr_tk o < mr_lv o)) → ¬ mr_so o a b → post 4 (tc, cf, nI (f + 1), nI f, oc, nI s, mc, g1, g2, op, ns, ab, sr, gl, cl, fi, tk, fo, du, de, lo, st, ke)) (hn : ¬ (k < mr_tk o ∨ (k = 6 ∧ mr_tk o < mr_lv o)) → mr_so o a b → o ≠ 15 → wX_step_83 post (nI i) (nI o) n tc cf (nI (f + 1)) (nI f) oc (nI s) mc g1 g2 op ns ab sr gl cl fi tk fo du de lo st ke) (hy : ¬ (k < mr_tk o ∨ (k = 6 ∧ mr_tk o < mr_lv o)) → mr_so o a b → o = 15 → wpX_isMemoryFull (fun r u => match u with | (tc, cf, fc, la, oc, sc, mc, g1, g2, op, ns, ab, sr, gl, cl, fi, tk, fo, du, de, lo, st, ke) => ((r = 0 → wX_step_83 post (nI i) 15 n tc cf fc la oc sc mc g1 g2 op ns ab sr gl cl fi tk fo du de lo st ke) ∧ (¬ r = 0 → post 5 (tc, cf, fc, la, oc, sc, mc, g1, g2, op, ns, ab, sr, gl, cl, fi, tk, fo, du, de, lo, st, ke)))) (tc, cf, nI (f + 1), nI f, oc, nI s, mc, g1, g2, op, ns, ab, sr, gl, cl, fi, tk, fo, du, de, lo, st, ke)) : wpX_step post (tc, cf, nI (f + 1), nI f, oc, nI s, mc, g1, g2, op, ns, ab, sr, gl, cl, fi, tk, fo, du, de, lo, st, ke) := by
  have i1 : vp_in (nI f) 10 := vp_in_nI hf (by decide)
  have i2 : (nI f).toNatClampNeg = f := nI_clamp (by omega)
  have i3 : vp_in (nI i) 60 := vp_in_nI hi (by decide)
  have i4 : (nI i).toNatClampNeg = i := nI_clamp (by omega)
  unfold wpX_step
  dsimp only
  rw [i2]
  refine ⟨i1, nm_r ei (br_f (nI_pos (by omega)) (br_t (nI_lt (b := 60) hi (by decide)) (br_t (nI_lt (b := 300) hs (by decide)) ?_)))⟩
  rw [i4]
  refine ⟨i3, nm_r eo ⟨i3, nm_r en' ?_⟩⟩
  refine mr_xstack hf hk e o ho (fun z => br_t rfl (h3 z)) (fun z => br_f (by decide) ?_)
  refine mr_xsorts hf hk e hA hB o ho (by omega) (fun z2 => br_f (by decide) ?_) (fun z2 => br_t rfl (h4 z z2))
  by_cases e15 : o = 15
  · subst e15
    exact br_t rfl (hy z z2 rfl)
  · exact br_f (fun q => e15 ((nI_eq (b := 15) (by omega) (by decide)).mp q)) (hn z z2 e15)
/-- from the tests of a call on, to the work -/
theorem mr_xs119 {i o s : Nat} {n r : Int32} {post : Int32 → SX → Prop} {u' : SX} (hf : f < 10) (L : ∀ Q : Int32 → SX → Prop, Q r u' → wpX_work Q (tc, cf, nI (f + 1), nI f, oc, nI (s + 1), mc, g1, g2, op, ns, ab, sr, gl, cl, fi, tk, fo, upd du f (nI (i + 1)), de, lo, st, ke) (nI o) n) (h : post r u') : wX_step_119 post (nI i) (nI o) n tc cf (nI (f + 1)) (nI f) oc (nI s) mc g1 g2 op ns ab sr gl cl fi tk fo du de lo st ke := by
  obtain ⟨tc', cf', fc', la', oc', sc', mc', g1', g2', op', ns', ab', sr', gl', cl', fi', tk', fo', du', de', lo', st', ke'⟩ := u'
  have i1 : vp_in (nI f) 10 := vp_in_nI hf (by decide)
  have i2 : (nI f).toNatClampNeg = f := nI_clamp (by omega)
  unfold wX_step_119
  rw [i2, nI_1 s, nI_1 i]
  exact nm_e ⟨i1, nm_e (L _ h)⟩
theorem mr_xs83 {i o s : Nat} {n r : Int32} {post : Int32 → SX → Prop} {u' : SX} (hf : f < 10) (ho : o < 24) (h19 : o ≠ 19) (L : ∀ Q : Int32 → SX → Prop, Q r u' → wpX_work Q (tc, cf, nI (f + 1), nI f, oc, nI (s + 1), mc, g1, g2, op, ns, ab, sr, gl, cl, fi, tk, fo, upd du f (nI (i + 1)), de, lo, st, ke) (nI o) n) (h : post r u') : wX_step_83 post (nI i) (nI o) n tc cf (nI (f + 1)) (nI f) oc (nI s) mc g1 g2 op ns ab sr gl cl fi tk fo du de lo st ke := by
  have q : ¬ nI o = 19 := fun q => h19 ((nI_eq (b := 19) (by omega) (by decide)).mp q)
  exact br_f q (br_f q (mr_xs119 hf L h))
end
