/-! Y's can: its tests; the head of Y's work -/
section
variable {tc cf fc la oc sc mc g1 g2 fr ov en : Int32} {op ns ab sr cl tk fo du de ke gs gv kd fs fv ls lv ss sv he nd : Nat → Int32} {gl fi lo st : Nat → Int64} {R : Nat → Nat → Prop} {f : Nat} {d : Nat → Nat}
theorem mr_yfd10 (post : Int32 → Prop) {op' ns' : Nat → Int32} (hc : mr_CD op' ns' ab sr) {slot : Nat} (hs : slot < 4) : ∀ (k j : Nat) (c : Int32), j + k = 4 → mr_ok 4 c → post (mr_fd ab sr slot k c) → wY_find_10 post (nI slot) fr g1 g2 sc mc oc ov en op ns ab sr gs gv kd fs fv ls lv ss sv he du nd ke (k + 1) c (nI j) := by
  intro k
  induction k with
  | zero =>
    intro j c hj _ h
    have : j = 4 := hj
    subst this
    exact br_t (by decide) h
  | succ k ih =>
    intro j c hj hc4 h
    have j4 : ¬ (4 : Int32) ≤ nI j := nI_ge (b := 4) (by omega) (by decide)
    rcases hc4 with rfl | ⟨a, ha, rfl⟩
    · rw [mr_fd_1] at h
      exact br_f j4 (br_t (by decide) (nm_r (nI_1 j) (ih (j + 1) (-1) (by omega) (Or.inl rfl) (by rw [mr_fd_1]; exact h))))
    · have e1 : 4 * nI a + nI slot = nI (4 * a + slot) := mr_y4 a slot
      have e2 : (nI (4 * a + slot)).toNatClampNeg = 4 * a + slot := nI_clamp (by omega)
      refine br_f j4 (br_f (nI_pos (by omega)) ?_)
      rw [e1, e2, nI_clamp (n := a) (by omega)]
      rcases hc.2.2 (4 * a + slot) (by omega) with z | ⟨q, hq, z⟩
      · rw [mr_fd_n ha z] at h
        exact ⟨vp_in_nI (by omega) (by decide), br_t (by rw [z]; decide) ⟨vp_in_nI ha (by decide), nm_e (nm_r (nI_1 j) (ih (j + 1) _ (by omega) (hc.2.1 a ha) h))⟩⟩
      · rw [mr_fd_s ha (by rw [z]; exact mr_ne1 (by omega))] at h
        exact ⟨vp_in_nI (by omega) (by decide), br_f (by rw [z]; exact nI_pos (by omega)) ⟨vp_in_nI (by omega) (by decide), h⟩⟩
theorem mr_yfind {y slot : Nat} {post : Int32 → Prop} {op' ns' : Nat → Int32} (hy : y < 16) (hc : mr_CD op' ns' ab sr) (hs : slot < 4) (h4 : mr_ok 4 (kd y)) (h : post (mr_fd ab sr slot 4 (kd y))) : wpY_find post (fr, g1, g2, sc, mc, oc, ov, en, op, ns, ab, sr, gs, gv, kd, fs, fv, ls, lv, ss, sv, he, du, nd, ke) (nI y) (nI slot) := by
  unfold wpY_find
  dsimp only
  rw [nI_clamp (by omega)]
  exact ⟨vp_in_nI hy (by decide), nm_e ⟨5, mr_yfd10 post hc hs 4 0 _ rfl h4 h⟩⟩
theorem mr_ystart {k y slot : Nat} {post : Int32 → Prop} {op' ns' : Nat → Int32} (hf : f < 10) (hk : k < 6) (e : he f = nI (k + 2)) (hy : y < 16) (hv : sv (6 * f + k) = nI y) (hc : mr_CD op' ns' ab sr) (hs : slot < 4) (h4 : mr_ok 4 (kd y)) (h : post (mr_fd ab sr slot 4 (kd y))) : wpY_start post (nI (f + 1), g1, g2, sc, mc, oc, ov, en, op, ns, ab, sr, gs, gv, kd, fs, fv, ls, lv, ss, sv, he, du, nd, ke) (nI slot) := by
  unfold wpY_start
  dsimp only
  refine mr_yat (t := 1) hf hk e (fun i j => ⟨i, ?_⟩)
  rw [j, hv, mr_and15 hy]
  exact mr_yfind hy hc hs h4 h
theorem mr_yin {post : Int32 → Prop} (v : SY) (x lo' hi' : Int32) (h1 : lo' ≤ x → x ≤ hi' → post 1) (h0 : (x < lo' ∨ hi' < x) → post 0) : wpY_in post v x lo' hi' := by
  obtain ⟨fr, g1, g2, sc, mc, oc, ov, en, op, ns, ab, sr, gs, gv, kd, fs, fv, ls, lv, ss, sv, he, du, nd, ke⟩ := v
  unfold wpY_in
  dsimp only
  exact br_c (fun z => h0 (Or.inl z)) (fun z => br_c (fun z2 => h0 (Or.inr z2)) (fun z2 => h1 (Int32.not_lt.mp z) (Int32.not_lt.mp z2)))
theorem mr_y191 {post : Int32 → SY → Prop} (h : post 1 (fr, g1, g2, sc, mc, oc, 0, en, op, ns, ab, sr, gs, gv, kd, fs, fv, ls, lv, ss, sv, he, du, nd, ke)) : wY_can_191 post fr g1 g2 sc mc oc 0 en op ns ab sr gs gv kd fs fv ls lv ss sv he du nd ke := br_t rfl h
theorem mr_y191' {post : Int32 → SY → Prop} (h : post 0 (fr, g1, g2, sc, mc, oc, 1, en, op, ns, ab, sr, gs, gv, kd, fs, fv, ls, lv, ss, sv, he, du, nd, ke)) : wY_can_191 post fr g1 g2 sc mc oc 1 en op ns ab sr gs gv kd fs fv ls lv ss sv he du nd ke := br_f (by decide) h
theorem mr_ycode {post : Int32 → SY → Prop} (hf : f < 10) (hi : ¬ ∃ i, i < 60 ∧ du f = nI i) (h : post 0 (nI (f + 1), g1, g2, sc, mc, oc, 1, 1, op, ns, ab, sr, gs, gv, kd, fs, fv, ls, lv, ss, sv, he, du, nd, ke)) : wpY_can post (nI (f + 1), g1, g2, sc, mc, oc, ov, en, op, ns, ab, sr, gs, gv, kd, fs, fv, ls, lv, ss, sv, he, du, nd, ke) := by
  have i1 : vp_in (nI f) 10 := vp_in_nI hf (by decide)
  have i2 : (nI f).toNatClampNeg = f := nI_clamp (by omega)
  unfold wpY_can
  dsimp only
  rw [nI_pred f, i2]
  refine ⟨i1, nm_e (mr_yin _ _ _ _ (fun z z2 => ?_) (fun z => br_t rfl (mr_y191' h)))⟩
  obtain ⟨j, hj, ej⟩ := nI_of2 (M := 59) (n := 59) (by decide) (Int32.not_lt.mpr z) z2
  exact absurd ⟨j, by omega, ej⟩ hi
theorem mr_y59 {i : Nat} (hi : i < 60) {post : Int32 → Prop} (v : SY) (h : post 1) : wpY_in post v (nI i) 0 59 :=
  mr_yin v _ _ _ (fun _ _ => h) (fun z => by
    rcases z with z | z
    · exact absurd z (nI_pos (by omega))
    · exact absurd z (nI_nlt (a := 59) (by omega) (by decide)))
theorem mr_ytired {i : Nat} {post : Int32 → SY → Prop} (hf : f < 10) (hi : i < 60) (ei : du f = nI i) (h : post 0 (nI (f + 1), g1, g2, nI 300, mc, oc, 1, 2, op, ns, ab, sr, gs, gv, kd, fs, fv, ls, lv, ss, sv, he, du, nd, ke)) : wpY_can post (nI (f + 1), g1, g2, nI 300, mc, oc, ov, en, op, ns, ab, sr, gs, gv, kd, fs, fv, ls, lv, ss, sv, he, du, nd, ke) := by
  have i1 : vp_in (nI f) 10 := vp_in_nI hf (by decide)
  have i2 : (nI f).toNatClampNeg = f := nI_clamp (by omega)
  unfold wpY_can
  dsimp only
  rw [nI_pred f, i2]
  exact ⟨i1, nm_r ei (mr_y59 hi _ (br_f (by decide) (br_t rfl (mr_y191' h))))⟩
theorem mr_ypre {i o s k : Nat} {post : Int32 → SY → Prop} (hf : f < 10) (hi : i < 60) (ei : du f = nI i) (eo : op i = nI o) (ho : o < 24) (hs : s < 300) (hk : k ≤ 6) (e : he f = nI k) (h3 : (k < mr_tk o ∨ (k = 6 ∧ mr_tk o < mr_lv o)) → post 0 (nI (f + 1), g1, g2, nI s, mc, oc, 1, 3, op, ns, ab, sr, gs, gv, kd, fs, fv, ls, lv, ss, sv, he, du, nd, ke)) (h4 : ¬ (k < mr_tk o ∨ (k = 6 ∧ mr_tk o < mr_lv o)) → ¬ mr_so o (ss (6 * f + (k - 1))) (ss (6 * f + (k - 2))) → post 0 (nI (f + 1), g1, g2, nI s, mc, oc, 1, 4, op, ns, ab, sr, gs, gv, kd, fs, fv, ls, lv, ss, sv, he, du, nd, ke)) (hn : ¬ (k < mr_tk o ∨ (k = 6 ∧ mr_tk o < mr_lv o)) → mr_so o (ss (6 * f + (k - 1))) (ss (6 * f + (k - 2))) → o ≠ 15 → wY_can_142 post (nI i) (nI o) (nI (f + 1)) g1 g2 (nI s) mc oc 0 en op ns ab sr gs gv kd fs fv ls lv ss sv he du nd ke) (hy : ¬ (k < mr_tk o ∨ (k = 6 ∧ mr_tk o < mr_lv o)) → mr_so o (ss (6 * f + (k - 1))) (ss (6 * f + (k - 2))) → o = 15 → wpY_mark (fun r u => match u with | (fr, g1, g2, sc, mc, oc, ov, en, op, ns, ab, sr, gs, gv, kd, fs, fv, ls, lv, ss, sv, he, du, nd, ke) => ((r = 16 → wpY_stop (fun u => match u with | (fr, g1, g2, sc, mc, oc, ov, en, op, ns, ab, sr, gs, gv, kd, fs, fv, ls, lv, ss, sv, he, du, nd, ke) => wY_can_191 post fr g1 g2 sc mc oc ov en op ns ab sr gs gv kd fs fv ls lv ss sv he du nd ke) (fr, g1, g2, sc, mc, oc, ov, en, op, ns, ab, sr, gs, gv, kd, fs, fv, ls, lv, ss, sv, he, du, nd, ke) 5) ∧ (¬ r = 16 → wY_can_142 post (nI i) 15 fr g1 g2 sc mc oc ov en op ns ab sr gs gv kd fs fv ls lv ss sv he du nd ke))) (nI (f + 1), g1, g2, nI s, mc, oc, 0, en, op, ns, ab, sr, gs, gv, kd, fs, fv, ls, lv, ss, sv, he, du, nd, ke)) : wpY_can post (nI (f + 1), g1, g2, nI s, mc, oc, 0, en, op, ns, ab, sr, gs, gv, kd, fs, fv, ls, lv, ss, sv, he, du, nd, ke) := by
  have i1 : vp_in (nI f) 10 := vp_in_nI hf (by decide)
  have i2 : (nI f).toNatClampNeg = f := nI_clamp (by omega)
  have i3 : vp_in (nI i) 60 := vp_in_nI hi (by decide)
  have i4 : (nI i).toNatClampNeg = i := nI_clamp (by omega)
  have t2 := mr_tk_le o ho
  have l2 := mr_lv_le o ho
  unfold wpY_can
  dsimp only
  rw [nI_pred f, i2]
  refine ⟨i1, nm_r ei (mr_y59 hi _ (br_f (by decide) (br_f (fun q => absurd ((nI_eq (b := 300) (by omega) (by decide)).mp q) (by omega)) ?_)))⟩
  rw [i4]
  refine ⟨i3, nm_r eo ⟨i1, nm_r e (mr_ytakes _ _ o ho ?_)⟩⟩
  refine pk_lt k (mr_tk o) (fun z => mr_y191' (h3 (Or.inl z))) (fun z => mr_ytakes _ _ o ho (mr_yleaves _ _ o ho ?_))
  rw [pk_sub z, nI_add]
  refine pk_le (k - mr_tk o + mr_lv o) 6 (fun z2 => ?_) (fun z2 => mr_y191' (h3 (Or.inr (by omega))))
  have z3 : ¬ (k < mr_tk o ∨ (k = 6 ∧ mr_tk o < mr_lv o)) := by omega
  refine mr_ysorts hf hk e o ho z (fun z4 => br_f (by decide) ?_) (fun z4 => br_t rfl (mr_y191' (h4 z3 z4)))
  by_cases e15 : o = 15
  · subst e15
    exact br_t rfl (hy z3 z4 rfl)
  · exact br_f (fun q => e15 ((nI_eq (b := 15) (by omega) (by decide)).mp q)) (hn z3 z4 e15)
theorem mr_y142 {i o s : Nat} {post : Int32 → SY → Prop} (ho : o < 24) (h19 : o ≠ 19) (h : post 1 (nI (f + 1), g1, g2, nI s, mc, oc, 0, en, op, ns, ab, sr, gs, gv, kd, fs, fv, ls, lv, ss, sv, he, du, nd, ke)) : wY_can_142 post (nI i) (nI o) (nI (f + 1)) g1 g2 (nI s) mc oc 0 en op ns ab sr gs gv kd fs fv ls lv ss sv he du nd ke := by
  have q : ¬ nI o = 19 := fun q => h19 ((nI_eq (b := 19) (by omega) (by decide)).mp q)
  exact br_f q (br_f q (mr_y191 h))
/-- the head of the work: the instruction, the next one due, one step more -/
theorem mr_ywS {i o s : Nat} {n : Int32} {v' : SY} (hf : f < 10) (hi : i < 60) (ei : du f = nI i) (eo : op i = nI o) (en' : ns i = n) (ho : o < 24) (h0 : o ≠ 0) (h13 : o ≠ 13) (h15 : o ≠ 15) (h19 : o ≠ 19) (h20 : o ≠ 20) (ht : mr_tk o ≠ 2) (L : ∀ Q : SY → Prop, Q v' → wpY_simple Q (nI (f + 1), g1, g2, nI (s + 1), mc, oc, 0, en, op, ns, ab, sr, gs, gv, kd, fs, fv, ls, lv, ss, sv, he, upd du f (nI (i + 1)), nd, ke) (nI o) n) (post : SY → Prop) (h : post v') : wpY_work post (nI (f + 1), g1, g2, nI s, mc, oc, 0, en, op, ns, ab, sr, gs, gv, kd, fs, fv, ls, lv, ss, sv, he, du, nd, ke) := by
  obtain ⟨fr', g1', g2', sc', mc', oc', ov', en'', op', ns', ab', sr', gs', gv', kd', fs', fv', ls', lv', ss', sv', he', du', nd', ke'⟩ := v'
  have i1 : vp_in (nI f) 10 := vp_in_nI hf (by decide)
  have i2 : (nI f).toNatClampNeg = f := nI_clamp (by omega)
  have i3 : vp_in (nI i) 60 := vp_in_nI hi (by decide)
  have i4 : (nI i).toNatClampNeg = i := nI_clamp (by omega)
  have t2 := mr_tk_le o ho
  unfold wpY_work
  dsimp only
  rw [nI_pred f, i2, ei, nI_1 s, nI_1 i]
  refine ⟨i1, nm_e ?_⟩
  rw [i4, en']
  refine ⟨i3, nm_r eo ⟨i1, i1, nm_e (nm_e (br_f (fun q => h0 ((nI_eq (b := 0) (by omega) (by decide)).mp q)) (br_f (fun q => h13 ((nI_eq (b := 13) (by omega) (by decide)).mp q)) (br_f (fun q => h15 ((nI_eq (b := 15) (by omega) (by decide)).mp q)) (br_f (fun q => h19 ((nI_eq (b := 19) (by omega) (by decide)).mp q)) (br_f (fun q => h20 ((nI_eq (b := 20) (by omega) (by decide)).mp q)) (mr_ytakes _ _ o ho (br_f (fun q => ht ((nI_eq (b := 2) (by omega) (by decide)).mp q)) ⟨i3, L _ h⟩))))))))⟩⟩
theorem mr_ywT {i o s : Nat} {n : Int32} {v' : SY} (hf : f < 10) (hi : i < 60) (ei : du f = nI i) (eo : op i = nI o) (en' : ns i = n) (ho : o < 24) (h0 : o ≠ 0) (h13 : o ≠ 13) (h15 : o ≠ 15) (h19 : o ≠ 19) (h20 : o ≠ 20) (ht : mr_tk o = 2) (L : ∀ Q : SY → Prop, Q v' → wpY_two Q (nI (f + 1), g1, g2, nI (s + 1), mc, oc, 0, en, op, ns, ab, sr, gs, gv, kd, fs, fv, ls, lv, ss, sv, he, upd du f (nI (i + 1)), nd, ke) (nI o) n) (post : SY → Prop) (h : post v') : wpY_work post (nI (f + 1), g1, g2, nI s, mc, oc, 0, en, op, ns, ab, sr, gs, gv, kd, fs, fv, ls, lv, ss, sv, he, du, nd, ke) := by
  obtain ⟨fr', g1', g2', sc', mc', oc', ov', en'', op', ns', ab', sr', gs', gv', kd', fs', fv', ls', lv', ss', sv', he', du', nd', ke'⟩ := v'
  have i1 : vp_in (nI f) 10 := vp_in_nI hf (by decide)
  have i2 : (nI f).toNatClampNeg = f := nI_clamp (by omega)
  have i3 : vp_in (nI i) 60 := vp_in_nI hi (by decide)
  have i4 : (nI i).toNatClampNeg = i := nI_clamp (by omega)
  unfold wpY_work
  dsimp only
  rw [nI_pred f, i2, ei, nI_1 s, nI_1 i]
  refine ⟨i1, nm_e ?_⟩
  rw [i4, en']
  refine ⟨i3, nm_r eo ⟨i1, i1, nm_e (nm_e (br_f (fun q => h0 ((nI_eq (b := 0) (by omega) (by decide)).mp q)) (br_f (fun q => h13 ((nI_eq (b := 13) (by omega) (by decide)).mp q)) (br_f (fun q => h15 ((nI_eq (b := 15) (by omega) (by decide)).mp q)) (br_f (fun q => h19 ((nI_eq (b := 19) (by omega) (by decide)).mp q)) (br_f (fun q => h20 ((nI_eq (b := 20) (by omega) (by decide)).mp q)) (mr_ytakes _ _ o ho (br_t (congrArg nI ht) ⟨i3, L _ h⟩))))))))⟩⟩
end
