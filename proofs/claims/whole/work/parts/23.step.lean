/-! one step of the machine, on both sides -/
def mr_YB (v v' : SY) : Prop := (∀ Q : Int32 → SY → Prop, Q 0 v' → wpY_can Q v) ∨ ∃ v1 : SY, (∀ Q : Int32 → SY → Prop, Q 1 v1 → wpY_can Q v) ∧ (∀ Q : SY → Prop, Q v' → wpY_work Q v1)
theorem mr_Md_le {S : Int32} {P P' : Nat} {u : SX} {v : SY} (h : mr_Md S P u v) (hp : P ≤ P') : mr_Md S P' u v := by
  obtain ⟨R, f, d, p, tc, cf, mc, g1, g2, en, op, ns, ab, sr, cl, tk, fo, du, de, ke, gs, gv, kd, fs, fv, ls, lv, ss, sv, he, nd, gl, fi, lo, st, h1, h2, h3, h4⟩ := h
  exact ⟨R, f, d, p, tc, cf, mc, g1, g2, en, op, ns, ab, sr, cl, tk, fo, du, de, ke, gs, gv, kd, fs, fv, ls, lv, ss, sv, he, nd, gl, fi, lo, st, Nat.le_trans h1 hp, h2, h3, h4⟩
section
variable {tc cf fc la oc sc mc g1 g2 fr ov en : Int32} {op ns ab sr cl tk fo du de ke gs gv kd fs fv ls lv ss sv he nd : Nat → Int32} {gl fi lo st : Nat → Int64} {R : Nat → Nat → Prop} {f : Nat} {d : Nat → Nat}
theorem mr_stepNew {p s i : Nat} (H : mr_H R f d tc cf op ns ab sr gl cl fi tk de lo st gs gv kd fs fv ls lv ss sv he) (hs : s < 300) (hp : p ≤ s) (hi : i < 60) (ei : du f = nI i) (eo : op i = nI 15) (hfit : mr_fit 15 (ns i)) (nf : ¬ (d f < mr_tk 15 ∨ (d f = 6 ∧ mr_tk 15 < mr_lv 15))) (so : mr_so 15 (ss (6 * f + (d f - 1))) (ss (6 * f + (d f - 2)))) : ∃ (r : Int32) (u' : SX) (v' : SY), (∀ Q : Int32 → SX → Prop, Q r u' → wpX_step Q (tc, cf, nI (f + 1), nI f, nI p, nI s, mc, g1, g2, op, ns, ab, sr, gl, cl, fi, tk, fo, du, de, lo, st, ke)) ∧ mr_YB (nI (f + 1), g1, g2, nI s, mc, nI p, 0, en, op, ns, ab, sr, gs, gv, kd, fs, fv, ls, lv, ss, sv, he, du, nd, ke) v' ∧ ((r = -1 ∧ s < 300 ∧ mr_Md (nI (s + 1)) (s + 1) u' v') ∨ (r ≠ -1 ∧ mr_En r u' v')) := by
  obtain ⟨hf, hcd, hb, hb', hdb, hrv, hhv, htc, hcf⟩ := H
  obtain ⟨j, hj, ej⟩ := hfit.1 (by decide)
  have hA : 1 ≤ d f → mr_V R (st (6 * f + (d f - 1))) (ss (6 * f + (d f - 1))) (sv (6 * f + (d f - 1))) := fun z => hrv.2.2 f (d f - 1) (by omega) (by omega)
  have hB : 2 ≤ d f → mr_V R (st (6 * f + (d f - 2))) (ss (6 * f + (d f - 2))) (sv (6 * f + (d f - 2))) := fun z => hrv.2.2 f (d f - 2) (by omega) (by omega)
  have e := hb f (by omega)
  have e' := hb' f (by omega)
  have d6 := hdb.1
  have h6 : d f < 6 := Nat.lt_of_le_of_ne d6 fun q => nf (Or.inr ⟨q, by decide⟩)
  obtain ⟨m, hm, rfl⟩ := hcf
  subst htc
  have hd6 : ∀ g, g < f + 1 → d g ≤ 6 := fun g hg => by
    by_cases eg : g = f
    · subst eg; exact d6
    · have := hdb.2 g (by omega); omega
  obtain ⟨tk', fo', hL', hIs, eX⟩ := mr_xfull (tk := tk) (la := nI f) (oc := nI p) (sc := nI s) (mc := mc) (g1 := g1) (g2 := g2) (op := op) (ns := ns) (ab := ab) (sr := sr) (cl := cl) (fo := fo) (du := du) (ke := ke) (F := f + 1) (by omega) hm hb hd6 (mr_XW_of hrv hhv) (fun x _ hl => mr_L_tk hrv hhv hl)
  obtain ⟨nd', hIsY, eY⟩ := mr_ymark (g1 := g1) (g2 := g2) (sc := nI s) (mc := mc) (oc := nI p) (ov := 0) (en := en) (op := op) (ns := ns) (ab := ab) (sr := sr) (kd := kd) (du := du) (nd := nd) (ke := ke) (F := f + 1) (by omega) hb' hd6 (mr_YW_of hrv hhv)
  have hcut := mr_cutHV hhv hL'
  have hRc := mr_cutRV (ed := mr_eX fi) hrv
  have hcX := mr_cn_le tk' 16
  have hcY := mr_cn_le nd' 16
  have hiff : mr_cn tk' 16 = 16 ↔ mr_cn nd' 16 = 16 := by
    refine ⟨fun z => ?_, fun z => ?_⟩
    · rw [← mr_count hrv hhv (hIs z) hIsY]; exact z
    · have := mr_cn_inj (fun y x => R x y) (fun y y' x a b => hhv.2.2 x y y' a b) nd' 16 16 tk' (fun y hy w => by
        obtain ⟨x, r, hl⟩ := mr_L_tr (fun y x => R x y) (mr_tr2 hrv) (fun y x y' r e => mr_te2 hhv x y y' r e) ((hIsY y hy).mp w)
        exact ⟨x, (hhv.1 x y r).1, hL' x (hhv.1 x y r).1 hl, r⟩)
      omega
  by_cases full : mr_cn tk' 16 = 16
  · refine ⟨5, _, _, fun Q hq => mr_xpre hf hi ei eo ej (by decide) hs d6 e hA hB (fun z => absurd z nf) (fun _ z => absurd so z) (fun _ _ z => absurd rfl z) (fun _ _ _ => eX _ (fun z => absurd full (by omega)) (fun _ => br_f (by decide) hq)), Or.inl (fun Q hq => mr_ypre hf hi ei eo (by decide) hs d6 e' (fun z => absurd z nf) (fun _ z => absurd so z) (fun _ _ z => absurd rfl z) (fun _ _ _ => eY _ (br_t (congrArg nI (hiff.mp full)) (mr_y191' hq)))), Or.inr ⟨by decide, mr_mkE ⟨hcd, hRc.1, hcut, rfl, m, hm, rfl⟩⟩⟩
  · have hq' : ∀ q, q < 16 → nd' q = 0 → ∀ x, ¬ mr_cut R (mr_rX gl lo st (f + 1) d) (mr_eX fi) x q := fun q hq z x hx => by
      obtain ⟨y, r', hl'⟩ := mr_L_tr R (mr_tr1 hrv) (mr_te1 hhv) hx.2
      cases hhv.2.2 x q y hx.1 r'
      exact (hIsY q hq).mpr hl' z
    have nf' : ¬ mr_cn nd' 16 = 16 := fun z => full (hiff.mpr z)
    obtain ⟨u', v', hX, hY, hM⟩ := mr_o15 (p := p) (j := j) (sc := nI (s + 1)) (mc := mc) (g1 := g1) (g2 := g2) (fo := fo') (du := upd du f (nI (i + 1))) (ke := ke) (en := en) (nd := nd') ⟨hf, hcd, hb, hb', hdb, hRc, hcut, rfl, m, hm, rfl⟩ h6 hj (by omega) (by omega) hq'
    refine ⟨-1, u', v', fun Q hq => mr_xpre hf hi ei eo ej (by decide) hs d6 e hA hB (fun z => absurd z nf) (fun _ z => absurd so z) (fun _ _ z => absurd rfl z) (fun _ _ _ => eX _ (fun _ => br_t rfl (mr_xs83 (o := 15) hf (by decide) (by decide) hX hq)) (fun z => absurd z full)), Or.inr ⟨(nI (f + 1), g1, g2, nI s, mc, nI p, 0, en, op, ns, ab, sr, gs, gv, kd, fs, fv, ls, lv, ss, sv, he, du, nd', ke), fun Q hq => mr_ypre hf hi ei eo (by decide) hs d6 e' (fun z => absurd z nf) (fun _ z => absurd so z) (fun _ _ z => absurd rfl z) (fun _ _ _ => eY _ (br_f (fun z => nf' ((nI_eq (b := 16) (by omega) (by decide)).mp z)) (mr_y142 (o := 15) (by decide) (by decide) hq))), fun Q hq => mr_yw15 hf hi ei eo ej hY Q hq⟩, Or.inl ⟨rfl, hs, mr_Md_le hM (by omega)⟩⟩
theorem mr_stepCall {p s i : Nat} (H : mr_H R f d tc cf op ns ab sr gl cl fi tk de lo st gs gv kd fs fv ls lv ss sv he) (hs : s < 300) (hp : p ≤ s) (hi : i < 60) (ei : du f = nI i) (eo : op i = nI 19) (hfit : mr_fit 19 (ns i)) (nf : ¬ (d f < mr_tk 19 ∨ (d f = 6 ∧ mr_tk 19 < mr_lv 19))) (so : mr_so 19 (ss (6 * f + (d f - 1))) (ss (6 * f + (d f - 2)))) : ∃ (r : Int32) (u' : SX) (v' : SY), (∀ Q : Int32 → SX → Prop, Q r u' → wpX_step Q (tc, cf, nI (f + 1), nI f, nI p, nI s, mc, g1, g2, op, ns, ab, sr, gl, cl, fi, tk, fo, du, de, lo, st, ke)) ∧ mr_YB (nI (f + 1), g1, g2, nI s, mc, nI p, 0, en, op, ns, ab, sr, gs, gv, kd, fs, fv, ls, lv, ss, sv, he, du, nd, ke) v' ∧ ((r = -1 ∧ s < 300 ∧ mr_Md (nI (s + 1)) (s + 1) u' v') ∨ (r ≠ -1 ∧ mr_En r u' v')) := by
  have HE := mr_HE H
  have H0 := H
  obtain ⟨hf, hcd, hb, hb', hdb, hrv, hhv, htc, hcf⟩ := H
  obtain ⟨j, hj, ej⟩ := hfit.1 (by decide)
  have hA : 1 ≤ d f → mr_V R (st (6 * f + (d f - 1))) (ss (6 * f + (d f - 1))) (sv (6 * f + (d f - 1))) := fun z => hrv.2.2 f (d f - 1) (by omega) (by omega)
  have hB : 2 ≤ d f → mr_V R (st (6 * f + (d f - 2))) (ss (6 * f + (d f - 2))) (sv (6 * f + (d f - 2))) := fun z => hrv.2.2 f (d f - 2) (by omega) (by omega)
  have e := hb f (by omega)
  have e' := hb' f (by omega)
  have d6 := hdb.1
  have h2 : 2 ≤ d f := Nat.le_of_not_lt fun q => nf (Or.inl q)
  have ek : d f = (d f - 2) + 2 := by omega
  have e2 : de f = nI ((d f - 2) + 2) := by rw [← ek]; exact e
  have e2' : he f = nI ((d f - 2) + 2) := by rw [← ek]; exact e'
  have s2 := so.2.2.2 (by decide)
  obtain ⟨x, y, hx, hy, ev, ew, r⟩ := mr_V_ob (hB h2) s2
  obtain ⟨o1, o2, o3⟩ := mr_HVok hhv r
  have i4 : (nI i).toNatClampNeg = i := nI_clamp (by omega)
  have hXs : ∀ post : Int32 → SX → Prop, (mr_fd ab sr j 4 (kd y) = -1 → post 6 (tc, cf, nI (f + 1), nI f, nI p, nI s, mc, g1, g2, op, ns, ab, sr, gl, cl, fi, tk, fo, du, de, lo, st, ke)) → (¬ mr_fd ab sr j 4 (kd y) = -1 → wX_step_101 post (nI i) (nI 19) (nI j) tc cf (nI (f + 1)) (nI f) (nI p) (nI s) mc g1 g2 op ns ab sr gl cl fi tk fo du de lo st ke) → wpX_step post (tc, cf, nI (f + 1), nI f, nI p, nI s, mc, g1, g2, op, ns, ab, sr, gl, cl, fi, tk, fo, du, de, lo, st, ke) := fun post a b => mr_xpre hf hi ei eo ej (by decide) hs d6 e hA hB (fun z => absurd z nf) (fun _ z => absurd so z) (fun _ _ _ => br_t rfl (mr_xcs (k := d f - 2) hf (by omega) e2 hx ev hcd hj o2 (by rw [o3]; exact br_c a b))) (fun _ _ z => absurd z (by decide))
  have hYs : ∀ post : Int32 → SY → Prop, (mr_fd ab sr j 4 (kd y) = -1 → post 0 (nI (f + 1), g1, g2, nI s, mc, nI p, 1, 6, op, ns, ab, sr, gs, gv, kd, fs, fv, ls, lv, ss, sv, he, du, nd, ke)) → (¬ mr_fd ab sr j 4 (kd y) = -1 → wY_can_170 post (nI 19) (nI (f + 1)) g1 g2 (nI s) mc (nI p) 0 en op ns ab sr gs gv kd fs fv ls lv ss sv he du nd ke) → wpY_can post (nI (f + 1), g1, g2, nI s, mc, nI p, 0, en, op, ns, ab, sr, gs, gv, kd, fs, fv, ls, lv, ss, sv, he, du, nd, ke) := fun post a b => mr_ypre hf hi ei eo (by decide) hs d6 e' (fun z => absurd z nf) (fun _ z => absurd so z) (fun _ _ _ => br_t rfl ⟨vp_in_nI hi (by decide), by
      rw [i4, ej]
      refine mr_ystart (k := d f - 2) hf (by omega) e2' hy ew hcd hj o1 ?_
      rcases mr_fd_ok hcd hj 4 _ o1 with q | ⟨t, ht, q⟩
      · rw [q]
        exact br_f (by decide) (mr_y191' (a q))
      · rw [q]
        exact br_t (nI_pos' (by omega)) (b (by rw [q]; exact mr_ne1 (by omega)))⟩) (fun _ _ z => absurd z (by decide))
  by_cases fd : mr_fd ab sr j 4 (kd y) = -1
  · exact ⟨6, _, _, fun Q hq => hXs Q (fun _ => hq) (fun z => absurd fd z), Or.inl (fun Q hq => hYs Q (fun _ => hq) (fun z => absurd fd z)), Or.inr ⟨by decide, mr_mkE HE⟩⟩
  · by_cases f9 : f + 1 = 10
    · exact ⟨7, _, _, fun Q hq => hXs Q (fun z => absurd z fd) (fun _ => br_t rfl (br_f (nI_nlt (b := 10) (by omega) (by omega)) hq)), Or.inl (fun Q hq => hYs Q (fun z => absurd z fd) (fun _ => br_t rfl (br_t (congrArg nI f9) (mr_y191' hq)))), Or.inr ⟨by decide, mr_mkE HE⟩⟩
    · obtain ⟨u', v', hX, hY, hM⟩ := mr_o19 (p := p) (j := j) (k := d f - 2) (sc := nI (s + 1)) (mc := mc) (g1 := g1) (g2 := g2) (fo := fo) (du := upd du f (nI (i + 1))) (ke := ke) (en := en) (nd := nd) H0 ek s2 hj (by omega)
      refine ⟨-1, u', v', fun Q hq => hXs Q (fun z => absurd z fd) (fun _ => br_t rfl (br_t (nI_lt (b := 10) (by omega) (by decide)) (mr_xs119 hf hX hq))), Or.inr ⟨(nI (f + 1), g1, g2, nI s, mc, nI p, 0, en, op, ns, ab, sr, gs, gv, kd, fs, fv, ls, lv, ss, sv, he, du, nd, ke), fun Q hq => hYs Q (fun z => absurd z fd) (fun _ => br_t rfl (br_f (fun z => f9 ((nI_eq (b := 10) (by omega) (by decide)).mp z)) (mr_y191 hq))), fun Q hq => mr_yw19 hf hi ei eo ej hY Q hq⟩, Or.inl ⟨rfl, hs, mr_Md_le hM (by omega)⟩⟩
theorem mr_step {p s : Nat} (H : mr_H R f d tc cf op ns ab sr gl cl fi tk de lo st gs gv kd fs fv ls lv ss sv he) (hs : s ≤ 300) (hp : p ≤ s) : ∃ (r : Int32) (u' : SX) (v' : SY), (∀ Q : Int32 → SX → Prop, Q r u' → wpX_step Q (tc, cf, nI (f + 1), nI f, nI p, nI s, mc, g1, g2, op, ns, ab, sr, gl, cl, fi, tk, fo, du, de, lo, st, ke)) ∧ mr_YB (nI (f + 1), g1, g2, nI s, mc, nI p, 0, en, op, ns, ab, sr, gs, gv, kd, fs, fv, ls, lv, ss, sv, he, du, nd, ke) v' ∧ ((r = -1 ∧ s < 300 ∧ mr_Md (nI (s + 1)) (s + 1) u' v') ∨ (r ≠ -1 ∧ mr_En r u' v')) := by
  have HE := mr_HE H
  have H0 := H
  obtain ⟨hf, hcd, hb, hb', hdb, hrv, hhv, htc, hcf⟩ := H
  by_cases hi : ∃ i, i < 60 ∧ du f = nI i
  · obtain ⟨i, hi, ei⟩ := hi
    by_cases s3 : s = 300
    · subst s3
      exact ⟨2, _, _, fun Q hq => mr_xtired hf hi ei hq, Or.inl (fun Q hq => mr_ytired hf hi ei hq), Or.inr ⟨by decide, mr_mkE HE⟩⟩
    · have hs' : s < 300 := by omega
      obtain ⟨o, ho, eo, hfit⟩ := hcd.1 i hi
      have hA : 1 ≤ d f → mr_V R (st (6 * f + (d f - 1))) (ss (6 * f + (d f - 1))) (sv (6 * f + (d f - 1))) := fun z => hrv.2.2 f (d f - 1) (by omega) (by omega)
      have hB : 2 ≤ d f → mr_V R (st (6 * f + (d f - 2))) (ss (6 * f + (d f - 2))) (sv (6 * f + (d f - 2))) := fun z => hrv.2.2 f (d f - 2) (by omega) (by omega)
      have e := hb f (by omega)
      have e' := hb' f (by omega)
      have d6 := hdb.1
      by_cases nf : d f < mr_tk o ∨ (d f = 6 ∧ mr_tk o < mr_lv o)
      · exact ⟨3, _, _, fun Q hq => mr_xpre hf hi ei eo rfl ho hs' d6 e hA hB (fun _ => hq) (fun z => absurd nf z) (fun z => absurd nf z) (fun z => absurd nf z), Or.inl (fun Q hq => mr_ypre hf hi ei eo ho hs' d6 e' (fun _ => hq) (fun z => absurd nf z) (fun z => absurd nf z) (fun z => absurd nf z)), Or.inr ⟨by decide, mr_mkE HE⟩⟩
      · by_cases so : mr_so o (ss (6 * f + (d f - 1))) (ss (6 * f + (d f - 2)))
        · by_cases e15 : o = 15
          · subst e15
            exact mr_stepNew H0 hs' hp hi ei eo hfit nf so
          · by_cases e19 : o = 19
            · subst e19
              exact mr_stepCall H0 hs' hp hi ei eo hfit nf so
            · obtain ⟨r, u', v', hX, hY, hO⟩ := mr_disp (s := s) (p := p) (mc := mc) (g1 := g1) (g2 := g2) (fo := fo) (ke := ke) (en := en) (nd := nd) H0 hi ei (by omega) o ho eo hfit nf so e15 e19
              refine ⟨r, u', v', fun Q hq => mr_xpre hf hi ei eo rfl ho hs' d6 e hA hB (fun z => absurd z nf) (fun _ z => absurd so z) (fun _ _ _ => mr_xs83 hf ho e19 hX hq) (fun _ _ z => absurd z e15), Or.inr ⟨(nI (f + 1), g1, g2, nI s, mc, nI p, 0, en, op, ns, ab, sr, gs, gv, kd, fs, fv, ls, lv, ss, sv, he, du, nd, ke), fun Q hq => mr_ypre hf hi ei eo ho hs' d6 e' (fun z => absurd z nf) (fun _ z => absurd so z) (fun _ _ _ => mr_y142 ho e19 hq) (fun _ _ z => absurd z e15), hY⟩, ?_⟩
              rcases hO with ⟨h1, h2⟩ | h3
              · exact Or.inl ⟨h1, hs', mr_Md_le h2 (by omega)⟩
              · exact Or.inr h3
        · exact ⟨4, _, _, fun Q hq => mr_xpre hf hi ei eo rfl ho hs' d6 e hA hB (fun z => absurd z nf) (fun _ _ => hq) (fun _ z => absurd z so) (fun _ z => absurd z so), Or.inl (fun Q hq => mr_ypre hf hi ei eo ho hs' d6 e' (fun z => absurd z nf) (fun _ _ => hq) (fun _ z => absurd z so) (fun _ z => absurd z so)), Or.inr ⟨by decide, mr_mkE HE⟩⟩
  · exact ⟨1, _, _, fun Q hq => mr_xcode hf hi hq, Or.inl (fun Q hq => mr_ycode hf hi hq), Or.inr ⟨by decide, mr_mkE HE⟩⟩
end
