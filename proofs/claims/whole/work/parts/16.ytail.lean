/-! Y's tail of simple; the walks over the rows above, as methods -/
def mr_iy (ab : Nat → Int32) (n : Int32) : Nat → Int32 → Int32
  | 0, _ => 0
  | k + 1, c => if c = n then 1 else mr_iy ab n k (if c = -1 then -1 else ab c.toNatClampNeg)
theorem mr_iy_01 (ab : Nat → Int32) (n : Int32) : ∀ (k : Nat) (c : Int32), mr_iy ab n k c = 0 ∨ mr_iy ab n k c = 1 := by
  intro k
  induction k with
  | zero => intro c; exact Or.inl rfl
  | succ k ih =>
    intro c
    rw [mr_iy]
    split
    · exact Or.inr rfl
    · exact ih _
theorem mr_iy_1 {ab : Nat → Int32} {n : Int32} (hn : ¬ n = -1) : ∀ k, mr_iy ab n k (-1) = 0 := by
  intro k
  induction k with
  | zero => rfl
  | succ k ih => rw [mr_iy, if_neg (fun q => hn q.symm), if_pos rfl]; exact ih
theorem mr_iy_is {ab : Nat → Int32} {n : Int32} (hn : ¬ n = -1) : ∀ (k : Nat) (c : Int32), mr_iy ab n k c = mr_is ab n k c := by
  intro k
  induction k with
  | zero => intro c; rfl
  | succ k ih =>
    intro c
    by_cases z : c = -1
    · subst z
      rw [mr_iy_1 hn, mr_is_1]
    · rw [mr_iy, mr_is, if_neg z, if_neg z, ih]
section
variable {tc cf fc la oc sc mc g1 g2 fr ov en : Int32} {op ns ab sr cl tk fo du de ke gs gv kd fs fv ls lv ss sv he nd : Nat → Int32} {gl fi lo st : Nat → Int64} {R : Nat → Nat → Prop} {f : Nat} {d : Nat → Nat}
theorem mr_yis10 (post : Int32 → Prop) {op' ns' sr' : Nat → Int32} (hc : mr_CD op' ns' ab sr') (n : Int32) : ∀ (k j : Nat) (c : Int32), j + k = 4 → mr_ok 4 c → post (mr_iy ab n k c) → wY_isOf_10 post n fr g1 g2 sc mc oc ov en op ns ab sr gs gv kd fs fv ls lv ss sv he du nd ke (k + 1) c (nI j) := by
  intro k
  induction k with
  | zero =>
    intro j c hj _ h
    have : j = 4 := hj
    subst this
    exact br_t (by decide) h
  | succ k ih =>
    intro j c hj hc4 h
    have j4 : ¬ (4 : Int32) ≤ nI j := nI_ge (b := 4) (by omega) (by decide)
    rw [mr_iy] at h
    by_cases z : c = n
    · rw [if_pos z] at h
      exact br_f j4 (br_t z h)
    · rw [if_neg z] at h
      rcases hc4 with rfl | ⟨a, ha, rfl⟩
      · rw [if_pos rfl] at h
        exact br_f j4 (br_f z (br_t (by decide) (nm_r (nI_1 j) (ih (j + 1) (-1) (by omega) (Or.inl rfl) h))))
      · rw [if_neg (mr_ne1 (by omega)), nI_clamp (by omega)] at h
        refine br_f j4 (br_f z (br_f (nI_pos (by omega)) ⟨vp_in_nI ha (by decide), nm_r (e' := ab a) (by rw [nI_clamp (by omega)]) (nm_r (nI_1 j) (ih (j + 1) _ (by omega) (hc.2.1 a ha) h))⟩))
theorem mr_yisof {y : Nat} {n : Int32} {post : Int32 → Prop} {op' ns' sr' : Nat → Int32} (hy : y < 16) (hc : mr_CD op' ns' ab sr') (h4 : mr_ok 4 (kd y)) (h : post (mr_iy ab n 4 (kd y))) : wpY_isOf post (fr, g1, g2, sc, mc, oc, ov, en, op, ns, ab, sr, gs, gv, kd, fs, fv, ls, lv, ss, sv, he, du, nd, ke) (nI y) n := by
  unfold wpY_isOf
  dsimp only
  rw [nI_clamp (by omega)]
  exact ⟨vp_in_nI hy (by decide), nm_e ⟨5, mr_yis10 post hc n 4 0 _ rfl h4 h⟩⟩
theorem mr_xis5 (post : Int32 → Prop) {op' ns' sr' : Nat → Int32} (hc : mr_CD op' ns' ab sr') (n : Int32) : ∀ (k j : Nat) (c : Int32), j + k = 4 → mr_ok 4 c → post (mr_is ab n k c) → wX_isOrIsBelow_5 post n tc cf fc la oc sc mc g1 g2 op ns ab sr gl cl fi tk fo du de lo st ke (k + 1) c (nI j) := by
  intro k
  induction k with
  | zero =>
    intro j c hj _ h
    have : j = 4 := hj
    subst this
    exact br_t (by decide) h
  | succ k ih =>
    intro j c hj hc4 h
    have j4 : ¬ (4 : Int32) ≤ nI j := nI_ge (b := 4) (by omega) (by decide)
    rcases hc4 with rfl | ⟨a, ha, rfl⟩
    · rw [mr_is_1] at h
      exact br_f j4 (br_t rfl h)
    · by_cases z : nI a = n
      · rw [mr_is_s ha z] at h
        exact br_f j4 (br_f (mr_ne1 (by omega)) (br_t z h))
      · rw [mr_is_n ha z] at h
        exact br_f j4 (br_f (mr_ne1 (by omega)) (br_f z ⟨vp_in_nI ha (by decide), nm_r (e' := ab a) (by rw [nI_clamp (by omega)]) (nm_r (nI_1 j) (ih (j + 1) _ (by omega) (hc.2.1 a ha) h))⟩))
theorem mr_xisb {c n : Int32} {post : Int32 → Prop} {op' ns' sr' : Nat → Int32} (hc : mr_CD op' ns' ab sr') (h4 : mr_ok 4 c) (h : post (mr_is ab n 4 c)) : wpX_isOrIsBelow post (tc, cf, fc, la, oc, sc, mc, g1, g2, op, ns, ab, sr, gl, cl, fi, tk, fo, du, de, lo, st, ke) c n := by
  unfold wpX_isOrIsBelow
  dsimp only
  exact ⟨5, mr_xis5 post hc n 4 0 _ rfl h4 h⟩
/-- the rows of paired objects are rows -/
theorem mr_HVok (hh : mr_HV R cl fi tk kd fs fv) {x y : Nat} (r : R x y) : mr_ok 4 (kd y) ∧ mr_ok 4 (cl x) ∧ cl x = kd y := by
  obtain ⟨c, hc, a, b⟩ := (hh.1 x y r).2.2.2.1
  exact ⟨Or.inr ⟨c, hc, b⟩, Or.inr ⟨c, hc, a⟩, a.trans b.symm⟩
/-- which answer isOf gives for a value of Y -/
def mr_ib (ab kd : Nat → Int32) (n s w : Int32) : Int32 := if s = 2 then mr_iy ab n 4 (kd w.toNatClampNeg) else 0
theorem mr_y239 {o : Nat} {n s w : Int32} {v : Int64} {post : SY → Prop} (hc : mr_CD op ns ab sr) (hh : mr_HV R cl fi tk kd fs fv) (hv : mr_V R v s w) {kd' fs' fv' : Nat → Int32} (h : wY_simple_263 post (nI o) w (mr_ib ab kd n s w) fr g1 g2 sc mc oc ov en op ns ab sr gs gv kd fs fv ls lv ss sv he du nd ke) : wY_simple_239 post (nI o) n s w fr g1 g2 sc mc oc ov en op ns ab sr gs gv kd fs fv ls lv ss sv he du nd ke := by
  unfold wY_simple_239
  by_cases z : s = 2
  · obtain ⟨x, y, hx, hy, ev, ew, r⟩ := mr_V_ob hv z
    refine br_t z ?_
    rw [mr_ib, if_pos z] at h
    subst ew
    rw [nI_clamp (by omega)] at h
    rw [mr_and15 hy]
    refine mr_yisof hy hc (mr_HVok hh r).1 ?_
    rcases mr_iy_01 ab n 4 (kd y) with q | q
    · rw [q] at h ⊢
      exact br_t rfl h
    · rw [q] at h ⊢
      exact br_f (by decide) h
  · rw [mr_ib, if_neg z] at h
    exact br_f z h
theorem mr_y263n {o : Nat} {w z : Int32} {post : SY → Prop} (ho : o < 24) (h18 : o ≠ 18) (h23 : o ≠ 23) (h : post (fr, g1, g2, sc, mc, oc, ov, en, op, ns, ab, sr, gs, gv, kd, fs, fv, ls, lv, ss, sv, he, du, nd, ke)) : wY_simple_263 post (nI o) w z fr g1 g2 sc mc oc ov en op ns ab sr gs gv kd fs fv ls lv ss sv he du nd ke :=
  br_f (fun q => h18 ((nI_eq (b := 18) (by omega) (by decide)).mp q)) (br_f (fun q => h23 ((nI_eq (b := 23) (by omega) (by decide)).mp q)) h)
theorem mr_ytail {o : Nat} {n s w : Int32} {v : Int64} {post : SY → Prop} (hc : mr_CD op ns ab sr) (hh : mr_HV R cl fi tk kd fs fv) (hv : mr_V R v s w) (ho : o < 24) (h14 : o ≠ 14) (h16 : o ≠ 16) (h18 : o ≠ 18) (h23 : o ≠ 23) (h : post (fr, g1, g2, sc, mc, oc, ov, en, op, ns, ab, sr, gs, gv, kd, fs, fv, ls, lv, ss, sv, he, du, nd, ke)) : wY_simple_184 post (nI o) n s w fr g1 g2 sc mc oc ov en op ns ab sr gs gv kd fs fv ls lv ss sv he du nd ke :=
  br_f (fun q => h14 ((nI_eq (b := 14) (by omega) (by decide)).mp q)) (br_f (fun q => h16 ((nI_eq (b := 16) (by omega) (by decide)).mp q)) (mr_y239 hc hh hv (kd' := kd) (fs' := fs) (fv' := fv) (mr_y263n ho h18 h23 h)))
/-- simple's head for what takes one value: the value is looked at, then dropped -/
theorem mr_yone {o k : Nat} {n : Int32} {post : SY → Prop} (hf : f < 10) (hk : k < 6) (e : he f = nI (k + 1)) (ho : o < 24) (h1 : o ≠ 1) (h2 : o ≠ 2) (h3 : o ≠ 3) (h21 : o ≠ 21) (h6 : o ≠ 6) (hs : (o = 4 ∨ o = 22) → wY_simple_164 post (nI o) n (ss (6 * f + k)) (sv (6 * f + k)) (nI (f + 1)) g1 g2 sc mc oc ov en op ns ab sr gs gv kd fs fv ls lv ss sv (upd he f (nI k)) du nd ke) (hn : o ≠ 4 → o ≠ 22 → wY_simple_184 post (nI o) n (ss (6 * f + k)) (sv (6 * f + k)) (nI (f + 1)) g1 g2 sc mc oc ov en op ns ab sr gs gv kd fs fv ls lv ss sv (upd he f (nI k)) du nd ke) : wpY_simple post (nI (f + 1), g1, g2, sc, mc, oc, ov, en, op, ns, ab, sr, gs, gv, kd, fs, fv, ls, lv, ss, sv, he, du, nd, ke) (nI o) n := by
  have q : ∀ c, c < 24 → o ≠ c → ¬ nI o = nI c := fun c hc ne z => ne ((nI_eq (by omega) (by omega)).mp z)
  unfold wpY_simple
  dsimp only
  refine nm_e (br_f (q 1 (by decide) h1) (br_f (q 2 (by decide) h2) (br_f (q 3 (by decide) h3) (br_f (q 21 (by decide) h21) (br_f (q 6 (by decide) h6) ?_)))))
  refine mr_yat (t := 0) hf hk e (fun i j => ⟨i, nm_r (e' := ss (6 * f + k)) (by rw [j]) ?_⟩)
  refine mr_yat (t := 0) hf hk e (fun i j => ⟨i, nm_r (e' := sv (6 * f + k)) (by rw [j]) ?_⟩)
  refine mr_ydrop (t := 1) hf e ?_
  by_cases e4 : o = 4
  · exact br_t (congrArg nI e4) (hs (Or.inl e4))
  · by_cases e22 : o = 22
    · exact br_f (q 4 (by decide) e4) (br_t (congrArg nI e22) (hs (Or.inr e22)))
    · exact br_f (q 4 (by decide) e4) (br_f (q 22 (by decide) e22) (hn e4 e22))
end
