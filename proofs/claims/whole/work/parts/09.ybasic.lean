/-! sorts that fit; Y's small methods, each with a general post -/
def mr_so (o : Nat) (a b : Int32) : Prop :=
  ((o = 8 ∨ o = 9 ∨ o = 10 ∨ o = 11) → a = 1 ∧ b = 1) ∧ ((o = 14 ∨ o = 23) → a = 1) ∧ (o = 16 → a = 2) ∧ ((o = 17 ∨ o = 19) → b = 2)
section
variable {tc cf fc la oc sc mc g1 g2 fr ov en : Int32} {op ns ab sr cl tk fo du de ke gs gv kd fs fv ls lv ss sv he nd : Nat → Int32} {gl fi lo st : Nat → Int64} {R : Nat → Nat → Prop} {f : Nat} {d : Nat → Nat}
theorem mr_xs80 {k : Nat} {a wa b wb : Int32} {post : Int32 → Prop} (hf : f < 10) (hk : k ≤ 6) (e : de f = nI k) (h2 : 2 ≤ k) (hA : mr_V R (st (6 * f + (k - 1))) a wa) (hB : mr_V R (st (6 * f + (k - 2))) b wb) (h1 : a = 1 ∧ b = 1 → post 1) (h0 : ¬ (a = 1 ∧ b = 1) → post 0) : wX_sortsFit_80 post tc cf fc (nI f) oc sc mc g1 g2 op ns ab sr gl cl fi tk fo du de lo st ke := by
  unfold wX_sortsFit_80
  refine mr_xisInt (k := k - 1) (t := 1) hf (by omega) (by rw [e]; exact congrArg nI (by omega)) (by omega) hA (fun z => br_f (by decide) ?_) (fun z => br_t rfl (h0 fun q => z q.1))
  exact mr_xisInt (k := k - 2) (t := 2) hf (by omega) (by rw [e]; exact congrArg nI (by omega)) (by omega) hB (fun z2 => br_f (by decide) (h1 ⟨z, z2⟩)) (fun z2 => br_t rfl (h0 fun q => z2 q.2))
theorem mr_xs102 {k : Nat} {a wa : Int32} {post : Int32 → Prop} (hf : f < 10) (hk : k ≤ 6) (e : de f = nI k) (h2 : 1 ≤ k) (hA : mr_V R (st (6 * f + (k - 1))) a wa) (h1 : a = 1 → post 1) (h0 : ¬ a = 1 → post 0) : wX_sortsFit_102 post tc cf fc (nI f) oc sc mc g1 g2 op ns ab sr gl cl fi tk fo du de lo st ke := by
  unfold wX_sortsFit_102
  exact mr_xisInt (k := k - 1) (t := 1) hf (by omega) (by rw [e]; exact congrArg nI (by omega)) (by omega) hA (fun z => ⟨rfl, h1 z⟩) (fun z => ⟨rfl, h0 z⟩)
theorem mr_xs114 {k : Nat} {b wb : Int32} {post : Int32 → Prop} (hf : f < 10) (hk : k ≤ 6) (e : de f = nI k) (h2 : 2 ≤ k) (hB : mr_V R (st (6 * f + (k - 2))) b wb) (h1 : b = 2 → post 1) (h0 : ¬ b = 2 → post 0) : wX_sortsFit_114 post tc cf fc (nI f) oc sc mc g1 g2 op ns ab sr gl cl fi tk fo du de lo st ke := by
  unfold wX_sortsFit_114
  exact mr_xisObj (k := k - 2) (t := 2) hf (by omega) (by rw [e]; exact congrArg nI (by omega)) (by omega) hB (fun z => ⟨rfl, h1 z⟩) (fun z => ⟨rfl, h0 z⟩)
theorem mr_xsorts {k : Nat} {a wa b wb : Int32} {post : Int32 → Prop} (hf : f < 10) (hk : k ≤ 6) (e : de f = nI k) (hA : 1 ≤ k → mr_V R (st (6 * f + (k - 1))) a wa) (hB : 2 ≤ k → mr_V R (st (6 * f + (k - 2))) b wb) (o : Nat) (ho : o < 24) (ht : mr_tk o ≤ k) (h1 : mr_so o a b → post 1) (h0 : ¬ mr_so o a b → post 0) : wpX_sortsFit post (tc, cf, fc, nI f, oc, sc, mc, g1, g2, op, ns, ab, sr, gl, cl, fi, tk, fo, du, de, lo, st, ke) (nI o) := by
  revert ht h1 h0
  revert o
  apply mr_24
  · intro ht h1 h0
    unfold wpX_sortsFit
    dsimp only
    repeat (first | refine br_f (by decide) ?_ | refine br_t (by decide) ?_)
    exact h1 (by simp [mr_so])
  · intro ht h1 h0
    unfold wpX_sortsFit
    dsimp only
    repeat (first | refine br_f (by decide) ?_ | refine br_t (by decide) ?_)
    exact h1 (by simp [mr_so])
  · intro ht h1 h0
    unfold wpX_sortsFit
    dsimp only
    repeat (first | refine br_f (by decide) ?_ | refine br_t (by decide) ?_)
    exact h1 (by simp [mr_so])
  · intro ht h1 h0
    unfold wpX_sortsFit
    dsimp only
    repeat (first | refine br_f (by decide) ?_ | refine br_t (by decide) ?_)
    exact h1 (by simp [mr_so])
  · intro ht h1 h0
    unfold wpX_sortsFit
    dsimp only
    repeat (first | refine br_f (by decide) ?_ | refine br_t (by decide) ?_)
    exact h1 (by simp [mr_so])
  · intro ht h1 h0
    unfold wpX_sortsFit
    dsimp only
    repeat (first | refine br_f (by decide) ?_ | refine br_t (by decide) ?_)
    exact h1 (by simp [mr_so])
  · intro ht h1 h0
    unfold wpX_sortsFit
    dsimp only
    repeat (first | refine br_f (by decide) ?_ | refine br_t (by decide) ?_)
    exact h1 (by simp [mr_so])
  · intro ht h1 h0
    unfold wpX_sortsFit
    dsimp only
    repeat (first | refine br_f (by decide) ?_ | refine br_t (by decide) ?_)
    exact h1 (by simp [mr_so])
  · intro ht h1 h0
    unfold wpX_sortsFit
    dsimp only
    repeat (first | refine br_f (by decide) ?_ | refine br_t (by decide) ?_)
    exact mr_xs80 hf hk e ht (hA (Nat.le_trans (by decide) ht)) (hB ht) (fun z => h1 (by simp [mr_so, z.1, z.2])) (fun z => h0 fun q => z (q.1 (by decide)))
  · intro ht h1 h0
    unfold wpX_sortsFit
    dsimp only
    repeat (first | refine br_f (by decide) ?_ | refine br_t (by decide) ?_)
    exact mr_xs80 hf hk e ht (hA (Nat.le_trans (by decide) ht)) (hB ht) (fun z => h1 (by simp [mr_so, z.1, z.2])) (fun z => h0 fun q => z (q.1 (by decide)))
  · intro ht h1 h0
    unfold wpX_sortsFit
    dsimp only
    repeat (first | refine br_f (by decide) ?_ | refine br_t (by decide) ?_)
    exact mr_xs80 hf hk e ht (hA (Nat.le_trans (by decide) ht)) (hB ht) (fun z => h1 (by simp [mr_so, z.1, z.2])) (fun z => h0 fun q => z (q.1 (by decide)))
  · intro ht h1 h0
    unfold wpX_sortsFit
    dsimp only
    repeat (first | refine br_f (by decide) ?_ | refine br_t (by decide) ?_)
    exact mr_xs80 hf hk e ht (hA (Nat.le_trans (by decide) ht)) (hB ht) (fun z => h1 (by simp [mr_so, z.1, z.2])) (fun z => h0 fun q => z (q.1 (by decide)))
  · intro ht h1 h0
    unfold wpX_sortsFit
    dsimp only
    repeat (first | refine br_f (by decide) ?_ | refine br_t (by decide) ?_)
    exact h1 (by simp [mr_so])
  · intro ht h1 h0
    unfold wpX_sortsFit
    dsimp only
    repeat (first | refine br_f (by decide) ?_ | refine br_t (by decide) ?_)
    exact h1 (by simp [mr_so])
  · intro ht h1 h0
    unfold wpX_sortsFit
    dsimp only
    repeat (first | refine br_f (by decide) ?_ | refine br_t (by decide) ?_)
    exact mr_xs102 hf hk e ht (hA ht) (fun z => h1 (by simp [mr_so, z])) (fun z => h0 fun q => z (q.2.1 (by decide)))
  · intro ht h1 h0
    unfold wpX_sortsFit
    dsimp only
    repeat (first | refine br_f (by decide) ?_ | refine br_t (by decide) ?_)
    exact h1 (by simp [mr_so])
  · intro ht h1 h0
    unfold wpX_sortsFit
    dsimp only
    repeat (first | refine br_f (by decide) ?_ | refine br_t (by decide) ?_)
    exact mr_xisObj (k := k - 1) (t := 1) hf (by omega) (by rw [e]; exact congrArg nI (Nat.sub_add_cancel ht).symm) (by omega) (hA ht) (fun z => ⟨rfl, h1 (by simp [mr_so, z])⟩) (fun z => ⟨rfl, h0 fun q => z (q.2.2.1 rfl)⟩)
  · intro ht h1 h0
    unfold wpX_sortsFit
    dsimp only
    repeat (first | refine br_f (by decide) ?_ | refine br_t (by decide) ?_)
    exact mr_xs114 hf hk e ht (hB ht) (fun z => h1 (by simp [mr_so, z])) (fun z => h0 fun q => z (q.2.2.2 (by decide)))
  · intro ht h1 h0
    unfold wpX_sortsFit
    dsimp only
    repeat (first | refine br_f (by decide) ?_ | refine br_t (by decide) ?_)
    exact h1 (by simp [mr_so])
  · intro ht h1 h0
    unfold wpX_sortsFit
    dsimp only
    repeat (first | refine br_f (by decide) ?_ | refine br_t (by decide) ?_)
    exact mr_xs114 hf hk e ht (hB ht) (fun z => h1 (by simp [mr_so, z])) (fun z => h0 fun q => z (q.2.2.2 (by decide)))
  · intro ht h1 h0
    unfold wpX_sortsFit
    dsimp only
    repeat (first | refine br_f (by decide) ?_ | refine br_t (by decide) ?_)
    exact h1 (by simp [mr_so])
  · intro ht h1 h0
    unfold wpX_sortsFit
    dsimp only
    repeat (first | refine br_f (by decide) ?_ | refine br_t (by decide) ?_)
    exact h1 (by simp [mr_so])
  · intro ht h1 h0
    unfold wpX_sortsFit
    dsimp only
    repeat (first | refine br_f (by decide) ?_ | refine br_t (by decide) ?_)
    exact h1 (by simp [mr_so])
  · intro ht h1 h0
    unfold wpX_sortsFit
    dsimp only
    repeat (first | refine br_f (by decide) ?_ | refine br_t (by decide) ?_)
    exact mr_xs102 hf hk e ht (hA ht) (fun z => h1 (by simp [mr_so, z])) (fun z => h0 fun q => z (q.2.1 (by decide)))
theorem mr_ytakes (post : Int32 → Prop) (v : SY) (o : Nat) (ho : o < 24) (h : post (nI (mr_tk o))) : wpY_takes post v (nI o) := by
  obtain ⟨fr, g1, g2, sc, mc, oc, ov, en, op, ns, ab, sr, gs, gv, kd, fs, fv, ls, lv, ss, sv, he, du, nd, ke⟩ := v
  revert h
  revert o
  apply mr_24 <;> (intro h; unfold wpY_takes; dsimp only; repeat (first | refine br_f (by decide) ?_ | refine br_t (by decide) ?_)) <;> first | exact h | (unfold wY_takes_43; repeat (first | refine br_f (by decide) ?_ | refine br_t (by decide) ?_)) <;> exact h
theorem mr_yleaves (post : Int32 → Prop) (v : SY) (o : Nat) (ho : o < 24) (h : post (nI (mr_lv o))) : wpY_leaves post v (nI o) := by
  obtain ⟨fr, g1, g2, sc, mc, oc, ov, en, op, ns, ab, sr, gs, gv, kd, fs, fv, ls, lv, ss, sv, he, du, nd, ke⟩ := v
  revert h
  revert o
  apply mr_24 <;> (intro h; unfold wpY_leaves; dsimp only; unfold wY_leaves_24 wY_leaves_36; repeat (first | refine br_f (by decide) ?_ | refine br_t (by decide) ?_)) <;> exact h
theorem mr_ypush {k : Nat} {s w : Int32} {post : SY → Prop} (hf : f < 10) (hk : k < 6) (e : he f = nI k) (h : post (nI (f + 1), g1, g2, sc, mc, oc, ov, en, op, ns, ab, sr, gs, gv, kd, fs, fv, ls, lv, upd ss (6 * f + k) s, upd sv (6 * f + k) w, upd he f (nI (k + 1)), du, nd, ke)) : wpY_push post (nI (f + 1), g1, g2, sc, mc, oc, ov, en, op, ns, ab, sr, gs, gv, kd, fs, fv, ls, lv, ss, sv, he, du, nd, ke) s w := by
  have i1 : vp_in (nI f) 10 := vp_in_nI hf (by decide)
  have i2 : (nI f).toNatClampNeg = f := nI_clamp (by omega)
  have i4 : vp_in (nI (6 * f + k)) 60 := vp_in_nI (by omega) (by decide)
  have i5 : (nI (6 * f + k)).toNatClampNeg = 6 * f + k := nI_clamp (by omega)
  unfold wpY_push
  dsimp only
  rw [nI_pred f]
  refine ⟨i1, nm_r (e' := nI (6 * f + k)) (by rw [i2, e, mr_y6]) ⟨i4, nm_r (e' := upd ss (6 * f + k) s) (by rw [i5]) ⟨i4, nm_r (e' := upd sv (6 * f + k) w) (by rw [i5]) ⟨i1, i1, nm_r (e' := upd he f (nI (k + 1))) (by rw [i2, e, nI_1]) h⟩⟩⟩⟩
theorem mr_ybelow {k t : Nat} {post : Int32 → Prop} (hf : f < 10) (e : he f = nI (k + 1 + t)) (h : post (nI (6 * f + k))) : wpY_below post (nI (f + 1), g1, g2, sc, mc, oc, ov, en, op, ns, ab, sr, gs, gv, kd, fs, fv, ls, lv, ss, sv, he, du, nd, ke) (nI t) := by
  have i1 : vp_in (nI f) 10 := vp_in_nI hf (by decide)
  have i2 : (nI f).toNatClampNeg = f := nI_clamp (by omega)
  unfold wpY_below
  dsimp only
  rw [nI_pred f, i2, e, mr_y6, show (1 : Int32) = nI 1 from rfl, pk_sub (by omega), pk_sub (by omega), show 6 * f + (k + 1 + t) - 1 - t = 6 * f + k from by omega]
  exact ⟨i1, h⟩
theorem mr_ydrop {k t : Nat} {post : SY → Prop} (hf : f < 10) (e : he f = nI (k + t)) (h : post (nI (f + 1), g1, g2, sc, mc, oc, ov, en, op, ns, ab, sr, gs, gv, kd, fs, fv, ls, lv, ss, sv, upd he f (nI k), du, nd, ke)) : wpY_drop post (nI (f + 1), g1, g2, sc, mc, oc, ov, en, op, ns, ab, sr, gs, gv, kd, fs, fv, ls, lv, ss, sv, he, du, nd, ke) (nI t) := by
  have i1 : vp_in (nI f) 10 := vp_in_nI hf (by decide)
  have i2 : (nI f).toNatClampNeg = f := nI_clamp (by omega)
  unfold wpY_drop
  dsimp only
  rw [nI_pred f]
  refine ⟨i1, i1, nm_r (e' := upd he f (nI k)) (by rw [i2, e, pk_sub (by omega), Nat.add_sub_cancel]) h⟩
/-- a look at the stack from the top: the t-th sort or value -/
theorem mr_yat {k t : Nat} {post : Int32 → Prop} (hf : f < 10) (hk : k < 6) (e : he f = nI (k + 1 + t)) (h : vp_in (nI (6 * f + k)) 60 → (nI (6 * f + k)).toNatClampNeg = 6 * f + k → post (nI (6 * f + k))) : wpY_below post (nI (f + 1), g1, g2, sc, mc, oc, ov, en, op, ns, ab, sr, gs, gv, kd, fs, fv, ls, lv, ss, sv, he, du, nd, ke) (nI t) :=
  mr_ybelow hf e (h (vp_in_nI (by omega) (by decide)) (nI_clamp (by omega)))
theorem mr_ysorts {k : Nat} {post : Int32 → Prop} (hf : f < 10) (hk : k ≤ 6) (e : he f = nI k) (o : Nat) (ho : o < 24) (ht : mr_tk o ≤ k) (h1 : mr_so o (ss (6 * f + (k - 1))) (ss (6 * f + (k - 2))) → post 1) (h0 : ¬ mr_so o (ss (6 * f + (k - 1))) (ss (6 * f + (k - 2))) → post 0) : wpY_sortsFit post (nI (f + 1), g1, g2, sc, mc, oc, ov, en, op, ns, ab, sr, gs, gv, kd, fs, fv, ls, lv, ss, sv, he, du, nd, ke) (nI o) := by
  have b0 : ∀ {post : Int32 → Prop}, 1 ≤ k → (vp_in (nI (6 * f + (k - 1))) 60 → (nI (6 * f + (k - 1))).toNatClampNeg = 6 * f + (k - 1) → post (nI (6 * f + (k - 1)))) → wpY_below post (nI (f + 1), g1, g2, sc, mc, oc, ov, en, op, ns, ab, sr, gs, gv, kd, fs, fv, ls, lv, ss, sv, he, du, nd, ke) 0 := fun h2 h => mr_yat (t := 0) hf (by omega) (by rw [e]; exact congrArg nI (by omega)) h
  have b1 : ∀ {post : Int32 → Prop}, 2 ≤ k → (vp_in (nI (6 * f + (k - 2))) 60 → (nI (6 * f + (k - 2))).toNatClampNeg = 6 * f + (k - 2) → post (nI (6 * f + (k - 2)))) → wpY_below post (nI (f + 1), g1, g2, sc, mc, oc, ov, en, op, ns, ab, sr, gs, gv, kd, fs, fv, ls, lv, ss, sv, he, du, nd, ke) 1 := fun h2 h => mr_yat (t := 1) hf (by omega) (by rw [e]; exact congrArg nI (by omega)) h
  revert ht h1 h0
  revert o
  apply mr_24
  · intro ht h1 h0
    unfold wpY_sortsFit
    dsimp only
    unfold wY_sortsFit_46 wY_sortsFit_58 wY_sortsFit_116
    repeat (first | refine br_f (by decide) ?_ | refine br_t (by decide) ?_)
    exact h1 (by simp [mr_so])
  · intro ht h1 h0
    unfold wpY_sortsFit
    dsimp only
    unfold wY_sortsFit_46 wY_sortsFit_58 wY_sortsFit_116
    repeat (first | refine br_f (by decide) ?_ | refine br_t (by decide) ?_)
    exact h1 (by simp [mr_so])
  · intro ht h1 h0
    unfold wpY_sortsFit
    dsimp only
    unfold wY_sortsFit_46 wY_sortsFit_58 wY_sortsFit_116
    repeat (first | refine br_f (by decide) ?_ | refine br_t (by decide) ?_)
    exact h1 (by simp [mr_so])
  · intro ht h1 h0
    unfold wpY_sortsFit
    dsimp only
    unfold wY_sortsFit_46 wY_sortsFit_58 wY_sortsFit_116
    repeat (first | refine br_f (by decide) ?_ | refine br_t (by decide) ?_)
    exact h1 (by simp [mr_so])
  · intro ht h1 h0
    unfold wpY_sortsFit
    dsimp only
    unfold wY_sortsFit_46 wY_sortsFit_58 wY_sortsFit_116
    repeat (first | refine br_f (by decide) ?_ | refine br_t (by decide) ?_)
    exact h1 (by simp [mr_so])
  · intro ht h1 h0
    unfold wpY_sortsFit
    dsimp only
    unfold wY_sortsFit_46 wY_sortsFit_58 wY_sortsFit_116
    repeat (first | refine br_f (by decide) ?_ | refine br_t (by decide) ?_)
    exact h1 (by simp [mr_so])
  · intro ht h1 h0
    unfold wpY_sortsFit
    dsimp only
    unfold wY_sortsFit_46 wY_sortsFit_58 wY_sortsFit_116
    repeat (first | refine br_f (by decide) ?_ | refine br_t (by decide) ?_)
    exact h1 (by simp [mr_so])
  · intro ht h1 h0
    unfold wpY_sortsFit
    dsimp only
    unfold wY_sortsFit_46 wY_sortsFit_58 wY_sortsFit_116
    repeat (first | refine br_f (by decide) ?_ | refine br_t (by decide) ?_)
    exact h1 (by simp [mr_so])
  · intro ht h1 h0
    unfold wpY_sortsFit
    dsimp only
    unfold wY_sortsFit_46 wY_sortsFit_58 wY_sortsFit_116
    repeat (first | refine br_f (by decide) ?_ | refine br_t (by decide) ?_)
    exact b0 (Nat.le_trans (by decide) ht) (fun i j => ⟨i, by rw [j]; exact br_c (fun z => b1 ht (fun i' j' => ⟨i', by rw [j']; exact br_c (fun z' => h1 (by simp [mr_so, z, z'])) (fun z' => h0 fun q => z' (q.1 (by decide)).2)⟩)) (fun z => h0 fun q => z (q.1 (by decide)).1)⟩)
  · intro ht h1 h0
    unfold wpY_sortsFit
    dsimp only
    unfold wY_sortsFit_46 wY_sortsFit_58 wY_sortsFit_116
    repeat (first | refine br_f (by decide) ?_ | refine br_t (by decide) ?_)
    exact b0 (Nat.le_trans (by decide) ht) (fun i j => ⟨i, by rw [j]; exact br_c (fun z => b1 ht (fun i' j' => ⟨i', by rw [j']; exact br_c (fun z' => h1 (by simp [mr_so, z, z'])) (fun z' => h0 fun q => z' (q.1 (by decide)).2)⟩)) (fun z => h0 fun q => z (q.1 (by decide)).1)⟩)
  · intro ht h1 h0
    unfold wpY_sortsFit
    dsimp only
    unfold wY_sortsFit_46 wY_sortsFit_58 wY_sortsFit_116
    repeat (first | refine br_f (by decide) ?_ | refine br_t (by decide) ?_)
    exact b0 (Nat.le_trans (by decide) ht) (fun i j => ⟨i, by rw [j]; exact br_c (fun z => b1 ht (fun i' j' => ⟨i', by rw [j']; exact br_c (fun z' => h1 (by simp [mr_so, z, z'])) (fun z' => h0 fun q => z' (q.1 (by decide)).2)⟩)) (fun z => h0 fun q => z (q.1 (by decide)).1)⟩)
  · intro ht h1 h0
    unfold wpY_sortsFit
    dsimp only
    unfold wY_sortsFit_46 wY_sortsFit_58 wY_sortsFit_116
    repeat (first | refine br_f (by decide) ?_ | refine br_t (by decide) ?_)
    exact b0 (Nat.le_trans (by decide) ht) (fun i j => ⟨i, by rw [j]; exact br_c (fun z => b1 ht (fun i' j' => ⟨i', by rw [j']; exact br_c (fun z' => h1 (by simp [mr_so, z, z'])) (fun z' => h0 fun q => z' (q.1 (by decide)).2)⟩)) (fun z => h0 fun q => z (q.1 (by decide)).1)⟩)
  · intro ht h1 h0
    unfold wpY_sortsFit
    dsimp only
    unfold wY_sortsFit_46 wY_sortsFit_58 wY_sortsFit_116
    repeat (first | refine br_f (by decide) ?_ | refine br_t (by decide) ?_)
    exact h1 (by simp [mr_so])
  · intro ht h1 h0
    unfold wpY_sortsFit
    dsimp only
    unfold wY_sortsFit_46 wY_sortsFit_58 wY_sortsFit_116
    repeat (first | refine br_f (by decide) ?_ | refine br_t (by decide) ?_)
    exact h1 (by simp [mr_so])
  · intro ht h1 h0
    unfold wpY_sortsFit
    dsimp only
    unfold wY_sortsFit_46 wY_sortsFit_58 wY_sortsFit_116
    repeat (first | refine br_f (by decide) ?_ | refine br_t (by decide) ?_)
    exact b0 ht (fun i j => ⟨i, by rw [j]; exact br_c (fun z => h1 (by simp [mr_so, z])) (fun z => h0 fun q => z (q.2.1 (by decide)))⟩)
  · intro ht h1 h0
    unfold wpY_sortsFit
    dsimp only
    unfold wY_sortsFit_46 wY_sortsFit_58 wY_sortsFit_116
    repeat (first | refine br_f (by decide) ?_ | refine br_t (by decide) ?_)
    exact h1 (by simp [mr_so])
  · intro ht h1 h0
    unfold wpY_sortsFit
    dsimp only
    unfold wY_sortsFit_46 wY_sortsFit_58 wY_sortsFit_116
    repeat (first | refine br_f (by decide) ?_ | refine br_t (by decide) ?_)
    exact b0 ht (fun i j => ⟨i, by rw [j]; exact br_c (fun z => h1 (by simp [mr_so, z])) (fun z => h0 fun q => z (q.2.2.1 rfl))⟩)
  · intro ht h1 h0
    unfold wpY_sortsFit
    dsimp only
    unfold wY_sortsFit_46 wY_sortsFit_58 wY_sortsFit_116
    repeat (first | refine br_f (by decide) ?_ | refine br_t (by decide) ?_)
    exact b1 ht (fun i j => ⟨i, by rw [j]; exact br_c (fun z => h1 (by simp [mr_so, z])) (fun z => h0 fun q => z (q.2.2.2 (by decide)))⟩)
  · intro ht h1 h0
    unfold wpY_sortsFit
    dsimp only
    unfold wY_sortsFit_46 wY_sortsFit_58 wY_sortsFit_116
    repeat (first | refine br_f (by decide) ?_ | refine br_t (by decide) ?_)
    exact h1 (by simp [mr_so])
  · intro ht h1 h0
    unfold wpY_sortsFit
    dsimp only
    unfold wY_sortsFit_46 wY_sortsFit_58 wY_sortsFit_116
    repeat (first | refine br_f (by decide) ?_ | refine br_t (by decide) ?_)
    exact b1 ht (fun i j => ⟨i, by rw [j]; exact br_c (fun z => h1 (by simp [mr_so, z])) (fun z => h0 fun q => z (q.2.2.2 (by decide)))⟩)
  · intro ht h1 h0
    unfold wpY_sortsFit
    dsimp only
    unfold wY_sortsFit_46 wY_sortsFit_58 wY_sortsFit_116
    repeat (first | refine br_f (by decide) ?_ | refine br_t (by decide) ?_)
    exact h1 (by simp [mr_so])
  · intro ht h1 h0
    unfold wpY_sortsFit
    dsimp only
    unfold wY_sortsFit_46 wY_sortsFit_58 wY_sortsFit_116
    repeat (first | refine br_f (by decide) ?_ | refine br_t (by decide) ?_)
    exact h1 (by simp [mr_so])
  · intro ht h1 h0
    unfold wpY_sortsFit
    dsimp only
    unfold wY_sortsFit_46 wY_sortsFit_58 wY_sortsFit_116
    repeat (first | refine br_f (by decide) ?_ | refine br_t (by decide) ?_)
    exact h1 (by simp [mr_so])
  · intro ht h1 h0
    unfold wpY_sortsFit
    dsimp only
    unfold wY_sortsFit_46 wY_sortsFit_58 wY_sortsFit_116
    repeat (first | refine br_f (by decide) ?_ | refine br_t (by decide) ?_)
    exact b0 ht (fun i j => ⟨i, by rw [j]; exact br_c (fun z => h1 (by simp [mr_so, z])) (fun z => h0 fun q => z (q.2.1 (by decide)))⟩)
end
