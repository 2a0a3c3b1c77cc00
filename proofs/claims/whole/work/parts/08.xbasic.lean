/-! X's small methods, each with a general post -/
def mr_tk (o : Nat) : Nat := [0, 0, 0, 0, 1, 1, 1, 2, 2, 2, 2, 2, 2, 0, 1, 0, 1, 2, 1, 2, 1, 0, 1, 1].getD o 0
def mr_lv (o : Nat) : Nat := [0, 1, 1, 1, 0, 0, 2, 2, 1, 1, 1, 1, 1, 0, 0, 1, 1, 0, 1, 0, 0, 1, 0, 0].getD o 0
theorem mr_24 {P : Nat → Prop} (h0 : P 0) (h1 : P 1) (h2 : P 2) (h3 : P 3) (h4 : P 4) (h5 : P 5) (h6 : P 6) (h7 : P 7) (h8 : P 8) (h9 : P 9) (h10 : P 10) (h11 : P 11) (h12 : P 12) (h13 : P 13) (h14 : P 14) (h15 : P 15) (h16 : P 16) (h17 : P 17) (h18 : P 18) (h19 : P 19) (h20 : P 20) (h21 : P 21) (h22 : P 22) (h23 : P 23) (o : Nat) (ho : o < 24) : P o := by
  have h : o = 0 ∨ o = 1 ∨ o = 2 ∨ o = 3 ∨ o = 4 ∨ o = 5 ∨ o = 6 ∨ o = 7 ∨ o = 8 ∨ o = 9 ∨ o = 10 ∨ o = 11 ∨ o = 12 ∨ o = 13 ∨ o = 14 ∨ o = 15 ∨ o = 16 ∨ o = 17 ∨ o = 18 ∨ o = 19 ∨ o = 20 ∨ o = 21 ∨ o = 22 ∨ o = 23 := by omega
  rcases h with rfl | rfl | rfl | rfl | rfl | rfl | rfl | rfl | rfl | rfl | rfl | rfl | rfl | rfl | rfl | rfl | rfl | rfl | rfl | rfl | rfl | rfl | rfl | rfl <;> assumption
theorem mr_tk_le : ∀ o, o < 24 → mr_tk o ≤ 2 := by decide
theorem mr_lv_le : ∀ o, o < 24 → mr_lv o ≤ mr_tk o + 1 := by decide
theorem mr_xtakes (post : Int32 → Prop) (o : Nat) (ho : o < 24) (h : post (nI (mr_tk o))) : wpX_takes post (nI o) := by
  revert h
  revert o
  apply mr_24 <;> (intro h; unfold wpX_takes; repeat (first | refine br_f (by decide) ?_ | refine br_t (by decide) ?_)) <;> exact h
theorem mr_xleaves (post : Int32 → Prop) (o : Nat) (ho : o < 24) (h1 : mr_tk o < mr_lv o → post 1) (h0 : ¬ mr_tk o < mr_lv o → post 0) : wpX_leavesMore post (nI o) := by
  revert h1 h0
  revert o
  apply mr_24 <;> (intro h1 h0; unfold wpX_leavesMore; repeat (first | refine br_f (by decide) ?_ | refine br_t (by decide) ?_)) <;> first | exact h1 (by decide) | exact h0 (by decide)
section
variable {tc cf fc la oc sc mc g1 g2 fr ov en : Int32} {op ns ab sr cl tk fo du de ke gs gv kd fs fv ls lv ss sv he nd : Nat → Int32} {gl fi lo st : Nat → Int64} {R : Nat → Nat → Prop} {f : Nat} {d : Nat → Nat}
theorem mr_xpush {k : Nat} {v : Int64} {post : SX → Prop} (hf : f < 10) (hk : k < 6) (e : de f = nI k) (h : post (tc, cf, fc, nI f, oc, sc, mc, g1, g2, op, ns, ab, sr, gl, cl, fi, tk, fo, du, upd de f (nI (k + 1)), lo, vp_updL st (6 * f + k) v, ke)) : wpX_push post (tc, cf, fc, nI f, oc, sc, mc, g1, g2, op, ns, ab, sr, gl, cl, fi, tk, fo, du, de, lo, st, ke) v := by
  have i1 : vp_in (nI f) 10 := vp_in_nI hf (by decide)
  have i2 : (nI f).toNatClampNeg = f := nI_clamp (by omega)
  have i3 : nI f * 6 + de (nI f).toNatClampNeg = nI (6 * f + k) := by rw [i2, e, mr_x6]
  unfold wpX_push
  dsimp only
  refine ⟨i1, by rw [i3]; exact vp_in_nI (by omega) (by decide), nm_r (by rw [i3, nI_clamp (by omega)]) ⟨i1, i1, nm_r (by rw [i2, e, nI_1]) h⟩⟩
theorem mr_xpop {k : Nat} {post : Int64 → SX → Prop} (hf : f < 10) (hk : k < 6) (e : de f = nI (k + 1)) (h : post (st (6 * f + k)) (tc, cf, fc, nI f, oc, sc, mc, g1, g2, op, ns, ab, sr, gl, cl, fi, tk, fo, du, upd de f (nI k), lo, st, ke)) : wpX_pop post (tc, cf, fc, nI f, oc, sc, mc, g1, g2, op, ns, ab, sr, gl, cl, fi, tk, fo, du, de, lo, st, ke) := by
  have i1 : vp_in (nI f) 10 := vp_in_nI hf (by decide)
  have i2 : (nI f).toNatClampNeg = f := nI_clamp (by omega)
  have i3 : nI f * 6 + upd de f (nI k) (nI f).toNatClampNeg = nI (6 * f + k) := by rw [i2, pk_us, mr_x6]
  unfold wpX_pop
  dsimp only
  refine ⟨i1, i1, nm_r (e' := upd de f (nI k)) (by rw [i2, e, nI_pred]) ⟨i1, by rw [i3]; exact vp_in_nI (by omega) (by decide), ?_⟩⟩
  rw [i3, nI_clamp (by omega)]
  exact h
theorem mr_xpushInt {k : Nat} {w : Int32} {post : SX → Prop} (hf : f < 10) (hk : k < 6) (e : de f = nI k) (h : post (tc, cf, fc, nI f, oc, sc, mc, g1, g2, op, ns, ab, sr, gl, cl, fi, tk, fo, du, upd de f (nI (k + 1)), lo, vp_updL st (6 * f + k) (mr_I w), ke)) : wpX_pushInt post (tc, cf, fc, nI f, oc, sc, mc, g1, g2, op, ns, ab, sr, gl, cl, fi, tk, fo, du, de, lo, st, ke) w := by
  unfold wpX_pushInt
  dsimp only
  unfold wpX_intValue
  rw [mr_int]
  exact mr_xpush hf hk e h
theorem mr_xval {k t : Nat} {post : Int64 → Prop} (hf : f < 10) (hk : k < 6) (e : de f = nI (k + t)) (ht : t ≤ 6) (h : post (st (6 * f + k))) : wpX_valueFromTop post (tc, cf, fc, nI f, oc, sc, mc, g1, g2, op, ns, ab, sr, gl, cl, fi, tk, fo, du, de, lo, st, ke) (nI t) := by
  have i1 : vp_in (nI f) 10 := vp_in_nI hf (by decide)
  have i2 : (nI f).toNatClampNeg = f := nI_clamp (by omega)
  have i3 : nI f * 6 + de (nI f).toNatClampNeg - nI t = nI (6 * f + k) := by rw [i2, e, mr_x6, pk_sub (by omega)]; exact congrArg nI (by omega)
  unfold wpX_valueFromTop
  dsimp only
  refine ⟨i1, by rw [i3]; exact vp_in_nI (by omega) (by decide), ?_⟩
  rw [i3, nI_clamp (by omega)]
  exact h
theorem mr_xisInt {k t : Nat} {s w : Int32} {post : Int32 → Prop} (hf : f < 10) (hk : k < 6) (e : de f = nI (k + t)) (ht : t ≤ 6) (hv : mr_V R (st (6 * f + k)) s w) (h1 : s = 1 → post 1) (h0 : ¬ s = 1 → post 0) : wpX_isInt post (tc, cf, fc, nI f, oc, sc, mc, g1, g2, op, ns, ab, sr, gl, cl, fi, tk, fo, du, de, lo, st, ke) (nI t) := by
  unfold wpX_isInt
  dsimp only
  refine mr_xval hf hk e ht ?_
  unfold wpX_sortOf
  rw [mr_V_int hv]
  exact br_c h1 h0
theorem mr_xisObj {k t : Nat} {s w : Int32} {post : Int32 → Prop} (hf : f < 10) (hk : k < 6) (e : de f = nI (k + t)) (ht : t ≤ 6) (hv : mr_V R (st (6 * f + k)) s w) (h1 : s = 2 → post 1) (h0 : ¬ s = 2 → post 0) : wpX_isObject post (tc, cf, fc, nI f, oc, sc, mc, g1, g2, op, ns, ab, sr, gl, cl, fi, tk, fo, du, de, lo, st, ke) (nI t) := by
  unfold wpX_isObject
  dsimp only
  refine mr_xval hf hk e ht ?_
  refine br_c (fun z => h0 fun z2 => ?_) (fun z => h1 ?_)
  · exact Int64.not_le.mpr z ((mr_V_obj hv).mpr z2)
  · exact (mr_V_obj hv).mp (Int64.not_lt.mp z)
theorem mr_xstack {k : Nat} {post : Int32 → Prop} (hf : f < 10) (hk : k ≤ 6) (e : de f = nI k) (o : Nat) (ho : o < 24) (h0 : (k < mr_tk o ∨ (k = 6 ∧ mr_tk o < mr_lv o)) → post 0) (h1 : ¬ (k < mr_tk o ∨ (k = 6 ∧ mr_tk o < mr_lv o)) → post 1) : wpX_stackFits post (tc, cf, fc, nI f, oc, sc, mc, g1, g2, op, ns, ab, sr, gl, cl, fi, tk, fo, du, de, lo, st, ke) (nI o) := by
  have i1 : vp_in (nI f) 10 := vp_in_nI hf (by decide)
  have i2 : (nI f).toNatClampNeg = f := nI_clamp (by omega)
  have i3 := mr_tk_le o ho
  unfold wpX_stackFits
  dsimp only
  refine ⟨i1, nm_r (e' := nI k) (by rw [i2, e]) (mr_xtakes _ o ho ?_)⟩
  refine pk_lt k (mr_tk o) (fun z => h0 (Or.inl z)) (fun z => ?_)
  refine pk_lt k 6 (fun z2 => h1 (by omega)) (fun z2 => ?_)
  refine mr_xleaves _ o ho (fun z3 => br_f (by decide) (h0 (Or.inr ⟨by omega, z3⟩))) (fun z3 => br_t rfl (h1 (by omega)))
end
