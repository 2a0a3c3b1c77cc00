/-! the start of both sides -/
def mr_fill (n : Nat) : Nat → Int32 := fun j => if j < n then -1 else 0
theorem mr_fill_s (n : Nat) : upd (mr_fill n) n (-1) = mr_fill (n + 1) := by
  funext j
  unfold upd mr_fill
  by_cases e : j = n
  · subst e
    rw [if_pos rfl, if_pos (by omega)]
  · rw [if_neg e]
    by_cases z : j < n
    · rw [if_pos z, if_pos (by omega)]
    · rw [if_neg z, if_neg (by omega)]
theorem mr_fill_0 : mr_fill 0 = fun _ => 0 := by
  funext j
  unfold mr_fill
  rw [if_neg (by omega)]
section
variable {tc cf fc la oc sc mc g1 g2 fr ov en : Int32} {op ns ab sr cl tk fo du de ke gs gv kd fs fv ls lv ss sv he nd : Nat → Int32} {gl fi lo st : Nat → Int64} {R : Nat → Nat → Prop} {f : Nat} {d : Nat → Nat}
theorem mr_xi116 (post : SX → Prop) (h : ∃ n136 : Nat, wX_init_136 post tc cf fc la oc sc mc g1 g2 n136 0 op ns (mr_fill 4) sr gl cl fi tk fo du de lo st ke) : wX_init_116 post tc cf fc la oc sc mc g1 g2 5 0 op ns (mr_fill 0) sr gl cl fi tk fo du de lo st ke := by
  obtain ⟨t, rfl, e⟩ := mr_lpE (fun (post : SX → Prop) n i (t : Nat → Int32) => wX_init_116 post tc cf fc la oc sc mc g1 g2 n (nI i) op ns t sr gl cl fi tk fo du de lo st ke) (fun post t => ∃ n136 : Nat, wX_init_136 post tc cf fc la oc sc mc g1 g2 n136 0 op ns t sr gl cl fi tk fo du de lo st ke) (fun i t => t = mr_fill i) 4 (fun s h post n hk => br_t (by decide) hk) (fun i t hi h => ⟨mr_fill (i + 1), rfl, fun post n h2 => by
    subst h
    exact br_f (nI_ge (b := 4) hi (by decide)) ⟨vp_in_nI hi (by decide), nm_r (e' := mr_fill (i + 1)) (by rw [nI_clamp (by omega), mr_fill_s]) (nm_r (nI_1 i) h2)⟩⟩) (mr_fill 0) rfl
  exact e post 5 (by omega) h
theorem mr_xi136 (post : SX → Prop) (h : wpX_collectFromAt (fun r => post (tc, r, fc, la, oc, sc, mc, g1, g2, op, ns, ab, mr_fill 16, gl, cl, fi, tk, fo, du, de, lo, st, ke)) 2) : wX_init_136 post tc cf fc la oc sc mc g1 g2 17 0 op ns ab (mr_fill 0) gl cl fi tk fo du de lo st ke := by
  obtain ⟨t, rfl, e⟩ := mr_lpE (fun (post : SX → Prop) n i (t : Nat → Int32) => wX_init_136 post tc cf fc la oc sc mc g1 g2 n (nI i) op ns ab t gl cl fi tk fo du de lo st ke) (fun post t => wpX_collectFromAt (fun r => post (tc, r, fc, la, oc, sc, mc, g1, g2, op, ns, ab, t, gl, cl, fi, tk, fo, du, de, lo, st, ke)) 2) (fun i t => t = mr_fill i) 16 (fun s h post n hk => br_t (by decide) hk) (fun i t hi h => ⟨mr_fill (i + 1), rfl, fun post n h2 => by
    subst h
    exact br_f (nI_ge (b := 16) hi (by decide)) ⟨vp_in_nI hi (by decide), nm_r (e' := mr_fill (i + 1)) (by rw [nI_clamp (by omega), mr_fill_s]) (nm_r (nI_1 i) h2)⟩⟩) (mr_fill 0) rfl
  exact e post 17 (by omega) h
theorem mr_yi169 (post : SY → Prop) (h : ∃ n189 : Nat, wY_init_189 post fr g1 g2 sc mc oc ov en n189 0 op ns (mr_fill 4) sr gs gv kd fs fv ls lv ss sv he du nd ke) : wY_init_169 post fr g1 g2 sc mc oc ov en 5 0 op ns (mr_fill 0) sr gs gv kd fs fv ls lv ss sv he du nd ke := by
  obtain ⟨t, rfl, e⟩ := mr_lpE (fun (post : SY → Prop) n i (t : Nat → Int32) => wY_init_169 post fr g1 g2 sc mc oc ov en n (nI i) op ns t sr gs gv kd fs fv ls lv ss sv he du nd ke) (fun post t => ∃ n189 : Nat, wY_init_189 post fr g1 g2 sc mc oc ov en n189 0 op ns t sr gs gv kd fs fv ls lv ss sv he du nd ke) (fun i t => t = mr_fill i) 4 (fun s h post n hk => br_t (by decide) hk) (fun i t hi h => ⟨mr_fill (i + 1), rfl, fun post n h2 => by
    subst h
    exact br_f (nI_ge (b := 4) hi (by decide)) ⟨vp_in_nI hi (by decide), nm_r (e' := mr_fill (i + 1)) (by rw [nI_clamp (by omega), mr_fill_s]) (nm_r (nI_1 i) h2)⟩⟩) (mr_fill 0) rfl
  exact e post 5 (by omega) h
theorem mr_yi189 (post : SY → Prop) (h : post (fr, g1, g2, sc, mc, oc, ov, en, op, ns, ab, mr_fill 16, gs, gv, kd, fs, fv, ls, lv, ss, sv, he, du, nd, ke)) : wY_init_189 post fr g1 g2 sc mc oc ov en 17 0 op ns ab (mr_fill 0) gs gv kd fs fv ls lv ss sv he du nd ke := by
  obtain ⟨t, rfl, e⟩ := mr_lpE (fun (post : SY → Prop) n i (t : Nat → Int32) => wY_init_189 post fr g1 g2 sc mc oc ov en n (nI i) op ns ab t gs gv kd fs fv ls lv ss sv he du nd ke) (fun post t => post (fr, g1, g2, sc, mc, oc, ov, en, op, ns, ab, t, gs, gv, kd, fs, fv, ls, lv, ss, sv, he, du, nd, ke)) (fun i t => t = mr_fill i) 16 (fun s h post n hk => br_t (by decide) hk) (fun i t hi h => ⟨mr_fill (i + 1), rfl, fun post n h2 => by
    subst h
    exact br_f (nI_ge (b := 16) hi (by decide)) ⟨vp_in_nI hi (by decide), nm_r (e' := mr_fill (i + 1)) (by rw [nI_clamp (by omega), mr_fill_s]) (nm_r (nI_1 i) h2)⟩⟩) (mr_fill 0) rfl
  exact e post 17 (by omega) h
theorem mr_mkR (H : mr_E R tc cf op ns ab sr gl cl fi tk gs gv kd fs fv) : mr_Rl (tc, cf, 0, la, oc, sc, mc, g1, g2, op, ns, ab, sr, gl, cl, fi, tk, fo, du, de, lo, st, ke) (0, g1, g2, sc, mc, oc, ov, en, op, ns, ab, sr, gs, gv, kd, fs, fv, ls, lv, ss, sv, he, du, nd, ke) :=
  ⟨R, tc, cf, la, oc, sc, mc, g1, g2, ov, en, op, ns, ab, sr, cl, tk, fo, du, de, ke, gs, gv, kd, fs, fv, ls, lv, ss, sv, he, nd, gl, fi, lo, st, rfl, rfl, H⟩
end
theorem mr_init : wpX_init (fun u => wpY_init (fun v => mr_Rl u v)) := by
  unfold wpX_init
  refine ⟨5, ?_⟩
  rw [← mr_fill_0]
  refine mr_xi116 _ ⟨17, mr_xi136 _ ?_⟩
  refine And.intro (by decide) ?_
  unfold wpY_init
  refine ⟨5, ?_⟩
  rw [← mr_fill_0]
  refine mr_yi169 _ ⟨17, mr_yi189 _ ?_⟩
  have z : ∀ j, mr_fill 0 j = 0 := fun j => by rw [mr_fill_0]
  refine ⟨fun _ _ => False, _, _, _, _, _, _, _, _, _, _, _, _, _, _, _, _, _, _, _, _, _, _, _, _, _, _, _, _, _, _, _, _, _, _, _, rfl, rfl, ⟨fun i hi => ⟨0, by decide, z i, fun h => absurd h (by decide), fun h => absurd h (by decide)⟩, fun c hc => Or.inl (if_pos hc), fun k hk => Or.inl (if_pos hk)⟩, fun g hg => ?_, ⟨fun x y h => h.elim, fun x x' y h => h.elim, fun x y y' h => h.elim⟩, ?_, 16, by decide, by decide⟩
  · rw [z g]
    exact mr_V0
  · rw [mr_cn_0 _ 16 (fun i _ => z i)]
    rfl
