/-! entering a frame, making an object, on both sides; what the collectors meet -/
section
variable {tc cf fc la oc sc mc g1 g2 fr ov en : Int32} {op ns ab sr cl tk fo du de ke gs gv kd fs fv ls lv ss sv he nd : Nat → Int32} {gl fi lo st : Nat → Int64} {R : Nat → Nat → Prop} {f : Nat} {d : Nat → Nat}
theorem mr_XW_of {F : Nat} (hrv : mr_RV R F d gl lo st gs gv ls lv ss sv) (hhv : mr_HV R cl fi tk kd fs fv) : mr_XW gl lo st fi F d :=
  ⟨fun g hg => mr_V_W (hrv.1 g hg), fun k hk => mr_V_W (hrv.2.1 k hk), fun g i hg hi => mr_V_W (hrv.2.2 g i hg hi), fun x hx j hj => by
    obtain ⟨y, r, _⟩ := mr_L_tr R (mr_tr1 hrv) (mr_te1 hhv) hx
    exact mr_V_W ((hhv.1 x y r).2.2.2.2 j hj)⟩
theorem mr_YW_of {F : Nat} (hrv : mr_RV R F d gl lo st gs gv ls lv ss sv) (hhv : mr_HV R cl fi tk kd fs fv) : mr_YW gs gv ls lv ss sv fs fv F d :=
  ⟨fun g hg => mr_V_O16 (hrv.1 g hg), fun k hk => mr_V_O16 (hrv.2.1 k hk), fun g i hg hi => mr_V_O16 (hrv.2.2 g i hg hi), fun y hy j hj => by
    obtain ⟨x, r, _⟩ := mr_L_tr (fun y x => R x y) (mr_tr2 hrv) (fun y x y' r e => mr_te2 hhv x y y' r e) hy
    exact mr_V_O16 ((hhv.1 x y r).2.2.2.2 j hj)⟩
theorem mr_xenter {F : Nat} {s : Int32} {a b : Int64} {post : SX → Prop} (hF : F < 10) (h : post (tc, cf, nI (F + 1), nI F, oc, sc, mc, g1, g2, op, ns, ab, sr, gl, cl, fi, tk, fo, upd du F s, upd de F (nI 0), vp_updL (vp_updL (vp_updL (vp_updL lo (4 * F) a) (4 * F + 1) b) (4 * F + 2) 0) (4 * F + 3) 0, st, ke)) : wpX_enterFrame post (tc, cf, nI F, la, oc, sc, mc, g1, g2, op, ns, ab, sr, gl, cl, fi, tk, fo, du, de, lo, st, ke) s a b := by
  have i1 : vp_in (nI F) 10 := vp_in_nI hF (by decide)
  have i2 : (nI F).toNatClampNeg = F := nI_clamp (by omega)
  have e1 : nI (4 * F) + 1 = nI (4 * F + 1) := nI_add _ 1
  have e2 : nI (4 * F) + 2 = nI (4 * F + 2) := nI_add _ 2
  have e3 : nI (4 * F) + 3 = nI (4 * F + 3) := nI_add _ 3
  unfold wpX_enterFrame
  dsimp only
  rw [nI_1 F, i2, mr_x4', e1, e2, e3, nI_clamp (n := 4 * F) (by omega), nI_clamp (n := 4 * F + 1) (by omega), nI_clamp (n := 4 * F + 2) (by omega), nI_clamp (n := 4 * F + 3) (by omega)]
  exact nm_e ⟨i1, nm_e ⟨i1, nm_e ⟨vp_in_nI (by omega) (by decide), nm_e ⟨vp_in_nI (by omega) (by decide), nm_e ⟨vp_in_nI (by omega) (by decide), nm_e ⟨vp_in_nI (by omega) (by decide), nm_e h⟩⟩⟩⟩⟩⟩
theorem mr_yenter {F : Nat} {a s w : Int32} (hF : F < 10) : ∃ ls' : Nat → Int32, ((∀ j, j < 4 * F → ls' j = ls j) ∧ ls' (4 * F) = 0 ∧ ls' (4 * F + 1) = s ∧ ls' (4 * F + 2) = 0 ∧ ls' (4 * F + 3) = 0) ∧ ∀ post : SY → Prop, post (nI (F + 1), g1, g2, sc, mc, oc, ov, en, op, ns, ab, sr, gs, gv, kd, fs, fv, ls', upd lv (4 * F + 1) w, ss, sv, upd he F (nI 0), upd du F a, nd, ke) → wpY_enter post (nI F, g1, g2, sc, mc, oc, ov, en, op, ns, ab, sr, gs, gv, kd, fs, fv, ls, lv, ss, sv, he, du, nd, ke) a s w := by
  have i1 : vp_in (nI F) 10 := vp_in_nI hF (by decide)
  have i2 : (nI F).toNatClampNeg = F := nI_clamp (by omega)
  have e4 : 4 * nI F + 4 = nI (4 * F + 4) := by rw [mr_y4']; exact nI_add _ 4
  have e1 : 4 * nI F + 1 = nI (4 * F + 1) := by rw [mr_y4']; exact nI_add _ 1
  obtain ⟨t, ⟨ha, hb⟩, e⟩ := mr_lpE (fun (post : SY → Prop) n i (t : Nat → Int32) => wY_enter_28 post s w (nI F) g1 g2 sc mc oc ov en n (nI (4 * F + i)) op ns ab sr gs gv kd fs fv t lv ss sv (upd he F (nI 0)) (upd du F a) nd ke) (fun post t => post (nI (F + 1), g1, g2, sc, mc, oc, ov, en, op, ns, ab, sr, gs, gv, kd, fs, fv, upd t (4 * F + 1) s, upd lv (4 * F + 1) w, ss, sv, upd he F (nI 0), upd du F a, nd, ke)) (fun i t => (∀ j, j < 4 * F → t j = ls j) ∧ ∀ j, j < i → t (4 * F + j) = 0) 4 (fun t h post n hk => br_t (by rw [e4]; exact nI_le (Nat.le_refl _) (by omega)) (by rw [e1]; exact ⟨vp_in_nI (by omega) (by decide), nm_r (e' := upd t (4 * F + 1) s) (by rw [nI_clamp (by omega)]) ⟨vp_in_nI (by omega) (by decide), nm_r (e' := upd lv (4 * F + 1) w) (by rw [nI_clamp (by omega)]) (nm_r (nI_1 F) hk)⟩⟩)) (fun i t hi h => ⟨upd t (4 * F + i) 0, ⟨fun j hj => by rw [pk_un (by omega)]; exact h.1 j hj, fun j hj => by
      by_cases ej : j = i
      · subst ej; exact pk_us
      · rw [pk_un (by omega)]; exact h.2 j (by omega)⟩, fun post n h2 => br_f (by rw [e4]; exact nI_ge (by omega) (by omega)) ⟨vp_in_nI (by omega) (by decide), nm_r (e' := upd t (4 * F + i) 0) (by rw [nI_clamp (by omega)]) (nm_r (nI_1 _) h2)⟩⟩) ls ⟨fun _ _ => rfl, fun j hj => absurd hj (Nat.not_lt_zero j)⟩
  refine ⟨upd t (4 * F + 1) s, ⟨fun j hj => by rw [pk_un (by omega)]; exact ha j hj, by rw [pk_un (by omega)]; exact hb 0 (by omega), pk_us, by rw [pk_un (by omega)]; exact hb 2 (by omega), by rw [pk_un (by omega)]; exact hb 3 (by omega)⟩, fun post hp => ?_⟩
  unfold wpY_enter
  dsimp only
  rw [i2]
  exact ⟨i1, nm_e ⟨i1, nm_e (nm_r (mr_y4' F) ⟨5, e post 5 (by omega) hp⟩)⟩⟩
theorem mr_xmake {k : Nat} {c : Int32} (hf : f < 10) (hk : k < 6) (e : de f = nI k) (hc : mr_cn tk 16 < 16) : ∃ (px : Nat) (fi' : Nat → Int64), px < 16 ∧ tk px = 0 ∧ (∀ x j, j < 3 → x ≠ px → fi' (3 * x + j) = fi (3 * x + j)) ∧ (∀ j, j < 3 → fi' (3 * px + j) = 0) ∧ ∀ post : SX → Prop, post (nI (mr_cn tk 16 + 1), cf, fc, nI f, oc, sc, mc + 1, g1, g2, op, ns, ab, sr, gl, upd cl px c, fi', upd tk px 1, fo, du, upd de f (nI (k + 1)), lo, vp_updL st (6 * f + k) (mr_O px), ke) → wpX_makeObject post (nI (mr_cn tk 16), cf, fc, nI f, oc, sc, mc, g1, g2, op, ns, ab, sr, gl, cl, fi, tk, fo, du, de, lo, st, ke) c := by
  obtain ⟨px, hpx, tpx, hlt⟩ := mr_cn_room tk 16 hc
  obtain ⟨fi', ⟨ha, hb⟩, e2⟩ := mr_lpE (fun (post : SX → Prop) n i (t : Nat → Int64) => wX_makeObject_56 post (nI px) (nI (mr_cn tk 16 + 1)) cf fc (nI f) oc sc mc g1 g2 n (nI i) op ns ab sr gl (upd cl px c) t (upd tk px 1) fo du de lo st ke) (fun post t => post (nI (mr_cn tk 16 + 1), cf, fc, nI f, oc, sc, mc + 1, g1, g2, op, ns, ab, sr, gl, upd cl px c, t, upd tk px 1, fo, du, upd de f (nI (k + 1)), lo, vp_updL st (6 * f + k) (mr_O px), ke)) (fun i t => (∀ j, (j < 3 * px ∨ 3 * px + 3 ≤ j) → t j = fi j) ∧ ∀ j, j < i → t (3 * px + j) = 0) 3 (fun t h post n hp => br_t (by decide) (nm_e (by rw [mr_mk px hpx]; exact mr_xpush (k := k) hf hk e hp))) (fun i t hi h => ⟨vp_updL t (3 * px + i) 0, ⟨fun j hj => by rw [pk_uLn (by omega)]; exact h.1 j hj, fun j hj => by
      by_cases ej : j = i
      · subst ej; exact pk_uLs
      · rw [pk_uLn (by omega)]; exact h.2 j (by omega)⟩, fun post n h2 => br_f (nI_ge (b := 3) hi (by decide)) (by rw [mr_x3 px i]; exact ⟨vp_in_nI (by omega) (by decide), nm_r (e' := vp_updL t (3 * px + i) 0) (by rw [nI_clamp (by omega)]) (nm_r (nI_1 i) h2)⟩)⟩) fi ⟨fun _ _ => rfl, fun j hj => absurd hj (Nat.not_lt_zero j)⟩
  refine ⟨px, fi', hpx, tpx, fun x j hj hx => ha _ (by omega), hb, fun post hp => ?_⟩
  have h30 : wX_makeObject_30 post c (nI px) (nI (mr_cn tk 16)) cf fc (nI f) oc sc mc g1 g2 op ns ab sr gl cl fi tk fo du de lo st ke := by
    unfold wX_makeObject_30
    rw [nI_clamp (n := px) (by omega), mr_b1, nI_1]
    exact ⟨vp_in_nI hpx (by decide), nm_e (nm_e ⟨vp_in_nI hpx (by decide), nm_e ⟨4, e2 post 4 (by omega) hp⟩⟩)⟩
  have h4 : ∀ m i, i + m = px → wX_makeObject_4 post c 0 (nI (mr_cn tk 16)) cf fc (nI f) oc sc mc g1 g2 op ns ab sr gl cl fi tk fo du de lo st ke (m + 1) (nI i) := by
    intro m
    induction m with
    | zero =>
      intro i hi
      have : i = px := hi
      subst this
      refine br_f (nI_ge (b := 16) hpx (by decide)) ⟨vp_in_nI hpx (by decide), ?_⟩
      rw [nI_clamp (n := i) (by omega)]
      exact br_t tpx h30
    | succ m ih =>
      intro i hi
      refine br_f (nI_ge (b := 16) (by omega) (by decide)) ⟨vp_in_nI (by omega) (by decide), ?_⟩
      rw [nI_clamp (n := i) (by omega)]
      exact br_f (hlt i (by omega)) (nm_r (nI_1 i) (ih (i + 1) (by omega)))
  unfold wpX_makeObject
  dsimp only
  exact ⟨px + 1, h4 px 0 (by omega)⟩
def mr_dn : Nat → Int32
  | 0 => -1
  | m + 1 => nI m
theorem mr_dn_s : ∀ m, nI m + (-1) = mr_dn m := by
  intro m
  cases m with
  | zero => decide
  | succ m => exact pk_m1 m
theorem mr_ymake {k : Nat} {c : Int32} (hf : f < 10) (hk : k < 6) (e : he f = nI k) (hc : mr_cn nd 16 < 16) : ∃ (q : Nat) (fs' : Nat → Int32), q < 16 ∧ nd q = 0 ∧ (∀ y j, j < 3 → y ≠ q → fs' (3 * y + j) = fs (3 * y + j)) ∧ (∀ j, j < 3 → fs' (3 * q + j) = 0) ∧ ∀ post : SY → Prop, post (nI (f + 1), g1, g2, sc, mc + 1, oc, ov, en, op, ns, ab, sr, gs, gv, upd kd q c, fs', fv, ls, lv, upd ss (6 * f + k) 2, upd sv (6 * f + k) (nI q), upd he f (nI (k + 1)), du, nd, ke) → wpY_make post (nI (f + 1), g1, g2, sc, mc, oc, ov, en, op, ns, ab, sr, gs, gv, kd, fs, fv, ls, lv, ss, sv, he, du, nd, ke) c := by
  obtain ⟨z, hz, z0, _⟩ := mr_cn_room nd 16 hc
  have h6 : ∀ m o, m ≤ 16 → o < 16 → ((∃ z, m ≤ z ∧ z < 16 ∧ nd z = 0) → nd o = 0) → ∃ q, q < 16 ∧ nd q = 0 ∧ ∀ post : SY → Prop, wY_make_6 post c (nI (f + 1)) g1 g2 sc mc oc ov en op ns ab sr gs gv kd fs fv ls lv ss sv he du nd ke 1 (nI q) (-1) → wY_make_6 post c (nI (f + 1)) g1 g2 sc mc oc ov en op ns ab sr gs gv kd fs fv ls lv ss sv he du nd ke (m + 1) (nI o) (mr_dn m) := by
    intro m
    induction m with
    | zero => exact fun o _ ho h => ⟨o, ho, h ⟨z, Nat.zero_le _, hz, z0⟩, fun post hp => hp⟩
    | succ m ih =>
      intro o hm ho h
      by_cases w : nd m = 0
      · obtain ⟨q, hq, q0, hp⟩ := ih m (by omega) (by omega) (fun _ => w)
        refine ⟨q, hq, q0, fun post h2 => ?_⟩
        show wY_make_6 post c (nI (f + 1)) g1 g2 sc mc oc ov en op ns ab sr gs gv kd fs fv ls lv ss sv he du nd ke (m + 1 + 1) (nI o) (nI m)
        refine br_f (nI_pos (by omega)) ⟨vp_in_nI (by omega) (by decide), ?_⟩
        rw [nI_clamp (n := m) (by omega)]
        exact br_t w (nm_r (mr_dn_s m) (hp post h2))
      · obtain ⟨q, hq, q0, hp⟩ := ih o (by omega) ho (fun ⟨z', a, b, c'⟩ => h ⟨z', by
          by_cases ez : z' = m
          · subst ez; exact absurd c' w
          · omega, b, c'⟩)
        refine ⟨q, hq, q0, fun post h2 => ?_⟩
        show wY_make_6 post c (nI (f + 1)) g1 g2 sc mc oc ov en op ns ab sr gs gv kd fs fv ls lv ss sv he du nd ke (m + 1 + 1) (nI o) (nI m)
        refine br_f (nI_pos (by omega)) ⟨vp_in_nI (by omega) (by decide), ?_⟩
        rw [nI_clamp (n := m) (by omega)]
        exact br_f w (nm_r (mr_dn_s m) (hp post h2))
  obtain ⟨q, hq, q0, h7⟩ := h6 16 15 (by omega) (by omega) (fun ⟨z', a, b, _⟩ => by omega)
  have e3 : 3 * nI q + 3 = nI (3 * q + 3) := by rw [show (3 : Int32) = nI 3 from rfl, pk_mul, nI_add]
  obtain ⟨fs', ⟨ha, hb⟩, e2⟩ := mr_lpE (fun (post : SY → Prop) n i (t : Nat → Int32) => wY_make_38 post (nI q) (nI (f + 1)) g1 g2 sc mc oc ov en n (nI (3 * q + i)) op ns ab sr gs gv (upd kd q c) t fv ls lv ss sv he du nd ke) (fun post t => post (nI (f + 1), g1, g2, sc, mc + 1, oc, ov, en, op, ns, ab, sr, gs, gv, upd kd q c, t, fv, ls, lv, upd ss (6 * f + k) 2, upd sv (6 * f + k) (nI q), upd he f (nI (k + 1)), du, nd, ke)) (fun i t => (∀ j, (j < 3 * q ∨ 3 * q + 3 ≤ j) → t j = fs j) ∧ ∀ j, j < i → t (3 * q + j) = 0) 3 (fun t h post n hp => br_t (by rw [e3]; exact nI_le (Nat.le_refl _) (by omega)) (nm_e (mr_ypush (k := k) hf hk e hp))) (fun i t hi h => ⟨upd t (3 * q + i) 0, ⟨fun j hj => by rw [pk_un (by omega)]; exact h.1 j hj, fun j hj => by
      by_cases ej : j = i
      · subst ej; exact pk_us
      · rw [pk_un (by omega)]; exact h.2 j (by omega)⟩, fun post n h2 => br_f (by rw [e3]; exact nI_ge (by omega) (by omega)) ⟨vp_in_nI (by omega) (by decide), nm_r (e' := upd t (3 * q + i) 0) (by rw [nI_clamp (by omega)]) (nm_r (nI_1 _) h2)⟩⟩) fs ⟨fun _ _ => rfl, fun j hj => absurd hj (Nat.not_lt_zero j)⟩
  refine ⟨q, fs', hq, q0, fun y j hj hy => ha _ (by omega), hb, fun post hp => ?_⟩
  unfold wpY_make
  dsimp only
  refine ⟨17, h7 post ?_⟩
  refine br_t (by decide) ⟨vp_in_nI hq (by decide), nm_r (e' := upd kd q c) (by rw [nI_clamp (by omega)]) (nm_r (e' := nI (3 * q + 0)) (by rw [show (3 : Int32) = nI 3 from rfl, pk_mul]; rfl) ⟨4, e2 post 4 (by omega) hp⟩)⟩
end
