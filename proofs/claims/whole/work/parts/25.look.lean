/-! looks: the digits of a path, the walk over fields, the answer as a long -/
def mr_dg (p i : Nat) : Nat := p / 4 ^ i % 4
theorem mr_sh2 : ∀ i, i < 8 → ((nI (2 * i)).toBitVec.smod 32).toNat = 2 * i := by decide
theorem mr_xdig {p i : Nat} {post : Int32 → Prop} (hp : p < 65536) (hi : i < 8) (h : post (nI (mr_dg p i))) : wpX_digit post (nI p) (nI i) := by
  have e1 : 2 * nI i = nI (2 * i) := by rw [show (2 : Int32) = nI 2 from rfl, pk_mul]
  have e2 : nI (2 * i) &&& 31 = nI (2 * i) := by rw [pk_andN (n := 2 * i) (m := 31) (by omega) 5 (by decide), Nat.mod_eq_of_lt (by omega)]
  have e3 : nI p >>> nI (2 * i) = nI (p / 2 ^ (2 * i)) := pk_shrN (by omega) _ _ (mr_sh2 i hi)
  have h4 : p / 2 ^ (2 * i) ≤ p := Nat.div_le_self _ _
  have e4 : nI (p / 2 ^ (2 * i)) &&& 3 = nI (mr_dg p i) := by
    rw [pk_andN (n := p / 2 ^ (2 * i)) (m := 3) (by omega) 2 (by decide), mr_dg, Nat.pow_mul]
  unfold wpX_digit
  rw [e1, e2, e3, e4]
  exact h
theorem mr_dg_lt (p i : Nat) : mr_dg p i < 4 := Nat.mod_lt _ (by decide)
theorem mr_dg_eq {p i c : Nat} (hc : c < 4) : nI (mr_dg p i) = nI c ↔ mr_dg p i = c := nI_eq (by have := mr_dg_lt p i; omega) (by omega)
theorem mr_dg_n (p i : Nat) : p / 4 ^ i / 4 = p / 4 ^ (i + 1) := by rw [Nat.div_div_eq_div_mul, Nat.pow_succ]
theorem mr_xhas {p : Nat} {post : Int32 → Prop} (hp : p < 65536) : ∀ m i, i + m = 8 → ((∃ j, i ≤ j ∧ j < 8 ∧ mr_dg p j = 3) → post 1) → ((¬ ∃ j, i ≤ j ∧ j < 8 ∧ mr_dg p j = 3) → post 0) → wX_hasLastDigit_2 post (nI p) (m + 1) (nI i) := by
  intro m
  induction m with
  | zero =>
    intro i hi h1 h0
    have : i = 8 := hi
    subst this
    exact br_t (by decide) (h0 (fun ⟨j, a, b, _⟩ => by omega))
  | succ m ih =>
    intro i hi h1 h0
    refine br_f (nI_ge (b := 8) (by omega) (by decide)) (mr_xdig hp (by omega) ?_)
    by_cases z : mr_dg p i = 3
    · exact br_t (congrArg nI z) (h1 ⟨i, Nat.le_refl _, by omega, z⟩)
    · refine br_f (fun q => z ((mr_dg_eq (by decide)).mp q)) (nm_r (nI_1 i) (ih (i + 1) (by omega) (fun ⟨j, a, b, c⟩ => h1 ⟨j, by omega, b, c⟩) (fun q => h0 (fun ⟨j, a, b, c⟩ => q ⟨j, ?_, b, c⟩))))
      by_cases ej : j = i
      · subst ej; exact absurd c z
      · omega
/-- the number that a value of Y tells -/
def mr_num (kd : Nat → Int32) (s w : Int32) : Int32 := if s = 2 then kd w.toNatClampNeg else if s = 1 then w else 0
section
variable {tc cf fc la oc sc mc g1 g2 fr ov en : Int32} {op ns ab sr cl tk fo du de ke gs gv kd fs fv ls lv ss sv he nd : Nat → Int32} {gl fi lo st : Nat → Int64} {R : Nat → Nat → Prop} {f : Nat} {d : Nat → Nat}
theorem mr_yhas {p : Nat} {x1 : Int32} {post : Int64 → Prop} (hp : p < 65536) : ∀ m i (b : Int32), i + m = 8 → (b = 0 ∨ b = 1) → (((b = 1 ∨ ∃ j, i ≤ j ∧ j < 8 ∧ mr_dg p j = 3)) → ∀ (n : Nat) (r : Int32), wY_look_33 post x1 (nI p) fr g1 g2 sc mc oc ov en op ns ab sr gs gv kd fs fv ls lv ss sv he du nd ke (n + 1) r 1 (nI 8)) → ((¬ (b = 1 ∨ ∃ j, i ≤ j ∧ j < 8 ∧ mr_dg p j = 3)) → post (-1)) → wY_look_33 post x1 (nI p) fr g1 g2 sc mc oc ov en op ns ab sr gs gv kd fs fv ls lv ss sv he du nd ke (m + 1) (nI (p / 4 ^ i)) b (nI i) := by
  intro m
  induction m with
  | zero =>
    intro i b hi hb h1 h0
    have : i = 8 := hi
    subst this
    rcases hb with rfl | rfl
    · exact br_t (by decide) (br_t rfl (h0 (fun q => by
        rcases q with q | ⟨j, a, b, _⟩
        · exact absurd q (by decide)
        · omega)))
    · exact h1 (Or.inl rfl) 0 _
  | succ m ih =>
    intro i b hi hb h1 h0
    have hle : p / 4 ^ i ≤ p := Nat.div_le_self _ _
    have e1 : nI (p / 4 ^ i) - nI (p / 4 ^ i) / 4 * 4 = nI (mr_dg p i) := pk_rem (d := 4) (by omega) (by decide) (by decide)
    have e2 : nI (p / 4 ^ i) / 4 = nI (p / 4 ^ (i + 1)) := by rw [← mr_dg_n]; exact pk_div (d := 4) (by omega) (by decide) (by decide)
    refine br_f (nI_ge (b := 8) (by omega) (by decide)) ⟨by decide, ?_⟩
    rw [e1, e2]
    by_cases z : mr_dg p i = 3
    · exact br_t (congrArg nI z) ⟨by decide, nm_e (nm_r (nI_1 i) (ih (i + 1) 1 (by omega) (Or.inr rfl) (fun _ => h1 (Or.inr ⟨i, Nat.le_refl _, by omega, z⟩)) (fun q => absurd (Or.inl rfl) q)))⟩
    · refine br_f (fun q => z ((mr_dg_eq (by decide)).mp q)) ⟨by decide, nm_e (nm_r (nI_1 i) (ih (i + 1) b (by omega) hb (fun q => h1 ?_) (fun q => h0 fun q' => q ?_)))⟩
      · rcases q with q | ⟨j, a, b, c⟩
        · exact Or.inl q
        · exact Or.inr ⟨j, by omega, b, c⟩
      · rcases q' with q' | ⟨j, a, b, c⟩
        · exact Or.inl q'
        · refine Or.inr ⟨j, ?_, b, c⟩
          by_cases ej : j = i
          · subst ej; exact absurd c z
          · omega
theorem mr_walk {p : Nat} (hp : p < 65536) (hh : mr_HV R cl fi tk kd fs fv) : ∀ m i (v : Int64) (s w : Int32), i + m = 8 → mr_V R v s w → (∃ j, i ≤ j ∧ j < 8 ∧ mr_dg p j = 3) → ∃ (rX rY : Int64), (∀ post : Int64 → Prop, post rX → wX_valueAt_44 post (nI p) tc cf fc la oc sc mc g1 g2 op ns ab sr gl cl fi tk fo du de lo st ke (m + 1) v (nI i)) ∧ (∀ post : Int64 → Prop, post rY → wY_look_90 post fr g1 g2 sc mc oc ov en op ns ab sr gs gv kd fs fv ls lv ss sv he du nd ke (m + 1) (nI (p / 4 ^ i)) s w (nI i)) ∧ ((rX = -2 ∧ rY = -2) ∨ ∃ s w : Int32, mr_V R rX s w ∧ rY = 8 * (mr_num kd s w).toInt64 + s.toInt64) := by
  intro m
  induction m with
  | zero =>
    intro i v s w hi _ ⟨j, a, b, _⟩
    omega
  | succ m ih =>
    intro i v s w hi hv hj
    have hle : p / 4 ^ i ≤ p := Nat.div_le_self _ _
    have n8 : ¬ (8 : Int32) ≤ nI i := nI_ge (b := 8) (by omega) (by decide)
    have e1 : nI (p / 4 ^ i) - nI (p / 4 ^ i) / 4 * 4 = nI (mr_dg p i) := pk_rem (d := 4) (by omega) (by decide) (by decide)
    have e2 : nI (p / 4 ^ i) / 4 = nI (p / 4 ^ (i + 1)) := by rw [← mr_dg_n]; exact pk_div (d := 4) (by omega) (by decide) (by decide)
    by_cases z : mr_dg p i = 3
    · refine ⟨v, 8 * (mr_num kd s w).toInt64 + s.toInt64, fun post h => br_f n8 (mr_xdig hp (by omega) (br_t (congrArg nI z) h)), fun post h => br_f n8 ⟨by decide, nm_r e1 (br_t (congrArg nI z) ?_)⟩, Or.inr ⟨s, w, hv, rfl⟩⟩
      by_cases s2 : s = 2
      · obtain ⟨x, y, hx, hy, ev, ew, r⟩ := mr_V_ob hv s2
        subst ew
        rw [mr_num, if_pos s2, nI_clamp (by omega)] at h
        refine br_t s2 ?_
        rw [mr_and15 hy, nI_clamp (n := y) (by omega)]
        exact ⟨vp_in_nI hy (by decide), h⟩
      · by_cases s1 : s = 1
        · rw [mr_num, if_neg s2, if_pos s1] at h
          exact br_f s2 (br_t s1 h)
        · rw [mr_num, if_neg s2, if_neg s1] at h
          exact br_f s2 (br_f s1 h)
    · have z3 : ¬ nI (mr_dg p i) = 3 := fun q => z ((mr_dg_eq (by decide)).mp q)
      have z4 : mr_dg p i < 3 := by have := mr_dg_lt p i; omega
      by_cases s2 : s = 2
      · obtain ⟨x, y, hx, hy, ev, ew, r⟩ := mr_V_ob hv s2
        obtain ⟨rX, rY, hX, hY, hR⟩ := ih (i + 1) _ _ _ (by omega) ((hh.1 x y r).2.2.2.2 (mr_dg p i) z4) (by
          obtain ⟨j, a, b, c⟩ := hj
          refine ⟨j, ?_, b, c⟩
          by_cases ej : j = i
          · subst ej; exact absurd c z
          · omega)
        refine ⟨rX, rY, fun post h => br_f n8 (mr_xdig hp (by omega) (br_f z3 (br_t ((mr_V_obj hv).mpr s2) ?_))), fun post h => br_f n8 ⟨by decide, nm_r e1 (br_f z3 (br_t s2 ?_))⟩, hR⟩
        · rw [ev, mr_O_i, mr_x3 x _, nI_clamp (n := 3 * x + mr_dg p i) (by omega)]
          exact ⟨vp_in_nI (by omega) (by decide), nm_e (nm_r (nI_1 i) (hX post h))⟩
        · rw [ew, mr_y3 y _, e2]
          refine nm_e ?_
          rw [nI_clamp (n := 3 * y + mr_dg p i) (by omega)]
          exact ⟨vp_in_nI (by omega) (by decide), nm_e ⟨vp_in_nI (by omega) (by decide), nm_e ⟨by decide, nm_e (nm_r (nI_1 i) (hY post h))⟩⟩⟩
      · exact ⟨-2, -2, fun post h => br_f n8 (mr_xdig hp (by omega) (br_f z3 (br_f (fun q => s2 ((mr_V_obj hv).mp q)) h))), fun post h => br_f n8 ⟨by decide, nm_r e1 (br_f z3 (br_f s2 h))⟩, Or.inl ⟨rfl, rfl⟩⟩
theorem mr_in0 {n : Nat} {x : Int32} {post : Int32 → Prop} (v : SY) (hn : n < 1000000) (hx : ¬ ∃ j, j ≤ n ∧ x = nI j) (h : post 0) : wpY_in post v x 0 (nI n) :=
  mr_yin v x 0 (nI n) (fun a b => absurd (nI_of2 (nI_toInt (by omega)) (Int32.not_lt.mpr a) b) hx) (fun _ => h)
theorem mr_in1 {n j : Nat} {post : Int32 → Prop} (v : SY) (hn : n < 1000000) (hj : j ≤ n) (h : post 1) : wpY_in post v (nI j) 0 (nI n) :=
  mr_yin v (nI j) 0 (nI n) (fun _ _ => h) (fun q => by
    rcases q with q | q
    · exact absurd q (nI_pos (by omega))
    · exact absurd q (nI_nlt hj (by omega)))
theorem mr_ixn {n : Nat} (x : Int32) (hn : n < 1000000) : (x < 0 ∨ nI (n + 1) ≤ x) ∧ (¬ ∃ j, j ≤ n ∧ x = nI j) ∨ ∃ j, j ≤ n ∧ x = nI j := by
  rcases pk_ix x (n := n + 1) (by omega) with z | z | ⟨j, hj, e⟩
  · refine Or.inl ⟨Or.inl z, fun ⟨j, hj, e⟩ => ?_⟩
    subst e
    exact absurd z (nI_pos (by omega))
  · refine Or.inl ⟨Or.inr z, fun ⟨j, hj, e⟩ => ?_⟩
    subst e
    exact absurd z (nI_ge (by omega) (by omega))
  · exact Or.inr ⟨j, by omega, e⟩
theorem mr_look (hg : ∀ g, g < 4 → mr_V R (gl g) (gs g) (gv g)) (hh : mr_HV R cl fi tk kd fs fv) (g path : Int32) : ∃ (rX rY : Int64), (∀ post : Int64 → Prop, post rX → wpX_valueAt post (tc, cf, fc, la, oc, sc, mc, g1, g2, op, ns, ab, sr, gl, cl, fi, tk, fo, du, de, lo, st, ke) g path) ∧ (∀ post : Int64 → Prop, post rY → wpY_look post (fr, g1, g2, sc, mc, oc, ov, en, op, ns, ab, sr, gs, gv, kd, fs, fv, ls, lv, ss, sv, he, du, nd, ke) g path) ∧ ((rX = -1 ∧ rY = -1) ∨ (rX = -2 ∧ rY = -2) ∨ ∃ s w : Int32, mr_V R rX s w ∧ rY = 8 * (mr_num kd s w).toInt64 + s.toInt64) := by
  rcases mr_ixn (n := 3) g (by omega) with ⟨z, nz⟩ | ⟨j, hj, rfl⟩
  · refine ⟨-1, -1, fun post h => ?_, fun post h => ?_, Or.inl ⟨rfl, rfl⟩⟩
    · rcases z with z | z
      · exact br_t z h
      · exact br_c (fun _ => h) (fun _ => br_t z h)
    · unfold wpY_look
      dsimp only
      refine mr_in0 (n := 3) _ (by omega) nz ?_
      exact br_t rfl h
  · rcases mr_ixn (n := 65535) path (by omega) with ⟨z, nz⟩ | ⟨p, hp, rfl⟩
    · refine ⟨-1, -1, fun post h => ?_, fun post h => ?_, Or.inl ⟨rfl, rfl⟩⟩
      · refine br_f (nI_pos (by omega)) (br_f (nI_ge (b := 4) (by omega) (by decide)) ?_)
        rcases z with z | z
        · exact br_t z h
        · exact br_c (fun _ => h) (fun y => br_f (fun q => nz (nI_of2 (M := 65535) (by decide) y q)) h)
      · unfold wpY_look
        dsimp only
        refine mr_in1 (n := 3) _ (by omega) hj ?_
        refine br_f (by decide) ?_
        refine mr_in0 (n := 65535) _ (by omega) nz ?_
        exact br_t rfl h
    · have hX : ∀ post : Int64 → Prop, ((∃ j, 0 ≤ j ∧ j < 8 ∧ mr_dg p j = 3) → ∃ n44 : Nat, wX_valueAt_44 post (nI p) tc cf fc la oc sc mc g1 g2 op ns ab sr gl cl fi tk fo du de lo st ke n44 (gl j) 0) → ((¬ ∃ j, 0 ≤ j ∧ j < 8 ∧ mr_dg p j = 3) → post (-1)) → wpX_valueAt post (tc, cf, fc, la, oc, sc, mc, g1, g2, op, ns, ab, sr, gl, cl, fi, tk, fo, du, de, lo, st, ke) (nI j) (nI p) := fun post h1 h0 => by
        refine br_f (nI_pos (by omega)) (br_f (nI_ge (b := 4) (by omega) (by decide)) (br_f (nI_pos (by omega)) (br_t (nI_le (b := 65535) hp (by decide)) ⟨9, mr_xhas (by omega) 8 0 rfl (fun q => br_f (by decide) ?_) (fun q => br_t rfl (h0 q))⟩)))
        rw [nI_clamp (n := j) (by omega)]
        exact ⟨vp_in_nI (by omega) (by decide), nm_e (h1 q)⟩
      have hY : ∀ post : Int64 → Prop, ((∃ j, 0 ≤ j ∧ j < 8 ∧ mr_dg p j = 3) → ∃ n90 : Nat, wY_look_90 post fr g1 g2 sc mc oc ov en op ns ab sr gs gv kd fs fv ls lv ss sv he du nd ke n90 (nI p) (gs j) (gv j) 0) → ((¬ ∃ j, 0 ≤ j ∧ j < 8 ∧ mr_dg p j = 3) → post (-1)) → wpY_look post (fr, g1, g2, sc, mc, oc, ov, en, op, ns, ab, sr, gs, gv, kd, fs, fv, ls, lv, ss, sv, he, du, nd, ke) (nI j) (nI p) := fun post h1 h0 => by
        have hend : (∃ j, 0 ≤ j ∧ j < 8 ∧ mr_dg p j = 3) → ∀ (n : Nat) (r : Int32), wY_look_33 post (nI j) (nI p) fr g1 g2 sc mc oc ov en op ns ab sr gs gv kd fs fv ls lv ss sv he du nd ke (n + 1) r 1 (nI 8) := fun q n r => by
          refine br_t (by decide) (br_f (by decide) ?_)
          rw [nI_clamp (n := j) (by omega)]
          exact ⟨vp_in_nI (by omega) (by decide), nm_e ⟨vp_in_nI (by omega) (by decide), nm_e (h1 q)⟩⟩
        unfold wpY_look
        dsimp only
        refine mr_in1 (n := 3) _ (by omega) hj ?_
        refine br_f (by decide) ?_
        refine mr_in1 (n := 65535) _ (by omega) hp ?_
        refine br_f (by decide) ⟨9, ?_⟩
        have e0 : nI p = nI (p / 4 ^ 0) := by rw [Nat.pow_zero, Nat.div_one]
        have key := mr_yhas (x1 := nI j) (post := post) (fr := fr) (g1 := g1) (g2 := g2) (sc := sc) (mc := mc) (oc := oc) (ov := ov) (en := en) (op := op) (ns := ns) (ab := ab) (sr := sr) (gs := gs) (gv := gv) (kd := kd) (fs := fs) (fv := fv) (ls := ls) (lv := lv) (ss := ss) (sv := sv) (he := he) (du := du) (nd := nd) (ke := ke) (p := p) (by omega) 8 0 0 rfl (Or.inl rfl) (fun q n r => hend (by
          rcases q with q | q
          · exact absurd q (by decide)
          · exact q) n r) (fun q => h0 (fun q' => q (Or.inr q')))
        rw [← e0] at key
        exact key
      by_cases q : ∃ j, 0 ≤ j ∧ j < 8 ∧ mr_dg p j = 3
      · obtain ⟨rX, rY, hX', hY', hR⟩ := mr_walk (tc := tc) (cf := cf) (fc := fc) (la := la) (oc := oc) (sc := sc) (mc := mc) (g1 := g1) (g2 := g2) (op := op) (ns := ns) (ab := ab) (sr := sr) (gl := gl) (fo := fo) (du := du) (de := de) (lo := lo) (st := st) (ke := ke) (fr := fr) (ov := ov) (en := en) (gs := gs) (gv := gv) (ls := ls) (lv := lv) (ss := ss) (sv := sv) (he := he) (nd := nd) (p := p) (by omega) hh 8 0 (gl j) (gs j) (gv j) rfl (hg j (by omega)) q
        rw [Nat.pow_zero, Nat.div_one] at hY'
        exact ⟨rX, rY, fun post h => hX post (fun _ => ⟨9, hX' post h⟩) (fun z => absurd q z), fun post h => hY post (fun _ => ⟨9, hY' post h⟩) (fun z => absurd q z), Or.inr hR⟩
      · exact ⟨-1, -1, fun post h => hX post (fun z => absurd z q) (fun _ => h), fun post h => hY post (fun z => absurd z q) (fun _ => h), Or.inl ⟨rfl, rfl⟩⟩
end
