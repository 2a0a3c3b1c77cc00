/-! code, above, method: what both sides take and refuse -/
theorem mr_rng {A B : Prop} {n : Int32} (m : Nat) (hm : m < 1000000) (h1 : (∃ j : Nat, j < m ∧ n = nI j) → B) (h0 : (¬ ∃ j : Nat, j < m ∧ n = nI j) → A) : (n < 0 → A) ∧ (¬ n < 0 → (nI m ≤ n → A) ∧ (¬ nI m ≤ n → B)) := by
  rcases pk_ix n (n := m) (by omega) with z | z | ⟨j, hj, rfl⟩
  · exact br_t z (h0 (fun ⟨j, hj, e⟩ => by subst e; exact nI_pos (by omega) z))
  · have a := h0 (fun ⟨j, hj, e⟩ => by subst e; exact nI_ge hj (by omega) z)
    exact br_c (fun _ => a) (fun _ => br_t z a)
  · exact br_f (nI_pos (by omega)) (br_f (nI_ge hj (by omega)) (h1 ⟨j, hj, rfl⟩))
theorem mr_xfits {n : Int32} {post : Int32 → Prop} (o : Nat) (ho : o < 24) (h1 : mr_fit o n → post 1) (h0 : ¬ mr_fit o n → post 0) : wpX_operandFits post (nI o) n := by
  revert h1 h0
  revert o
  apply mr_24
  · intro h1 h0
    unfold wpX_operandFits
    repeat (first | refine br_f (by decide) ?_ | refine br_t (by decide) ?_)
    exact h1 ⟨fun h => absurd h (by decide), fun h => absurd h (by decide)⟩
  · intro h1 h0
    unfold wpX_operandFits
    repeat (first | refine br_f (by decide) ?_ | refine br_t (by decide) ?_)
    exact h1 ⟨fun h => absurd h (by decide), fun h => absurd h (by decide)⟩
  · intro h1 h0
    unfold wpX_operandFits
    repeat (first | refine br_f (by decide) ?_ | refine br_t (by decide) ?_)
    exact h1 ⟨fun h => absurd h (by decide), fun h => absurd h (by decide)⟩
  · intro h1 h0
    unfold wpX_operandFits
    repeat (first | refine br_f (by decide) ?_ | refine br_t (by decide) ?_)
    exact mr_rng 4 (by decide) (fun q => h1 ⟨fun _ => q, fun h => absurd h (by decide)⟩) (fun q => h0 fun w => q (w.1 (by decide)))
  · intro h1 h0
    unfold wpX_operandFits
    repeat (first | refine br_f (by decide) ?_ | refine br_t (by decide) ?_)
    exact mr_rng 4 (by decide) (fun q => h1 ⟨fun _ => q, fun h => absurd h (by decide)⟩) (fun q => h0 fun w => q (w.1 (by decide)))
  · intro h1 h0
    unfold wpX_operandFits
    repeat (first | refine br_f (by decide) ?_ | refine br_t (by decide) ?_)
    exact h1 ⟨fun h => absurd h (by decide), fun h => absurd h (by decide)⟩
  · intro h1 h0
    unfold wpX_operandFits
    repeat (first | refine br_f (by decide) ?_ | refine br_t (by decide) ?_)
    exact h1 ⟨fun h => absurd h (by decide), fun h => absurd h (by decide)⟩
  · intro h1 h0
    unfold wpX_operandFits
    repeat (first | refine br_f (by decide) ?_ | refine br_t (by decide) ?_)
    exact h1 ⟨fun h => absurd h (by decide), fun h => absurd h (by decide)⟩
  · intro h1 h0
    unfold wpX_operandFits
    repeat (first | refine br_f (by decide) ?_ | refine br_t (by decide) ?_)
    exact h1 ⟨fun h => absurd h (by decide), fun h => absurd h (by decide)⟩
  · intro h1 h0
    unfold wpX_operandFits
    repeat (first | refine br_f (by decide) ?_ | refine br_t (by decide) ?_)
    exact h1 ⟨fun h => absurd h (by decide), fun h => absurd h (by decide)⟩
  · intro h1 h0
    unfold wpX_operandFits
    repeat (first | refine br_f (by decide) ?_ | refine br_t (by decide) ?_)
    exact h1 ⟨fun h => absurd h (by decide), fun h => absurd h (by decide)⟩
  · intro h1 h0
    unfold wpX_operandFits
    repeat (first | refine br_f (by decide) ?_ | refine br_t (by decide) ?_)
    exact h1 ⟨fun h => absurd h (by decide), fun h => absurd h (by decide)⟩
  · intro h1 h0
    unfold wpX_operandFits
    repeat (first | refine br_f (by decide) ?_ | refine br_t (by decide) ?_)
    exact h1 ⟨fun h => absurd h (by decide), fun h => absurd h (by decide)⟩
  · intro h1 h0
    unfold wpX_operandFits
    repeat (first | refine br_f (by decide) ?_ | refine br_t (by decide) ?_)
    exact h1 ⟨fun h => absurd h (by decide), fun h => absurd h (by decide)⟩
  · intro h1 h0
    unfold wpX_operandFits
    repeat (first | refine br_f (by decide) ?_ | refine br_t (by decide) ?_)
    exact h1 ⟨fun h => absurd h (by decide), fun h => absurd h (by decide)⟩
  · intro h1 h0
    unfold wpX_operandFits
    repeat (first | refine br_f (by decide) ?_ | refine br_t (by decide) ?_)
    exact mr_rng 4 (by decide) (fun q => h1 ⟨fun _ => q, fun h => absurd h (by decide)⟩) (fun q => h0 fun w => q (w.1 (by decide)))
  · intro h1 h0
    unfold wpX_operandFits
    repeat (first | refine br_f (by decide) ?_ | refine br_t (by decide) ?_)
    exact mr_rng 3 (by decide) (fun q => h1 ⟨fun h => absurd h (by decide), fun _ => q⟩) (fun q => h0 fun w => q (w.2 (by decide)))
  · intro h1 h0
    unfold wpX_operandFits
    repeat (first | refine br_f (by decide) ?_ | refine br_t (by decide) ?_)
    exact mr_rng 3 (by decide) (fun q => h1 ⟨fun h => absurd h (by decide), fun _ => q⟩) (fun q => h0 fun w => q (w.2 (by decide)))
  · intro h1 h0
    unfold wpX_operandFits
    repeat (first | refine br_f (by decide) ?_ | refine br_t (by decide) ?_)
    exact mr_rng 4 (by decide) (fun q => h1 ⟨fun _ => q, fun h => absurd h (by decide)⟩) (fun q => h0 fun w => q (w.1 (by decide)))
  · intro h1 h0
    unfold wpX_operandFits
    repeat (first | refine br_f (by decide) ?_ | refine br_t (by decide) ?_)
    exact mr_rng 4 (by decide) (fun q => h1 ⟨fun _ => q, fun h => absurd h (by decide)⟩) (fun q => h0 fun w => q (w.1 (by decide)))
  · intro h1 h0
    unfold wpX_operandFits
    repeat (first | refine br_f (by decide) ?_ | refine br_t (by decide) ?_)
    exact h1 ⟨fun h => absurd h (by decide), fun h => absurd h (by decide)⟩
  · intro h1 h0
    unfold wpX_operandFits
    repeat (first | refine br_f (by decide) ?_ | refine br_t (by decide) ?_)
    exact mr_rng 4 (by decide) (fun q => h1 ⟨fun _ => q, fun h => absurd h (by decide)⟩) (fun q => h0 fun w => q (w.1 (by decide)))
  · intro h1 h0
    unfold wpX_operandFits
    repeat (first | refine br_f (by decide) ?_ | refine br_t (by decide) ?_)
    exact mr_rng 4 (by decide) (fun q => h1 ⟨fun _ => q, fun h => absurd h (by decide)⟩) (fun q => h0 fun w => q (w.1 (by decide)))
  · intro h1 h0
    unfold wpX_operandFits
    repeat (first | refine br_f (by decide) ?_ | refine br_t (by decide) ?_)
    exact h1 ⟨fun h => absurd h (by decide), fun h => absurd h (by decide)⟩
section
variable {tc cf fc la oc sc mc g1 g2 fr ov en : Int32} {op ns ab sr cl tk fo du de ke gs gv kd fs fv ls lv ss sv he nd : Nat → Int32} {gl fi lo st : Nat → Int64} {R : Nat → Nat → Prop} {f : Nat} {d : Nat → Nat}
theorem mr_y110 {i : Nat} {o n : Int32} {post : Int32 → SY → Prop} (hi : i ≤ 59) (h : post 1 (fr, g1, g2, sc, mc, oc, ov, en, upd op i o, upd ns i n, ab, sr, gs, gv, kd, fs, fv, ls, lv, ss, sv, he, du, nd, ke)) : wY_code_110 post (nI i) o n fr g1 g2 sc mc oc ov en op ns ab sr gs gv kd fs fv ls lv ss sv he du nd ke := by
  unfold wY_code_110
  rw [nI_clamp (n := i) (by omega)]
  exact ⟨vp_in_nI (by omega) (by decide), nm_e ⟨vp_in_nI (by omega) (by decide), nm_e h⟩⟩
theorem mr_yfits {i : Nat} {n : Int32} {post : Int32 → SY → Prop} (hi : i ≤ 59) (o : Nat) (ho : o < 24) (h1 : mr_fit o n → post 1 (fr, g1, g2, sc, mc, oc, ov, en, upd op i (nI o), upd ns i n, ab, sr, gs, gv, kd, fs, fv, ls, lv, ss, sv, he, du, nd, ke)) (h0 : ¬ mr_fit o n → post 0 (fr, g1, g2, sc, mc, oc, ov, en, op, ns, ab, sr, gs, gv, kd, fs, fv, ls, lv, ss, sv, he, du, nd, ke)) : wpY_code post (fr, g1, g2, sc, mc, oc, ov, en, op, ns, ab, sr, gs, gv, kd, fs, fv, ls, lv, ss, sv, he, du, nd, ke) (nI i) (nI o) n := by
  unfold wpY_code
  dsimp only
  refine mr_in1 (n := 59) _ (by omega) hi ?_
  refine br_f (by decide) ?_
  refine mr_in1 (n := 23) _ (by omega) (by omega) ?_
  refine br_f (by decide) ?_
  revert h1 h0
  revert o
  apply mr_24
  · intro h1 h0
    repeat (first | refine br_f (by decide) ?_ | refine br_t (by decide) ?_)
    exact mr_y110 hi (h1 ⟨fun h => absurd h (by decide), fun h => absurd h (by decide)⟩)
  · intro h1 h0
    repeat (first | refine br_f (by decide) ?_ | refine br_t (by decide) ?_)
    exact mr_y110 hi (h1 ⟨fun h => absurd h (by decide), fun h => absurd h (by decide)⟩)
  · intro h1 h0
    repeat (first | refine br_f (by decide) ?_ | refine br_t (by decide) ?_)
    exact mr_y110 hi (h1 ⟨fun h => absurd h (by decide), fun h => absurd h (by decide)⟩)
  · intro h1 h0
    repeat (first | refine br_f (by decide) ?_ | refine br_t (by decide) ?_)
    rcases mr_ixn (n := 3) n (by omega) with ⟨_, nz⟩ | ⟨j, hj, rfl⟩
    · refine mr_in0 (n := 3) _ (by omega) nz ?_
      exact br_t rfl (h0 fun w => nz (by
        obtain ⟨j, hj, e⟩ := w.1 (by decide)
        exact ⟨j, by omega, e⟩))
    · refine mr_in1 (n := 3) _ (by omega) hj ?_
      repeat (first | refine br_f (by decide) ?_ | refine br_t (by decide) ?_)
      exact mr_y110 hi (h1 ⟨fun _ => ⟨j, by omega, rfl⟩, fun h => absurd h (by decide)⟩)
  · intro h1 h0
    repeat (first | refine br_f (by decide) ?_ | refine br_t (by decide) ?_)
    rcases mr_ixn (n := 3) n (by omega) with ⟨_, nz⟩ | ⟨j, hj, rfl⟩
    · refine mr_in0 (n := 3) _ (by omega) nz ?_
      exact br_t rfl (h0 fun w => nz (by
        obtain ⟨j, hj, e⟩ := w.1 (by decide)
        exact ⟨j, by omega, e⟩))
    · refine mr_in1 (n := 3) _ (by omega) hj ?_
      repeat (first | refine br_f (by decide) ?_ | refine br_t (by decide) ?_)
      exact mr_y110 hi (h1 ⟨fun _ => ⟨j, by omega, rfl⟩, fun h => absurd h (by decide)⟩)
  · intro h1 h0
    repeat (first | refine br_f (by decide) ?_ | refine br_t (by decide) ?_)
    exact mr_y110 hi (h1 ⟨fun h => absurd h (by decide), fun h => absurd h (by decide)⟩)
  · intro h1 h0
    repeat (first | refine br_f (by decide) ?_ | refine br_t (by decide) ?_)
    exact mr_y110 hi (h1 ⟨fun h => absurd h (by decide), fun h => absurd h (by decide)⟩)
  · intro h1 h0
    repeat (first | refine br_f (by decide) ?_ | refine br_t (by decide) ?_)
    exact mr_y110 hi (h1 ⟨fun h => absurd h (by decide), fun h => absurd h (by decide)⟩)
  · intro h1 h0
    repeat (first | refine br_f (by decide) ?_ | refine br_t (by decide) ?_)
    exact mr_y110 hi (h1 ⟨fun h => absurd h (by decide), fun h => absurd h (by decide)⟩)
  · intro h1 h0
    repeat (first | refine br_f (by decide) ?_ | refine br_t (by decide) ?_)
    exact mr_y110 hi (h1 ⟨fun h => absurd h (by decide), fun h => absurd h (by decide)⟩)
  · intro h1 h0
    repeat (first | refine br_f (by decide) ?_ | refine br_t (by decide) ?_)
    exact mr_y110 hi (h1 ⟨fun h => absurd h (by decide), fun h => absurd h (by decide)⟩)
  · intro h1 h0
    repeat (first | refine br_f (by decide) ?_ | refine br_t (by decide) ?_)
    exact mr_y110 hi (h1 ⟨fun h => absurd h (by decide), fun h => absurd h (by decide)⟩)
  · intro h1 h0
    repeat (first | refine br_f (by decide) ?_ | refine br_t (by decide) ?_)
    exact mr_y110 hi (h1 ⟨fun h => absurd h (by decide), fun h => absurd h (by decide)⟩)
  · intro h1 h0
    repeat (first | refine br_f (by decide) ?_ | refine br_t (by decide) ?_)
    exact mr_y110 hi (h1 ⟨fun h => absurd h (by decide), fun h => absurd h (by decide)⟩)
  · intro h1 h0
    repeat (first | refine br_f (by decide) ?_ | refine br_t (by decide) ?_)
    exact mr_y110 hi (h1 ⟨fun h => absurd h (by decide), fun h => absurd h (by decide)⟩)
  · intro h1 h0
    repeat (first | refine br_f (by decide) ?_ | refine br_t (by decide) ?_)
    rcases mr_ixn (n := 3) n (by omega) with ⟨_, nz⟩ | ⟨j, hj, rfl⟩
    · refine mr_in0 (n := 3) _ (by omega) nz ?_
      exact br_t rfl (h0 fun w => nz (by
        obtain ⟨j, hj, e⟩ := w.1 (by decide)
        exact ⟨j, by omega, e⟩))
    · refine mr_in1 (n := 3) _ (by omega) hj ?_
      repeat (first | refine br_f (by decide) ?_ | refine br_t (by decide) ?_)
      exact mr_y110 hi (h1 ⟨fun _ => ⟨j, by omega, rfl⟩, fun h => absurd h (by decide)⟩)
  · intro h1 h0
    repeat (first | refine br_f (by decide) ?_ | refine br_t (by decide) ?_)
    rcases mr_ixn (n := 2) n (by omega) with ⟨_, nz⟩ | ⟨j, hj, rfl⟩
    · refine mr_in0 (n := 2) _ (by omega) nz ?_
      exact br_t rfl (h0 fun w => nz (by
        obtain ⟨j, hj, e⟩ := w.2 (by decide)
        exact ⟨j, by omega, e⟩))
    · refine mr_in1 (n := 2) _ (by omega) hj ?_
      repeat (first | refine br_f (by decide) ?_ | refine br_t (by decide) ?_)
      exact mr_y110 hi (h1 ⟨fun h => absurd h (by decide), fun _ => ⟨j, by omega, rfl⟩⟩)
  · intro h1 h0
    repeat (first | refine br_f (by decide) ?_ | refine br_t (by decide) ?_)
    rcases mr_ixn (n := 2) n (by omega) with ⟨_, nz⟩ | ⟨j, hj, rfl⟩
    · refine mr_in0 (n := 2) _ (by omega) nz ?_
      exact br_t rfl (h0 fun w => nz (by
        obtain ⟨j, hj, e⟩ := w.2 (by decide)
        exact ⟨j, by omega, e⟩))
    · refine mr_in1 (n := 2) _ (by omega) hj ?_
      repeat (first | refine br_f (by decide) ?_ | refine br_t (by decide) ?_)
      exact mr_y110 hi (h1 ⟨fun h => absurd h (by decide), fun _ => ⟨j, by omega, rfl⟩⟩)
  · intro h1 h0
    repeat (first | refine br_f (by decide) ?_ | refine br_t (by decide) ?_)
    rcases mr_ixn (n := 3) n (by omega) with ⟨_, nz⟩ | ⟨j, hj, rfl⟩
    · refine mr_in0 (n := 3) _ (by omega) nz ?_
      exact br_t rfl (h0 fun w => nz (by
        obtain ⟨j, hj, e⟩ := w.1 (by decide)
        exact ⟨j, by omega, e⟩))
    · refine mr_in1 (n := 3) _ (by omega) hj ?_
      repeat (first | refine br_f (by decide) ?_ | refine br_t (by decide) ?_)
      exact mr_y110 hi (h1 ⟨fun _ => ⟨j, by omega, rfl⟩, fun h => absurd h (by decide)⟩)
  · intro h1 h0
    repeat (first | refine br_f (by decide) ?_ | refine br_t (by decide) ?_)
    rcases mr_ixn (n := 3) n (by omega) with ⟨_, nz⟩ | ⟨j, hj, rfl⟩
    · refine mr_in0 (n := 3) _ (by omega) nz ?_
      exact br_t rfl (h0 fun w => nz (by
        obtain ⟨j, hj, e⟩ := w.1 (by decide)
        exact ⟨j, by omega, e⟩))
    · refine mr_in1 (n := 3) _ (by omega) hj ?_
      repeat (first | refine br_f (by decide) ?_ | refine br_t (by decide) ?_)
      exact mr_y110 hi (h1 ⟨fun _ => ⟨j, by omega, rfl⟩, fun h => absurd h (by decide)⟩)
  · intro h1 h0
    repeat (first | refine br_f (by decide) ?_ | refine br_t (by decide) ?_)
    exact mr_y110 hi (h1 ⟨fun h => absurd h (by decide), fun h => absurd h (by decide)⟩)
  · intro h1 h0
    repeat (first | refine br_f (by decide) ?_ | refine br_t (by decide) ?_)
    rcases mr_ixn (n := 3) n (by omega) with ⟨_, nz⟩ | ⟨j, hj, rfl⟩
    · refine mr_in0 (n := 3) _ (by omega) nz ?_
      exact br_t rfl (h0 fun w => nz (by
        obtain ⟨j, hj, e⟩ := w.1 (by decide)
        exact ⟨j, by omega, e⟩))
    · refine mr_in1 (n := 3) _ (by omega) hj ?_
      repeat (first | refine br_f (by decide) ?_ | refine br_t (by decide) ?_)
      exact mr_y110 hi (h1 ⟨fun _ => ⟨j, by omega, rfl⟩, fun h => absurd h (by decide)⟩)
  · intro h1 h0
    repeat (first | refine br_f (by decide) ?_ | refine br_t (by decide) ?_)
    rcases mr_ixn (n := 3) n (by omega) with ⟨_, nz⟩ | ⟨j, hj, rfl⟩
    · refine mr_in0 (n := 3) _ (by omega) nz ?_
      exact br_t rfl (h0 fun w => nz (by
        obtain ⟨j, hj, e⟩ := w.1 (by decide)
        exact ⟨j, by omega, e⟩))
    · refine mr_in1 (n := 3) _ (by omega) hj ?_
      repeat (first | refine br_f (by decide) ?_ | refine br_t (by decide) ?_)
      exact mr_y110 hi (h1 ⟨fun _ => ⟨j, by omega, rfl⟩, fun h => absurd h (by decide)⟩)
  · intro h1 h0
    repeat (first | refine br_f (by decide) ?_ | refine br_t (by decide) ?_)
    exact mr_y110 hi (h1 ⟨fun h => absurd h (by decide), fun h => absurd h (by decide)⟩)
end
/-- below -1, -1, or a natural -/
theorem mr_m1 (x : Int32) : x < -1 ∨ x = -1 ∨ ∃ j : Nat, j < 2 ^ 31 ∧ x = nI j := by
  by_cases z : x < 0
  · have h : x.toInt < 0 := by
      have := Int32.lt_iff_toInt_lt.mp z
      rw [show (0 : Int32).toInt = 0 from by decide] at this
      exact this
    by_cases e : x.toInt = -1
    · exact Or.inr (Or.inl (Int32.toInt_inj.mp (by rw [e]; decide)))
    · refine Or.inl (Int32.lt_iff_toInt_lt.mpr ?_)
      rw [show (-1 : Int32).toInt = -1 from by decide]
      omega
  · exact Or.inr (Or.inr (nI_of z))
theorem mr_n1 {j : Nat} (h : j < 2 ^ 31) : ¬ nI j < -1 := fun z => by
  have := Int32.lt_iff_toInt_lt.mp z
  rw [show (-1 : Int32).toInt = -1 from by decide, nI_toInt h] at this
  omega
theorem mr_m1lt {j : Nat} (h : j < 2 ^ 31) : (-1 : Int32) < nI j := Int32.lt_iff_toInt_lt.mpr (by rw [show (-1 : Int32).toInt = -1 from by decide, nI_toInt h]; omega)
theorem mr_dnlt {c q : Nat} (hc : c < 4) (hq : q < 2 ^ 31) : nI c - 1 < nI q ↔ c ≤ q := by
  rw [Int32.lt_iff_toInt_lt, nI_toInt hq]
  have e : (nI c - 1).toInt = (c : Int) - 1 := by
    rw [Int32.toInt_sub, nI_toInt (by omega), show (1 : Int32).toInt = 1 from by decide]
    exact Int.bmod_eq_of_le (by omega) (by omega)
  rw [e]
  omega
theorem mr_dnm1 {c : Nat} (hc : c < 4) : ¬ nI c - 1 < -1 := fun z => by
  have := Int32.lt_iff_toInt_lt.mp z
  have e : (nI c - 1).toInt = (c : Int) - 1 := by
    rw [Int32.toInt_sub, nI_toInt (by omega), show (1 : Int32).toInt = 1 from by decide]
    exact Int.bmod_eq_of_le (by omega) (by omega)
  rw [show (-1 : Int32).toInt = -1 from by decide, e] at this
  omega
section
variable {tc cf fc la oc sc mc g1 g2 fr ov en : Int32} {op ns ab sr cl tk fo du de ke gs gv kd fs fv ls lv ss sv he nd : Nat → Int32} {gl fi lo st : Nat → Int64} {R : Nat → Nat → Prop} {f : Nat} {d : Nat → Nat}
theorem mr_ym1 {j n : Nat} {post : Int32 → Prop} (v : SY) (hn : n < 1000000) (hj : j ≤ n) (h : post 1) : wpY_in post v (nI j) (-1) (nI n) :=
  mr_yin v _ _ _ (fun _ _ => h) (fun q => by
    rcases q with q | q
    · exact absurd q (mr_n1 (by omega))
    · exact absurd q (nI_nlt hj (by omega)))
end
