/-! loops in the form 'there is one end state, and whatever is asked of it is asked at the start'; indices; stacks -/
theorem mr_lpX {α σ : Type} (W : α → Nat → Nat → σ → Prop) (K : α → σ → Prop) (I : Nat → σ → Prop) (Fi : σ → Prop) (e : Nat) (hx : ∀ s, I e s → Fi s ∧ ∀ a n, K a s → W a (n + 1) e s) (hs : ∀ i s, i < e → I i s → (Fi s ∧ ∀ a n, K a s → W a (n + 1) i s) ∨ (∃ s', I (i + 1) s' ∧ ∀ a n, W a n (i + 1) s' → W a (n + 1) i s)) : ∀ d i s, i + d = e → I i s → ∃ s', Fi s' ∧ ∀ a n, d < n → K a s' → W a n i s := by
  intro d
  induction d with
  | zero =>
    intro i s hi h
    have hi' : i = e := hi
    subst hi'
    obtain ⟨a, b⟩ := hx s h
    refine ⟨s, a, fun c n hn hk => ?_⟩
    obtain ⟨m, rfl⟩ : ∃ m, n = m + 1 := ⟨n - 1, by omega⟩
    exact b c m hk
  | succ d ih =>
    intro i s hi h
    rcases hs i s (by omega) h with ⟨a, b⟩ | ⟨s', a, b⟩
    · refine ⟨s, a, fun c n hn hk => ?_⟩
      obtain ⟨m, rfl⟩ : ∃ m, n = m + 1 := ⟨n - 1, by omega⟩
      exact b c m hk
    · obtain ⟨s'', p, q⟩ := ih (i + 1) s' (by omega) a
      refine ⟨s'', p, fun c n hn hk => ?_⟩
      obtain ⟨m, rfl⟩ : ∃ m, n = m + 1 := ⟨n - 1, by omega⟩
      exact b c m (q c m (by omega) hk)
theorem mr_lpE {α σ : Type} (W : α → Nat → Nat → σ → Prop) (K : α → σ → Prop) (I : Nat → σ → Prop) (e : Nat) (hx : ∀ s, I e s → ∀ a n, K a s → W a (n + 1) e s) (hs : ∀ i s, i < e → I i s → ∃ s', I (i + 1) s' ∧ ∀ a n, W a n (i + 1) s' → W a (n + 1) i s) (s : σ) (h : I 0 s) : ∃ s', I e s' ∧ ∀ a n, e < n → K a s' → W a n 0 s :=
  mr_lpX W K I (I e) e (fun s a => ⟨a, hx s a⟩) (fun i s a b => Or.inr (hs i s a b)) e 0 s (Nat.zero_add e) h
/-- the same for a loop whose end is known as a function of its start -/
theorem mr_x6 (f i : Nat) : nI f * 6 + nI i = nI (6 * f + i) := by
  rw [show (6 : Int32) = nI 6 from rfl, pk_mul, nI_add, Nat.mul_comm]
theorem mr_y6 (f i : Nat) : 6 * nI f + nI i = nI (6 * f + i) := by
  rw [show (6 : Int32) = nI 6 from rfl, pk_mul, nI_add]
theorem mr_x4 (f i : Nat) : nI f * 4 + nI i = nI (4 * f + i) := by
  rw [show (4 : Int32) = nI 4 from rfl, pk_mul, nI_add, Nat.mul_comm]
theorem mr_y4 (f i : Nat) : 4 * nI f + nI i = nI (4 * f + i) := by
  rw [show (4 : Int32) = nI 4 from rfl, pk_mul, nI_add]
theorem mr_x3 (f i : Nat) : nI f * 3 + nI i = nI (3 * f + i) := by
  rw [show (3 : Int32) = nI 3 from rfl, pk_mul, nI_add, Nat.mul_comm]
theorem mr_y3 (f i : Nat) : 3 * nI f + nI i = nI (3 * f + i) := by
  rw [show (3 : Int32) = nI 3 from rfl, pk_mul, nI_add]
theorem mr_x4' (f : Nat) : nI f * 4 = nI (4 * f) := by
  rw [show (4 : Int32) = nI 4 from rfl, pk_mul, Nat.mul_comm]
theorem mr_y4' (f : Nat) : 4 * nI f = nI (4 * f) := by
  rw [show (4 : Int32) = nI 4 from rfl, pk_mul]
theorem mr_y6' (f : Nat) : 6 * nI f = nI (6 * f) := by
  rw [show (6 : Int32) = nI 6 from rfl, pk_mul]
theorem mr_x6' (f : Nat) : nI f * 6 = nI (6 * f) := by
  rw [show (6 : Int32) = nI 6 from rfl, pk_mul, Nat.mul_comm]
theorem mr_and15 {y : Nat} (h : y < 16) : nI y &&& 15 = nI y := by
  rw [pk_andN (by omega) 4 (by decide), Nat.mod_eq_of_lt (by omega)]
theorem mr_b1 : vp_nar .boolean 1 = 1 := by decide
theorem mr_b0 : vp_nar .boolean 0 = 0 := by decide
/-- depths -/
def mr_ud (d : Nat → Nat) (f k : Nat) : Nat → Nat := fun j => if j = f then k else d j
theorem mr_ud_s {d : Nat → Nat} {f k : Nat} : mr_ud d f k f = k := if_pos rfl
theorem mr_ud_n {d : Nat → Nat} {f k j : Nat} (h : j ≠ f) : mr_ud d f k j = d j := if_neg h
def mr_B (F : Nat) (d : Nat → Nat) (de : Nat → Int32) : Prop := ∀ f, f < F → de f = nI (d f)
theorem mr_B_u {F f k : Nat} {d : Nat → Nat} {de : Nat → Int32} (h : mr_B F d de) : mr_B F (mr_ud d f k) (upd de f (nI k)) := fun g hg => by
  by_cases e : g = f
  · subst e; rw [pk_us, mr_ud_s]
  · rw [pk_un e, mr_ud_n e]; exact h g hg
theorem mr_B_e {F : Nat} {d d' : Nat → Nat} {de : Nat → Int32} (h : mr_B F d de) (e : ∀ f, f < F → d f = d' f) : mr_B F d' de := fun g hg => by
  rw [h g hg, e g hg]
/-- every depth is within 6, and within 4 below the latest frame f -/
def mr_DB (f : Nat) (d : Nat → Nat) : Prop := d f ≤ 6 ∧ ∀ g, g < f → d g ≤ 4
theorem mr_DB_u {f k : Nat} {d : Nat → Nat} (h : mr_DB f d) (hk : k ≤ 6) : mr_DB f (mr_ud d f k) :=
  ⟨by rw [mr_ud_s]; exact hk, fun g hg => by rw [mr_ud_n (by omega)]; exact h.2 g hg⟩
/-- the latest frame's stack changes, all else stays -/
theorem mr_RVtop {R : Nat → Nat → Prop} {f k : Nat} {d : Nat → Nat} {gl lo st : Nat → Int64} {gs gv ls lv ss sv : Nat → Int32} (hd : mr_DB f d) (h : mr_RV R (f + 1) d gl lo st gs gv ls lv ss sv) {st' : Nat → Int64} {ss' sv' : Nat → Int32} (e1 : ∀ j, j < 6 * f → st' j = st j) (e2 : ∀ j, j < 6 * f → ss' j = ss j) (e3 : ∀ j, j < 6 * f → sv' j = sv j) (ht : ∀ i, i < k → mr_V R (st' (6 * f + i)) (ss' (6 * f + i)) (sv' (6 * f + i))) : mr_RV R (f + 1) (mr_ud d f k) gl lo st' gs gv ls lv ss' sv' := by
  refine ⟨h.1, h.2.1, fun g i hg hi => ?_⟩
  by_cases e : g = f
  · subst e
    rw [mr_ud_s] at hi
    exact ht i hi
  · rw [mr_ud_n e] at hi
    have h4 := hd.2 g (by omega)
    rw [e1 _ (by omega), e2 _ (by omega), e3 _ (by omega)]
    exact h.2.2 g i hg hi
/-- some values are popped, no array changes -/
theorem mr_RVpop {R : Nat → Nat → Prop} {f k : Nat} {d : Nat → Nat} {gl lo st : Nat → Int64} {gs gv ls lv ss sv : Nat → Int32} (hd : mr_DB f d) (h : mr_RV R (f + 1) d gl lo st gs gv ls lv ss sv) (hk : k ≤ d f) : mr_RV R (f + 1) (mr_ud d f k) gl lo st gs gv ls lv ss sv :=
  mr_RVtop hd h (fun _ _ => rfl) (fun _ _ => rfl) (fun _ _ => rfl) (fun i hi => h.2.2 f i (by omega) (by omega))
/-- k values stay of the latest stack, and v comes on top -/
theorem mr_RVpush {R : Nat → Nat → Prop} {f k : Nat} {d : Nat → Nat} {gl lo st : Nat → Int64} {gs gv ls lv ss sv : Nat → Int32} (hd : mr_DB f d) (h : mr_RV R (f + 1) d gl lo st gs gv ls lv ss sv) (hk : k ≤ d f) {v : Int64} {s w : Int32} (hv : mr_V R v s w) : mr_RV R (f + 1) (mr_ud d f (k + 1)) gl lo (vp_updL st (6 * f + k) v) gs gv ls lv (upd ss (6 * f + k) s) (upd sv (6 * f + k) w) := by
  refine mr_RVtop hd h (fun j hj => pk_uLn (by omega)) (fun j hj => pk_un (by omega)) (fun j hj => pk_un (by omega)) (fun i hi => ?_)
  by_cases e : i = k
  · subst e
    rw [pk_uLs, pk_us, pk_us]
    exact hv
  · rw [pk_uLn (by omega), pk_un (by omega), pk_un (by omega)]
    exact h.2.2 f i (by omega) (by omega)
/-- a global is given, a local is stored -/
theorem mr_RVglob {R : Nat → Nat → Prop} {F n : Nat} {d : Nat → Nat} {gl lo st : Nat → Int64} {gs gv ls lv ss sv : Nat → Int32} (h : mr_RV R F d gl lo st gs gv ls lv ss sv) {v : Int64} {s w : Int32} (hv : mr_V R v s w) : mr_RV R F d (vp_updL gl n v) lo st (upd gs n s) (upd gv n w) ls lv ss sv := by
  refine ⟨fun g hg => ?_, h.2.1, h.2.2⟩
  by_cases e : g = n
  · subst e
    rw [pk_uLs, pk_us, pk_us]
    exact hv
  · rw [pk_uLn e, pk_un e, pk_un e]
    exact h.1 g hg
theorem mr_RVloc {R : Nat → Nat → Prop} {F n : Nat} {d : Nat → Nat} {gl lo st : Nat → Int64} {gs gv ls lv ss sv : Nat → Int32} (h : mr_RV R F d gl lo st gs gv ls lv ss sv) {v : Int64} {s w : Int32} (hv : mr_V R v s w) : mr_RV R F d gl (vp_updL lo n v) st gs gv (upd ls n s) (upd lv n w) ss sv := by
  refine ⟨h.1, fun g hg => ?_, h.2.2⟩
  by_cases e : g = n
  · subst e
    rw [pk_uLs, pk_us, pk_us]
    exact hv
  · rw [pk_uLn e, pk_un e, pk_un e]
    exact h.2.1 g hg
/-- a frame is entered: its four locals, an empty stack -/
theorem mr_RVenter {R : Nat → Nat → Prop} {F : Nat} {d : Nat → Nat} {gl lo st : Nat → Int64} {gs gv ls lv ss sv : Nat → Int32} (h : mr_RV R F d gl lo st gs gv ls lv ss sv) {lo' : Nat → Int64} {ls' lv' : Nat → Int32} (e1 : ∀ j, j < 4 * F → lo' j = lo j) (e2 : ∀ j, j < 4 * F → ls' j = ls j) (e3 : ∀ j, j < 4 * F → lv' j = lv j) (h4 : ∀ i, i < 4 → mr_V R (lo' (4 * F + i)) (ls' (4 * F + i)) (lv' (4 * F + i))) : mr_RV R (F + 1) (mr_ud d F 0) gl lo' st gs gv ls' lv' ss sv := by
  refine ⟨h.1, fun k hk => ?_, fun f i hf hi => ?_⟩
  · by_cases e : k < 4 * F
    · rw [e1 k e, e2 k e, e3 k e]
      exact h.2.1 k e
    · have h5 := h4 (k - 4 * F) (by omega)
      rw [show 4 * F + (k - 4 * F) = k from by omega] at h5
      exact h5
  · by_cases e : f = F
    · subst e
      rw [mr_ud_s] at hi
      omega
    · rw [mr_ud_n e] at hi
      exact h.2.2 f i (by omega) hi
/-- the latest frame is left -/
theorem mr_RVleave {R : Nat → Nat → Prop} {F : Nat} {d : Nat → Nat} {gl lo st : Nat → Int64} {gs gv ls lv ss sv : Nat → Int32} (h : mr_RV R (F + 1) d gl lo st gs gv ls lv ss sv) : mr_RV R F d gl lo st gs gv ls lv ss sv :=
  ⟨h.1, fun k hk => h.2.1 k (by omega), fun f i hf hi => h.2.2 f i (by omega) hi⟩
theorem mr_RV_e {R : Nat → Nat → Prop} {F : Nat} {d d' : Nat → Nat} {gl lo st : Nat → Int64} {gs gv ls lv ss sv : Nat → Int32} (h : mr_RV R F d gl lo st gs gv ls lv ss sv) (e : ∀ f, f < F → d f = d' f) : mr_RV R F d' gl lo st gs gv ls lv ss sv :=
  ⟨h.1, h.2.1, fun f i hf hi => h.2.2 f i hf (by rw [e f hf]; exact hi)⟩
