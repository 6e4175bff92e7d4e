/-! part 03: numbers, indices, loops over pairs, counts -/

theorem ln_pl (a b : Nat) : nI a * 7 + nI b = nI (7 * a + b) := by
  rw [show (7 : Int32) = nI 7 from rfl, pk_mul, nI_add, Nat.mul_comm]
theorem ln_py (a b : Nat) : 7 * nI a + nI b = nI (7 * a + b) := by
  rw [show (7 : Int32) = nI 7 from rfl, pk_mul, nI_add]
theorem ln_cl {a b : Nat} (ha : a < 7) (hb : b < 7) : (nI (7 * a + b)).toNatClampNeg = 7 * a + b := nI_clamp (by omega)
theorem ln_in {a b : Nat} (ha : a < 7) (hb : b < 7) : vp_in (nI (7 * a + b)) 49 := vp_in_nI (by omega) (by decide)
theorem ln_yi {a b : Nat} (ha : a < 7) (hb : b < 7) : (7 * nI a + nI b).toNatClampNeg = 7 * a + b := by
  rw [ln_py]; exact ln_cl ha hb
theorem ln_yin {a b : Nat} (ha : a < 7) (hb : b < 7) : vp_in (7 * nI a + nI b) 49 := by
  rw [ln_py]; exact ln_in ha hb
theorem ln_c7 {a : Nat} (ha : a < 7) : (nI a).toNatClampNeg = a := nI_clamp (by omega)
theorem ln_i7 {a : Nat} (ha : a < 7) : vp_in (nI a) 7 := vp_in_nI ha (by decide)
theorem ln_77 : (7 : Int32) ≤ 7 := by decide
theorem ln_n7 {i : Nat} (h : i < 7) : ¬ (7 : Int32) ≤ nI i := nI_ge (b := 7) h (by decide)
theorem ln_4949 : (49 : Int32) ≤ 49 := by decide
theorem ln_n49 {i : Nat} (h : i < 49) : ¬ (49 : Int32) ≤ nI i := nI_ge (b := 49) h (by decide)
theorem ln_n6 {i : Nat} (h : i < 6) : ¬ (6 : Int32) ≤ nI i := nI_ge (b := 6) h (by decide)
theorem ln_70 : ¬ (7 : Int32) = 0 := by decide
theorem ln_10 : ¬ (1 : Int32) = 0 := by decide
theorem ln_dv {c : Nat} (h : c < 49) : nI c / 7 = nI (c / 7) := pk_div (d := 7) (by omega) (by decide) (by decide)
theorem ln_rm {c : Nat} (h : c < 49) : nI c - nI c / 7 * 7 = nI (c % 7) := pk_rem (d := 7) (by omega) (by decide) (by decide)
theorem ln_ne {a b : Nat} (ha : a < 7) (hb : b < 7) (h : a ≠ b) : ¬ nI a = nI b := fun z => h ((nI_eq (by omega) (by omega)).mp z)
theorem ln_m1 {a : Nat} (h : a < 2 ^ 31) : ¬ nI a = -1 := by
  intro e
  have := nI_pos (n := a) h
  rw [e] at this
  exact this (by decide)
theorem ln_b0 : vp_nar .boolean 0 = 0 := by decide
theorem ln_b1 : vp_nar .boolean 1 = 1 := by decide

/-- x is a router's number -/
def ln_R (x : Int32) : Prop := ∃ a : Nat, a < 7 ∧ x = nI a

theorem ln_xrt {post : Int32 → Prop} {a : Nat} (ha : a < 7) (h : post 1) : wpX_isRouter post (nI a) :=
  br_f (nI_pos (by omega)) (br_f (ln_n7 ha) h)
theorem ln_xrf {post : Int32 → Prop} {x : Int32} (hx : ¬ ln_R x) (h : post 0) : wpX_isRouter post x := by
  by_cases z : x < 0
  · exact br_t z h
  · refine br_f z ?_
    rcases pk_ix x (n := 7) (by decide) with y | y | y
    · exact absurd y z
    · exact br_t y h
    · exact absurd y hx
theorem ln_yrt {post : Int32 → Prop} {v : SY} {a : Nat} (ha : a < 7) (h : post 1) : wpY_router post v (nI a) := by
  obtain ⟨P, M, O, D, B⟩ := v
  exact br_f (nI_pos (by omega)) (br_f (ln_n7 ha) h)
theorem ln_yrf {post : Int32 → Prop} {v : SY} {x : Int32} (hx : ¬ ln_R x) (h : post 0) : wpY_router post v x := by
  obtain ⟨P, M, O, D, B⟩ := v
  unfold wpY_router
  dsimp only
  by_cases z : x < 0
  · exact br_t z h
  · refine br_f z ?_
    rcases pk_ix x (n := 7) (by decide) with y | y | y
    · exact absurd y z
    · exact br_t y h
    · exact absurd y hx

theorem ln_xplace {post : Int32 → Prop} {a b : Nat} (ha : a < 7) (hb : b < 7)
    (h : ∀ r : Int32, r.toNatClampNeg = 7 * a + b → vp_in r 49 → post r) : wpX_place post (nI a) (nI b) := by
  unfold wpX_place
  rw [ln_pl]
  exact h _ (ln_cl ha hb) (ln_in ha hb)

/-- the component's loops over all pairs: W2 the outer one, W1 the inner one within the outer's fuel n -/
theorem ln_dbl {σ : Type} (W2 : Nat → Int32 → σ → Prop) (W1 : Nat → Int32 → Nat → Int32 → σ → Prop) (I : Nat → σ → Prop)
    (o1 : ∀ (n : Nat) (s : σ), I 49 s → W2 (n + 1) 7 s)
    (o2 : ∀ (n i : Nat) (s : σ), i < 7 → (∃ m, W1 n (nI i) m 0 s) → W2 (n + 1) (nI i) s)
    (i1 : ∀ (n m i : Nat) (s : σ), i < 7 → W2 n (nI (i + 1)) s → W1 n (nI i) (m + 1) 7 s)
    (i2 : ∀ (n m i j : Nat) (s : σ), i < 7 → j < 7 → I (7 * i + j) s →
      (∀ s' : σ, I (7 * i + j + 1) s' → W1 n (nI i) m (nI (j + 1)) s') → W1 n (nI i) (m + 1) (nI j) s)
    (s : σ) (h0 : I 0 s) : ∃ n, W2 n 0 s := by
  refine loop_0 (fun n i s => W2 n (nI i) s) (fun i s => I (7 * i) s) 7 s h0 (fun n s h => o1 n s h) (fun n i s hi h k => o2 n i s hi ?_)
  refine loop_0 (fun m j s => W1 n (nI i) m (nI j) s) (fun j s => I (7 * i + j) s) 7 s h (fun m s h => i1 n m i s hi (k s ?_))
    (fun m j s hj h k => i2 n m i j s hi hj h k)
  show I (7 * (i + 1)) s
  rw [Nat.mul_succ]
  exact h

/-- an array filled cell by cell: the cells below c have Q -/
def ln_Q (Q : Nat → Nat → Int32 → Prop) (c : Nat) (s : Nat → Int32) : Prop :=
  ∀ a b : Nat, a < 7 → b < 7 → 7 * a + b < c → Q a b (s (7 * a + b))
theorem ln_Q0 {Q : Nat → Nat → Int32 → Prop} {s : Nat → Int32} : ln_Q Q 0 s := fun _ _ _ _ h => absurd h (Nat.not_lt_zero _)
theorem ln_Qs {Q : Nat → Nat → Int32 → Prop} {s : Nat → Int32} {i j : Nat} {x : Int32} (hj : j < 7) (h : ln_Q Q (7 * i + j) s)
    (hx : Q i j x) : ln_Q Q (7 * i + j + 1) (upd s (7 * i + j) x) := by
  intro a b ha hb hc
  by_cases e : 7 * a + b = 7 * i + j
  · have e1 : a = i := by omega
    have e2 : b = j := by omega
    subst e1; subst e2
    rw [pk_us]; exact hx
  · rw [pk_un e]; exact h a b ha hb (by omega)
theorem ln_Q49 {Q : Nat → Nat → Int32 → Prop} {s : Nat → Int32} (h : ln_Q Q 49 s) : ∀ a b : Nat, a < 7 → b < 7 → Q a b (s (7 * a + b)) :=
  fun a b ha hb => h a b ha hb (by omega)

theorem ln_QA {g : Nat → Nat → Nat} {s : Nat → Int32} (h : ln_Q (fun a b x => x = nI (g a b)) 49 s) : ln_A s g :=
  fun a b ha hb => h a b ha hb (by omega)

/-- how many of the cells below c have T -/
noncomputable def ln_ct (T : Nat → Prop) : Nat → Nat
  | 0 => 0
  | n + 1 => ln_ct T n + @ite Nat (T n) (Classical.propDecidable (T n)) 1 0
theorem ln_ct_t {T : Nat → Prop} {n : Nat} (h : T n) : ln_ct T (n + 1) = ln_ct T n + 1 := by
  rw [ln_ct, if_pos h]
theorem ln_ct_f {T : Nat → Prop} {n : Nat} (h : ¬ T n) : ln_ct T (n + 1) = ln_ct T n := by
  rw [ln_ct, if_neg h, Nat.add_zero]
theorem ln_ct_g {T S : Nat → Prop} : ∀ n : Nat, (∀ t : Nat, t < n → (T t ↔ S t)) → ln_ct T n = ln_ct S n := by
  intro n
  induction n with
  | zero => intro _; rfl
  | succ n ih =>
    intro h
    have e := ih (fun t ht => h t (by omega))
    by_cases z : T n
    · rw [ln_ct_t z, ln_ct_t ((h n (by omega)).mp z), e]
    · rw [ln_ct_f z, ln_ct_f (fun y => z ((h n (by omega)).mpr y)), e]
theorem ln_dm {i j : Nat} (hj : j < 7) : (7 * i + j) / 7 = i ∧ (7 * i + j) % 7 = j := by omega
