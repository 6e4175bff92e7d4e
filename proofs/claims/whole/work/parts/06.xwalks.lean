/-! part 06: the component's walks along a route; each with a general post -/
section
variable {P L O D H B : Nat → Int32} {w : Nat → Nat → Nat} {o : Nat → Prop} {f : Nat → Nat → Nat}

theorem ln_xnext {post : Int32 → Prop} (E : ln_Bel w o f) (A : ln_A D f) (N : ln_HH w f H) {a b : Nat} (ha : a < 7) (hb : b < 7)
    (h : ∀ r : Int32, ln_HV w f a b r → post r) : wpX_nextHop post (P, L, O, D, H, B) (nI a) (nI b) := by
  unfold wpX_nextHop
  dsimp only
  refine ln_xroute A ha hb (E a b ha hb).1 (fun l => br_f ln_10 (ln_xplace ha hb fun r er ir => ⟨ir, ?_⟩))
    (fun l => br_t rfl (h (-1) ⟨fun _ => rfl, fun _ z => absurd l (by omega)⟩))
  rw [er]
  exact h _ (N a b ha hb)

theorem ln_xnext_m {post : Int32 → Prop} (E : ln_Bel w o f) (A : ln_A D f) (N : ln_HH w f H) {a b : Nat} (ha : a < 7) (hb : b < 7)
    (z : a = b ∨ f a b = 1000) (h : post (-1)) : wpX_nextHop post (P, L, O, D, H, B) (nI a) (nI b) :=
  ln_xnext E A N ha hb fun r hr => by rw [hr.1 z]; exact h

theorem ln_xstep {post : Int32 → Prop} (E : ln_Bel w o f) (A : ln_A D f) (N : ln_HH w f H) {s d n : Nat} {q : Nat → Nat} (hd : d < 7)
    (R : ln_Rt w f s d n q) {k : Nat} (hk : k < n) (h : post (nI (q (k + 1)))) : wpX_nextHop post (P, L, O, D, H, B) (nI (q k)) (nI d) := by
  obtain ⟨_, _, _, r4, r5⟩ := R
  obtain ⟨a1, a2⟩ := r4 k (by omega)
  obtain ⟨b1, b2⟩ := r5 k hk
  refine ln_xnext E A N a1 hd fun r hr => ?_
  obtain ⟨j, e, hj⟩ := hr.2 b1 a2
  rw [e, ln_hop_uniq hj b2]
  exact h

theorem ln_xhops {post : Int32 → Prop} (E : ln_Bel w o f) (A : ln_A D f) (N : ln_HH w f H) {s d n : Nat} {q : Nat → Nat} (hs : s < 7) (hd : d < 7)
    (l : f s d < 1000) (R : ln_Rt w f s d n q) (h : post (nI n)) : wpX_hops post (P, L, O, D, H, B) (nI s) (nI d) := by
  have n6 := R.1
  unfold wpX_hops
  dsimp only
  refine ln_xroute A hs hd (by omega) (fun _ => br_f ln_10 ?_) (fun z => absurd z (by omega))
  have go : ∀ m k : Nat, k + m = n → wX_hops_16 post (nI d) P L O D H B (m + 1) (nI k) (nI (q k)) := by
    intro m
    induction m with
    | zero =>
      intro k hk
      have hk : k = n := by omega
      subst hk
      exact br_t (by rw [R.2.2.1]) h
    | succ m ih =>
      intro k hk
      refine br_f ?_ (br_f (ln_n7 (by omega)) ?_)
      · exact ln_ne (R.2.2.2.1 k (by omega)).1 hd (R.2.2.2.2 k (by omega)).1
      · exact ln_xstep E A N hd R (by omega) (nm_r (nI_1 k) (ih (k + 1) (by omega)))
  have g := go n 0 (by omega)
  rw [R.2.1] at g
  exact ⟨_, g⟩

theorem ln_xafter {post : Int32 → Prop} (E : ln_Bel w o f) (A : ln_A D f) (N : ln_HH w f H) {s d n : Nat} {q : Nat → Nat} (hs : s < 7) (hd : d < 7)
    (l : f s d < 1000) (R : ln_Rt w f s d n q) {x : Int32} {t e : Nat} (T : ∀ k : Nat, k < 100 → (x ≤ nI k ↔ t ≤ k)) (e1 : e ≤ n) (e2 : e ≤ t)
    (e3 : e = n ∨ e = t) (h : post (nI (q e))) : wpX_after post (P, L, O, D, H, B) (nI s) (nI d) x := by
  have n6 := R.1
  unfold wpX_after
  dsimp only
  refine ln_xroute A hs hd (by omega) (fun _ => br_f ln_10 ?_) (fun z => absurd z (by omega))
  have go : ∀ m k : Nat, k + m = e → wX_after_17 post (nI d) x P L O D H B (m + 1) (nI (q k)) (nI k) := by
    intro m
    induction m with
    | zero =>
      intro k hk
      have hk : k = e := by omega
      subst hk
      refine br_f (ln_n7 (by omega)) ?_
      by_cases z : t ≤ k
      · exact br_t ((T k (by omega)).mpr z) h
      · have hn : k = n := by omega
        exact br_f (fun y => z ((T k (by omega)).mp y)) (br_t (by rw [hn, R.2.2.1]) h)
    | succ m ih =>
      intro k hk
      refine br_f (ln_n7 (by omega)) (br_f (fun y => absurd ((T k (by omega)).mp y) (by omega)) (br_f ?_ ?_))
      · exact ln_ne (R.2.2.2.1 k (by omega)).1 hd (R.2.2.2.2 k (by omega)).1
      · exact ln_xstep E A N hd R (by omega) (nm_r (nI_1 k) (ih (k + 1) (by omega)))
  have g := go e 0 (by omega)
  rw [R.2.1] at g
  exact ⟨_, g⟩

theorem ln_xcomes {post : Int32 → Prop} (E : ln_Bel w o f) (A : ln_A D f) (N : ln_HH w f H) {s d n : Nat} {q : Nat → Nat} (hd : d < 7)
    (R : ln_Rt w f s d n q) {r : Nat} (hr : r < 7) (h1 : (∃ k : Nat, k ≤ n ∧ q k = r) → post 1) (h0 : (¬ ∃ k : Nat, k ≤ n ∧ q k = r) → post 0) :
    wpX_comesThrough post (P, L, O, D, H, B) (nI s) (nI d) (nI r) := by
  have n6 := R.1
  unfold wpX_comesThrough
  dsimp only
  have go : ∀ m k : Nat, k + m = n → (¬ ∃ j : Nat, j < k ∧ q j = r) → wX_comesThrough_6 post (nI d) (nI r) P L O D H B (m + 2) (nI (q k)) (nI k) := by
    intro m
    induction m with
    | zero =>
      intro k hk no
      have hk : k = n := by omega
      subst hk
      have q7 := (R.2.2.2.1 k (Nat.le_refl k)).1
      refine br_f (ln_n7 (by omega)) (br_f (ln_m1 (by omega)) ?_)
      by_cases c : q k = r
      · exact br_t (by rw [c]) (h1 ⟨k, Nat.le_refl k, c⟩)
      · refine br_f (ln_ne q7 hr c) ?_
        rw [R.2.2.1]
        refine ln_xnext_m E A N hd hd (Or.inl rfl) (nm_r (nI_1 k) ?_)
        have z : post 0 := h0 fun ⟨j, hj, y⟩ => by
          by_cases u : j = k
          · subst u; exact c y
          · exact no ⟨j, by omega, y⟩
        exact br_c (fun _ => z) (fun _ => br_t rfl z)
    | succ m ih =>
      intro k hk no
      have q7 := (R.2.2.2.1 k (by omega)).1
      refine br_f (ln_n7 (by omega)) (br_f (ln_m1 (by omega)) ?_)
      by_cases c : q k = r
      · exact br_t (by rw [c]) (h1 ⟨k, by omega, c⟩)
      · refine br_f (ln_ne q7 hr c) (ln_xstep E A N hd R (by omega) (nm_r (nI_1 k) (ih (k + 1) (by omega) ?_)))
        intro ⟨j, hj, y⟩
        by_cases u : j = k
        · subst u; exact c y
        · exact no ⟨j, by omega, y⟩
  have g := go n 0 (by omega) (fun ⟨j, hj, _⟩ => absurd hj (Nat.not_lt_zero j))
  rw [R.2.1] at g
  exact ⟨_, g⟩

/-- no route: it comes through nothing but its first router -/
theorem ln_xcomes_n {post : Int32 → Prop} (E : ln_Bel w o f) (A : ln_A D f) (N : ln_HH w f H) {s d r : Nat} (hs : s < 7) (hd : d < 7) (hr : r < 7)
    (z : s = d ∨ f s d = 1000) (e : s ≠ r) (h : post 0) : wpX_comesThrough post (P, L, O, D, H, B) (nI s) (nI d) (nI r) := by
  unfold wpX_comesThrough
  dsimp only
  refine ⟨2, ?_⟩
  have g : wX_comesThrough_6 post (nI d) (nI r) P L O D H B 2 (nI s) (nI 0) := by
    refine br_f (ln_n7 (by omega)) (br_f (ln_m1 (by omega)) (br_f (ln_ne hs hr e) (ln_xnext_m E A N hs hd z (nm_r (nI_1 0) ?_))))
    exact br_f (ln_n7 (by omega)) (br_t rfl h)
  exact g

/-- the link between a and b, in either direction -/
def ln_Al (n : Nat) (q : Nat → Nat) (a b k : Nat) : Prop := k < n ∧ ((q k = a ∧ q (k + 1) = b) ∨ (q k = b ∧ q (k + 1) = a))

theorem ln_xgoes {post : Int32 → Prop} (E : ln_Bel w o f) (A : ln_A D f) (N : ln_HH w f H) {s d n : Nat} {q : Nat → Nat} (hd : d < 7)
    (R : ln_Rt w f s d n q) {a b : Nat} (ha : a < 7) (hb : b < 7) (h1 : (∃ k : Nat, ln_Al n q a b k) → post 1) (h0 : (¬ ∃ k : Nat, ln_Al n q a b k) → post 0) :
    wpX_goesAlong post (P, L, O, D, H, B) (nI s) (nI d) (nI a) (nI b) := by
  have n6 := R.1
  unfold wpX_goesAlong
  dsimp only
  have go : ∀ m k : Nat, k + m = n → (¬ ∃ j : Nat, j < k ∧ ln_Al n q a b j) → wX_goesAlong_6 post (nI d) (nI a) (nI b) P L O D H B (m + 2) (nI (q k)) (nI k) := by
    intro m
    induction m with
    | zero =>
      intro k hk no
      have hk : k = n := by omega
      subst hk
      have z : post 0 := h0 fun ⟨j, y⟩ => no ⟨j, y.1, y⟩
      refine br_f (ln_n7 (by omega)) (br_f (ln_m1 (by have := (R.2.2.2.1 k (Nat.le_refl k)).1; omega)) ?_)
      have last : ∀ y : Int32, y = nI k + 1 → wX_goesAlong_6 post (nI d) (nI a) (nI b) P L O D H B 1 (-1) y :=
        nm_r (nI_1 k) (br_c (fun _ => z) (fun _ => br_t rfl z))
      have j41 : wX_goesAlong_41 post (wX_goesAlong_6 post (nI d) (nI a) (nI b) P L O D H B 1) (nI d) (nI a) (nI b) (nI (q k)) (nI k) (-1) P L O D H B := by
        unfold wX_goesAlong_41
        exact br_c (fun _ => br_c (fun u => absurd u.symm (ln_m1 (by omega))) (fun _ => last)) (fun _ => last)
      have key : wpX_nextHop (fun r_3 => (((nI (q k) = nI a → (((r_3 = nI b → (post 1)) ∧ (¬ r_3 = nI b → (wX_goesAlong_41 post (wX_goesAlong_6 post (nI d) (nI a) (nI b) P L O D H B 1) (nI d) (nI a) (nI b) (nI (q k)) (nI k) r_3 P L O D H B))))) ∧ (¬ nI (q k) = nI a → (wX_goesAlong_41 post (wX_goesAlong_6 post (nI d) (nI a) (nI b) P L O D H B 1) (nI d) (nI a) (nI b) (nI (q k)) (nI k) r_3 P L O D H B))))) (P, L, O, D, H, B) (nI (q k)) (nI d) := by
        have qd := R.2.2.1
        refine ln_xnext_m E A N (by omega) hd (Or.inl (by omega)) ?_
        exact br_c (fun _ => br_f (fun u => ln_m1 (by omega) u.symm) j41) (fun _ => j41)
      exact key
    | succ m ih =>
      intro k hk no
      have q7 := (R.2.2.2.1 k (by omega)).1
      have q8 := (R.2.2.2.1 (k + 1) (by omega)).1
      refine br_f (ln_n7 (by omega)) (br_f (ln_m1 (by omega)) (ln_xstep E A N hd R (by omega) ?_))
      have next : ¬ ln_Al n q a b k → ∀ y : Int32, y = nI k + 1 → wX_goesAlong_6 post (nI d) (nI a) (nI b) P L O D H B (m + 2) (nI (q (k + 1))) y := by
        intro c
        refine nm_r (nI_1 k) (ih (k + 1) (by omega) ?_)
        intro ⟨j, hj, y⟩
        by_cases u : j = k
        · subst u; exact c y
        · exact no ⟨j, by omega, y⟩
      have j41 : ¬ (q k = a ∧ q (k + 1) = b) → wX_goesAlong_41 post (wX_goesAlong_6 post (nI d) (nI a) (nI b) P L O D H B (m + 2)) (nI d) (nI a) (nI b) (nI (q k)) (nI k) (nI (q (k + 1))) P L O D H B := by
        intro c
        unfold wX_goesAlong_41
        by_cases x : q k = b
        · refine br_t (by rw [x]) ?_
          by_cases y : q (k + 1) = a
          · exact br_t (by rw [y]) (h1 ⟨k, by omega, Or.inr ⟨x, y⟩⟩)
          · exact br_f (ln_ne q8 ha y) (next (fun z => z.2.elim c (fun v => y v.2)))
        · exact br_f (ln_ne q7 hb x) (next (fun z => z.2.elim c (fun v => x v.1)))
      by_cases x : q k = a
      · refine br_t (by rw [x]) ?_
        by_cases y : q (k + 1) = b
        · exact br_t (by rw [y]) (h1 ⟨k, by omega, Or.inl ⟨x, y⟩⟩)
        · exact br_f (ln_ne q8 hb y) (j41 (fun z => y z.2))
      · exact br_f (ln_ne q7 ha x) (j41 (fun z => x z.1))
  have g := go n 0 (by omega) (fun ⟨j, hj, _⟩ => absurd hj (Nat.not_lt_zero j))
  rw [R.2.1] at g
  exact ⟨_, g⟩

/-- no route: it goes along nothing -/
theorem ln_xgoes_n {post : Int32 → Prop} (E : ln_Bel w o f) (A : ln_A D f) (N : ln_HH w f H) {s d a b : Nat} (hs : s < 7) (hd : d < 7) (ha : a < 7) (hb : b < 7)
    (z : s = d ∨ f s d = 1000) (h : post 0) : wpX_goesAlong post (P, L, O, D, H, B) (nI s) (nI d) (nI a) (nI b) := by
  unfold wpX_goesAlong
  dsimp only
  refine ⟨2, ?_⟩
  have last : ∀ y : Int32, y = nI 0 + 1 → wX_goesAlong_6 post (nI d) (nI a) (nI b) P L O D H B 1 (-1) y :=
    nm_r (nI_1 0) (br_f (ln_n7 (by omega)) (br_t rfl h))
  have j41 : wX_goesAlong_41 post (wX_goesAlong_6 post (nI d) (nI a) (nI b) P L O D H B 1) (nI d) (nI a) (nI b) (nI s) (nI 0) (-1) P L O D H B := by
    unfold wX_goesAlong_41
    exact br_c (fun _ => br_c (fun u => absurd u.symm (ln_m1 (by omega))) (fun _ => last)) (fun _ => last)
  have g : wX_goesAlong_6 post (nI d) (nI a) (nI b) P L O D H B 2 (nI s) (nI 0) := by
    refine br_f (ln_n7 (by omega)) (br_f (ln_m1 (by omega)) (ln_xnext_m E A N hs hd z ?_))
    exact br_c (fun _ => br_f (fun u => ln_m1 (by omega) u.symm) j41) (fun _ => j41)
  exact g

theorem ln_or {m x : Nat} (hm : m < 2 ^ 24) (hx : x < 8) : (nI m <<< ((3 : Int32) &&& 31)) ||| nI x = nI (8 * m + x) := by
  rw [pk_shlN _ 3 (by decide) (by omega)]
  apply Int32.toBitVec_inj.1
  show BitVec.ofNat 32 (m * 2 ^ 3) ||| BitVec.ofNat 32 x = BitVec.ofNat 32 (8 * m + x)
  have e : 8 * m + x = m * 2 ^ 3 ||| x := by
    have := Nat.two_pow_add_eq_or_of_lt (i := 3) (b := x) hx m
    rw [Nat.mul_comm m]; exact this
  rw [e]
  apply BitVec.eq_of_getLsbD_eq
  intro i hi
  simp [hi]

theorem ln_xpacked {post : Int32 → Prop} (E : ln_Bel w o f) (A : ln_A D f) (N : ln_HH w f H) {s d n : Nat} {q : Nat → Nat} (hs : s < 7) (hd : d < 7)
    (l : f s d < 1000) (R : ln_Rt w f s d n q) (h : post (nI (ln_cx q n))) : wpX_packedRoute post (P, L, O, D, H, B) (nI s) (nI d) := by
  have n6 := R.1
  have q7 : ∀ k : Nat, k ≤ n → q k < 7 := fun k hk => (R.2.2.2.1 k hk).1
  have small : ∀ k : Nat, k ≤ n → ln_cx q k < 2 ^ 24 := by
    intro k hk
    have a := (ln_cx_b k (fun j hj => q7 j (by omega))).2
    have b : 8 ^ (k + 1) ≤ 8 ^ 7 := Nat.pow_le_pow_right (by decide) (by omega)
    have c : 8 ^ 7 < 2 ^ 24 := by decide
    omega
  unfold wpX_packedRoute
  dsimp only
  refine ln_xroute A hs hd (by omega) (fun _ => br_f ln_10 ?_) (fun z => absurd z (by omega))
  have go : ∀ (m k c : Nat), k + m = n → c < 2 ^ 24 → 8 * c + (q k + 1) = ln_cx q k →
      wX_packedRoute_19 post (nI d) P L O D H B (m + 2) (nI c) (nI (q k)) (nI k) := by
    intro m
    induction m with
    | zero =>
      intro k c hk cs hc
      have hk : k = n := by omega
      subst hk
      have a := q7 k (Nat.le_refl k)
      refine br_f (ln_n7 (by omega)) (br_f (ln_m1 (by omega)) (nm_r (by rw [nI_1, ln_or cs (by omega), hc]) ?_))
      rw [R.2.2.1]
      refine ln_xnext_m E A N hd hd (Or.inl rfl) (nm_r (nI_1 k) ?_)
      exact br_c (fun _ => h) (fun _ => br_t rfl h)
    | succ m ih =>
      intro k c hk cs hc
      have a := q7 k (by omega)
      refine br_f (ln_n7 (by omega)) (br_f (ln_m1 (by omega)) (nm_r (by rw [nI_1, ln_or cs (by omega), hc]) ?_))
      exact ln_xstep E A N hd R (by omega) (nm_r (nI_1 k) (ih (k + 1) (ln_cx q k) (by omega) (small k (by omega)) rfl))
  have g := go n 0 0 (by omega) (by decide) (by rw [ln_cx]; omega)
  rw [R.2.1] at g
  exact ⟨_, g⟩

theorem ln_xpacked_n {post : Int32 → Prop} (A : ln_A D f) {s d : Nat} (hs : s < 7) (hd : d < 7) (l : f s d = 1000) (h : post 0) :
    wpX_packedRoute post (P, L, O, D, H, B) (nI s) (nI d) := by
  unfold wpX_packedRoute
  dsimp only
  exact ln_xroute A hs hd (by omega) (fun z => absurd l (by omega)) (fun _ => br_t rfl h)
end
