/-! part 05: the reference's work, hop, walk, count, passes, route; each with a general post -/
section
variable {P M O D B : Nat → Int32} {w : Nat → Nat → Nat} {o : Nat → Prop} {f : Nat → Nat → Nat}

/-- what counts, as the reference sees it -/
def ln_VY (w : Nat → Nat → Nat) (o : Nat → Prop) (P M O : Nat → Int32) : Prop :=
  (∀ a : Nat, a < 7 → (O a = 0 ↔ ¬ o a)) ∧ ∀ a b : Nat, a < 7 → b < 7 →
    (P (7 * a + b) ≤ 0 ∨ M (7 * a + b) = 0 ∨ O a = 0 ∨ O b = 0 → w a b = 0) ∧
    (¬ P (7 * a + b) ≤ 0 → ¬ M (7 * a + b) = 0 → ¬ O a = 0 → ¬ O b = 0 → w a b ≠ 0 ∧ P (7 * a + b) = nI (w a b))

theorem ln_ylink {post : Int32 → Prop} {a b : Nat} (ha : a < 7) (hb : b < 7) (h1 : ¬ P (7 * a + b) ≤ 0 → post 1)
    (h0 : P (7 * a + b) ≤ 0 → post 0) : wpY_link post (P, M, O, D, B) (nI a) (nI b) := by
  unfold wpY_link
  dsimp only
  refine ln_yrt ha (br_f ln_10 (ln_yrt hb (br_f ln_10 ⟨ln_yin ha hb, ?_⟩)))
  rw [ln_yi ha hb]
  exact br_c h0 h1

theorem ln_ylink_n {post : Int32 → Prop} {x y : Int32} (hx : ¬ (ln_R x ∧ ln_R y)) (h : post 0) : wpY_link post (P, M, O, D, B) x y := by
  unfold wpY_link
  dsimp only
  by_cases z : ln_R x
  · obtain ⟨a, ha, e⟩ := z
    subst e
    exact ln_yrt ha (br_f ln_10 (ln_yrf (fun q => hx ⟨⟨a, ha, rfl⟩, q⟩) (br_t rfl h)))
  · exact ln_yrf z (br_t rfl h)

theorem ln_ycounts {post : Int32 → Prop} (V : ln_VY w o P M O) {a b : Nat} (ha : a < 7) (hb : b < 7)
    (h1 : w a b ≠ 0 → P (7 * a + b) = nI (w a b) → post 1) (h0 : w a b = 0 → post 0) :
    wpY_counts post (P, M, O, D, B) (nI a) (nI b) := by
  have v := V.2 a b ha hb
  unfold wpY_counts
  dsimp only
  refine ln_ylink ha hb (fun u => br_f ln_10 ⟨ln_yin ha hb, ?_⟩) (fun u => br_t rfl (h0 (v.1 (Or.inl u))))
  rw [ln_yi ha hb]
  refine br_c (fun z => h0 (v.1 (Or.inr (Or.inl z)))) (fun z => ⟨ln_i7 ha, ?_⟩)
  rw [ln_c7 ha]
  refine br_c (fun y => h0 (v.1 (Or.inr (Or.inr (Or.inl y))))) (fun y => ⟨ln_i7 hb, ?_⟩)
  rw [ln_c7 hb]
  exact br_c (fun x => h0 (v.1 (Or.inr (Or.inr (Or.inr x))))) (fun x => h1 (v.2 u z y x).1 (v.2 u z y x).2)

theorem ln_ycounts_n {post : Int32 → Prop} {x y : Int32} (hx : ¬ (ln_R x ∧ ln_R y)) (h : post 0) : wpY_counts post (P, M, O, D, B) x y := by
  unfold wpY_counts
  dsimp only
  exact ln_ylink_n hx (br_t rfl h)

theorem ln_ylower {post : SY → Prop} (V : ln_VY w o P M O) (hw : ln_Ok w o) (E : ln_Bel w o f) {s r : Nat} (hs : s < 7) (hr : r < 7)
    {g0 g : Nat → Nat → Nat} (A : ln_A D g) (S : ln_PS w f g0 (49 * s + 7 * r) g)
    (h : ∀ (D' : Nat → Int32) (g' : Nat → Nat → Nat), ln_A D' g' → ln_PS w f g0 (49 * s + 7 * r + 7) g' → post (P, M, O, D', B)) :
    wpY_lower post (P, M, O, D, B) (nI s) (nI r) := by
  unfold wpY_lower
  dsimp only
  refine loop_0 (fun n i t => wY_lower_2 post (nI s) (nI r) n (nI i) P M O t B)
    (fun i t => ∃ g : Nat → Nat → Nat, ln_A t g ∧ ln_PS w f g0 (49 * s + 7 * r + i) g) 7 D ⟨g, A, S⟩
    (fun n t I => br_t ln_77 ?_) (fun n d t hd I K => br_f (ln_n7 hd) ?_)
  · obtain ⟨g', a, b⟩ := I
    exact h t g' a b
  · obtain ⟨g', a, b⟩ := I
    have skip : (w s r ≠ 0 → g' s d ≤ w s r + g' r d) → ln_PS w f g0 (49 * s + 7 * r + d + 1) g' := by
      intro z
      have q := ln_pss hw E hs hr hd b (x := g' s d) (Nat.le_refl _) z (Or.inl rfl)
      rw [ln_set_id] at q
      exact q
    refine ln_ycounts V hs hr (fun z p => br_f ln_10 ⟨ln_yin hs hr, ln_yin hr hd, ln_yin hs hd, ?_⟩)
      (fun z => br_t rfl (nm_r (nI_1 d) (K t ⟨g', a, skip (fun y => absurd z y)⟩)))
    have l1 := (b.1 s d hs hd).2.1
    have l2 := (b.1 r d hr hd).2.1
    have l3 := (hw s r hs hr).1
    rw [ln_yi hs hr, ln_yi hr hd, ln_yi hs hd, p, a r d hr hd, a s d hs hd, nI_add]
    by_cases y : g' s d ≤ w s r + g' r d
    · exact br_t (nI_le y (by omega)) (nm_r (nI_1 d) (K t ⟨g', a, skip (fun _ => y)⟩))
    · refine br_f (nI_ge (by omega) (by omega)) ⟨ln_yin hs hr, ln_yin hr hd, ln_yin hs hd, ?_⟩
      exact nm_e (nm_r (nI_1 d) (K _ ⟨_, ln_A_set hd a, ln_pss hw E hs hr hd b (by omega) (fun _ => Nat.le_refl _) (Or.inr ⟨z, rfl⟩)⟩))

def ln_h0 (O : Nat → Int32) (a b : Nat) : Nat := if a = b then (if O a = 0 then 1000 else 0) else 1000

theorem ln_dvp {i j : Nat} (hi : i < 7) (hj : j < 7) : nI (7 * i + j) / 7 = nI i := by
  rw [ln_dv (by omega), (ln_dm hj).1]
theorem ln_rmp {i j : Nat} (hi : i < 7) (hj : j < 7) : nI (7 * i + j) - nI (7 * i + j) / 7 * 7 = nI j := by
  rw [ln_rm (by omega), (ln_dm hj).2]
theorem ln_pair {c : Nat} (h : c < 49) : ∃ i j : Nat, i < 7 ∧ j < 7 ∧ c = 7 * i + j := ⟨c / 7, c % 7, by omega, by omega, by omega⟩

theorem ln_ywork {post : SY → Prop} (V : ln_VY w o P M O) (hw : ln_Ok w o) (E : ln_Bel w o f)
    (h : ∀ D' : Nat → Int32, ln_A D' f → post (P, M, O, D', B)) : wpY_work post (P, M, O, D, B) := by
  unfold wpY_work
  dsimp only
  refine loop_0 (fun n c s => wY_work_2 post n (nI c) P M O s B) (fun c s => ln_Q (fun a b x => x = nI (ln_h0 O a b)) c s) 49 D ln_Q0
    (fun n s I => br_t ln_4949 ?_) (fun n c s hc I K => br_f (ln_n49 hc) ⟨ln_70, ln_70, ?_⟩)
  · -- the passes
    have A0 : ln_A s (ln_h0 O) := ln_QA I
    have Y0 : ln_YI f (ln_h0 O) ∧ ln_EX f (ln_h0 O) 0 := by
      refine ln_y0 E fun a b ha hb => ?_
      have v := V.1 a ha
      refine ⟨fun e u => ?_, fun u => ?_⟩
      · unfold ln_h0; rw [if_pos e, if_neg (fun z => (v.mp z) u)]
      · unfold ln_h0
        by_cases e : a = b
        · rw [if_pos e, if_pos (v.mpr (fun z => u ⟨e, z⟩))]
        · rw [if_neg e]
    refine loop_0 (fun n p s => wY_work_52 post n (nI p) P M O s B) (fun p s => ∃ g : Nat → Nat → Nat, ln_A s g ∧ ln_YI f g ∧ ln_EX f g p) 6 s
      ⟨_, A0, Y0⟩ (fun n s I => br_t (by decide) ?_) (fun n p s hp I K => br_f (ln_n6 hp) ?_)
    · obtain ⟨g, a, y, x⟩ := I
      exact h s (fun i j hi hj => by rw [a i j hi hj, ln_y6 y x hi hj])
    · obtain ⟨g, a, y, x⟩ := I
      refine loop_0 (fun m c s => wY_work_60 post (wY_work_52 post n) (nI p) m (nI c) P M O s B)
        (fun c s => ∃ g' : Nat → Nat → Nat, ln_A s g' ∧ ln_PS w f g (7 * c) g') 49 s ⟨g, a, ln_ps0 y⟩
        (fun m s I => br_t ln_4949 (nm_r (nI_1 p) ?_)) (fun m c s hc I L => br_f (ln_n49 hc) ⟨ln_70, ln_70, ?_⟩)
      · obtain ⟨g', a', b'⟩ := I
        exact K s ⟨g', a', ln_psx E x b'⟩
      · obtain ⟨g', a', b'⟩ := I
        obtain ⟨i, j, hi, hj, rfl⟩ := ln_pair hc
        rw [ln_rmp hi hj, ln_dvp hi hj]
        refine ln_ylower V hw E hi hj (g0 := g) a' ?_ fun D' g2 a2 b2 => nm_r (nI_1 _) (L D' ⟨g2, a2, ?_⟩)
        · rw [show 49 * i + 7 * j = 7 * (7 * i + j) by omega]; exact b'
        · rw [show 7 * (7 * i + j + 1) = 49 * i + 7 * j + 7 by omega]; exact b2
  · obtain ⟨i, j, hi, hj, rfl⟩ := ln_pair hc
    rw [ln_rmp hi hj, ln_dvp hi hj, ln_c7 hi, ln_cl hi hj]
    by_cases e : i = j
    · subst e
      refine br_t rfl ⟨ln_70, ln_i7 hi, ?_⟩
      by_cases z : O i = 0
      · exact br_t z ⟨ln_in hi hj, nm_e (nm_r (nI_1 _) (K _ (ln_Qs hj I (by show _ = nI (ln_h0 O i i); unfold ln_h0; rw [if_pos rfl, if_pos z]; rfl))))⟩
      · exact br_f z ⟨ln_in hi hj, nm_e (nm_r (nI_1 _) (K _ (ln_Qs hj I (by show _ = nI (ln_h0 O i i); unfold ln_h0; rw [if_pos rfl, if_neg z]; rfl))))⟩
    · exact br_f (ln_ne hi hj e) ⟨ln_in hi hj, nm_e (nm_r (nI_1 _) (K _ (ln_Qs hj I (by show _ = nI (ln_h0 O i j); unfold ln_h0; rw [if_neg e]; rfl))))⟩

theorem ln_yhas {post : Int32 → Prop} (A : ln_A D f) {a b : Nat} (ha : a < 7) (hb : b < 7) (hf : f a b ≤ 1000)
    (h1 : f a b < 1000 → post 1) (h0 : f a b = 1000 → post 0) : wpY_has post (P, M, O, D, B) (nI a) (nI b) := by
  unfold wpY_has
  dsimp only
  refine ln_yrt ha (br_f ln_10 (ln_yrt hb (br_f ln_10 ⟨ln_yin ha hb, ?_⟩)))
  rw [ln_yi ha hb, A a b ha hb]
  by_cases z : f a b = 1000
  · exact br_t (by rw [z]; decide) (h0 z)
  · exact br_f (nI_ge (b := 1000) (by omega) (by decide)) (h1 (by omega))

theorem ln_yhas_n {post : Int32 → Prop} {x y : Int32} (hx : ¬ (ln_R x ∧ ln_R y)) (h : post 0) : wpY_has post (P, M, O, D, B) x y := by
  unfold wpY_has
  dsimp only
  by_cases z : ln_R x
  · obtain ⟨a, ha, e⟩ := z
    subst e
    exact ln_yrt ha (br_f ln_10 (ln_yrf (fun q => hx ⟨⟨a, ha, rfl⟩, q⟩) (br_t rfl h)))
  · exact ln_yrf z (br_t rfl h)

theorem ln_yhop {post : Int32 → Prop} (V : ln_VY w o P M O) (hw : ln_Ok w o) (E : ln_Bel w o f) (A : ln_A D f) {a b : Nat} (ha : a < 7) (hb : b < 7)
    (e : a ≠ b) (l : f a b < 1000) (h : ∀ j : Nat, ln_Hop w f a b j → post (nI j)) : wpY_hop post (P, M, O, D, B) (nI a) (nI b) := by
  unfold wpY_hop
  dsimp only
  refine loop_0 (fun n i (_ : Unit) => wY_hop_2 post (nI a) (nI b) P M O D B n (nI i))
    (fun i _ => ∀ j : Nat, j < i → ¬ (w a j ≠ 0 ∧ w a j + f j b = f a b)) 7 () (fun j hj => absurd hj (Nat.not_lt_zero j))
    (fun n _ I => ?_) (fun n i _ hi I K => br_f (ln_n7 hi) ?_)
  · obtain ⟨r, hr, q⟩ := ((E a b ha hb).2.2.2 e).2 l
    exact absurd q (I r hr)
  · refine ln_ycounts V ha hi (fun z p => br_f ln_10 ⟨ln_yin ha hi, ln_yin hi hb, ln_yin ha hb, ?_⟩) (fun z => br_t rfl (nm_r (nI_1 i) (K () ?_)))
    · have hi1 := (E i b hi hb).1
      have hw9 := (hw a i ha hi).1
      rw [ln_yi ha hi, ln_yi hi hb, ln_yi ha hb, p, A i b hi hb, A a b ha hb, nI_add]
      by_cases y : w a i + f i b = f a b
      · exact br_t (by rw [y]) (h i ⟨hi, z, y, I⟩)
      · refine br_f (fun u => y ((nI_eq (by omega) (by omega)).mp u)) (nm_r (nI_1 i) (K () ?_))
        intro j hj
        by_cases x : j = i
        · subst x; exact fun u => y u.2
        · exact I j (by omega)
    · intro j hj
      by_cases x : j = i
      · subst x; exact fun u => u.1 z
      · exact I j (by omega)

/-- one step along a route -/
theorem ln_ystep {post : Int32 → Prop} (V : ln_VY w o P M O) (hw : ln_Ok w o) (E : ln_Bel w o f) (A : ln_A D f) {s d n : Nat} {q : Nat → Nat} (hd : d < 7)
    (R : ln_Rt w f s d n q) {k : Nat} (hk : k < n) (h : post (nI (q (k + 1)))) : wpY_hop post (P, M, O, D, B) (nI (q k)) (nI d) := by
  obtain ⟨_, _, _, r4, r5⟩ := R
  obtain ⟨a1, a2⟩ := r4 k (by omega)
  obtain ⟨b1, b2⟩ := r5 k hk
  exact ln_yhop V hw E A a1 hd b1 a2 fun j hj => by rw [ln_hop_uniq hj b2]; exact h

theorem ln_ywalk {post : Int32 → Prop} (V : ln_VY w o P M O) (hw : ln_Ok w o) (E : ln_Bel w o f) (A : ln_A D f) {s d n : Nat} {q : Nat → Nat} (hd : d < 7)
    (R : ln_Rt w f s d n q) {x : Int32} {t e : Nat} (T : ∀ k : Nat, k < 100 → (x ≤ nI k ↔ t ≤ k)) (e1 : e ≤ n) (e2 : e ≤ t) (e3 : e = n ∨ e = t)
    (h : post (nI (q e))) : wpY_walk post (P, M, O, D, B) (nI s) (nI d) x := by
  have n6 := R.1
  have go : ∀ m k : Nat, k + m = e → wY_walk_6 post (nI d) x P M O D B (m + 1) (nI (q k)) (nI k) := by
    intro m
    induction m with
    | zero =>
      intro k hk
      have hk : k = e := by omega
      subst hk
      by_cases z : t ≤ k
      · exact br_t ((T k (by omega)).mpr z) h
      · have hn : k = n := by omega
        refine br_f (fun y => z ((T k (by omega)).mp y)) ?_
        by_cases y : k < 6
        · refine br_f (ln_n6 y) (br_t ?_ h)
          rw [hn, R.2.2.1]
        · exact br_t (nI_le (a := 6) (by omega) (by omega)) h
    | succ m ih =>
      intro k hk
      refine br_f (fun y => absurd ((T k (by omega)).mp y) (by omega)) (br_f (ln_n6 (by omega)) (br_f ?_ ?_))
      · exact ln_ne (R.2.2.2.1 k (by omega)).1 hd (R.2.2.2.2 k (by omega)).1
      · exact ln_ystep V hw E A hd R (by omega) (nm_r (nI_1 k) (ih (k + 1) (by omega)))
  have g := go e 0 (by omega)
  rw [R.2.1] at g
  exact ⟨_, g⟩

theorem ln_ycount {post : Int32 → Prop} (V : ln_VY w o P M O) (hw : ln_Ok w o) (E : ln_Bel w o f) (A : ln_A D f) {s d n : Nat} {q : Nat → Nat} (hd : d < 7)
    (R : ln_Rt w f s d n q) (h : post (nI n)) : wpY_count post (P, M, O, D, B) (nI s) (nI d) := by
  have n6 := R.1
  have go : ∀ m k : Nat, k + m = n → wY_count_5 post (nI d) P M O D B (m + 1) (nI k) (nI (q k)) := by
    intro m
    induction m with
    | zero =>
      intro k hk
      have hk : k = n := by omega
      subst hk
      by_cases y : k < 6
      · refine br_f (ln_n6 y) (br_t ?_ h)
        rw [R.2.2.1]
      · exact br_t (nI_le (a := 6) (by omega) (by omega)) h
    | succ m ih =>
      intro k hk
      refine br_f (ln_n6 (by omega)) (br_f ?_ ?_)
      · exact ln_ne (R.2.2.2.1 k (by omega)).1 hd (R.2.2.2.2 k (by omega)).1
      · exact ln_ystep V hw E A hd R (by omega) (nm_r (nI_1 k) (ih (k + 1) (by omega)))
  have g := go n 0 (by omega)
  rw [R.2.1] at g
  exact ⟨_, g⟩

/-- x counts as t -/
theorem ln_T (x : Int32) : ∃ t : Nat, ∀ k : Nat, k < 100 → (x ≤ nI k ↔ t ≤ k) := by
  by_cases z : x < 0
  · refine ⟨0, fun k hk => ⟨fun _ => Nat.zero_le k, fun _ => ?_⟩⟩
    exact Int32.le_trans (Int32.le_of_lt z) (nI_pos' (by omega))
  · obtain ⟨j, hj, e⟩ := nI_of z
    subst e
    exact ⟨j, fun k hk => nI_leI hj (by omega)⟩
theorem ln_TnI {j : Nat} (hj : j < 2 ^ 31) : ∀ k : Nat, k < 100 → (nI j ≤ nI k ↔ j ≤ k) := fun k hk => nI_leI hj (by omega)

/-- walk(s, d, k) for a k within the route -/
theorem ln_ywalk_k {post : Int32 → Prop} (V : ln_VY w o P M O) (hw : ln_Ok w o) (E : ln_Bel w o f) (A : ln_A D f) {s d n : Nat} {q : Nat → Nat} (hd : d < 7)
    (R : ln_Rt w f s d n q) {k : Nat} (hk : k ≤ n) (h : post (nI (q k))) : wpY_walk post (P, M, O, D, B) (nI s) (nI d) (nI k) := by
  have := R.1
  exact ln_ywalk V hw E A hd R (ln_TnI (by omega)) hk (Nat.le_refl k) (Or.inr rfl) h

/-- what passes looks for at k -/
def ln_At (n : Nat) (q : Nat → Nat) (r : Nat) (x : Int32) (k : Nat) : Prop := q k = r ∧ (x < 0 ∨ (k < n ∧ nI (q (k + 1)) = x))

theorem ln_ypasses {post : Int32 → Prop} (V : ln_VY w o P M O) (hw : ln_Ok w o) (E : ln_Bel w o f) (A : ln_A D f) {s d n : Nat} {q : Nat → Nat} (hd : d < 7)
    (R : ln_Rt w f s d n q) {r : Nat} (hr : r < 7) {x : Int32} (h1 : (∃ k : Nat, k ≤ n ∧ ln_At n q r x k) → post 1)
    (h0 : (¬ ∃ k : Nat, k ≤ n ∧ ln_At n q r x k) → post 0) : wpY_passes post (P, M, O, D, B) (nI s) (nI d) (nI r) x := by
  have n6 := R.1
  unfold wpY_passes
  dsimp only
  refine ln_ycount V hw E A hd R ?_
  have fin : ∀ v : Int32, ((v = 1 ∧ ∃ k : Nat, k ≤ n ∧ ln_At n q r x k) ∨ (v = 0 ∧ ¬ ∃ k : Nat, k ≤ n ∧ ln_At n q r x k)) →
      (narrow .boolean (.int v) = .int v ∧ post v) := by
    intro v hv
    rcases hv with ⟨e, z⟩ | ⟨e, z⟩
    · subst e; exact ⟨rfl, h1 z⟩
    · subst e; exact ⟨rfl, h0 z⟩
  have go : ∀ (m k : Nat) (v : Int32), k + m = n + 1 →
      ((v = 1 ∧ ∃ j : Nat, j < k ∧ ln_At n q r x j) ∨ (v = 0 ∧ ¬ ∃ j : Nat, j < k ∧ ln_At n q r x j)) →
      wY_passes_14 post (nI s) (nI d) (nI r) x (nI n) P M O D B (m + 1) v (nI k) := by
    intro m
    induction m with
    | zero =>
      intro k v hk hv
      have hk : k = n + 1 := by omega
      subst hk
      refine br_t (nI_lt (by omega) (by omega)) (fin v ?_)
      rcases hv with ⟨e, j, hj, z⟩ | ⟨e, z⟩
      · exact Or.inl ⟨e, j, by omega, z⟩
      · exact Or.inr ⟨e, fun ⟨j, hj, y⟩ => z ⟨j, by omega, y⟩⟩
    | succ m ih =>
      intro k v hk hv
      have kn : k ≤ n := by omega
      have q7 := (R.2.2.2.1 k kn).1
      -- what follows: the next turn with the answer for k
      have nx1 : (∃ j : Nat, j < k + 1 ∧ ln_At n q r x j) → ∀ y : Int32, y = nI k + 1 → wY_passes_14 post (nI s) (nI d) (nI r) x (nI n) P M O D B (m + 1) 1 y :=
        fun z => nm_r (nI_1 k) (ih (k + 1) 1 (by omega) (Or.inl ⟨rfl, z⟩))
      have nx0 : (¬ ∃ j : Nat, j < k + 1 ∧ ln_At n q r x j) → ∀ y : Int32, y = nI k + 1 → wY_passes_14 post (nI s) (nI d) (nI r) x (nI n) P M O D B (m + 1) 0 y :=
        fun z => nm_r (nI_1 k) (ih (k + 1) 0 (by omega) (Or.inr ⟨rfl, z⟩))
      have no : v = 0 → (¬ ∃ j : Nat, j < k ∧ ln_At n q r x j) := by
        intro e
        rcases hv with ⟨a, _⟩ | ⟨_, b⟩
        · subst e; exact absurd a (by decide)
        · exact b
      have yes : ¬ v = 0 → ∃ j : Nat, j < k + 1 ∧ ln_At n q r x j := by
        intro e
        rcases hv with ⟨_, j, hj, z⟩ | ⟨b, _⟩
        · exact ⟨j, by omega, z⟩
        · exact absurd b e
      have add : v = 0 → ¬ ln_At n q r x k → ¬ ∃ j : Nat, j < k + 1 ∧ ln_At n q r x j := by
        intro e z ⟨j, hj, y⟩
        by_cases u : j = k
        · subst u; exact z y
        · exact no e ⟨j, by omega, y⟩
      refine br_f (nI_nlt kn (by omega)) (ln_ywalk_k V hw E A hd R kn ?_)
      by_cases c : q k = r
      · refine br_t (by rw [c]) ?_
        unfold wY_passes_38
        refine br_c (fun e => br_f ln_10 ?_) (fun e => nx1 (yes e))
        refine br_c (fun u => nx1 ⟨k, by omega, c, Or.inl u⟩) (fun u => ?_)
        by_cases y : k < n
        · refine br_f (nI_ge y (by omega)) ?_
          rw [nI_1]
          refine ln_ywalk_k V hw E A hd R (k := k + 1) (by omega) ?_
          refine br_c (fun z => ?_) (fun z => ?_)
          · rw [← nI_1]; exact nx1 ⟨k, by omega, c, Or.inr ⟨y, z⟩⟩
          · rw [← nI_1]; exact nx0 (add e (fun a => a.2.elim u (fun b => z b.2)))
        · exact br_t (nI_le (by omega) (by omega)) (nx0 (add e (fun a => a.2.elim u (fun b => y b.1))))
      · refine br_f (ln_ne q7 hr c) ?_
        unfold wY_passes_38
        exact br_c (fun e => br_t rfl (nx0 (add e (fun a => c a.1)))) (fun e => nx1 (yes e))
  exact ⟨_, go (n + 1) 0 0 (by omega) (Or.inr ⟨rfl, fun ⟨j, hj, _⟩ => absurd hj (Nat.not_lt_zero j)⟩)⟩

theorem ln_yroute {post : Int32 → Prop} (V : ln_VY w o P M O) (hw : ln_Ok w o) (E : ln_Bel w o f) (A : ln_A D f) {s d n : Nat} {q : Nat → Nat}
    (hs : s < 7) (hd : d < 7) (l : f s d < 1000) (R : ln_Rt w f s d n q) (h : post (nI (ln_cy q n))) : wpY_route post (P, M, O, D, B) (nI s) (nI d) := by
  have n6 := R.1
  have q7 : ∀ k : Nat, k ≤ n → q k < 7 := fun k hk => (R.2.2.2.1 k hk).1
  unfold wpY_route
  dsimp only
  refine ln_yhas A hs hd (by omega) (fun _ => br_f ln_10 (ln_ycount V hw E A hd R ?_)) (fun z => absurd z (by omega))
  -- the code before k: 1 at 0, else that of k - 1
  have go : ∀ (m k c : Nat), k + m = n + 1 → 8 * c + q k = ln_cy q k → (k = n + 1 → c = ln_cy q n) →
      wY_route_24 post (nI s) (nI d) (nI n) P M O D B (m + 1) (nI c) (nI k) := by
    intro m
    induction m with
    | zero =>
      intro k c hk _ hc
      have hk : k = n + 1 := by omega
      refine br_t (nI_lt (by omega) (by omega)) ?_
      rw [hc hk]; exact h
    | succ m ih =>
      intro k c hk hc _
      have kn : k ≤ n := by omega
      refine br_f (nI_nlt kn (by omega)) (ln_ywalk_k V hw E A hd R kn (nm_r ?_ (nm_r (nI_1 k) (ih (k + 1) (ln_cy q k) (by omega) rfl (fun e => ?_)))))
      · rw [show (8 : Int32) = nI 8 from rfl, pk_mul, nI_add, hc]
      · have : k = n := by omega
        rw [this]
  exact ⟨_, go (n + 1) 0 1 (by omega) rfl (fun e => absurd e (by omega))⟩

theorem ln_yroute_n {post : Int32 → Prop} (A : ln_A D f) {s d : Nat} (hs : s < 7) (hd : d < 7) (l : f s d = 1000) (h : post 0) :
    wpY_route post (P, M, O, D, B) (nI s) (nI d) := by
  unfold wpY_route
  dsimp only
  exact ln_yhas A hs hd (by omega) (fun z => absurd l (by omega)) (fun _ => br_t rfl h)
end
