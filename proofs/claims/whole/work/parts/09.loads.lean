/-! part 09: load and linkLoad -/

/-- routes for all pairs -/
theorem ln_rts {w : Nat → Nat → Nat} {o : Nat → Prop} {f : Nat → Nat → Nat} (E : ln_Bel w o f) : ∃ n : Nat → Nat → Nat, ∃ q : Nat → Nat → Nat → Nat,
    ∀ s d : Nat, s < 7 → d < 7 → f s d < 1000 → ln_Rt w f s d (n s d) (q s d) := by
  refine ⟨fun s d => if h : s < 7 ∧ d < 7 ∧ f s d < 1000 then (ln_rt E h.1 h.2.1 h.2.2).choose else 0,
    fun s d => if h : s < 7 ∧ d < 7 ∧ f s d < 1000 then (ln_rt E h.1 h.2.1 h.2.2).choose_spec.choose else fun _ => 0, fun s d hs hd l => ?_⟩
  have h : s < 7 ∧ d < 7 ∧ f s d < 1000 := ⟨hs, hd, l⟩
  dsimp only
  rw [dif_pos h, dif_pos h]
  exact (ln_rt E h.1 h.2.1 h.2.2).choose_spec.choose_spec

theorem ln_m0 {x y : Int32} (h : y = x) : x + 0 = y := by rw [Int32.add_zero, h]

/-- what is said of pairs, said of places -/
theorem ln_pp (U : Nat → Nat → Prop) : ∃ T : Nat → Prop, ∀ i j : Nat, j < 7 → (T (7 * i + j) ↔ U i j) :=
  ⟨fun c => U (c / 7) (c % 7), fun i j hj => by
    show U ((7 * i + j) / 7) ((7 * i + j) % 7) ↔ U i j
    rw [(ln_dm hj).1, (ln_dm hj).2]⟩

/-- the reference's load, router by router -/
theorem i_vc_load {k : Nat} {u : SX} {v : SY} (I : i_Rel k u v) (hk : k + 4 ≤ 2048) (v1 : Int32) : wpX_load (fun r => wpY_load (fun r' v' => r' = r ∧ i_Rel (k + 4) u v') v v1) u v1 := by
  obtain ⟨P, L, O, D, H, B, M, C, F, w, o, f, rfl, rfl, S, VX, VY, K, E, A, N, J⟩ := ln_get I
  unfold wpX_load
  dsimp only
  by_cases r : ln_R v1
  · obtain ⟨r, hr, rfl⟩ := r
    obtain ⟨n, q, R⟩ := ln_rts E
    obtain ⟨T, Tp⟩ : ∃ T : Nat → Prop, ∀ i j : Nat, j < 7 → (T (7 * i + j) ↔ (i ≠ r ∧ j ≠ r ∧ i ≠ j ∧ f i j < 1000 ∧ ∃ k : Nat, k ≤ n i j ∧ q i j k = r)) :=
      ln_pp (fun i j => i ≠ r ∧ j ≠ r ∧ i ≠ j ∧ f i j < 1000 ∧ ∃ k : Nat, k ≤ n i j ∧ q i j k = r)
    refine ln_xrt hr (br_f ln_10 ?_)
    refine ln_dbl (fun m x s => wX_load_13 (fun r' => wpY_load (fun r'' v' => r'' = r' ∧ i_Rel (k + 4) (P, L, O, D, H, B) v') (P, M, O, C, F) (nI r)) (nI r) P L O D H B m s x)
      (fun m x m' y s => wX_load_22 (fun r' => wpY_load (fun r'' v' => r'' = r' ∧ i_Rel (k + 4) (P, L, O, D, H, B) v') (P, M, O, C, F) (nI r))
        (wX_load_13 (fun r' => wpY_load (fun r'' v' => r'' = r' ∧ i_Rel (k + 4) (P, L, O, D, H, B) v') (P, M, O, C, F) (nI r)) (nI r) P L O D H B m) (nI r) x P L O D H B m' s y)
      (fun c s => s = nI (ln_ct T c)) (fun m s I => br_t ln_77 ?_) (fun m i s hi I => br_f (ln_n7 hi) I) (fun m m' i s hi I => br_t ln_77 (nm_r (nI_1 i) I))
      (fun m m' i j s hi hj I Z => br_f (ln_n7 hj) ?_) 0 rfl
    · -- the reference
      rw [I]
      unfold wpY_load
      dsimp only
      refine ln_ywork VY K E fun D2 A2 => ?_
      refine loop_0 (fun m c s => wY_load_8 (fun r'' v' => r'' = nI (ln_ct T 49) ∧ i_Rel (k + 4) (P, L, O, D, H, B) v') (nI r) P M O D2 F m s (nI c))
        (fun c s => s = nI (ln_ct T c)) 49 0 rfl (fun m s I => br_t ln_4949 ⟨I, J _ _ _ _⟩) (fun m c s hc I Z => br_f (ln_n49 hc) ⟨ln_70, ?_⟩)
      obtain ⟨i, j, hi, hj, rfl⟩ := ln_pair hc
      have no : ¬ T (7 * i + j) → ∀ x : Int32, x = s + 0 → ∀ y : Int32, y = nI (7 * i + j) + 1 → wY_load_8 (fun r'' v' => r'' = nI (ln_ct T 49) ∧ i_Rel (k + 4) (P, L, O, D, H, B) v') (nI r) P M O D2 F m x y :=
        fun z => nm_e (nm_r (nI_1 _) (Z _ (by rw [Int32.add_zero, I, ln_ct_f z])))
      have yes : T (7 * i + j) → ∀ x : Int32, x = s + 1 → ∀ y : Int32, y = nI (7 * i + j) + 1 → wY_load_8 (fun r'' v' => r'' = nI (ln_ct T 49) ∧ i_Rel (k + 4) (P, L, O, D, H, B) v') (nI r) P M O D2 F m x y :=
        fun z => nm_e (nm_r (nI_1 _) (Z _ (by rw [I, nI_1, ln_ct_t z])))
      refine nm_r (ln_dvp hi hj) ⟨ln_70, nm_r (ln_rmp hi hj) (ln_yrt hr (br_f ln_10 ?_))⟩
      by_cases e1 : i = j
      · exact br_t (by rw [e1]) (no (fun z => ((Tp i j hj).mp z).2.2.1 e1))
      · refine br_f (ln_ne hi hj e1) ?_
        by_cases e2 : i = r
        · exact br_t (by rw [e2]) (no (fun z => ((Tp i j hj).mp z).1 e2))
        · refine br_f (ln_ne hi hr e2) ?_
          by_cases e3 : j = r
          · exact br_t (by rw [e3]) (no (fun z => ((Tp i j hj).mp z).2.1 e3))
          · refine br_f (ln_ne hj hr e3) (ln_yhas A2 hi hj (E i j hi hj).1 (fun l => br_f ln_10 ?_) (fun l => br_t rfl (no (fun z => absurd l (by have := ((Tp i j hj).mp z).2.2.2.1; omega)))))
            refine ln_ypasses VY K E A2 hj (R i j hi hj l) hr (fun z => br_f ln_10 (yes ((Tp i j hj).mpr ?_))) (fun z => br_t rfl (no (fun y => z ?_)))
            · obtain ⟨k', h1, h2, _⟩ := z
              exact ⟨e2, e3, e1, l, k', h1, h2⟩
            · obtain ⟨_, _, _, _, k', h1, h2⟩ := (Tp i j hj).mp y
              exact ⟨k', h1, h2, Or.inl (by decide)⟩
    · -- the component
      have no : ¬ T (7 * i + j) → s = nI (ln_ct T (7 * i + j + 1)) := fun z => by rw [I, ln_ct_f z]
      by_cases e2 : i = r
      · exact br_t (by rw [e2]) (nm_r (nI_1 j) (Z s (no (fun z => ((Tp i j hj).mp z).1 e2))))
      · refine br_f (ln_ne hi hr e2) ?_
        by_cases e3 : j = r
        · exact br_t (by rw [e3]) (nm_r (nI_1 j) (Z s (no (fun z => ((Tp i j hj).mp z).2.1 e3))))
        · refine br_f (ln_ne hj hr e3) ?_
          by_cases g : i = j ∨ f i j = 1000
          · refine ln_xcomes_n E A N hi hj hr g e2 (br_t rfl (nm_r (nI_1 j) (Z s (no (fun z => ?_)))))
            obtain ⟨_, _, z3, z4, _⟩ := (Tp i j hj).mp z
            rcases g with g | g
            · exact z3 g
            · omega
          · have g1 : i ≠ j := fun z => g (Or.inl z)
            have l : f i j < 1000 := by
              have := (E i j hi hj).1
              by_cases z : f i j = 1000
              · exact absurd (Or.inr z) g
              · omega
            refine ln_xcomes E A N hj (R i j hi hj l) hr (fun z => br_f ln_10 (nm_r (e' := s + 1) rfl (nm_r (nI_1 j) (Z _ ?_))))
              (fun z => br_t rfl (nm_r (nI_1 j) (Z s (no (fun y => z ((Tp i j hj).mp y).2.2.2.2)))))
            rw [I, nI_1, ln_ct_t ((Tp i j hj).mpr ⟨e2, e3, g1, l, z⟩)]
  · refine ln_xrf r (br_t rfl ?_)
    unfold wpY_load
    dsimp only
    refine ln_ywork VY K E fun D2 A2 => ?_
    refine loop_0 (fun m c s => wY_load_8 (fun r'' v' => r'' = 0 ∧ i_Rel (k + 4) (P, L, O, D, H, B) v') v1 P M O D2 F m s (nI c))
      (fun c s => s = 0) 49 0 rfl (fun m s I => br_t ln_4949 ⟨I, J _ _ _ _⟩) (fun m c s hc I Z => br_f (ln_n49 hc) ⟨ln_70, ?_⟩)
    exact nm_e ⟨ln_70, nm_e (ln_yrf r (br_t rfl (nm_e (nm_r (nI_1 c) (Z _ (by rw [I]; rfl))))))⟩

theorem i_vc_linkLoad {k : Nat} {u : SX} {v : SY} (I : i_Rel k u v) (hk : k + 4 ≤ 2048) (v1 : Int32) (v2 : Int32) : wpX_linkLoad (fun r => wpY_linkLoad (fun r' v' => r' = r ∧ i_Rel (k + 4) u v') v v1 v2) u v1 v2 := by
  obtain ⟨P, L, O, D, H, B, M, C, F, w, o, f, rfl, rfl, S, VX, VY, K, E, A, N, J⟩ := ln_get I
  by_cases r : ln_R v1 ∧ ln_R v2
  · obtain ⟨⟨a, ha, rfl⟩, ⟨b, hb, rfl⟩⟩ := r
    by_cases wz : w a b = 0
    · -- none that counts
      have y : wpY_linkLoad (fun r' v' => r' = 0 ∧ i_Rel (k + 4) (P, L, O, D, H, B) v') (P, M, O, C, F) (nI a) (nI b) := by
        unfold wpY_linkLoad
        dsimp only
        refine ln_ywork VY K E fun D2 A2 => ⟨1, ?_⟩
        have g : wY_linkLoad_9 (fun r' v' => r' = 0 ∧ i_Rel (k + 4) (P, L, O, D, H, B) v') (nI a) (nI b) P M O D2 F 1 0 (nI 0) :=
          br_f (ln_n49 (by omega)) (ln_ycounts VY ha hb (fun z _ => absurd wz z) (fun _ => br_t rfl ⟨rfl, J _ _ _ _⟩))
        exact g
      unfold wpX_linkLoad
      dsimp only
      exact ln_xlink ha hb (fun _ => br_f ln_10 (ln_xcounts VX ha hb (fun z _ => absurd wz z) (fun _ => br_t rfl y))) (fun _ => br_t rfl y)
    · obtain ⟨n, q, R⟩ := ln_rts E
      obtain ⟨T, Tp⟩ : ∃ T : Nat → Prop, ∀ i j : Nat, j < 7 → (T (7 * i + j) ↔ (i ≠ j ∧ f i j < 1000 ∧ ∃ k : Nat, ln_Al (n i j) (q i j) a b k)) :=
        ln_pp (fun i j => i ≠ j ∧ f i j < 1000 ∧ ∃ k : Nat, ln_Al (n i j) (q i j) a b k)
      have pz : ¬ P (7 * a + b) = 0 := by
        intro z
        obtain ⟨_, _, _, s4, _⟩ := S a b ha hb
        exact wz ((VX.2 a b ha hb).1 (Or.inl (s4 z)))
      unfold wpX_linkLoad
      dsimp only
      refine ln_xlink ha hb (fun _ => br_f ln_10 (ln_xcounts VX ha hb (fun _ _ => br_f ln_10 ?_) (fun z => absurd z wz))) (fun z => absurd z pz)
      refine ln_dbl (fun m x s => wX_linkLoad_25 (fun r' => wpY_linkLoad (fun r'' v' => r'' = r' ∧ i_Rel (k + 4) (P, L, O, D, H, B) v') (P, M, O, C, F) (nI a) (nI b)) (nI a) (nI b) P L O D H B m s x)
        (fun m x m' y s => wX_linkLoad_35 (fun r' => wpY_linkLoad (fun r'' v' => r'' = r' ∧ i_Rel (k + 4) (P, L, O, D, H, B) v') (P, M, O, C, F) (nI a) (nI b))
          (wX_linkLoad_25 (fun r' => wpY_linkLoad (fun r'' v' => r'' = r' ∧ i_Rel (k + 4) (P, L, O, D, H, B) v') (P, M, O, C, F) (nI a) (nI b)) (nI a) (nI b) P L O D H B m) (nI a) (nI b) x P L O D H B m' s y)
        (fun c s => s = nI (ln_ct T c)) (fun m s I => br_t ln_77 ?_) (fun m i s hi I => br_f (ln_n7 hi) I) (fun m m' i s hi I => br_t ln_77 (nm_r (nI_1 i) I))
        (fun m m' i j s hi hj I Z => br_f (ln_n7 hj) ?_) 0 rfl
      · -- the reference
        rw [I]
        unfold wpY_linkLoad
        dsimp only
        refine ln_ywork VY K E fun D2 A2 => ?_
        refine loop_0 (fun m c s => wY_linkLoad_9 (fun r'' v' => r'' = nI (ln_ct T 49) ∧ i_Rel (k + 4) (P, L, O, D, H, B) v') (nI a) (nI b) P M O D2 F m s (nI c))
          (fun c s => s = nI (ln_ct T c)) 49 0 rfl (fun m s I => br_t ln_4949 ⟨I, J _ _ _ _⟩)
          (fun m c s hc I Z => br_f (ln_n49 hc) (ln_ycounts VY ha hb (fun _ _ => br_f ln_10 ⟨ln_70, ?_⟩) (fun z => absurd z wz)))
        obtain ⟨i, j, hi, hj, rfl⟩ := ln_pair hc
        have no : ¬ T (7 * i + j) → ∀ x : Int32, x = s + 0 → ∀ y : Int32, y = nI (7 * i + j) + 1 → wY_linkLoad_9 (fun r'' v' => r'' = nI (ln_ct T 49) ∧ i_Rel (k + 4) (P, L, O, D, H, B) v') (nI a) (nI b) P M O D2 F m x y :=
          fun z => nm_e (nm_r (nI_1 _) (Z _ (by rw [Int32.add_zero, I, ln_ct_f z])))
        have yes : T (7 * i + j) → ∀ x : Int32, x = s + 1 → ∀ y : Int32, y = nI (7 * i + j) + 1 → wY_linkLoad_9 (fun r'' v' => r'' = nI (ln_ct T 49) ∧ i_Rel (k + 4) (P, L, O, D, H, B) v') (nI a) (nI b) P M O D2 F m x y :=
          fun z => nm_e (nm_r (nI_1 _) (Z _ (by rw [I, nI_1, ln_ct_t z])))
        refine nm_r (ln_dvp hi hj) ⟨ln_70, nm_r (ln_rmp hi hj) ?_⟩
        by_cases e1 : i = j
        · exact br_t (by rw [e1]) (no (fun z => ((Tp i j hj).mp z).1 e1))
        · refine br_f (ln_ne hi hj e1) (ln_yhas A2 hi hj (E i j hi hj).1 (fun l => br_f ln_10 ?_) (fun l => br_t rfl (no (fun z => absurd l (by have := ((Tp i j hj).mp z).2.1; omega)))))
          have Rij := R i j hi hj l
          have x0 : ∀ x : Nat, x < 7 → ¬ nI x < 0 := fun x hx => nI_pos (by omega)
          have q7 : ∀ t : Nat, t < n i j → q i j (t + 1) < 7 := fun t ht => (Rij.2.2.2.1 (t + 1) (by omega)).1
          refine ln_ypasses VY K E A2 hj Rij ha (fun z => br_f ln_10 (yes ((Tp i j hj).mpr ⟨e1, l, ?_⟩))) (fun z => br_t rfl
            (ln_ypasses VY K E A2 hj Rij hb (fun y => br_f ln_10 (yes ((Tp i j hj).mpr ⟨e1, l, ?_⟩))) (fun y => br_t rfl (no (fun x => ?_)))))
          · obtain ⟨t, _, h2, h3⟩ := z
            rcases h3 with h3 | ⟨h3, h4⟩
            · exact absurd h3 (x0 b hb)
            · exact ⟨t, h3, Or.inl ⟨h2, (nI_eq (by have := q7 t h3; omega) (by omega)).mp h4⟩⟩
          · obtain ⟨t, _, h2, h3⟩ := y
            rcases h3 with h3 | ⟨h3, h4⟩
            · exact absurd h3 (x0 a ha)
            · exact ⟨t, h3, Or.inr ⟨h2, (nI_eq (by have := q7 t h3; omega) (by omega)).mp h4⟩⟩
          · obtain ⟨_, _, t, h3, h4⟩ := (Tp i j hj).mp x
            rcases h4 with ⟨h4, h5⟩ | ⟨h4, h5⟩
            · exact z ⟨t, by omega, h4, Or.inr ⟨h3, by rw [h5]⟩⟩
            · exact y ⟨t, by omega, h4, Or.inr ⟨h3, by rw [h5]⟩⟩
      · -- the component
        have no : ¬ T (7 * i + j) → s = nI (ln_ct T (7 * i + j + 1)) := fun z => by rw [I, ln_ct_f z]
        by_cases g : i = j ∨ f i j = 1000
        · refine ln_xgoes_n E A N hi hj ha hb g (br_t rfl (nm_r (nI_1 j) (Z s (no (fun z => ?_)))))
          obtain ⟨z3, z4, _⟩ := (Tp i j hj).mp z
          rcases g with g | g
          · exact z3 g
          · omega
        · have g1 : i ≠ j := fun z => g (Or.inl z)
          have l : f i j < 1000 := by
            have := (E i j hi hj).1
            by_cases z : f i j = 1000
            · exact absurd (Or.inr z) g
            · omega
          refine ln_xgoes E A N hj (R i j hi hj l) ha hb (fun z => br_f ln_10 (nm_e (nm_r (nI_1 j) (Z _ ?_))))
            (fun z => br_t rfl (nm_r (nI_1 j) (Z s (no (fun y => z ((Tp i j hj).mp y).2.2)))))
          rw [I, nI_1, ln_ct_t ((Tp i j hj).mpr ⟨g1, l, z⟩)]
  · unfold wpX_linkLoad
    dsimp only
    refine ln_xlink_n r (br_t rfl ?_)
    unfold wpY_linkLoad
    dsimp only
    refine ln_ywork VY K E fun D2 A2 => ⟨1, ?_⟩
    have g : wY_linkLoad_9 (fun r' v' => r' = 0 ∧ i_Rel (k + 4) (P, L, O, D, H, B) v') v1 v2 P M O D2 F 1 0 (nI 0) :=
      br_f (ln_n49 (by omega)) (ln_ycounts_n r (br_t rfl ⟨rfl, J _ _ _ _⟩))
    exact g

