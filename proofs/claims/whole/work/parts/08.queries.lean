/-! part 08: the calls that ask -/

theorem i_vc_cost {k : Nat} {u : SX} {v : SY} (I : i_Rel k u v) (hk : k + 4 ≤ 2048) (v1 : Int32) (v2 : Int32) : wpX_cost (fun r => wpY_cost (fun r' => r' = r ∧ i_Rel (k + 4) u v) v v1 v2) u v1 v2 := by
  obtain ⟨P, L, O, D, H, B, M, C, F, w, o, f, rfl, rfl, S, VX, VY, K, E, A, N, J⟩ := ln_get I
  unfold wpX_cost wpY_cost
  dsimp only
  by_cases r : ln_R v1 ∧ ln_R v2
  · obtain ⟨⟨a, ha, rfl⟩, ⟨b, hb, rfl⟩⟩ := r
    refine ln_xlink ha hb (fun z => br_f ln_10 (ln_xplace ha hb fun t et it => ⟨it, ?_⟩))
      (fun z => br_t rfl (ln_ylk S ha hb (fun y => absurd z y) (fun _ => br_t rfl ⟨rfl, J _ _ _ _⟩)))
    refine ln_ylk S ha hb (fun _ => br_f ln_10 ⟨ln_yin ha hb, ?_⟩) (fun y => absurd y z)
    rw [et, ln_yi ha hb]
    exact ⟨rfl, J _ _ _ _⟩
  · exact ln_xlink_n r (br_t rfl (ln_ylink_n r (br_t rfl ⟨rfl, J _ _ _ _⟩)))

theorem i_vc_distance {k : Nat} {u : SX} {v : SY} (I : i_Rel k u v) (hk : k + 4 ≤ 2048) (v1 : Int32) (v2 : Int32) : wpX_distance (fun r => wpY_distance (fun r' v' => r' = r ∧ i_Rel (k + 4) u v') v v1 v2) u v1 v2 := by
  obtain ⟨P, L, O, D, H, B, M, C, F, w, o, f, rfl, rfl, S, VX, VY, K, E, A, N, J⟩ := ln_get I
  unfold wpX_distance wpY_distance
  dsimp only
  by_cases r : ln_R v1 ∧ ln_R v2
  · obtain ⟨⟨a, ha, rfl⟩, ⟨b, hb, rfl⟩⟩ := r
    have hf := (E a b ha hb).1
    refine ln_xroute A ha hb hf (fun l => br_f ln_10 (ln_xplace ha hb fun t et it => ⟨it, ?_⟩)) (fun l => br_t rfl ?_)
    · refine ln_ywork VY K E fun D2 A2 => ln_yhas A2 ha hb hf (fun _ => br_f ln_10 ⟨ln_yin ha hb, ?_⟩) (fun z => absurd z (by omega))
      dsimp only
      rw [et, ln_yi ha hb, A a b ha hb, A2 a b ha hb]
      exact ⟨rfl, J _ _ _ _⟩
    · exact ln_ywork VY K E fun D2 A2 => ln_yhas A2 ha hb hf (fun z => absurd l (by omega)) (fun _ => br_t rfl ⟨rfl, J _ _ _ _⟩)
  · exact ln_xroute_n r (br_t rfl (ln_ywork VY K E fun D2 A2 => ln_yhas_n r (br_t rfl ⟨rfl, J _ _ _ _⟩)))

theorem i_vc_nextHop {k : Nat} {u : SX} {v : SY} (I : i_Rel k u v) (hk : k + 4 ≤ 2048) (v1 : Int32) (v2 : Int32) : wpX_nextHop (fun r => wpY_nextHop (fun r' v' => r' = r ∧ i_Rel (k + 4) u v') v v1 v2) u v1 v2 := by
  obtain ⟨P, L, O, D, H, B, M, C, F, w, o, f, rfl, rfl, S, VX, VY, K, E, A, N, J⟩ := ln_get I
  by_cases r : ln_R v1 ∧ ln_R v2
  · obtain ⟨⟨a, ha, rfl⟩, ⟨b, hb, rfl⟩⟩ := r
    have hf := (E a b ha hb).1
    by_cases e : a = b
    · subst e
      refine ln_xnext_m E A N ha hb (Or.inl rfl) ?_
      unfold wpY_nextHop
      dsimp only
      exact ln_ywork VY K E fun D2 A2 => br_t rfl ⟨rfl, J _ _ _ _⟩
    · by_cases l : f a b < 1000
      · refine ln_xnext E A N ha hb fun t ht => ?_
        obtain ⟨j, ej, hj⟩ := ht.2 e l
        unfold wpY_nextHop
        dsimp only
        refine ln_ywork VY K E fun D2 A2 => br_f (ln_ne ha hb e) (ln_yhas A2 ha hb hf (fun _ => br_f ln_10 ?_) (fun z => absurd z (by omega)))
        refine ln_yhop VY K E A2 ha hb e l fun i hi => ⟨?_, J _ _ _ _⟩
        rw [ej, ln_hop_uniq hi hj]
      · refine ln_xnext_m E A N ha hb (Or.inr (by omega)) ?_
        unfold wpY_nextHop
        dsimp only
        exact ln_ywork VY K E fun D2 A2 => br_f (ln_ne ha hb e) (ln_yhas A2 ha hb hf (fun z => absurd z l) (fun _ => br_t rfl ⟨rfl, J _ _ _ _⟩))
  · unfold wpX_nextHop wpY_nextHop
    dsimp only
    refine ln_xroute_n r (br_t rfl (ln_ywork VY K E fun D2 A2 => ?_))
    exact br_c (fun _ => ⟨rfl, J _ _ _ _⟩) (fun _ => ln_yhas_n r (br_t rfl ⟨rfl, J _ _ _ _⟩))

theorem i_vc_hops {k : Nat} {u : SX} {v : SY} (I : i_Rel k u v) (hk : k + 4 ≤ 2048) (v1 : Int32) (v2 : Int32) : wpX_hops (fun r => wpY_hops (fun r' v' => r' = r ∧ i_Rel (k + 4) u v') v v1 v2) u v1 v2 := by
  obtain ⟨P, L, O, D, H, B, M, C, F, w, o, f, rfl, rfl, S, VX, VY, K, E, A, N, J⟩ := ln_get I
  by_cases r : ln_R v1 ∧ ln_R v2
  · obtain ⟨⟨a, ha, rfl⟩, ⟨b, hb, rfl⟩⟩ := r
    have hf := (E a b ha hb).1
    by_cases l : f a b < 1000
    · obtain ⟨n, q, R⟩ := ln_rt E ha hb l
      refine ln_xhops E A N ha hb l R ?_
      unfold wpY_hops
      dsimp only
      exact ln_ywork VY K E fun D2 A2 => ln_yhas A2 ha hb hf (fun _ => br_f ln_10 (ln_ycount VY K E A2 hb R ⟨rfl, J _ _ _ _⟩)) (fun z => absurd z (by omega))
    · unfold wpX_hops wpY_hops
      dsimp only
      exact ln_xroute A ha hb hf (fun z => absurd z l) (fun _ => br_t rfl (ln_ywork VY K E fun D2 A2 => ln_yhas A2 ha hb hf (fun z => absurd z l) (fun _ => br_t rfl ⟨rfl, J _ _ _ _⟩)))
  · unfold wpX_hops wpY_hops
    dsimp only
    exact ln_xroute_n r (br_t rfl (ln_ywork VY K E fun D2 A2 => ln_yhas_n r (br_t rfl ⟨rfl, J _ _ _ _⟩)))

theorem ln_min (n t : Nat) : ∃ e : Nat, e ≤ n ∧ e ≤ t ∧ (e = n ∨ e = t) := by
  by_cases h : n ≤ t
  · exact ⟨n, Nat.le_refl n, h, Or.inl rfl⟩
  · exact ⟨t, by omega, Nat.le_refl t, Or.inr rfl⟩

theorem i_vc_after {k : Nat} {u : SX} {v : SY} (I : i_Rel k u v) (hk : k + 4 ≤ 2048) (v1 : Int32) (v2 : Int32) (v3 : Int32) : wpX_after (fun r => wpY_after (fun r' v' => r' = r ∧ i_Rel (k + 4) u v') v v1 v2 v3) u v1 v2 v3 := by
  obtain ⟨P, L, O, D, H, B, M, C, F, w, o, f, rfl, rfl, S, VX, VY, K, E, A, N, J⟩ := ln_get I
  by_cases r : ln_R v1 ∧ ln_R v2
  · obtain ⟨⟨a, ha, rfl⟩, ⟨b, hb, rfl⟩⟩ := r
    have hf := (E a b ha hb).1
    by_cases l : f a b < 1000
    · obtain ⟨n, q, R⟩ := ln_rt E ha hb l
      obtain ⟨t, T⟩ := ln_T v3
      obtain ⟨e, e1, e2, e3⟩ := ln_min n t
      refine ln_xafter E A N ha hb l R T e1 e2 e3 ?_
      unfold wpY_after
      dsimp only
      exact ln_ywork VY K E fun D2 A2 => ln_yhas A2 ha hb hf (fun _ => br_f ln_10 (ln_ywalk VY K E A2 hb R T e1 e2 e3 ⟨rfl, J _ _ _ _⟩)) (fun z => absurd z (by omega))
    · unfold wpX_after wpY_after
      dsimp only
      exact ln_xroute A ha hb hf (fun z => absurd z l) (fun _ => br_t rfl (ln_ywork VY K E fun D2 A2 => ln_yhas A2 ha hb hf (fun z => absurd z l) (fun _ => br_t rfl ⟨rfl, J _ _ _ _⟩)))
  · unfold wpX_after wpY_after
    dsimp only
    exact ln_xroute_n r (br_t rfl (ln_ywork VY K E fun D2 A2 => ln_yhas_n r (br_t rfl ⟨rfl, J _ _ _ _⟩)))

/-- hops where there is no distance -/
theorem ln_xhops_n {P L O D H B : Nat → Int32} {f : Nat → Nat → Nat} {post : Int32 → Prop} (A : ln_A D f) {a b : Nat} (ha : a < 7) (hb : b < 7) (l : f a b = 1000)
    (h : post (-1)) : wpX_hops post (P, L, O, D, H, B) (nI a) (nI b) := by
  unfold wpX_hops
  dsimp only
  exact ln_xroute A ha hb (by omega) (fun z => absurd l (by omega)) (fun _ => br_t rfl h)
theorem ln_xhops_m {P L O D H B : Nat → Int32} {post : Int32 → Prop} {x y : Int32} (r : ¬ (ln_R x ∧ ln_R y)) (h : post (-1)) :
    wpX_hops post (P, L, O, D, H, B) x y := by
  unfold wpX_hops
  dsimp only
  exact ln_xroute_n r (br_t rfl h)

theorem i_vc_routeAt {k : Nat} {u : SX} {v : SY} (I : i_Rel k u v) (hk : k + 4 ≤ 2048) (v1 : Int32) (v2 : Int32) (v3 : Int32) : wpX_routeAt (fun r => wpY_routeAt (fun r' v' => r' = r ∧ i_Rel (k + 4) u v') v v1 v2 v3) u v1 v2 v3 := by
  obtain ⟨P, L, O, D, H, B, M, C, F, w, o, f, rfl, rfl, S, VX, VY, K, E, A, N, J⟩ := ln_get I
  -- the reference's NONE
  have yn : ∀ R' : Int32, R' = -1 → (¬ (ln_R v1 ∧ ln_R v2) ∨ (∃ a b : Nat, a < 7 ∧ b < 7 ∧ v1 = nI a ∧ v2 = nI b ∧ f a b = 1000)) →
      wpY_routeAt (fun r' v' => r' = R' ∧ i_Rel (k + 4) (P, L, O, D, H, B) v') (P, M, O, C, F) v1 v2 v3 := by
    intro R' e z
    subst e
    unfold wpY_routeAt
    dsimp only
    refine ln_ywork VY K E fun D2 A2 => ?_
    rcases z with z | ⟨a, b, ha, hb, rfl, rfl, l⟩
    · exact ln_yhas_n z (br_t rfl ⟨rfl, J _ _ _ _⟩)
    · exact ln_yhas A2 ha hb (by omega) (fun z => absurd l (by omega)) (fun _ => br_t rfl ⟨rfl, J _ _ _ _⟩)
  have neg : ¬ v3 < 0 → ¬ v3 ≤ -1 := fun a b => a (Int32.lt_of_le_of_lt b (by decide))
  by_cases r : ln_R v1 ∧ ln_R v2
  · obtain ⟨⟨a, ha, rfl⟩, ⟨b, hb, rfl⟩⟩ := r
    have hf := (E a b ha hb).1
    by_cases l : f a b < 1000
    · obtain ⟨n, q, R⟩ := ln_rt E ha hb l
      have n6 := R.1
      by_cases m : v3 < 0
      · unfold wpX_routeAt wpY_routeAt
        dsimp only
        exact br_t m (ln_ywork VY K E fun D2 A2 => ln_yhas A2 ha hb hf (fun _ => br_f ln_10 (br_t m ⟨rfl, J _ _ _ _⟩)) (fun z => absurd z (by omega)))
      · obtain ⟨j, hj, rfl⟩ := nI_of m
        unfold wpX_routeAt wpY_routeAt
        dsimp only
        refine br_f m (ln_xhops E A N ha hb l R ?_)
        by_cases c : j ≤ n
        · refine br_t (nI_le c (by omega)) (ln_xafter E A N ha hb l R (ln_TnI hj) c (Nat.le_refl j) (Or.inr rfl) ?_)
          exact ln_ywork VY K E fun D2 A2 => ln_yhas A2 ha hb hf (fun _ => br_f ln_10 (br_f m (ln_ycount VY K E A2 hb R
            (br_f (nI_nlt c (by omega)) (ln_ywalk_k VY K E A2 hb R c ⟨rfl, J _ _ _ _⟩))))) (fun z => absurd z (by omega))
        · refine br_f (nI_ge (by omega) hj) ?_
          exact ln_ywork VY K E fun D2 A2 => ln_yhas A2 ha hb hf (fun _ => br_f ln_10 (br_f m (ln_ycount VY K E A2 hb R
            (br_t (nI_lt (by omega) hj) ⟨rfl, J _ _ _ _⟩)))) (fun z => absurd z (by omega))
    · have y := yn (-1) rfl (Or.inr ⟨a, b, ha, hb, rfl, rfl, by omega⟩)
      unfold wpX_routeAt
      dsimp only
      exact br_c (fun _ => y) (fun m => ln_xhops_n A ha hb (by omega) (br_f (neg m) y))
  · have y := yn (-1) rfl (Or.inl r)
    unfold wpX_routeAt
    dsimp only
    exact br_c (fun _ => y) (fun m => ln_xhops_m r (br_f (neg m) y))

