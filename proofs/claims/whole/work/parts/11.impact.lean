/-! part 11: impact -/

/-- the codes of all pairs: 0 where there is no route -/
def ln_CX (f n : Nat → Nat → Nat) (q : Nat → Nat → Nat → Nat) (s d : Nat) : Nat := if f s d < 1000 then ln_cx (q s d) (n s d) else 0
def ln_CY (f n : Nat → Nat → Nat) (q : Nat → Nat → Nat → Nat) (s d : Nat) : Nat := if f s d < 1000 then ln_cy (q s d) (n s d) else 0
/-- n and q are the routes of all pairs -/
def ln_RS (w f n : Nat → Nat → Nat) (q : Nat → Nat → Nat → Nat) : Prop :=
  ∀ s d : Nat, s < 7 → d < 7 → f s d < 1000 → ln_Rt w f s d (n s d) (q s d)

theorem ln_CX_b {w f n : Nat → Nat → Nat} {q : Nat → Nat → Nat → Nat} (R : ln_RS w f n q) {s d : Nat} (hs : s < 7) (hd : d < 7) : ln_CX f n q s d < 2 ^ 31 := by
  unfold ln_CX
  by_cases l : f s d < 1000
  · rw [if_pos l]
    have r := R s d hs hd l
    have a := (ln_cx_b (n s d) (fun k hk => (r.2.2.2.1 k hk).1)).2
    have b : 8 ^ (n s d + 1) ≤ 8 ^ 7 := Nat.pow_le_pow_right (by decide) (by have := r.1; omega)
    have c : 8 ^ 7 < 2 ^ 31 := by decide
    omega
  · rw [if_neg l]; decide
theorem ln_CY_b {w f n : Nat → Nat → Nat} {q : Nat → Nat → Nat → Nat} (R : ln_RS w f n q) {s d : Nat} (hs : s < 7) (hd : d < 7) : ln_CY f n q s d < 2 ^ 31 := by
  unfold ln_CY
  by_cases l : f s d < 1000
  · rw [if_pos l]
    have r := R s d hs hd l
    have a := (ln_cy_b (n s d) (fun k hk => (r.2.2.2.1 k hk).1)).2
    have b : 8 ^ (n s d + 1) ≤ 8 ^ 7 := Nat.pow_le_pow_right (by decide) (by have := r.1; omega)
    have c : 2 * 8 ^ 7 < 2 ^ 31 := by decide
    omega
  · rw [if_neg l]; decide

theorem ln_CC {w f n w' f' n' : Nat → Nat → Nat} {q q' : Nat → Nat → Nat → Nat} (R : ln_RS w f n q) (R' : ln_RS w' f' n' q') {s d : Nat} (hs : s < 7) (hd : d < 7) :
    ln_CX f' n' q' s d = ln_CX f n q s d ↔ ln_CY f' n' q' s d = ln_CY f n q s d := by
  unfold ln_CX ln_CY
  by_cases l : f s d < 1000
  · have r := R s d hs hd l
    have r7 : ∀ k : Nat, k ≤ n s d → q s d k < 7 := fun k hk => (r.2.2.2.1 k hk).1
    by_cases l' : f' s d < 1000
    · have r' := R' s d hs hd l'
      rw [if_pos l, if_pos l, if_pos l', if_pos l']
      exact ln_code _ _ (fun k hk => (r'.2.2.2.1 k hk).1) r7
    · have a := (ln_cx_b (n s d) r7).1
      have b := (ln_cy_b (n s d) r7).1
      rw [if_pos l, if_pos l, if_neg l', if_neg l']
      omega
  · by_cases l' : f' s d < 1000
    · have r' := R' s d hs hd l'
      have r7 : ∀ k : Nat, k ≤ n' s d → q' s d k < 7 := fun k hk => (r'.2.2.2.1 k hk).1
      have a := (ln_cx_b (n' s d) r7).1
      have b := (ln_cy_b (n' s d) r7).1
      rw [if_neg l, if_neg l, if_pos l', if_pos l']
      omega
    · rw [if_neg l, if_neg l, if_neg l', if_neg l']

theorem ln_xpk {P L O D H B : Nat → Int32} {w : Nat → Nat → Nat} {o : Nat → Prop} {f n : Nat → Nat → Nat} {q : Nat → Nat → Nat → Nat} {post : Int32 → Prop}
    (E : ln_Bel w o f) (A : ln_A D f) (N : ln_HH w f H) (R : ln_RS w f n q) {s d : Nat} (hs : s < 7) (hd : d < 7) (h : post (nI (ln_CX f n q s d))) :
    wpX_packedRoute post (P, L, O, D, H, B) (nI s) (nI d) := by
  unfold ln_CX at h
  by_cases l : f s d < 1000
  · rw [if_pos l] at h
    exact ln_xpacked E A N hs hd l (R s d hs hd l) h
  · rw [if_neg l] at h
    exact ln_xpacked_n A hs hd (by have := (E s d hs hd).1; omega) h
theorem ln_ypk {P M O D B : Nat → Int32} {w : Nat → Nat → Nat} {o : Nat → Prop} {f n : Nat → Nat → Nat} {q : Nat → Nat → Nat → Nat} {post : Int32 → Prop}
    (V : ln_VY w o P M O) (K : ln_Ok w o) (E : ln_Bel w o f) (A : ln_A D f) (R : ln_RS w f n q) {s d : Nat} (hs : s < 7) (hd : d < 7) (h : post (nI (ln_CY f n q s d))) :
    wpY_route post (P, M, O, D, B) (nI s) (nI d) := by
  unfold ln_CY at h
  by_cases l : f s d < 1000
  · rw [if_pos l] at h
    exact ln_yroute V K E A hs hd l (R s d hs hd l) h
  · rw [if_neg l] at h
    exact ln_yroute_n A hs hd (by have := (E s d hs hd).1; omega) h

theorem ln_xremember {P L O D H B : Nat → Int32} {w : Nat → Nat → Nat} {o : Nat → Prop} {f n : Nat → Nat → Nat} {q : Nat → Nat → Nat → Nat} {post : SX → Prop}
    (E : ln_Bel w o f) (A : ln_A D f) (N : ln_HH w f H) (R : ln_RS w f n q)
    (h : ∀ B' : Nat → Int32, ln_A B' (ln_CX f n q) → post (P, L, O, D, H, B')) : wpX_rememberRoutes post (P, L, O, D, H, B) := by
  unfold wpX_rememberRoutes
  dsimp only
  refine ln_dbl (fun m x s => wX_rememberRoutes_2 post m x P L O D H s)
    (fun m x m' y s => wX_rememberRoutes_10 post (wX_rememberRoutes_2 post m) x m' y P L O D H s)
    (fun c s => ln_Q (fun a b x => x = nI (ln_CX f n q a b)) c s)
    (fun m s I => br_t ln_77 (h s (ln_QA I)))
    (fun m i s hi I => br_f (ln_n7 hi) I)
    (fun m m' i s hi I => br_t ln_77 (nm_r (nI_1 i) I))
    (fun m m' i j s hi hj I k => br_f (ln_n7 hj) (ln_xplace hi hj fun r er ir => ln_xpk E A N R hi hj ⟨ir, ?_⟩)) B ln_Q0
  rw [er]
  exact nm_e (nm_r (nI_1 j) (k _ (ln_Qs hj I rfl)))

theorem ln_xchanged {P L O D H B : Nat → Int32} {w : Nat → Nat → Nat} {o : Nat → Prop} {f n g : Nat → Nat → Nat} {q : Nat → Nat → Nat → Nat} {post : Int32 → Prop}
    (E : ln_Bel w o f) (A : ln_A D f) (N : ln_HH w f H) (R : ln_RS w f n q) (G : ln_A B g) (gb : ∀ a b : Nat, a < 7 → b < 7 → g a b < 2 ^ 31)
    (h : post (nI (ln_ct (fun c => ¬ ln_CX f n q (c / 7) (c % 7) = g (c / 7) (c % 7)) 49))) : wpX_countChangedRoutes post (P, L, O, D, H, B) := by
  unfold wpX_countChangedRoutes
  dsimp only
  refine ln_dbl (fun m x s => wX_countChangedRoutes_4 post P L O D H B m s x)
    (fun m x m' y s => wX_countChangedRoutes_12 post (wX_countChangedRoutes_4 post P L O D H B m) x P L O D H B m' s y)
    (fun c s => s = nI (ln_ct (fun c => ¬ ln_CX f n q (c / 7) (c % 7) = g (c / 7) (c % 7)) c))
    (fun m s I => br_t ln_77 (by rw [I]; exact h))
    (fun m i s hi I => br_f (ln_n7 hi) I)
    (fun m m' i s hi I => br_t ln_77 (nm_r (nI_1 i) I))
    (fun m m' i j s hi hj I k => br_f (ln_n7 hj) (ln_xpk E A N R hi hj (ln_xplace hi hj fun r er ir => ⟨ir, ?_⟩))) 0 rfl
  rw [er, G i j hi hj]
  have d := ln_dm (i := i) hj
  by_cases z : ln_CX f n q i j = g i j
  · refine br_t (by rw [z]) (nm_r (nI_1 j) (k s ?_))
    rw [I, ln_ct_f (by show ¬ ¬ _; rw [d.1, d.2]; exact fun y => y z)]
  · refine br_f (fun y => z ((nI_eq (ln_CX_b R hi hj) (gb i j hi hj)).mp y)) (nm_e (nm_r (nI_1 j) (k _ ?_)))
    rw [I, nI_1, ln_ct_t (by show ¬ _; rw [d.1, d.2]; exact z)]

/-- the reference's impact; f, n, q before, f', n', q' with the link turned -/
theorem ln_yimpact {P L M O C F : Nat → Int32} {w w' : Nat → Nat → Nat} {o o' : Nat → Prop} {f n f' n' : Nat → Nat → Nat} {q q' : Nat → Nat → Nat → Nat}
    {post : Int32 → SY → Prop} (S : ln_S P L M) {a b : Nat} (ha : a < 7) (hb : b < 7) (z : ¬ P (7 * a + b) = 0) {up nu : Int32} (eu : M (7 * a + b) = up)
    (hu : (up = 0 ∧ nu = 1) ∨ (up = 1 ∧ nu = 0)) (S1 : ln_S P (ln_U L a b nu) (ln_U M a b nu))
    (V : ln_VY w o P M O) (K : ln_Ok w o) (E : ln_Bel w o f) (R : ln_RS w f n q)
    (V' : ln_VY w' o' P (ln_U M a b nu) O) (K' : ln_Ok w' o') (E' : ln_Bel w' o' f') (R' : ln_RS w' f' n' q')
    (h : ∀ C' F' : Nat → Int32, post (nI (ln_ct (fun c => ¬ ln_CY f' n' q' (c / 7) (c % 7) = ln_CY f n q (c / 7) (c % 7)) 49)) (P, ln_U (ln_U M a b nu) a b up, O, C', F')) :
    wpY_impact post (P, M, O, C, F) (nI a) (nI b) := by
  unfold wpY_impact
  dsimp only
  refine ln_ylk S ha hb (fun _ => br_f ln_10 (ln_ywork V K E fun D2 A2 => ?_)) (fun y => absurd y z)
  have bu : vp_nar .boolean up = up := by rcases hu with ⟨e, _⟩ | ⟨e, _⟩ <;> rw [e] <;> decide
  have bn : vp_nar .boolean nu = nu := by rcases hu with ⟨_, e⟩ | ⟨_, e⟩ <;> rw [e] <;> decide
  -- the second half: the routes are remembered in F1
  have half : ∀ F1 : Nat → Int32, ln_A F1 (ln_CY f n q) → wY_impact_71 post (nI a) (nI b) up nu (nI b) (nI a) P M O D2 F1 := by
    intro F1 G
    unfold wY_impact_71
    refine ln_ysetLink S ha hb bn z ?_
    refine ln_ywork V' K' E' fun D3 A3 => ?_
    refine loop_0 (fun m c s => wY_impact_85 post (nI a) (nI b) up P (ln_U M a b nu) O D3 F1 m s (nI c))
      (fun c s => s = nI (ln_ct (fun c => ¬ ln_CY f' n' q' (c / 7) (c % 7) = ln_CY f n q (c / 7) (c % 7)) c)) 49 0 rfl
      (fun m s I => br_t ln_4949 ?_) (fun m c s hc I Z => br_f (ln_n49 hc) ⟨ln_70, ln_70, ?_⟩)
    · refine ln_ysetLink S1 ha hb bu z ?_
      rw [I]
      exact h D3 F1
    · obtain ⟨i, j, hi, hj, rfl⟩ := ln_pair hc
      have d := ln_dm (i := i) hj
      rw [ln_rmp hi hj, ln_dvp hi hj]
      refine ln_ypk V' K' E' A3 R' hi hj ⟨ln_in hi hj, ?_⟩
      rw [ln_cl hi hj, G i j hi hj]
      by_cases y : ln_CY f' n' q' i j = ln_CY f n q i j
      · refine br_t (by rw [y]) (nm_e (nm_r (nI_1 _) (Z _ ?_)))
        rw [Int32.add_zero, I, ln_ct_f (by show ¬ ¬ _; rw [d.1, d.2]; exact fun x => x y)]
      · refine br_f (fun x => y ((nI_eq (ln_CY_b R' hi hj) (ln_CY_b R hi hj)).mp x)) (nm_e (nm_r (nI_1 _) (Z _ ?_)))
        rw [I, nI_1, ln_ct_t (by show ¬ _; rw [d.1, d.2]; exact y)]
  refine loop_0 (fun m c s => wY_impact_17 post (nI a) (nI b) m (nI c) P M O D2 s) (fun c s => ln_Q (fun a b x => x = nI (ln_CY f n q a b)) c s) 49 F ln_Q0
    (fun m s I => br_t ln_4949 ⟨ln_yin ha hb, ?_⟩) (fun m c s hc I Z => br_f (ln_n49 hc) ⟨ln_70, ln_70, ?_⟩)
  · rw [ln_yi ha hb, eu]
    refine nm_e ?_
    have g := half s (ln_QA I)
    rcases hu with ⟨e1, e2⟩ | ⟨e1, e2⟩
    · rw [e1, e2] at g
      rw [e1]
      exact br_t rfl g
    · rw [e1, e2] at g
      rw [e1]
      exact br_f ln_10 g
  · obtain ⟨i, j, hi, hj, rfl⟩ := ln_pair hc
    rw [ln_rmp hi hj, ln_dvp hi hj]
    refine ln_ypk V K E A2 R hi hj ⟨ln_in hi hj, ?_⟩
    rw [ln_cl hi hj]
    exact nm_e (nm_r (nI_1 _) (Z _ (ln_Qs hj I rfl)))

theorem i_vc_impact {k : Nat} {u : SX} {v : SY} (I : i_Rel k u v) (hk : k + 4 ≤ 2048) (v1 : Int32) (v2 : Int32) : wpX_impact (fun r u' => wpY_impact (fun r' v' => r' = r ∧ i_Rel (k + 4) u' v') v v1 v2) u v1 v2 := by
  obtain ⟨P, L, O, D, H, B, M, C, F, w, o, f, rfl, rfl, S, VX, VY, K, E, A, N, J⟩ := ln_get I
  unfold wpX_impact
  dsimp only
  by_cases r : ln_R v1 ∧ ln_R v2
  · obtain ⟨⟨a, ha, rfl⟩, ⟨b, hb, rfl⟩⟩ := r
    refine ln_xlink ha hb (fun z => br_f ln_10 ?_) (fun z => br_t rfl ?_)
    · obtain ⟨_, _, _, _, s5, s6⟩ := S a b ha hb
      obtain ⟨n, q, R⟩ := ln_rts E
      refine ln_xplace ha hb fun t et it => ⟨it, ?_⟩
      rw [et]
      refine nm_e (ln_xplace ha hb fun t et it => ⟨it, ?_⟩)
      rw [et]
      -- up: the mark as it stands; nu: the mark turned
      have go : ∀ up nu : Int32, L (7 * a + b) = up → ((up = 0 ∧ nu = 1) ∨ (up = 1 ∧ nu = 0)) → ∀ B1 : Nat → Int32, ln_A B1 (ln_CX f n q) →
          wX_impact_52 (fun r u' => wpY_impact (fun r' v' => r' = r ∧ i_Rel (k + 4) u' v') (P, M, O, C, F) (nI a) (nI b)) (nI a) (nI b) (P (7 * a + b)) up nu (P (7 * a + b)) (nI b) (nI a) P L O D H B1 := by
        intro up nu eL hu B1 G
        have hu2 : up = 0 ∨ up = 1 := hu.elim (fun x => Or.inl x.1) (fun x => Or.inr x.1)
        have hn2 : nu = 0 ∨ nu = 1 := hu.elim (fun x => Or.inr x.2) (fun x => Or.inl x.2)
        have bu : vp_nar .boolean up = up := by rcases hu2 with e | e <;> rw [e] <;> decide
        have bn : vp_nar .boolean nu = nu := by rcases hn2 with e | e <;> rw [e] <;> decide
        obtain ⟨id, S1⟩ := ln_S_set S ha hb z hn2
        obtain ⟨_, S2⟩ := ln_S_set S1 ha hb z hu2
        unfold wX_impact_52
        refine ln_xput ha hb bn ?_
        rw [id]
        refine ln_xfind (ln_S_X S1) (ln_S_O S1) fun D1 H1 f' E1 A1 N1 => ?_
        obtain ⟨n', q', R'⟩ := ln_rts E1
        refine ln_xchanged E1 A1 N1 R' G (fun i j hi hj => ln_CX_b R hi hj) ?_
        refine ln_xput ha hb bu ?_
        rw [id]
        refine ln_done S2 fun D3 H3 Q => ?_
        refine ln_yimpact S ha hb z ((s5 z).trans eL) hu S1 VY K E R (ln_S_Y S1) (ln_S_O S1) E1 R' fun C' F' => ⟨?_, Q _ _ _ _⟩
        refine congrArg nI (ln_ct_g 49 fun c hc => ?_)
        have cc := ln_CC R R' (s := c / 7) (d := c % 7) (by omega) (by omega)
        exact ⟨fun x y => x (cc.mp y), fun x y => x (cc.mpr y)⟩
      refine nm_e (ln_xremember E A N R fun B1 G => ?_)
      rcases s6 with e | e
      · have g := go 0 1 e (Or.inl ⟨rfl, rfl⟩) B1 G
        rw [e]
        exact br_t rfl g
      · have g := go 1 0 e (Or.inr ⟨rfl, rfl⟩) B1 G
        rw [e]
        exact br_f ln_10 g
    · unfold wpY_impact
      dsimp only
      exact ln_ylk S ha hb (fun y => absurd z y) (fun _ => br_t rfl ⟨rfl, J _ _ _ _⟩)
  · refine ln_xlink_n r (br_t rfl ?_)
    unfold wpY_impact
    dsimp only
    exact ln_ylink_n r (br_t rfl ⟨rfl, J _ _ _ _⟩)
