/-! part 04: the component's findRoutes, each method with a general post -/
section
variable {P L O D H B : Nat → Int32} {w : Nat → Nat → Nat} {o : Nat → Prop} {f : Nat → Nat → Nat}

/-- what counts, as the component sees it -/
def ln_VX (w : Nat → Nat → Nat) (o : Nat → Prop) (P L O : Nat → Int32) : Prop :=
  (∀ a : Nat, a < 7 → (O a = 0 ↔ ¬ o a)) ∧ ∀ a b : Nat, a < 7 → b < 7 →
    (L (7 * a + b) = 0 ∨ O a = 0 ∨ O b = 0 → w a b = 0) ∧
    (¬ L (7 * a + b) = 0 → ¬ O a = 0 → ¬ O b = 0 → w a b ≠ 0 ∧ P (7 * a + b) = nI (w a b))

theorem ln_xcounts {post : Int32 → Prop} (V : ln_VX w o P L O) {a b : Nat} (ha : a < 7) (hb : b < 7)
    (h1 : w a b ≠ 0 → P (7 * a + b) = nI (w a b) → post 1) (h0 : w a b = 0 → post 0) :
    wpX_counts post (P, L, O, D, H, B) (nI a) (nI b) := by
  have v := V.2 a b ha hb
  unfold wpX_counts
  dsimp only
  refine ln_xplace ha hb fun r er ir => ⟨ir, ?_⟩
  rw [er]
  refine br_c (fun z => h0 (v.1 (Or.inl z))) (fun z => ⟨ln_i7 ha, ?_⟩)
  rw [ln_c7 ha]
  refine br_c (fun y => h0 (v.1 (Or.inr (Or.inl y)))) (fun y => ⟨ln_i7 hb, ?_⟩)
  rw [ln_c7 hb]
  exact br_c (fun x => h0 (v.1 (Or.inr (Or.inr x)))) (fun x => h1 (v.2 z y x).1 (v.2 z y x).2)

/-- the direct way -/
def ln_g0 (w : Nat → Nat → Nat) (O : Nat → Int32) (a b : Nat) : Nat :=
  if a = b then (if O a = 0 then 1000 else 0) else if w a b = 0 then 1000 else w a b

theorem ln_xdirect {post : Int32 → Prop} (V : ln_VX w o P L O) {a b : Nat} (ha : a < 7) (hb : b < 7)
    (h : post (nI (ln_g0 w O a b))) : wpX_directWay post (P, L, O, D, H, B) (nI a) (nI b) := by
  unfold wpX_directWay
  dsimp only
  unfold ln_g0 at h
  by_cases e : a = b
  · subst e
    rw [if_pos rfl] at h
    refine br_t rfl ⟨ln_i7 ha, ?_⟩
    rw [ln_c7 ha]
    by_cases z : O a = 0
    · rw [if_pos z] at h; exact br_t z h
    · rw [if_neg z] at h; exact br_f z h
  · rw [if_neg e] at h
    refine br_f (ln_ne ha hb e) (ln_xcounts V ha hb (fun z p => ?_) (fun z => ?_))
    · rw [if_neg z] at h
      refine br_f ln_10 (ln_xplace ha hb fun r er ir => ⟨ir, ?_⟩)
      rw [er, p]; exact h
    · rw [if_pos z] at h
      exact br_t rfl h

theorem ln_xmeasure {post : SX → Prop} (V : ln_VX w o P L O)
    (h : ∀ D' : Nat → Int32, ln_A D' (ln_g0 w O) → post (P, L, O, D', H, B)) : wpX_measureDirectWays post (P, L, O, D, H, B) := by
  unfold wpX_measureDirectWays
  dsimp only
  refine ln_dbl (fun n x s => wX_measureDirectWays_2 post n x P L O s H B)
    (fun n x m y s => wX_measureDirectWays_10 post (wX_measureDirectWays_2 post n) x m y P L O s H B)
    (fun c s => ln_Q (fun a b x => x = nI (ln_g0 w O a b)) c s)
    (fun n s I => br_t ln_77 (h s (ln_QA I)))
    (fun n i s hi I => br_f (ln_n7 hi) I)
    (fun n m i s hi I => br_t ln_77 (nm_r (nI_1 i) I))
    (fun n m i j s hi hj I k => br_f (ln_n7 hj) (ln_xplace hi hj fun r er ir => ln_xdirect V hi hj ⟨ir, ?_⟩)) D ln_Q0
  rw [er]
  exact nm_e (nm_r (nI_1 j) (k _ (ln_Qs hj I rfl)))

theorem ln_st_le {k c : Nat} {g : Nat → Nat → Nat} (F : ln_Fl w o k f) (S : ln_ST f k c g) {s d : Nat} (hs : s < 7) (hd : d < 7) :
    g s d ≤ 1000 := by
  have a := (F s d hs hd).1
  by_cases l : 7 * s + d < c
  · have := ((S s d hs hd).1 l).1; omega
  · have := (S s d hs hd).2 l; omega

theorem ln_xshorten {post : SX → Prop} {k : Nat} (hk : k < 7) (F : ln_Fl w o k f) (A : ln_A D f)
    (h : ∀ (D' : Nat → Int32) (g : Nat → Nat → Nat), ln_A D' g → (∀ s d : Nat, s < 7 → d < 7 → ln_New f k (g s d) s d) → post (P, L, O, D', H, B)) :
    wpX_shortenWaysThrough post (P, L, O, D, H, B) (nI k) := by
  unfold wpX_shortenWaysThrough
  dsimp only
  refine ln_dbl (fun n x s => wX_shortenWaysThrough_2 post (nI k) n x P L O s H B)
    (fun n x m y s => wX_shortenWaysThrough_10 post (wX_shortenWaysThrough_2 post (nI k) n) (nI k) x m y P L O s H B)
    (fun c s => ∃ g : Nat → Nat → Nat, ln_A s g ∧ ln_ST f k c g)
    (fun n s I => br_t ln_77 ?_)
    (fun n i s hi I => br_f (ln_n7 hi) I)
    (fun n m i s hi I => br_t ln_77 (nm_r (nI_1 i) I))
    (fun n m i j s hi hj I K => br_f (ln_n7 hj) ?_) D ⟨f, A, ln_st0 f k⟩
  · obtain ⟨g, a, b⟩ := I
    exact h s g a (ln_st49 b)
  · obtain ⟨g, a, b⟩ := I
    have l1 := ln_st_le F b hi hk
    have l2 := ln_st_le F b hk hj
    have l3 := ln_st_le F b hi hj
    refine ln_xplace hi hk fun r er ir => ⟨ir, ln_xplace hk hj fun t et it => ⟨it, ?_⟩⟩
    rw [er, et, a i k hi hk, a k j hk hj, nI_add]
    refine nm_e (ln_xplace hi hj fun p ep ip => ⟨ip, ?_⟩)
    rw [ep, a i j hi hj]
    by_cases z : g i j ≤ g i k + g k j
    · refine br_t (nI_le z (by omega)) (nm_r (nI_1 j) (K s ⟨g, a, ?_⟩))
      have q := ln_sts F hk hi hj b (x := g i j) (Nat.le_refl _) z (Or.inl rfl)
      rw [ln_set_id] at q
      exact q
    · refine br_f (nI_ge (by omega) (by omega)) (ln_xplace hi hj fun q eq iq => ⟨iq, ?_⟩)
      rw [eq]
      exact nm_e (nm_r (nI_1 j) (K _ ⟨_, ln_A_set hj a, ln_sts F hk hi hj b (by omega) (Nat.le_refl _) (Or.inr rfl)⟩))

theorem ln_xroute {post : Int32 → Prop} (A : ln_A D f) {a b : Nat} (ha : a < 7) (hb : b < 7) (hf : f a b ≤ 1000)
    (h1 : f a b < 1000 → post 1) (h0 : f a b = 1000 → post 0) : wpX_isRoute post (P, L, O, D, H, B) (nI a) (nI b) := by
  unfold wpX_isRoute
  dsimp only
  refine ln_xrt ha (br_f ln_10 (ln_xrt hb (br_f ln_10 (ln_xplace ha hb fun r er ir => ⟨ir, ?_⟩))))
  rw [er, A a b ha hb]
  by_cases z : f a b = 1000
  · exact br_t (by rw [z]; rfl) (h0 z)
  · exact br_f (fun y => z ((nI_eq (b := 1000) (by omega) (by decide)).mp y)) (h1 (by omega))

theorem ln_xroute_n {post : Int32 → Prop} {x y : Int32} (hx : ¬ (ln_R x ∧ ln_R y)) (h : post 0) :
    wpX_isRoute post (P, L, O, D, H, B) x y := by
  unfold wpX_isRoute
  dsimp only
  by_cases z : ln_R x
  · obtain ⟨a, ha, e⟩ := z
    subst e
    exact ln_xrt ha (br_f ln_10 (ln_xrf (fun q => hx ⟨⟨a, ha, rfl⟩, q⟩) (br_t rfl h)))
  · exact ln_xrf z (br_t rfl h)

/-- r is what the component's next hop from s to d must be -/
def ln_HV (w f : Nat → Nat → Nat) (s d : Nat) (r : Int32) : Prop :=
  (s = d ∨ f s d = 1000 → r = -1) ∧ (s ≠ d → f s d < 1000 → ∃ j : Nat, r = nI j ∧ ln_Hop w f s d j)

theorem ln_xleast {post : Int32 → Prop} (V : ln_VX w o P L O) (E : ln_Bel w o f) (A : ln_A D f) {a b : Nat} (ha : a < 7) (hb : b < 7)
    (hw : ln_Ok w o) (h : ∀ r : Int32, ln_HV w f a b r → post r) : wpX_leastNextHop post (P, L, O, D, H, B) (nI a) (nI b) := by
  unfold wpX_leastNextHop
  dsimp only
  have hf := (E a b ha hb).1
  by_cases e : a = b
  · subst e
    exact br_t rfl (h (-1) ⟨fun _ => rfl, fun z => absurd rfl z⟩)
  · refine br_f (ln_ne ha hb e) (ln_xroute A ha hb hf (fun l => br_f ln_10 ?_) (fun l => br_t rfl (h (-1) ⟨fun _ => rfl, fun _ z => absurd l (by omega)⟩)))
    refine loop_0 (fun n i (_ : Unit) => wX_leastNextHop_18 post (nI a) (nI b) P L O D H B n (nI i))
      (fun i _ => ∀ j : Nat, j < i → ¬ (w a j ≠ 0 ∧ w a j + f j b = f a b)) 7 () (fun j hj => absurd hj (Nat.not_lt_zero j))
      (fun n _ I => ?_) (fun n i _ hi I K => br_f (ln_n7 hi) ?_)
    · obtain ⟨r, hr, q⟩ := ((E a b ha hb).2.2.2 e).2 l
      exact absurd q (I r hr)
    · refine ln_xcounts V ha hi (fun z p => br_f ln_10 ?_) (fun z => br_t rfl (nm_r (nI_1 i) (K () ?_)))
      · have hi1 := (E i b hi hb).1
        have hw9 := (hw a i ha hi).1
        refine ln_xplace ha hi fun r er ir => ⟨ir, ln_xplace hi hb fun t et it => ⟨it, ln_xplace ha hb fun q eq iq => ⟨iq, ?_⟩⟩⟩
        rw [er, et, eq, p, A i b hi hb, A a b ha hb, nI_add]
        by_cases y : w a i + f i b = f a b
        · refine br_t (by rw [y]) (h (nI i) ⟨fun u => ?_, fun _ _ => ⟨i, rfl, hi, z, y, I⟩⟩)
          rcases u with u | u
          · exact absurd u e
          · omega
        · refine br_f (fun u => y ((nI_eq (by omega) (by omega)).mp u)) (nm_r (nI_1 i) (K () ?_))
          intro j hj
          by_cases x : j = i
          · subst x; exact fun u => y u.2
          · exact I j (by omega)
      · intro j hj
        by_cases x : j = i
        · subst x; exact fun u => u.1 z
        · exact I j (by omega)

def ln_HH (w f : Nat → Nat → Nat) (H : Nat → Int32) : Prop := ∀ s d : Nat, s < 7 → d < 7 → ln_HV w f s d (H (7 * s + d))

theorem ln_xchoose {post : SX → Prop} (V : ln_VX w o P L O) (E : ln_Bel w o f) (A : ln_A D f) (hw : ln_Ok w o)
    (h : ∀ H' : Nat → Int32, ln_HH w f H' → post (P, L, O, D, H', B)) : wpX_chooseNextHops post (P, L, O, D, H, B) := by
  unfold wpX_chooseNextHops
  dsimp only
  refine ln_dbl (fun n x s => wX_chooseNextHops_2 post n x P L O D s B)
    (fun n x m y s => wX_chooseNextHops_10 post (wX_chooseNextHops_2 post n) x m y P L O D s B)
    (fun c s => ln_Q (ln_HV w f) c s)
    (fun n s I => br_t ln_77 (h s (ln_Q49 I)))
    (fun n i s hi I => br_f (ln_n7 hi) I)
    (fun n m i s hi I => br_t ln_77 (nm_r (nI_1 i) I))
    (fun n m i j s hi hj I k => br_f (ln_n7 hj) (ln_xplace hi hj fun r er ir => ln_xleast V E A hi hj hw fun t ht => ⟨ir, ?_⟩)) H ln_Q0
  rw [er]
  exact nm_e (nm_r (nI_1 j) (k _ (ln_Qs hj I ht)))

/-- findRoutes: distances and next hops are those of an f that keeps the equation -/
theorem ln_xfind {post : SX → Prop} (V : ln_VX w o P L O) (hw : ln_Ok w o)
    (h : ∀ (D' H' : Nat → Int32) (f : Nat → Nat → Nat), ln_Bel w o f → ln_A D' f → ln_HH w f H' → post (P, L, O, D', H', B)) :
    wpX_findRoutes post (P, L, O, D, H, B) := by
  unfold wpX_findRoutes
  dsimp only
  refine ln_xmeasure V fun D0 A0 => ?_
  have Fz : ln_Fl w o 0 (ln_g0 w O) := by
    refine ln_fl0 hw fun s d hs hd => ?_
    have v := V.1 s hs
    refine ⟨fun e u => ?_, fun e u => ?_, fun e u => ?_, fun e u => ?_⟩
    · unfold ln_g0; rw [if_pos e, if_neg (fun z => (v.mp z) u)]
    · unfold ln_g0; rw [if_pos e, if_pos (v.mpr u)]
    · unfold ln_g0; rw [if_neg e, if_pos u]
    · unfold ln_g0; rw [if_neg e, if_neg u]
  refine loop_0 (fun n i s => wX_findRoutes_6 post n (nI i) P L O s H B) (fun i s => ∃ g : Nat → Nat → Nat, ln_A s g ∧ ln_Fl w o i g) 7 D0
    ⟨_, A0, Fz⟩ (fun n s I => br_t ln_77 ?_) (fun n i s hi I K => br_f (ln_n7 hi) ?_)
  · obtain ⟨g, a, b⟩ := I
    exact ln_xchoose V (ln_fl7 hw b) a hw fun H' hH => h s H' g (ln_fl7 hw b) a hH
  · obtain ⟨g, a, b⟩ := I
    exact ln_xshorten hi b a fun D' g' a' b' => nm_r (nI_1 i) (K D' ⟨g', a', ln_fls hw hi b b'⟩)
end
