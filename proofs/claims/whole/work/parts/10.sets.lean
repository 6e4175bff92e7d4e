/-! part 10: reachable and farthest -/

/-- reachable: the bits of the routers below n that have T -/
noncomputable def ln_rb (T : Nat → Prop) : Nat → Int32
  | 0 => 0
  | n + 1 => @ite Int32 (T n) (Classical.propDecidable (T n)) (ln_rb T n ||| ((1 : Int32) <<< (nI n &&& 31))) (ln_rb T n)
theorem ln_rb_t {T : Nat → Prop} {n : Nat} (h : T n) : ln_rb T (n + 1) = ln_rb T n ||| ((1 : Int32) <<< (nI n &&& 31)) := by rw [ln_rb, if_pos h]
theorem ln_rb_f {T : Nat → Prop} {n : Nat} (h : ¬ T n) : ln_rb T (n + 1) = ln_rb T n := by rw [ln_rb, if_neg h]
theorem ln_or0 (x : Int32) : x ||| 0 = x := Int32.or_zero

theorem i_vc_reachable {k : Nat} {u : SX} {v : SY} (I : i_Rel k u v) (hk : k + 4 ≤ 2048) (v1 : Int32) : wpX_reachable (fun r => wpY_reachable (fun r' v' => r' = r ∧ i_Rel (k + 4) u v') v v1) u v1 := by
  obtain ⟨P, L, O, D, H, B, M, C, F, w, o, f, rfl, rfl, S, VX, VY, K, E, A, N, J⟩ := ln_get I
  obtain ⟨T, Tp⟩ : ∃ T : Nat → Prop, ∀ d : Nat, T d ↔ (¬ nI d = v1 ∧ ∃ a : Nat, a < 7 ∧ v1 = nI a ∧ f a d < 1000) :=
    ⟨fun d => ¬ nI d = v1 ∧ ∃ a : Nat, a < 7 ∧ v1 = nI a ∧ f a d < 1000, fun _ => Iff.rfl⟩
  unfold wpX_reachable
  dsimp only
  refine loop_0 (fun n i s => wX_reachable_4 (fun r => wpY_reachable (fun r' v' => r' = r ∧ i_Rel (k + 4) (P, L, O, D, H, B) v') (P, M, O, C, F) v1) v1 P L O D H B n s (nI i))
    (fun i s => s = ln_rb T i) 7 0 rfl (fun n s I => br_t ln_77 ?_) (fun n d s hd I Z => br_f (ln_n7 hd) ?_)
  · rw [I]
    unfold wpY_reachable
    dsimp only
    refine ln_ywork VY K E fun D2 A2 => ?_
    refine loop_0 (fun n i s => wY_reachable_8 (fun r' v' => r' = ln_rb T 7 ∧ i_Rel (k + 4) (P, L, O, D, H, B) v') v1 P M O D2 F n s (nI i))
      (fun i s => s = ln_rb T i) 7 0 rfl (fun n s I => br_t ln_77 ⟨I, J _ _ _ _⟩) (fun n d s hd I Z => br_f (ln_n7 hd) ?_)
    have no : ¬ T d → ∀ x : Int32, x = s ||| 0 → ∀ y : Int32, y = nI d + 1 → wY_reachable_8 (fun r' v' => r' = ln_rb T 7 ∧ i_Rel (k + 4) (P, L, O, D, H, B) v') v1 P M O D2 F n x y :=
      fun z => nm_e (nm_r (nI_1 d) (Z _ (by rw [ln_or0, I, ln_rb_f z])))
    by_cases e : nI d = v1
    · exact br_t e (no (fun z => ((Tp d).mp z).1 e))
    · refine br_f e ?_
      by_cases r : ln_R v1
      · obtain ⟨a, ha, ea⟩ := r
        rw [ea]
        refine ln_yhas A2 ha hd (E a d ha hd).1 (fun l => br_f ln_10 ?_) (fun l => br_t rfl ?_)
        · rw [← ea]
          exact nm_e (nm_r (nI_1 d) (Z _ (by rw [I, ln_rb_t ((Tp d).mpr ⟨e, a, ha, ea, l⟩)])))
        · rw [← ea]
          refine no (fun z => ?_)
          obtain ⟨_, a', ha', ea', l'⟩ := (Tp d).mp z
          have : a = a' := (nI_eq (by omega) (by omega)).mp (ea.symm.trans ea')
          subst this
          omega
      · exact ln_yhas_n (fun z => r z.1) (br_t rfl (no (fun z => ((Tp d).mp z).2.elim fun a' h' => r ⟨a', h'.1, h'.2.1⟩)))
  · have no : ¬ T d → s = ln_rb T (d + 1) := fun z => by rw [I, ln_rb_f z]
    by_cases e : nI d = v1
    · exact br_t e (nm_r (nI_1 d) (Z s (no (fun z => ((Tp d).mp z).1 e))))
    · refine br_f e ?_
      by_cases r : ln_R v1
      · obtain ⟨a, ha, ea⟩ := r
        subst ea
        refine ln_xroute A ha hd (E a d ha hd).1 (fun l => br_f ln_10 (nm_e (nm_r (nI_1 d) (Z _ ?_)))) (fun l => br_t rfl (nm_r (nI_1 d) (Z s (no (fun z => ?_)))))
        · rw [I, ln_rb_t ((Tp d).mpr ⟨e, a, ha, rfl, l⟩)]
        · obtain ⟨_, a', ha', ea', l'⟩ := (Tp d).mp z
          have : a = a' := (nI_eq (by omega) (by omega)).mp ea'
          subst this
          omega
      · exact ln_xroute_n (fun z => r z.1) (br_t rfl (nm_r (nI_1 d) (Z s (no (fun z => ((Tp d).mp z).2.elim fun a' h' => r ⟨a', h'.1, h'.2.1⟩)))))

/-- farthest -/
def ln_fm (a : Nat) (f : Nat → Nat → Nat) : Nat → Int32
  | 0 => -1
  | n + 1 => if f a n < 1000 then (if nI (f a n) ≤ ln_fm a f n then ln_fm a f n else nI (f a n)) else ln_fm a f n
theorem ln_fm_m (a : Nat) (f : Nat → Nat → Nat) : ∀ n : Nat, (-1 : Int32) ≤ ln_fm a f n := by
  intro n
  induction n with
  | zero => exact (by decide : (-1 : Int32) ≤ -1)
  | succ n ih =>
    rw [ln_fm]
    by_cases l : f a n < 1000
    · rw [if_pos l]
      by_cases c : nI (f a n) ≤ ln_fm a f n
      · rw [if_pos c]; exact ih
      · rw [if_neg c]; exact Int32.le_trans (by decide : (-1 : Int32) ≤ 0) (nI_pos' (by omega))
    · rw [if_neg l]; exact ih

theorem i_vc_farthest {k : Nat} {u : SX} {v : SY} (I : i_Rel k u v) (hk : k + 4 ≤ 2048) (v1 : Int32) : wpX_farthest (fun r => wpY_farthest (fun r' v' => r' = r ∧ i_Rel (k + 4) u v') v v1) u v1 := by
  obtain ⟨P, L, O, D, H, B, M, C, F, w, o, f, rfl, rfl, S, VX, VY, K, E, A, N, J⟩ := ln_get I
  unfold wpX_farthest
  dsimp only
  by_cases r : ln_R v1
  · obtain ⟨a, ha, rfl⟩ := r
    refine loop_0 (fun n i s => wX_farthest_4 (fun r => wpY_farthest (fun r' v' => r' = r ∧ i_Rel (k + 4) (P, L, O, D, H, B) v') (P, M, O, C, F) (nI a)) (nI a) P L O D H B n s (nI i))
      (fun i s => s = ln_fm a f i) 7 (-1) rfl (fun n s I => br_t ln_77 ?_) (fun n d s hd I Z => br_f (ln_n7 hd) ?_)
    · rw [I]
      unfold wpY_farthest
      dsimp only
      refine ln_ywork VY K E fun D2 A2 => ?_
      refine loop_0 (fun n i s => wY_farthest_8 (fun r' v' => r' = ln_fm a f 7 ∧ i_Rel (k + 4) (P, L, O, D, H, B) v') (nI a) P M O D2 F n s (nI i))
        (fun i s => s = ln_fm a f i) 7 (-1) rfl (fun n s I => br_t ln_77 ⟨I, J _ _ _ _⟩) (fun n d s hd I Z => br_f (ln_n7 hd) ?_)
      refine ln_yhas A2 ha hd (E a d ha hd).1 (fun l => br_f ln_10 ⟨ln_yin ha hd, ?_⟩) (fun l => br_t rfl (nm_r (nI_1 d) (Z s ?_)))
      · rw [ln_yi ha hd, A2 a d ha hd]
        by_cases c : nI (f a d) ≤ s
        · refine br_t c (nm_r (nI_1 d) (Z s ?_))
          rw [I] at c
          rw [ln_fm, if_pos l, if_pos c, I]
        · refine br_f c ⟨ln_yin ha hd, nm_e (nm_r (nI_1 d) (Z _ ?_))⟩
          rw [I] at c
          rw [ln_fm, if_pos l, if_neg c]
      · rw [ln_fm, if_neg (by omega), I]
    · unfold wpX_distance
      dsimp only
      refine ln_xroute A ha hd (E a d ha hd).1 (fun l => br_f ln_10 (ln_xplace ha hd fun t et it => ⟨it, ?_⟩)) (fun l => br_t rfl ?_)
      · rw [et, A a d ha hd]
        by_cases c : nI (f a d) ≤ s
        · refine br_t c (nm_r (nI_1 d) (Z s ?_))
          rw [I] at c
          rw [ln_fm, if_pos l, if_pos c, I]
        · refine br_f c (nm_r (nI_1 d) (Z _ ?_))
          rw [I] at c
          rw [ln_fm, if_pos l, if_neg c]
      · refine br_t (by rw [I]; exact ln_fm_m a f d) (nm_r (nI_1 d) (Z s ?_))
        rw [ln_fm, if_neg (by omega), I]
  · refine loop_0 (fun n i s => wX_farthest_4 (fun r => wpY_farthest (fun r' v' => r' = r ∧ i_Rel (k + 4) (P, L, O, D, H, B) v') (P, M, O, C, F) v1) v1 P L O D H B n s (nI i))
      (fun i s => s = -1) 7 (-1) rfl (fun n s I => br_t ln_77 ?_) (fun n d s hd I Z => br_f (ln_n7 hd) ?_)
    · rw [I]
      unfold wpY_farthest
      dsimp only
      refine ln_ywork VY K E fun D2 A2 => ?_
      refine loop_0 (fun n i s => wY_farthest_8 (fun r' v' => r' = -1 ∧ i_Rel (k + 4) (P, L, O, D, H, B) v') v1 P M O D2 F n s (nI i))
        (fun i s => s = -1) 7 (-1) rfl (fun n s I => br_t ln_77 ⟨I, J _ _ _ _⟩) (fun n d s hd I Z => br_f (ln_n7 hd) ?_)
      exact ln_yhas_n (fun z => r z.1) (br_t rfl (nm_r (nI_1 d) (Z s I)))
    · unfold wpX_distance
      dsimp only
      refine ln_xroute_n (fun z => r z.1) (br_t rfl (br_t ?_ (nm_r (nI_1 d) (Z s I))))
      rw [I]; decide
