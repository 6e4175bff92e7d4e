/-! part 07: the two states, the relation, the calls that change a state -/

def ln_w (P L O : Nat → Int32) (a b : Nat) : Nat :=
  if L (7 * a + b) = 0 ∨ O a = 0 ∨ O b = 0 then 0 else (P (7 * a + b)).toNatClampNeg
def ln_o (O : Nat → Int32) (a : Nat) : Prop := ¬ O a = 0

/-- what the arrays of links keep: P the costs of both, L the component's, M the reference's marks of being up -/
def ln_S (P L M : Nat → Int32) : Prop := ∀ a b : Nat, a < 7 → b < 7 →
  (∃ n : Nat, n ≤ 9 ∧ P (7 * a + b) = nI n) ∧ (a = b → P (7 * a + b) = 0) ∧ P (7 * a + b) = P (7 * b + a) ∧
  (P (7 * a + b) = 0 → L (7 * a + b) = 0) ∧ (¬ P (7 * a + b) = 0 → M (7 * a + b) = L (7 * a + b)) ∧
  (L (7 * a + b) = 0 ∨ L (7 * a + b) = 1)

theorem ln_w0 {P L O : Nat → Int32} {a b : Nat} (h : L (7 * a + b) = 0 ∨ O a = 0 ∨ O b = 0) : ln_w P L O a b = 0 := if_pos h
theorem ln_wn {P L M O : Nat → Int32} (S : ln_S P L M) {a b : Nat} (ha : a < 7) (hb : b < 7) (h1 : ¬ L (7 * a + b) = 0) (h2 : ¬ O a = 0) (h3 : ¬ O b = 0) :
    ln_w P L O a b ≠ 0 ∧ ln_w P L O a b ≤ 9 ∧ P (7 * a + b) = nI (ln_w P L O a b) := by
  obtain ⟨⟨n, n9, e⟩, _, _, s4, _⟩ := S a b ha hb
  have z : ¬ (L (7 * a + b) = 0 ∨ O a = 0 ∨ O b = 0) := fun y => y.elim h1 (fun x => x.elim h2 h3)
  have ew : ln_w P L O a b = n := by
    unfold ln_w
    rw [if_neg z, e, nI_clamp (by omega)]
  rw [ew]
  refine ⟨fun y => h1 (s4 ?_), n9, e⟩
  rw [e, y]; rfl

theorem ln_S_X {P L M O : Nat → Int32} (S : ln_S P L M) : ln_VX (ln_w P L O) (ln_o O) P L O := by
  refine ⟨fun a _ => ⟨fun z y => y z, fun z => Classical.byContradiction fun y => z y⟩, fun a b ha hb => ⟨fun z => ln_w0 z, fun x y z => ?_⟩⟩
  have q := ln_wn (O := O) S ha hb x y z
  exact ⟨q.1, q.2.2⟩

theorem ln_S_Y {P L M O : Nat → Int32} (S : ln_S P L M) : ln_VY (ln_w P L O) (ln_o O) P M O := by
  refine ⟨fun a _ => ⟨fun z y => y z, fun z => Classical.byContradiction fun y => z y⟩, fun a b ha hb => ?_⟩
  obtain ⟨⟨n, n9, e⟩, _, _, s4, s5, _⟩ := S a b ha hb
  have le0 : P (7 * a + b) ≤ 0 → P (7 * a + b) = 0 := by
    intro z
    rw [e] at z ⊢
    have : n ≤ 0 := (nI_leI (b := 0) (by omega) (by decide)).mp z
    have : n = 0 := by omega
    rw [this]; rfl
  have ge0 : P (7 * a + b) = 0 → P (7 * a + b) ≤ 0 := by
    intro z; rw [z]; decide
  refine ⟨fun z => ln_w0 ?_, fun x y z u => ?_⟩
  · rcases z with z | z | z | z
    · exact Or.inl (s4 (le0 z))
    · by_cases p : P (7 * a + b) = 0
      · exact Or.inl (s4 p)
      · exact Or.inl (by rw [← s5 p]; exact z)
    · exact Or.inr (Or.inl z)
    · exact Or.inr (Or.inr z)
  · have p : ¬ P (7 * a + b) = 0 := fun v => x (ge0 v)
    have q := ln_wn (O := O) S ha hb (by rw [← s5 p]; exact y) z u
    exact ⟨q.1, q.2.2⟩

theorem ln_S_O {P L M O : Nat → Int32} (S : ln_S P L M) : ln_Ok (ln_w P L O) (ln_o O) := by
  intro a b ha hb
  by_cases z : L (7 * a + b) = 0 ∨ O a = 0 ∨ O b = 0
  · rw [ln_w0 z]
    exact ⟨by omega, fun y => absurd rfl y⟩
  · have z1 : ¬ L (7 * a + b) = 0 := fun y => z (Or.inl y)
    have z2 : ¬ O a = 0 := fun y => z (Or.inr (Or.inl y))
    have z3 : ¬ O b = 0 := fun y => z (Or.inr (Or.inr y))
    refine ⟨(ln_wn S ha hb z1 z2 z3).2.1, fun _ => ⟨z2, z3, fun e => z1 ?_⟩⟩
    obtain ⟨_, s2, _, s4, _⟩ := S a b ha hb
    exact s4 (s2 e)

/-- distances and next hops are found -/
def ln_G (P L O D H : Nat → Int32) : Prop := ∃ f : Nat → Nat → Nat, ln_Bel (ln_w P L O) (ln_o O) f ∧ ln_A D f ∧ ln_HH (ln_w P L O) f H

def i_Rel (_ : Nat) (u : SX) (v : SY) : Prop := ∃ P L O D H B M C F : Nat → Int32,
  u = (P, L, O, D, H, B) ∧ v = (P, M, O, C, F) ∧ ln_S P L M ∧ ln_G P L O D H
theorem i_up {k : Nat} {u : SX} {v : SY} (h : i_Rel k u v) : i_Rel (k + 4) u v := h

theorem ln_get {k : Nat} {u : SX} {v : SY} (I : i_Rel k u v) : ∃ P L O D H B M C F : Nat → Int32, ∃ w : Nat → Nat → Nat, ∃ o : Nat → Prop, ∃ f : Nat → Nat → Nat,
    u = (P, L, O, D, H, B) ∧ v = (P, M, O, C, F) ∧ ln_S P L M ∧ ln_VX w o P L O ∧ ln_VY w o P M O ∧ ln_Ok w o ∧ ln_Bel w o f ∧ ln_A D f ∧ ln_HH w f H ∧
    (∀ (j : Nat) (B' C' F' : Nat → Int32), i_Rel j (P, L, O, D, H, B') (P, M, O, C', F')) := by
  obtain ⟨P, L, O, D, H, B, M, C, F, e1, e2, S, f, g1, g2, g3⟩ := I
  exact ⟨P, L, O, D, H, B, M, C, F, ln_w P L O, ln_o O, f, e1, e2, S, ln_S_X S, ln_S_Y S, ln_S_O S, g1, g2, g3,
    fun j B' C' F' => ⟨P, L, O, D, H, B', M, C', F', rfl, rfl, S, f, g1, g2, g3⟩⟩

/-- a link's two cells -/
def ln_U (A : Nat → Int32) (a b : Nat) (x : Int32) : Nat → Int32 := upd (upd A (7 * a + b) x) (7 * b + a) x
def ln_Z (a b i j : Nat) : Prop := (i = a ∧ j = b) ∨ (i = b ∧ j = a)
theorem ln_U_t {A : Nat → Int32} {a b i j : Nat} {x : Int32} (z : ln_Z a b i j) : ln_U A a b x (7 * i + j) = x := by
  unfold ln_U
  by_cases e : 7 * i + j = 7 * b + a
  · rw [e, pk_us]
  · rw [pk_un e]
    rcases z with ⟨p, q⟩ | ⟨p, q⟩
    · rw [p, q, pk_us]
    · exact absurd (by rw [p, q]) e
theorem ln_U_f {A : Nat → Int32} {a b i j : Nat} {x : Int32} (ha : a < 7) (hb : b < 7) (hi : i < 7) (hj : j < 7) (z : ¬ ln_Z a b i j) :
    ln_U A a b x (7 * i + j) = A (7 * i + j) := by
  unfold ln_Z at z
  unfold ln_U
  rw [pk_un (by omega), pk_un (by omega)]
theorem ln_upd_id {A : Nat → Int32} {k : Nat} {x : Int32} (h : A k = x) : upd A k x = A := by
  funext j
  by_cases e : j = k
  · rw [e, pk_us, h]
  · rw [pk_un e]
theorem ln_U_id {A : Nat → Int32} {a b : Nat} {x : Int32} (h1 : A (7 * a + b) = x) (h2 : A (7 * b + a) = x) : ln_U A a b x = A := by
  unfold ln_U
  rw [ln_upd_id h1, ln_upd_id h2]

theorem ln_S_put {P L M N : Nat → Int32} (S : ln_S P L M) {a b : Nat} (ha : a < 7) (hb : b < 7) (ab : a ≠ b) {n : Nat} (n9 : n ≤ 9) {l : Int32}
    (hl : l = 0 ∨ l = 1) (h0 : n = 0 → l = 0) (m1 : ∀ i j : Nat, i < 7 → j < 7 → ¬ ln_Z a b i j → N (7 * i + j) = M (7 * i + j))
    (m2 : n ≠ 0 → ∀ i j : Nat, ln_Z a b i j → N (7 * i + j) = l) : ln_S (ln_U P a b (nI n)) (ln_U L a b l) N := by
  have n0 : nI n = 0 → n = 0 := fun z => (nI_eq (b := 0) (by omega) (by decide)).mp z
  intro i j hi hj
  by_cases z : ln_Z a b i j
  · have y : ln_Z a b j i := by unfold ln_Z at z ⊢; omega
    rw [ln_U_t z, ln_U_t y, ln_U_t z]
    refine ⟨⟨n, n9, rfl⟩, fun e => ?_, rfl, fun e => h0 (n0 e), fun e => m2 (fun q => e (by rw [q]; rfl)) i j z, hl⟩
    unfold ln_Z at z
    omega
  · have y : ¬ ln_Z a b j i := by unfold ln_Z at z ⊢; omega
    rw [ln_U_f ha hb hi hj z, ln_U_f ha hb hj hi y, ln_U_f ha hb hi hj z, m1 i j hi hj z]
    exact S i j hi hj

theorem ln_xput {P L O D H B : Nat → Int32} {post : SX → Prop} {a b : Nat} (ha : a < 7) (hb : b < 7) {c x y : Int32} (hx : vp_nar .boolean x = y)
    (h : post (ln_U P a b c, ln_U L a b y, O, D, H, B)) : wpX_putLink post (P, L, O, D, H, B) (nI a) (nI b) c x := by
  unfold wpX_putLink
  dsimp only
  rw [hx]
  refine ln_xplace ha hb fun r er ir => ⟨ir, ?_⟩
  rw [er]
  refine nm_e (ln_xplace hb ha fun r er ir => ⟨ir, ?_⟩)
  rw [er]
  refine nm_e (ln_xplace ha hb fun r er ir => ⟨ir, ?_⟩)
  rw [er]
  refine nm_e (ln_xplace hb ha fun r er ir => ⟨ir, ?_⟩)
  rw [er]
  exact nm_e h

theorem ln_xlink {P L O D H B : Nat → Int32} {post : Int32 → Prop} {a b : Nat} (ha : a < 7) (hb : b < 7) (h1 : ¬ P (7 * a + b) = 0 → post 1)
    (h0 : P (7 * a + b) = 0 → post 0) : wpX_isLink post (P, L, O, D, H, B) (nI a) (nI b) := by
  unfold wpX_isLink
  dsimp only
  refine ln_xrt ha (br_f ln_10 (ln_xrt hb (br_f ln_10 (ln_xplace ha hb fun r er ir => ⟨ir, ?_⟩))))
  rw [er]
  exact br_c h0 h1
theorem ln_xlink_n {P L O D H B : Nat → Int32} {post : Int32 → Prop} {x y : Int32} (hx : ¬ (ln_R x ∧ ln_R y)) (h : post 0) :
    wpX_isLink post (P, L, O, D, H, B) x y := by
  unfold wpX_isLink
  dsimp only
  by_cases z : ln_R x
  · obtain ⟨a, ha, e⟩ := z
    subst e
    exact ln_xrt ha (br_f ln_10 (ln_xrf (fun q => hx ⟨⟨a, ha, rfl⟩, q⟩) (br_t rfl h)))
  · exact ln_xrf z (br_t rfl h)

/-- the reference's test of a link says what the component's says -/
theorem ln_ylk {P L M O C F : Nat → Int32} {post : Int32 → Prop} (S : ln_S P L M) {a b : Nat} (ha : a < 7) (hb : b < 7) (h1 : ¬ P (7 * a + b) = 0 → post 1)
    (h0 : P (7 * a + b) = 0 → post 0) : wpY_link post (P, M, O, C, F) (nI a) (nI b) := by
  obtain ⟨⟨n, n9, e⟩, _⟩ := S a b ha hb
  have q : P (7 * a + b) ≤ 0 ↔ P (7 * a + b) = 0 := by
    rw [e]
    constructor
    · intro z
      have y : n ≤ 0 := (nI_leI (b := 0) (by omega) (by decide)).mp z
      have x : n = 0 := by omega
      rw [x]; rfl
    · intro z; rw [z]; decide
  exact ln_ylink ha hb (fun z => h1 (fun y => z (q.mpr y))) (fun z => h0 (q.mp z))

theorem ln_bz (x : Int32) : vp_nar .boolean (lw_bz x) = lw_bz x := by
  rcases lw_bz_01 x with e | e
  · rw [e]; exact ln_b0
  · rw [e]; exact ln_b1

/-- the state behind a change: findRoutes has run -/
theorem ln_done {P L M O D H B : Nat → Int32} {post : SX → Prop} (S : ln_S P L M)
    (h : ∀ D' H' : Nat → Int32, (∀ (j : Nat) (B' C' F' : Nat → Int32), i_Rel j (P, L, O, D', H', B') (P, M, O, C', F')) → post (P, L, O, D', H', B)) :
    wpX_findRoutes post (P, L, O, D, H, B) :=
  ln_xfind (ln_S_X S) (ln_S_O S) fun D' H' f g1 g2 g3 =>
    h D' H' fun j B' C' F' => ⟨P, L, O, D', H', B', M, C', F', rfl, rfl, S, f, g1, g2, g3⟩

theorem i_vc_join {k : Nat} {u : SX} {v : SY} (I : i_Rel k u v) (hk : k + 4 ≤ 2048) (v1 : Int32) (v2 : Int32) (v3 : Int32) : wpX_join (fun r u' => wpY_join (fun r' v' => r' = r ∧ i_Rel (k + 4) u' v') v v1 v2 v3) u v1 v2 v3 := by
  obtain ⟨P, L, O, D, H, B, M, C, F, w, o, f, rfl, rfl, S, VX, VY, K, E, A, N, J⟩ := ln_get I
  unfold wpX_join
  dsimp only
  by_cases e : v1 = v2
  · exact br_t e (br_t e ⟨rfl, J _ _ _ _⟩)
  · refine br_f e ?_
    by_cases r1 : ln_R v1
    · obtain ⟨a, ha, rfl⟩ := r1
      by_cases r2 : ln_R v2
      · obtain ⟨b, hb, rfl⟩ := r2
        have ab : a ≠ b := fun z => e (by rw [z])
        refine ln_xrt ha (br_f ln_10 (ln_xrt hb (br_f ln_10 ?_)))
        by_cases c1 : v3 < 1
        · exact br_t c1 (br_f e (ln_yrt ha (br_f ln_10 (ln_yrt hb (br_f ln_10 (br_t c1 ⟨rfl, J _ _ _ _⟩))))))
        · refine br_f c1 ?_
          by_cases c2 : v3 ≤ 9
          · have c0 : ¬ v3 < 0 := fun z => c1 (Int32.lt_trans z (by decide))
            obtain ⟨c, c9, rfl⟩ := nI_of2 (x := v3) (M := 9) (n := 9) (by decide) c0 c2
            have c3 : c ≠ 0 := fun z => c1 (by rw [z]; decide)
            have S' : ln_S (ln_U P a b (nI c)) (ln_U L a b 1) (ln_U M a b 1) :=
              ln_S_put S ha hb ab c9 (Or.inr rfl) (fun z => absurd z c3) (fun i j hi hj z => ln_U_f ha hb hi hj z) (fun _ i j z => ln_U_t z)
            refine br_t c2 (ln_xput ha hb ln_b1 (ln_done S' fun D' H' R => ?_))
            refine br_f e (ln_yrt ha (br_f ln_10 (ln_yrt hb (br_f ln_10 (br_f c1 (br_t c2 ?_))))))
            rw [ln_yi ha hb, ln_yi hb ha, ln_b1]
            exact ⟨ln_yin ha hb, nm_e ⟨ln_yin hb ha, nm_e ⟨ln_yin ha hb, nm_e ⟨ln_yin hb ha, nm_e ⟨rfl, R _ _ _ _⟩⟩⟩⟩⟩
          · exact br_f c2 (br_f e (ln_yrt ha (br_f ln_10 (ln_yrt hb (br_f ln_10 (br_f c1 (br_f c2 ⟨rfl, J _ _ _ _⟩)))))))
      · exact ln_xrt ha (br_f ln_10 (ln_xrf r2 (br_t rfl (br_f e (ln_yrt ha (br_f ln_10 (ln_yrf r2 (br_t rfl ⟨rfl, J _ _ _ _⟩))))))))
    · exact ln_xrf r1 (br_t rfl (br_f e (ln_yrf r1 (br_t rfl ⟨rfl, J _ _ _ _⟩))))

theorem i_vc_cut {k : Nat} {u : SX} {v : SY} (I : i_Rel k u v) (hk : k + 4 ≤ 2048) (v1 : Int32) (v2 : Int32) : wpX_cut (fun r u' => wpY_cut (fun r' v' => r' = r ∧ i_Rel (k + 4) u' v') v v1 v2) u v1 v2 := by
  obtain ⟨P, L, O, D, H, B, M, C, F, w, o, f, rfl, rfl, S, VX, VY, K, E, A, N, J⟩ := ln_get I
  unfold wpX_cut wpY_cut
  dsimp only
  by_cases r : ln_R v1 ∧ ln_R v2
  · obtain ⟨⟨a, ha, rfl⟩, ⟨b, hb, rfl⟩⟩ := r
    refine ln_xlink ha hb (fun z => br_f ln_10 ?_) (fun z => br_t rfl (ln_ylk S ha hb (fun y => absurd z y) (fun _ => br_t rfl ⟨rfl, J _ _ _ _⟩)))
    have ab : a ≠ b := fun q => z ((S a b ha hb).2.1 q)
    have S' : ln_S (ln_U P a b (nI 0)) (ln_U L a b 0) M :=
      ln_S_put S ha hb ab (by omega) (Or.inl rfl) (fun _ => rfl) (fun _ _ _ _ _ => rfl) (fun q => absurd rfl q)
    refine ln_xput ha hb ln_b0 (ln_done S' fun D' H' R => ln_ylk S ha hb (fun _ => br_f ln_10 ?_) (fun y => absurd y z))
    rw [ln_yi ha hb, ln_yi hb ha]
    exact ⟨ln_yin ha hb, nm_e ⟨ln_yin hb ha, nm_e ⟨rfl, R _ _ _ _⟩⟩⟩
  · exact ln_xlink_n r (br_t rfl (ln_ylink_n r (br_t rfl ⟨rfl, J _ _ _ _⟩)))

/-- the reference's setLink -/
theorem ln_ysetLink {P L M O C F : Nat → Int32} {post : Int32 → SY → Prop} (S : ln_S P L M) {a b : Nat} (ha : a < 7) (hb : b < 7) {x y : Int32}
    (hx : vp_nar .boolean x = y) (z : ¬ P (7 * a + b) = 0) (h : post 1 (P, ln_U M a b y, O, C, F)) :
    wpY_setLink post (P, M, O, C, F) (nI a) (nI b) x := by
  unfold wpY_setLink
  dsimp only
  rw [hx]
  refine ln_ylk S ha hb (fun _ => br_f ln_10 ?_) (fun q => absurd q z)
  rw [ln_yi ha hb, ln_yi hb ha]
  exact ⟨ln_yin ha hb, nm_e ⟨ln_yin hb ha, nm_e h⟩⟩

/-- a link's mark is set on both sides -/
theorem ln_S_set {P L M : Nat → Int32} (S : ln_S P L M) {a b : Nat} (ha : a < 7) (hb : b < 7) (z : ¬ P (7 * a + b) = 0) {x : Int32} (hx : x = 0 ∨ x = 1) :
    ln_U P a b (P (7 * a + b)) = P ∧ ln_S P (ln_U L a b x) (ln_U M a b x) := by
  obtain ⟨⟨n, n9, e⟩, s2, s3, _⟩ := S a b ha hb
  have ab : a ≠ b := fun q => z (s2 q)
  have id : ln_U P a b (P (7 * a + b)) = P := ln_U_id rfl s3.symm
  refine ⟨id, ?_⟩
  have n0 : n ≠ 0 := fun q => z (by rw [e, q]; rfl)
  have q := ln_S_put (N := ln_U M a b x) S ha hb ab n9 hx (fun y => absurd y n0) (fun i j hi hj y => ln_U_f ha hb hi hj y) (fun _ i j y => ln_U_t y)
  rw [← e, id] at q
  exact q

theorem i_vc_setLink {k : Nat} {u : SX} {v : SY} (I : i_Rel k u v) (hk : k + 4 ≤ 2048) (v1 : Int32) (v2 : Int32) (v3 : Int32) : wpX_setLink (fun r u' => wpY_setLink (fun r' v' => r' = r ∧ i_Rel (k + 4) u' v') v v1 v2 (lw_bz v3)) u v1 v2 (lw_bz v3) := by
  obtain ⟨P, L, O, D, H, B, M, C, F, w, o, f, rfl, rfl, S, VX, VY, K, E, A, N, J⟩ := ln_get I
  unfold wpX_setLink
  dsimp only
  by_cases r : ln_R v1 ∧ ln_R v2
  · obtain ⟨⟨a, ha, rfl⟩, ⟨b, hb, rfl⟩⟩ := r
    refine ln_xlink ha hb (fun z => br_f ln_10 (ln_xplace ha hb fun t et it => ⟨it, ?_⟩)) (fun z => br_t rfl ?_)
    · rw [et]
      obtain ⟨id, S'⟩ := ln_S_set S ha hb z (lw_bz_01 v3)
      refine nm_e (ln_xput ha hb (ln_bz v3) ?_)
      rw [id]
      exact ln_done S' fun D' H' R => ln_ysetLink S ha hb (ln_bz v3) z ⟨rfl, R _ _ _ _⟩
    · unfold wpY_setLink
      dsimp only
      exact ln_ylk S ha hb (fun y => absurd z y) (fun _ => br_t rfl ⟨rfl, J _ _ _ _⟩)
  · refine ln_xlink_n r (br_t rfl ?_)
    unfold wpY_setLink
    dsimp only
    exact ln_ylink_n r (br_t rfl ⟨rfl, J _ _ _ _⟩)

theorem i_vc_setRouter {k : Nat} {u : SX} {v : SY} (I : i_Rel k u v) (hk : k + 4 ≤ 2048) (v1 : Int32) (v2 : Int32) : wpX_setRouter (fun r u' => wpY_setRouter (fun r' v' => r' = r ∧ i_Rel (k + 4) u' v') v v1 (lw_bz v2)) u v1 (lw_bz v2) := by
  obtain ⟨P, L, O, D, H, B, M, C, F, w, o, f, rfl, rfl, S, VX, VY, K, E, A, N, J⟩ := ln_get I
  unfold wpX_setRouter wpY_setRouter
  dsimp only
  by_cases r : ln_R v1
  · obtain ⟨a, ha, rfl⟩ := r
    refine ln_xrt ha (br_f ln_10 ⟨ln_i7 ha, nm_e (ln_done S fun D' H' R => ?_)⟩)
    exact ln_yrt ha (br_f ln_10 ⟨ln_i7 ha, nm_e ⟨rfl, R _ _ _ _⟩⟩)
  · exact ln_xrf r (br_t rfl (ln_yrf r (br_t rfl ⟨rfl, J _ _ _ _⟩)))

/-- the first i routers are up -/
def ln_on (i : Nat) : Nat → Int32 := fun j => if j < i then 1 else 0
theorem ln_on_s (i : Nat) : upd (ln_on i) i 1 = ln_on (i + 1) := by
  funext j
  by_cases e : j = i
  · rw [e, pk_us]; exact (if_pos (Nat.lt_succ_self i)).symm
  · rw [pk_un e]
    unfold ln_on
    by_cases z : j < i
    · rw [if_pos z, if_pos (by omega)]
    · rw [if_neg z, if_neg (by omega)]

theorem i_vc0 : wpX_init (fun u => wpY_init (fun v => i_Rel 0 u v)) := by
  unfold wpX_init
  have S : ln_S (fun _ => 0) (fun _ => 0) (fun _ => 0) :=
    fun a b _ _ => ⟨⟨0, by omega, rfl⟩, fun _ => rfl, rfl, fun _ => rfl, fun _ => rfl, Or.inl rfl⟩
  refine loop_0 (fun n i s => wX_init_54 (fun u => wpY_init (fun v => i_Rel 0 u v)) n (nI i) (fun _ => 0) (fun _ => 0) s (fun _ => 0) (fun _ => 0) (fun _ => 0))
    (fun i s => s = ln_on i) 7 (fun _ => 0) rfl (fun n s I => br_t ln_77 (ln_done S fun D' H' R => ?_))
    (fun n i s hi I K => br_f (ln_n7 hi) ⟨ln_i7 hi, nm_e (nm_r (nI_1 i) (K _ ?_))⟩)
  · unfold wpY_init
    refine loop_0 (fun n i t => wY_init_46 (fun v => i_Rel 0 ((fun _ => 0), (fun _ => 0), s, D', H', (fun _ => 0)) v) n (nI i) (fun _ => 0) (fun _ => 0) t (fun _ => 0) (fun _ => 0))
      (fun i t => t = ln_on i) 7 (fun _ => 0) rfl (fun n t T => br_t ln_77 ?_)
      (fun n i t hi T K => br_f (ln_n7 hi) ⟨ln_i7 hi, nm_e (nm_r (nI_1 i) (K _ ?_))⟩)
    · rw [T, ← I]; exact R _ _ _ _
    · rw [T, ln_b1, ln_c7 hi]; exact ln_on_s i
  · rw [I, ln_b1, ln_c7 hi]; exact ln_on_s i
