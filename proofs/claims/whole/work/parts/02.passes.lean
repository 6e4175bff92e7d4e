/-! part 02: the reference's passes of lowering, against an f that keeps the equation -/

def ln_YI (f g : Nat → Nat → Nat) : Prop :=
  ∀ s d : Nat, s < 7 → d < 7 → f s d ≤ g s d ∧ g s d ≤ 1000 ∧ (s = d → g s d = f s d)

/-- p passes are through: exact wherever at most p routers are nearer -/
def ln_EX (f g : Nat → Nat → Nat) (p : Nat) : Prop :=
  ∀ s d : Nat, s < 7 → d < 7 → f s d < 1000 → ln_rk f d s ≤ p → g s d = f s d

/-- within a pass that began with g0: the steps below c are done -/
def ln_PS (w f g0 : Nat → Nat → Nat) (c : Nat) (g : Nat → Nat → Nat) : Prop :=
  ln_YI f g ∧ (∀ s d : Nat, s < 7 → d < 7 → g s d ≤ g0 s d) ∧
    ∀ s r d : Nat, s < 7 → r < 7 → d < 7 → 49 * s + 7 * r + d < c → w s r ≠ 0 → g0 r d = f r d → g s d ≤ w s r + f r d

def ln_set (g : Nat → Nat → Nat) (s d x : Nat) : Nat → Nat → Nat := fun a b => if a = s ∧ b = d then x else g a b
theorem ln_set_s {g : Nat → Nat → Nat} {s d x : Nat} : ln_set g s d x s d = x := if_pos ⟨rfl, rfl⟩
theorem ln_set_n {g : Nat → Nat → Nat} {s d x a b : Nat} (h : ¬ (a = s ∧ b = d)) : ln_set g s d x a b = g a b := if_neg h

theorem ln_y0 {w : Nat → Nat → Nat} {o : Nat → Prop} {f g : Nat → Nat → Nat} (h : ln_Bel w o f)
    (hg : ∀ s d : Nat, s < 7 → d < 7 → (s = d → o s → g s d = 0) ∧ (¬ (s = d ∧ o s) → g s d = 1000)) : ln_YI f g ∧ ln_EX f g 0 := by
  have y : ln_YI f g := by
    intro s d hs hd
    obtain ⟨h1, h2, h3, _⟩ := h s d hs hd
    obtain ⟨g1, g2⟩ := hg s d hs hd
    by_cases e : s = d
    · by_cases ho : o s
      · have := h2 e ho; have := g1 e ho; omega
      · have := h3 e ho; have := g2 (fun z => ho z.2); omega
    · have := g2 (fun z => e z.1)
      exact ⟨by omega, by omega, fun z => absurd z e⟩
  refine ⟨y, fun s d hs hd l k => ?_⟩
  by_cases e : s = d
  · exact (y s d hs hd).2.2 e
  · obtain ⟨r, h1, h2, h3, _⟩ := ln_hop_ex h hs hd e l
    have := ln_rk_lt (f := f) (d := d) (s := s) h1 (by omega)
    omega

theorem ln_ps0 {w f g : Nat → Nat → Nat} (h : ln_YI f g) : ln_PS w f g 0 g :=
  ⟨h, fun _ _ _ _ => Nat.le_refl _, fun _ _ _ _ _ _ hc => absurd hc (Nat.not_lt_zero _)⟩

/-- one step of a pass: the cell (s, d) becomes x -/
theorem ln_pss {w : Nat → Nat → Nat} {o : Nat → Prop} {f g0 g : Nat → Nat → Nat} {s r d x : Nat} (hw : ln_Ok w o) (h : ln_Bel w o f)
    (hs : s < 7) (hr : r < 7) (hd : d < 7) (P : ln_PS w f g0 (49 * s + 7 * r + d) g)
    (x1 : x ≤ g s d) (x2 : w s r ≠ 0 → x ≤ w s r + g r d) (x3 : x = g s d ∨ (w s r ≠ 0 ∧ x = w s r + g r d)) :
    ln_PS w f g0 (49 * s + 7 * r + d + 1) (ln_set g s d x) := by
  obtain ⟨p1, p2, p3⟩ := P
  obtain ⟨y1, y2, y3⟩ := p1 s d hs hd
  have lo : f s d ≤ x := by
    rcases x3 with z | ⟨z0, z⟩
    · omega
    · obtain ⟨_, b2, _, b4⟩ := h s d hs hd
      by_cases e : s = d
      · have := b2 e ((hw s r hs hr).2 z0).1; omega
      · have a := (b4 e).1 r hr z0
        have b := (p1 r d hr hd).1
        omega
  refine ⟨fun a b ha hb => ?_, fun a b ha hb => ?_, fun a c b ha hc hb hl hz he => ?_⟩
  · by_cases e : a = s ∧ b = d
    · obtain ⟨e1, e2⟩ := e
      subst e1; subst e2
      rw [ln_set_s]
      exact ⟨lo, by omega, fun z => by have := y3 z; omega⟩
    · rw [ln_set_n e]; exact p1 a b ha hb
  · by_cases e : a = s ∧ b = d
    · obtain ⟨e1, e2⟩ := e
      subst e1; subst e2
      rw [ln_set_s]
      have := p2 a b ha hb; omega
    · rw [ln_set_n e]; exact p2 a b ha hb
  · by_cases e : a = s ∧ b = d
    · obtain ⟨e1, e2⟩ := e
      subst e1; subst e2
      rw [ln_set_s]
      by_cases k : c = r
      · subst k
        have i := x2 hz
        have j := p2 c b hc hb
        omega
      · have := p3 a c b ha hc hb (by omega) hz he
        omega
    · rw [ln_set_n e]
      refine p3 a c b ha hc hb ?_ hz he
      by_cases k : 49 * a + 7 * c + b = 49 * s + 7 * r + d
      · exact absurd (show a = s ∧ b = d by omega) e
      · omega

theorem ln_psx {w : Nat → Nat → Nat} {o : Nat → Prop} {f g0 g : Nat → Nat → Nat} {p : Nat} (h : ln_Bel w o f)
    (E : ln_EX f g0 p) (P : ln_PS w f g0 343 g) : ln_YI f g ∧ ln_EX f g (p + 1) := by
  obtain ⟨p1, p2, p3⟩ := P
  refine ⟨p1, fun s d hs hd l k => ?_⟩
  by_cases e : s = d
  · exact (p1 s d hs hd).2.2 e
  · obtain ⟨r, h1, h2, h3, _⟩ := ln_hop_ex h hs hd e l
    have lt := ln_rk_lt (f := f) (d := d) (s := s) h1 (by omega)
    have ex := E r d h1 hd (by omega) (by omega)
    have up := p3 s r d hs h1 hd (by omega) h2 ex
    have lo := (p1 s d hs hd).1
    omega

theorem ln_y6 {f g : Nat → Nat → Nat} (Y : ln_YI f g) (E : ln_EX f g 6) {s d : Nat} (hs : s < 7) (hd : d < 7) : g s d = f s d := by
  obtain ⟨y1, y2, _⟩ := Y s d hs hd
  by_cases l : f s d < 1000
  · exact E s d hs hd l (ln_rk6 f d hs)
  · omega

/-- an array of 49 cells holds g -/
def ln_A (A : Nat → Int32) (g : Nat → Nat → Nat) : Prop := ∀ s d : Nat, s < 7 → d < 7 → A (7 * s + d) = nI (g s d)

theorem ln_A_set {A : Nat → Int32} {g : Nat → Nat → Nat} {s d x : Nat} (hd : d < 7) (h : ln_A A g) :
    ln_A (upd A (7 * s + d) (nI x)) (ln_set g s d x) := by
  intro a b ha hb
  by_cases e : a = s ∧ b = d
  · obtain ⟨e1, e2⟩ := e
    subst e1; subst e2
    rw [ln_set_s, pk_us]
  · rw [ln_set_n e, pk_un (fun z => e (by omega))]
    exact h a b ha hb

/-- the stage k, in place: the cells below c are new -/
def ln_ST (f : Nat → Nat → Nat) (k c : Nat) (g : Nat → Nat → Nat) : Prop :=
  ∀ s d : Nat, s < 7 → d < 7 → (7 * s + d < c → ln_New f k (g s d) s d) ∧ (¬ 7 * s + d < c → g s d = f s d)

theorem ln_st0 (f : Nat → Nat → Nat) (k : Nat) : ln_ST f k 0 f := fun _ _ _ _ => ⟨fun h => absurd h (Nat.not_lt_zero _), fun _ => rfl⟩

/-- what the stage reads is what stood there as it began -/
theorem ln_st_r {w : Nat → Nat → Nat} {o : Nat → Prop} {f g : Nat → Nat → Nat} {k c s d : Nat} (h : ln_Fl w o k f) (hk : k < 7)
    (S : ln_ST f k c g) (hs : s < 7) (hd : d < 7) : g s k = f s k ∧ g k d = f k d := by
  constructor
  · by_cases l : 7 * s + k < c
    · exact ln_col h hk ((S s k hs hk).1 l)
    · exact (S s k hs hk).2 l
  · by_cases l : 7 * k + d < c
    · exact ln_row h hk ((S k d hk hd).1 l)
    · exact (S k d hk hd).2 l

theorem ln_sts {w : Nat → Nat → Nat} {o : Nat → Prop} {f g : Nat → Nat → Nat} {k s d x : Nat} (h : ln_Fl w o k f) (hk : k < 7)
    (hs : s < 7) (hd : d < 7) (S : ln_ST f k (7 * s + d) g) (x1 : x ≤ g s d) (x2 : x ≤ g s k + g k d)
    (x3 : x = g s d ∨ x = g s k + g k d) : ln_ST f k (7 * s + d + 1) (ln_set g s d x) := by
  obtain ⟨r1, r2⟩ := ln_st_r h hk S hs hd
  have r3 := (S s d hs hd).2 (by omega)
  intro a b ha hb
  by_cases e : a = s ∧ b = d
  · obtain ⟨e1, e2⟩ := e
    subst e1; subst e2
    rw [ln_set_s]
    exact ⟨fun _ => ⟨by omega, by omega, by omega⟩, fun z => absurd (Nat.lt_succ_self _) z⟩
  · rw [ln_set_n e]
    refine ⟨fun z => (S a b ha hb).1 ?_, fun z => (S a b ha hb).2 (by omega)⟩
    by_cases k : 7 * a + b = 7 * s + d
    · exact absurd (show a = s ∧ b = d by omega) e
    · omega

theorem ln_st49 {f g : Nat → Nat → Nat} {k : Nat} (S : ln_ST f k 49 g) : ∀ s d : Nat, s < 7 → d < 7 → ln_New f k (g s d) s d :=
  fun s d hs hd => (S s d hs hd).1 (by omega)

theorem ln_set_id (g : Nat → Nat → Nat) (s d : Nat) : ln_set g s d (g s d) = g := by
  funext a b
  by_cases e : a = s ∧ b = d
  · obtain ⟨e1, e2⟩ := e
    subst e1; subst e2
    exact ln_set_s
  · exact ln_set_n e
