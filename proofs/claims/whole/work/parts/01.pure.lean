/-! part 01: the pure side. Nothing here knows either side. -/

/-- f keeps the equation over the weights w (0: no link that counts) and the routers o that are up -/
def ln_Bel (w : Nat → Nat → Nat) (o : Nat → Prop) (f : Nat → Nat → Nat) : Prop :=
  ∀ s d : Nat, s < 7 → d < 7 →
    f s d ≤ 1000 ∧ (s = d → o s → f s d = 0) ∧ (s = d → ¬ o s → f s d = 1000) ∧
    (s ≠ d → (∀ r : Nat, r < 7 → w s r ≠ 0 → f s d ≤ w s r + f r d) ∧
      (f s d < 1000 → ∃ r : Nat, r < 7 ∧ w s r ≠ 0 ∧ w s r + f r d = f s d))

theorem ln_le {w : Nat → Nat → Nat} {o : Nat → Prop} {f g : Nat → Nat → Nat} (hf : ln_Bel w o f) (hg : ln_Bel w o g) :
    ∀ v s d : Nat, s < 7 → d < 7 → f s d = v → v < 1000 → g s d ≤ v := by
  intro v
  induction v using Nat.strongRecOn with
  | ind v ih =>
    intro s d hs hd e hv
    obtain ⟨f1, f2, f3, f4⟩ := hf s d hs hd
    obtain ⟨g1, g2, g3, g4⟩ := hg s d hs hd
    by_cases h : s = d
    · by_cases ho : o s
      · have := g2 h ho; omega
      · have := f3 h ho; omega
    · obtain ⟨r, hr, hw, hq⟩ := (f4 h).2 (by omega)
      have h1 := (g4 h).1 r hr hw
      have h2 := ih (f r d) (by omega) r d hr hd rfl (by omega)
      omega

theorem ln_uniq {w : Nat → Nat → Nat} {o : Nat → Prop} {f g : Nat → Nat → Nat} (hf : ln_Bel w o f) (hg : ln_Bel w o g)
    {s d : Nat} (hs : s < 7) (hd : d < 7) : f s d = g s d := by
  have a : f s d < 1000 → g s d ≤ f s d := fun h => ln_le hf hg _ s d hs hd rfl h
  have b : g s d < 1000 → f s d ≤ g s d := fun h => ln_le hg hf _ s d hs hd rfl h
  have c := (hf s d hs hd).1
  have e := (hg s d hs hd).1
  omega

/-- the stages of the one-middle-after-the-other way: what holds when the middles below k are done -/
def ln_Fl (w : Nat → Nat → Nat) (o : Nat → Prop) (k : Nat) (f : Nat → Nat → Nat) : Prop :=
  ∀ s d : Nat, s < 7 → d < 7 →
    f s d ≤ 1000 ∧ (s = d → o s → f s d = 0) ∧ (s = d → ¬ o s → f s d = 1000) ∧
    (s ≠ d → w s d ≠ 0 → f s d ≤ w s d) ∧
    (∀ m : Nat, m < k → m < 7 → f s d ≤ f s m + f m d) ∧
    (s ≠ d → f s d < 1000 → ∃ r : Nat, r < 7 ∧ w s r ≠ 0 ∧ w s r + f r d ≤ f s d)

/-- links that count have both routers up, a cost of 1 .. 9, and join two routers -/
def ln_Ok (w : Nat → Nat → Nat) (o : Nat → Prop) : Prop :=
  ∀ s r : Nat, s < 7 → r < 7 → w s r ≤ 9 ∧ (w s r ≠ 0 → o s ∧ o r ∧ s ≠ r)

theorem ln_fl0 {w : Nat → Nat → Nat} {o : Nat → Prop} {f : Nat → Nat → Nat} (hw : ln_Ok w o)
    (h : ∀ s d : Nat, s < 7 → d < 7 → (s = d → o s → f s d = 0) ∧ (s = d → ¬ o s → f s d = 1000) ∧
      (s ≠ d → w s d = 0 → f s d = 1000) ∧ (s ≠ d → w s d ≠ 0 → f s d = w s d)) : ln_Fl w o 0 f := by
  intro s d hs hd
  obtain ⟨h1, h2, h3, h4⟩ := h s d hs hd
  obtain ⟨w1, w2⟩ := hw s d hs hd
  refine ⟨?_, h1, h2, fun a b => Nat.le_of_eq (h4 a b), fun m hm _ => absurd hm (Nat.not_lt_zero m), ?_⟩
  · by_cases e : s = d
    · by_cases ho : o s
      · have := h1 e ho; omega
      · have := h2 e ho; omega
    · by_cases z : w s d = 0
      · have := h3 e z; omega
      · have := h4 e z; omega
  · intro e hl
    by_cases z : w s d = 0
    · have := h3 e z; omega
    · have e4 := h4 e z
      have e0 := (h d d hd hd).1 rfl (w2 z).2.1
      exact ⟨d, hd, z, by omega⟩

/-- x is what the stage k makes of f at (s, d) -/
def ln_New (f : Nat → Nat → Nat) (k x s d : Nat) : Prop :=
  x ≤ f s d ∧ x ≤ f s k + f k d ∧ (x = f s d ∨ x = f s k + f k d)

theorem ln_kk {w : Nat → Nat → Nat} {o : Nat → Prop} {k j : Nat} {f : Nat → Nat → Nat} (h : ln_Fl w o k f) (hj : j < 7) :
    f j j = 0 ∨ f j j = 1000 := by
  obtain ⟨_, h1, h2, _⟩ := h j j hj hj
  by_cases ho : o j
  · exact Or.inl (h1 rfl ho)
  · exact Or.inr (h2 rfl ho)

/-- a stage leaves its middle's column as it is -/
theorem ln_col {w : Nat → Nat → Nat} {o : Nat → Prop} {k s x : Nat} {f : Nat → Nat → Nat} (h : ln_Fl w o k f) (hk : k < 7)
    (hx : ln_New f k x s k) : x = f s k := by
  have := ln_kk h hk
  obtain ⟨h1, h2, h3⟩ := hx
  omega

/-- .. and its row -/
theorem ln_row {w : Nat → Nat → Nat} {o : Nat → Prop} {k d x : Nat} {f : Nat → Nat → Nat} (h : ln_Fl w o k f) (hk : k < 7)
    (hx : ln_New f k x k d) : x = f k d := by
  have := ln_kk h hk
  obtain ⟨h1, h2, h3⟩ := hx
  omega

theorem ln_fls {w : Nat → Nat → Nat} {o : Nat → Prop} {k : Nat} {f g : Nat → Nat → Nat} (hw : ln_Ok w o) (hk : k < 7)
    (h : ln_Fl w o k f) (hg : ∀ s d : Nat, s < 7 → d < 7 → ln_New f k (g s d) s d) : ln_Fl w o (k + 1) g := by
  have col : ∀ s : Nat, s < 7 → g s k = f s k := fun s hs => ln_col h hk (hg s k hs hk)
  have row : ∀ d : Nat, d < 7 → g k d = f k d := fun d hd => ln_row h hk (hg k d hk hd)
  intro s d hs hd
  obtain ⟨f1, f2, f3, f4, f5, f6⟩ := h s d hs hd
  obtain ⟨n1, n2, n3⟩ := hg s d hs hd
  refine ⟨by omega, fun a b => ?_, fun a b => ?_, fun a b => ?_, fun m hm h7 => ?_, fun a b => ?_⟩
  · have := f2 a b; omega
  · have e := f3 a b
    have hsk : f s k = 1000 ∨ s = k := by
      by_cases z : s = k
      · exact Or.inr z
      · refine Or.inl ?_
        obtain ⟨k1, _, _, _, _, k6⟩ := h s k hs hk
        by_cases l : f s k < 1000
        · obtain ⟨r, hr, hz, _⟩ := k6 z l
          exact absurd ((hw s r hs hr).2 hz).1 b
        · omega
    rcases hsk with z | z
    · omega
    · subst z
      have := row d hd
      omega
  · have := f4 a b; omega
  · by_cases z : m = k
    · subst z
      rw [col s hs, row d hd]; exact n2
    · have hm' : m < k := by omega
      have c1 := f5 m hm' h7
      have c2 := (h k d hk hd).2.2.2.2.1 m hm' h7
      have c3 := (h s k hs hk).2.2.2.2.1 m hm' h7
      obtain ⟨_, _, a3⟩ := hg s m hs h7
      obtain ⟨_, _, b3⟩ := hg m d h7 hd
      omega
  · rcases n3 with z | z
    · obtain ⟨r, hr, hz, q⟩ := f6 a (by omega)
      have := (hg r d hr hd).1
      exact ⟨r, hr, hz, by omega⟩
    · by_cases y : s = k
      · subst y
        have e := row d hd
        obtain ⟨r, hr, hz, q⟩ := f6 a (by omega)
        have := (hg r d hr hd).1
        exact ⟨r, hr, hz, by omega⟩
      · obtain ⟨r, hr, hz, q⟩ := (h s k hs hk).2.2.2.2.2 y (by omega)
        have := (hg r d hr hd).2.1
        exact ⟨r, hr, hz, by omega⟩

theorem ln_fl7 {w : Nat → Nat → Nat} {o : Nat → Prop} {f : Nat → Nat → Nat} (hw : ln_Ok w o) (h : ln_Fl w o 7 f) : ln_Bel w o f := by
  intro s d hs hd
  obtain ⟨f1, f2, f3, f4, f5, f6⟩ := h s d hs hd
  have up : ∀ r : Nat, r < 7 → w s r ≠ 0 → f s d ≤ w s r + f r d := by
    intro r hr hz
    have a := f5 r hr hr
    have b := (h s r hs hr).2.2.2.1 ((hw s r hs hr).2 hz).2.2 hz
    omega
  refine ⟨f1, f2, f3, fun a => ⟨up, fun b => ?_⟩⟩
  obtain ⟨r, hr, hz, q⟩ := f6 a b
  have := up r hr hz
  exact ⟨r, hr, hz, by omega⟩

/-- how many of 0 .. n - 1 have p -/
def ln_cn (p : Nat → Bool) : Nat → Nat
  | 0 => 0
  | n + 1 => ln_cn p n + (if p n = true then 1 else 0)

theorem ln_cn_le (p : Nat → Bool) : ∀ n : Nat, ln_cn p n ≤ n := by
  intro n
  induction n with
  | zero => exact Nat.le_refl 0
  | succ n ih => rw [ln_cn]; split <;> omega

theorem ln_cn_lt {p : Nat → Bool} {i : Nat} (hp : ¬ p i = true) : ∀ n : Nat, i < n → ln_cn p n < n := by
  intro n
  induction n with
  | zero => intro h; exact absurd h (Nat.not_lt_zero i)
  | succ n ih =>
    intro h
    have := ln_cn_le p n
    rw [ln_cn]
    by_cases e : i = n
    · subst e; rw [if_neg hp]; omega
    · have := ih (by omega)
      split <;> omega

theorem ln_cn_mono {p q : Nat → Bool} (h : ∀ t : Nat, p t = true → q t = true) : ∀ n : Nat, ln_cn p n ≤ ln_cn q n := by
  intro n
  induction n with
  | zero => exact Nat.le_refl 0
  | succ n ih =>
    rw [ln_cn, ln_cn]
    by_cases e : p n = true
    · rw [if_pos e, if_pos (h n e)]; omega
    · rw [if_neg e]; omega

theorem ln_cn_st {p q : Nat → Bool} {i : Nat} (h : ∀ t : Nat, p t = true → q t = true) (hp : ¬ p i = true) (hq : q i = true) :
    ∀ n : Nat, i < n → ln_cn p n < ln_cn q n := by
  intro n
  induction n with
  | zero => intro h; exact absurd h (Nat.not_lt_zero i)
  | succ n ih =>
    intro hi
    have m := ln_cn_mono h n
    rw [ln_cn, ln_cn]
    by_cases e : i = n
    · subst e; rw [if_neg hp, if_pos hq]; omega
    · have s := ih (by omega)
      by_cases e : p n = true
      · rw [if_pos e, if_pos (h n e)]; omega
      · rw [if_neg e]; omega

theorem ln_cn_congr {p q : Nat → Bool} : ∀ n : Nat, (∀ t : Nat, t < n → p t = q t) → ln_cn p n = ln_cn q n := by
  intro n
  induction n with
  | zero => intro _; rfl
  | succ n ih =>
    intro h
    rw [ln_cn, ln_cn, ih (fun t ht => h t (by omega)), h n (by omega)]

/-- how many routers are nearer to d than s is -/
def ln_rk (f : Nat → Nat → Nat) (d s : Nat) : Nat := ln_cn (fun t => decide (f t d < f s d)) 7

theorem ln_rk6 (f : Nat → Nat → Nat) (d : Nat) {s : Nat} (hs : s < 7) : ln_rk f d s ≤ 6 := by
  have := ln_cn_lt (p := fun t => decide (f t d < f s d)) (i := s) (by simp) 7 hs
  unfold ln_rk; omega

theorem ln_rk_lt {f : Nat → Nat → Nat} {d r s : Nat} (hr : r < 7) (h : f r d < f s d) : ln_rk f d r < ln_rk f d s := by
  unfold ln_rk
  refine ln_cn_st (i := r) (fun t ht => ?_) (by simp) (by simp [h]) 7 hr
  simp only [decide_eq_true_eq] at ht ⊢
  omega

/-- r is the next hop from s to d -/
def ln_Hop (w f : Nat → Nat → Nat) (s d r : Nat) : Prop :=
  r < 7 ∧ w s r ≠ 0 ∧ w s r + f r d = f s d ∧ ∀ j : Nat, j < r → ¬ (w s j ≠ 0 ∧ w s j + f j d = f s d)

theorem ln_hop_uniq {w f : Nat → Nat → Nat} {s d r t : Nat} (h : ln_Hop w f s d r) (g : ln_Hop w f s d t) : r = t := by
  obtain ⟨_, h1, h2, h3⟩ := h
  obtain ⟨_, g1, g2, g3⟩ := g
  by_cases a : r < t
  · exact absurd ⟨h1, h2⟩ (g3 r a)
  · by_cases b : t < r
    · exact absurd ⟨g1, g2⟩ (h3 t b)
    · omega

theorem ln_hop_ex {w : Nat → Nat → Nat} {o : Nat → Prop} {f : Nat → Nat → Nat} (h : ln_Bel w o f) {s d : Nat} (hs : s < 7) (hd : d < 7)
    (e : s ≠ d) (l : f s d < 1000) : ∃ r : Nat, ln_Hop w f s d r := by
  obtain ⟨r, hr, hz, q⟩ := ((h s d hs hd).2.2.2 e).2 l
  obtain ⟨t, ⟨t1, t2⟩, t3⟩ := pk_least (fun j => w s j ≠ 0 ∧ w s j + f j d = f s d) ⟨r, hz, q⟩
  refine ⟨t, ?_, t1, t2, t3⟩
  by_cases c : t ≤ r
  · omega
  · exact absurd ⟨hz, q⟩ (t3 r (by omega))

/-- the route from s to d: n links, q 0 .. q n its routers -/
def ln_Rt (w f : Nat → Nat → Nat) (s d n : Nat) (q : Nat → Nat) : Prop :=
  n ≤ 6 ∧ q 0 = s ∧ q n = d ∧ (∀ k : Nat, k ≤ n → q k < 7 ∧ f (q k) d < 1000) ∧
    (∀ k : Nat, k < n → q k ≠ d ∧ ln_Hop w f (q k) d (q (k + 1)))

def ln_cons (s : Nat) (q : Nat → Nat) : Nat → Nat
  | 0 => s
  | k + 1 => q k

theorem ln_rt_ex {w : Nat → Nat → Nat} {o : Nat → Prop} {f : Nat → Nat → Nat} (h : ln_Bel w o f) {d : Nat} (hd : d < 7) :
    ∀ m s : Nat, s < 7 → f s d < 1000 → ln_rk f d s ≤ m → ∃ (n : Nat) (q : Nat → Nat), n ≤ m ∧ q 0 = s ∧ q n = d ∧
      (∀ k : Nat, k ≤ n → q k < 7 ∧ f (q k) d < 1000) ∧ (∀ k : Nat, k < n → q k ≠ d ∧ ln_Hop w f (q k) d (q (k + 1))) := by
  intro m
  induction m with
  | zero =>
    intro s hs l hm
    by_cases e : s = d
    · exact ⟨0, fun _ => s, Nat.le_refl 0, rfl, e, fun k _ => ⟨hs, l⟩, fun k hk => absurd hk (Nat.not_lt_zero k)⟩
    · obtain ⟨r, h1, h2, h3, _⟩ := ln_hop_ex h hs hd e l
      have := ln_rk_lt (f := f) (d := d) (s := s) h1 (by omega)
      omega
  | succ m ih =>
    intro s hs l hm
    by_cases e : s = d
    · exact ⟨0, fun _ => s, Nat.zero_le _, rfl, e, fun k _ => ⟨hs, l⟩, fun k hk => absurd hk (Nat.not_lt_zero k)⟩
    · obtain ⟨r, hh⟩ := ln_hop_ex h hs hd e l
      have h1 := hh.1
      have h2 := hh.2.1
      have h3 := hh.2.2.1
      have lt := ln_rk_lt (f := f) (d := d) (s := s) h1 (by omega)
      obtain ⟨n, q, q1, q2, q3, q4, q5⟩ := ih r h1 (by omega) (by omega)
      refine ⟨n + 1, ln_cons s q, by omega, rfl, q3, fun k hk => ?_, fun k hk => ?_⟩
      · cases k with
        | zero => exact ⟨hs, l⟩
        | succ k => exact q4 k (by omega)
      · cases k with
        | zero => exact ⟨e, by show ln_Hop w f s d (q 0); rw [q2]; exact hh⟩
        | succ k => exact q5 k (by omega)

theorem ln_rt {w : Nat → Nat → Nat} {o : Nat → Prop} {f : Nat → Nat → Nat} (h : ln_Bel w o f) {s d : Nat} (hs : s < 7) (hd : d < 7)
    (l : f s d < 1000) : ∃ (n : Nat) (q : Nat → Nat), ln_Rt w f s d n q := by
  obtain ⟨n, q, h1, h2, h3, h4, h5⟩ := ln_rt_ex h hd 6 s hs l (ln_rk6 f d hs)
  exact ⟨n, q, h1, h2, h3, h4, h5⟩

/-- the two codes of a route -/
def ln_cx (q : Nat → Nat) : Nat → Nat
  | 0 => q 0 + 1
  | n + 1 => 8 * ln_cx q n + (q (n + 1) + 1)
def ln_cy (q : Nat → Nat) : Nat → Nat
  | 0 => 8 + q 0
  | n + 1 => 8 * ln_cy q n + q (n + 1)

theorem ln_cx_b {q : Nat → Nat} : ∀ n : Nat, (∀ k : Nat, k ≤ n → q k < 7) → 1 ≤ ln_cx q n ∧ ln_cx q n < 8 ^ (n + 1) := by
  intro n
  induction n with
  | zero => intro h; have := h 0 (Nat.le_refl 0); rw [ln_cx]; omega
  | succ n ih =>
    intro h
    have a := ih (fun k hk => h k (by omega))
    have b := h (n + 1) (Nat.le_refl _)
    rw [ln_cx, Nat.pow_succ]
    omega

theorem ln_cy_b {q : Nat → Nat} : ∀ n : Nat, (∀ k : Nat, k ≤ n → q k < 7) → 8 ≤ ln_cy q n ∧ ln_cy q n < 2 * 8 ^ (n + 1) := by
  intro n
  induction n with
  | zero => intro h; have := h 0 (Nat.le_refl 0); rw [ln_cy]; omega
  | succ n ih =>
    intro h
    have a := ih (fun k hk => h k (by omega))
    have b := h (n + 1) (Nat.le_refl _)
    rw [ln_cy, Nat.pow_succ]
    omega

theorem ln_code {q p : Nat → Nat} : ∀ n m : Nat, (∀ k : Nat, k ≤ n → q k < 7) → (∀ k : Nat, k ≤ m → p k < 7) →
    (ln_cx q n = ln_cx p m ↔ ln_cy q n = ln_cy p m) := by
  intro n
  induction n with
  | zero =>
    intro m hq hp
    have a := hq 0 (Nat.le_refl 0)
    cases m with
    | zero => rw [ln_cx, ln_cx, ln_cy, ln_cy]; omega
    | succ m =>
      have x := ln_cx_b m (fun k hk => hp k (by omega))
      have y := ln_cy_b m (fun k hk => hp k (by omega))
      rw [ln_cx, ln_cx, ln_cy, ln_cy]; omega
  | succ n ih =>
    intro m hq hp
    have x := ln_cx_b n (fun k hk => hq k (by omega))
    have y := ln_cy_b n (fun k hk => hq k (by omega))
    have a := hq (n + 1) (Nat.le_refl _)
    cases m with
    | zero =>
      have b := hp 0 (Nat.le_refl 0)
      rw [ln_cx, ln_cx, ln_cy, ln_cy]; omega
    | succ m =>
      have b := hp (m + 1) (Nat.le_refl _)
      have i := ih m (fun k hk => hq k (by omega)) (fun k hk => hp k (by omega))
      rw [ln_cx, ln_cx, ln_cy, ln_cy]
      constructor
      · intro e
        have e1 : ln_cx q n = ln_cx p m := by omega
        have e2 := i.mp e1
        omega
      · intro e
        have e1 : ln_cy q n = ln_cy p m := by omega
        have e2 := i.mpr e1
        omega
