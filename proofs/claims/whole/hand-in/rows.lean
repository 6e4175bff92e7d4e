section
/-! part 00: rows pasted from the given rows (numbers, arrays, a least one) -/

theorem pk_us {f : Nat → Int32} {k : Nat} {x : Int32} : upd f k x k = x := if_pos rfl

theorem pk_un {f : Nat → Int32} {k j : Nat} {x : Int32} (h : j ≠ k) : upd f k x j = f j := if_neg h

theorem pk_sub {a b : Nat} (h : b ≤ a) : nI a - nI b = nI (a - b) := by
  obtain ⟨c, rfl⟩ : ∃ c, a = c + b := ⟨a - b, by omega⟩
  rw [← nI_add, Int32.add_sub_cancel, Nat.add_sub_cancel]

theorem pk_mul (a b : Nat) : nI a * nI b = nI (a * b) := (Int32.ofNat_mul a b).symm

theorem pk_div {a d : Nat} (ha : a < 2 ^ 31) (h0 : 0 < d) (hd : d < 2 ^ 31) : nI a / nI d = nI (a / d) := by
  apply Int32.toInt_inj.mp
  rw [lg_idiv_nonneg (by rw [nI_toInt ha]; omega) (by rw [nI_toInt hd]; omega), nI_toInt ha, nI_toInt hd, nI_toInt (Nat.lt_of_le_of_lt (Nat.div_le_self a d) ha)]
  first | rfl | exact (Int.natCast_ediv _ _).symm

theorem pk_rem {a d : Nat} (ha : a < 2 ^ 31) (h0 : 0 < d) (hd : d < 2 ^ 31) : nI a - nI a / nI d * nI d = nI (a % d) := by
  rw [pk_div ha h0 hd, pk_mul, pk_sub (Nat.div_mul_le_self a d)]
  exact congrArg nI (by have := Nat.div_add_mod' a d; omega)

theorem pk_ix (x : Int32) {n : Nat} (hn : n < 2 ^ 31) : x < 0 ∨ nI n ≤ x ∨ ∃ j : Nat, j < n ∧ x = nI j := by
  by_cases h : x < 0
  · exact Or.inl h
  · obtain ⟨j, hj, rfl⟩ := nI_of h
    by_cases h2 : j < n
    · exact Or.inr (Or.inr ⟨j, h2, rfl⟩)
    · exact Or.inr (Or.inl (nI_le (by omega) hj))

theorem pk_tn {n : Nat} (h : n < 2 ^ 32) : (nI n).toBitVec.toNat = n := Nat.mod_eq_of_lt h

theorem pk_shl (a s : Int32) (k : Nat) (hs : (s.toBitVec.smod 32).toNat = k) : (a <<< s).toBitVec.toNat = a.toBitVec.toNat * 2 ^ k % 2 ^ 32 := by
  show (a.toBitVec <<< (s.toBitVec.smod 32).toNat).toNat = _
  rw [hs, BitVec.toNat_shiftLeft, Nat.shiftLeft_eq]

theorem pk_shlN {n : Nat} (s : Int32) (k : Nat) (hs : (s.toBitVec.smod 32).toNat = k) (h : n * 2 ^ k < 2 ^ 32) : nI n <<< s = nI (n * 2 ^ k) := by
  apply Int32.toBitVec_inj.mp
  apply BitVec.eq_of_toNat_eq
  have hn : n < 2 ^ 32 := Nat.lt_of_le_of_lt (Nat.le_mul_of_pos_right n (Nat.two_pow_pos k)) h
  rw [pk_shl _ _ k hs, pk_tn hn, pk_tn h, Nat.mod_eq_of_lt h]

theorem pk_least (P : Nat → Prop) (h : ∃ k, P k) : ∃ k, P k ∧ ∀ j, j < k → ¬ P j := by
  obtain ⟨k, hk⟩ := h
  induction k using Nat.strongRecOn with
  | ind k ih =>
    by_cases e : ∃ j, j < k ∧ P j
    · obtain ⟨j, hj, pj⟩ := e
      exact ih j hj pj
    · exact ⟨k, hk, fun j hj pj => e ⟨j, hj, pj⟩⟩
end
section
/-! part 01: the pure side. Nothing here knows either side. -/

/-- f keeps the equation over the weights w (0: no link that counts) and the routers o that are up -/
def ln_Bel (w : Nat → Nat → Nat) (o : Nat → Prop) (f : Nat → Nat → Nat) : Prop :=
  ∀ s d : Nat, s < 7 → d < 7 →
    f s d ≤ 1000 ∧ (s = d → o s → f s d = 0) ∧ (s = d → ¬ o s → f s d = 1000) ∧
    (s ≠ d → (∀ r : Nat, r < 7 → w s r ≠ 0 → f s d ≤ w s r + f r d) ∧
      (f s d < 1000 → ∃ r : Nat, r < 7 ∧ w s r ≠ 0 ∧ w s r + f r d = f s d))

theorem ln_le {w : Nat → Nat → Nat} {o : Nat → Prop} {f g : Nat → Nat → Nat} (hf : ln_Bel w o f) (hg : ln_Bel w o g) :
    ∀ v s d : Nat, s < 7 → d < 7 → f s d = v → v < 1000 → g s d ≤ v := by
  intro v
  induction v using Nat.strongRecOn with
  | ind v ih =>
    intro s d hs hd e hv
    obtain ⟨f1, f2, f3, f4⟩ := hf s d hs hd
    obtain ⟨g1, g2, g3, g4⟩ := hg s d hs hd
    by_cases h : s = d
    · by_cases ho : o s
      · have := g2 h ho; omega
      · have := f3 h ho; omega
    · obtain ⟨r, hr, hw, hq⟩ := (f4 h).2 (by omega)
      have h1 := (g4 h).1 r hr hw
      have h2 := ih (f r d) (by omega) r d hr hd rfl (by omega)
      omega

theorem ln_uniq {w : Nat → Nat → Nat} {o : Nat → Prop} {f g : Nat → Nat → Nat} (hf : ln_Bel w o f) (hg : ln_Bel w o g)
    {s d : Nat} (hs : s < 7) (hd : d < 7) : f s d = g s d := by
  have a : f s d < 1000 → g s d ≤ f s d := fun h => ln_le hf hg _ s d hs hd rfl h
  have b : g s d < 1000 → f s d ≤ g s d := fun h => ln_le hg hf _ s d hs hd rfl h
  have c := (hf s d hs hd).1
  have e := (hg s d hs hd).1
  omega

/-- the stages of the one-middle-after-the-other way: what holds when the middles below k are done -/
def ln_Fl (w : Nat → Nat → Nat) (o : Nat → Prop) (k : Nat) (f : Nat → Nat → Nat) : Prop :=
  ∀ s d : Nat, s < 7 → d < 7 →
    f s d ≤ 1000 ∧ (s = d → o s → f s d = 0) ∧ (s = d → ¬ o s → f s d = 1000) ∧
    (s ≠ d → w s d ≠ 0 → f s d ≤ w s d) ∧
    (∀ m : Nat, m < k → m < 7 → f s d ≤ f s m + f m d) ∧
    (s ≠ d → f s d < 1000 → ∃ r : Nat, r < 7 ∧ w s r ≠ 0 ∧ w s r + f r d ≤ f s d)

/-- links that count have both routers up, a cost of 1 .. 9, and join two routers -/
def ln_Ok (w : Nat → Nat → Nat) (o : Nat → Prop) : Prop :=
  ∀ s r : Nat, s < 7 → r < 7 → w s r ≤ 9 ∧ (w s r ≠ 0 → o s ∧ o r ∧ s ≠ r)

theorem ln_fl0 {w : Nat → Nat → Nat} {o : Nat → Prop} {f : Nat → Nat → Nat} (hw : ln_Ok w o)
    (h : ∀ s d : Nat, s < 7 → d < 7 → (s = d → o s → f s d = 0) ∧ (s = d → ¬ o s → f s d = 1000) ∧
      (s ≠ d → w s d = 0 → f s d = 1000) ∧ (s ≠ d → w s d ≠ 0 → f s d = w s d)) : ln_Fl w o 0 f := by
  intro s d hs hd
  obtain ⟨h1, h2, h3, h4⟩ := h s d hs hd
  obtain ⟨w1, w2⟩ := hw s d hs hd
  refine ⟨?_, h1, h2, fun a b => Nat.le_of_eq (h4 a b), fun m hm _ => absurd hm (Nat.not_lt_zero m), ?_⟩
  · by_cases e : s = d
    · by_cases ho : o s
      · have := h1 e ho; omega
      · have := h2 e ho; omega
    · by_cases z : w s d = 0
      · have := h3 e z; omega
      · have := h4 e z; omega
  · intro e hl
    by_cases z : w s d = 0
    · have := h3 e z; omega
    · have e4 := h4 e z
      have e0 := (h d d hd hd).1 rfl (w2 z).2.1
      exact ⟨d, hd, z, by omega⟩

/-- x is what the stage k makes of f at (s, d) -/
def ln_New (f : Nat → Nat → Nat) (k x s d : Nat) : Prop :=
  x ≤ f s d ∧ x ≤ f s k + f k d ∧ (x = f s d ∨ x = f s k + f k d)

theorem ln_kk {w : Nat → Nat → Nat} {o : Nat → Prop} {k j : Nat} {f : Nat → Nat → Nat} (h : ln_Fl w o k f) (hj : j < 7) :
    f j j = 0 ∨ f j j = 1000 := by
  obtain ⟨_, h1, h2, _⟩ := h j j hj hj
  by_cases ho : o j
  · exact Or.inl (h1 rfl ho)
  · exact Or.inr (h2 rfl ho)

/-- a stage leaves its middle's column as it is -/
theorem ln_col {w : Nat → Nat → Nat} {o : Nat → Prop} {k s x : Nat} {f : Nat → Nat → Nat} (h : ln_Fl w o k f) (hk : k < 7)
    (hx : ln_New f k x s k) : x = f s k := by
  have := ln_kk h hk
  obtain ⟨h1, h2, h3⟩ := hx
  omega

/-- .. and its row -/
theorem ln_row {w : Nat → Nat → Nat} {o : Nat → Prop} {k d x : Nat} {f : Nat → Nat → Nat} (h : ln_Fl w o k f) (hk : k < 7)
    (hx : ln_New f k x k d) : x = f k d := by
  have := ln_kk h hk
  obtain ⟨h1, h2, h3⟩ := hx
  omega

theorem ln_fls {w : Nat → Nat → Nat} {o : Nat → Prop} {k : Nat} {f g : Nat → Nat → Nat} (hw : ln_Ok w o) (hk : k < 7)
    (h : ln_Fl w o k f) (hg : ∀ s d : Nat, s < 7 → d < 7 → ln_New f k (g s d) s d) : ln_Fl w o (k + 1) g := by
  have col : ∀ s : Nat, s < 7 → g s k = f s k := fun s hs => ln_col h hk (hg s k hs hk)
  have row : ∀ d : Nat, d < 7 → g k d = f k d := fun d hd => ln_row h hk (hg k d hk hd)
  intro s d hs hd
  obtain ⟨f1, f2, f3, f4, f5, f6⟩ := h s d hs hd
  obtain ⟨n1, n2, n3⟩ := hg s d hs hd
  refine ⟨by omega, fun a b => ?_, fun a b => ?_, fun a b => ?_, fun m hm h7 => ?_, fun a b => ?_⟩
  · have := f2 a b; omega
  · have e := f3 a b
    have hsk : f s k = 1000 ∨ s = k := by
      by_cases z : s = k
      · exact Or.inr z
      · refine Or.inl ?_
        obtain ⟨k1, _, _, _, _, k6⟩ := h s k hs hk
        by_cases l : f s k < 1000
        · obtain ⟨r, hr, hz, _⟩ := k6 z l
          exact absurd ((hw s r hs hr).2 hz).1 b
        · omega
    rcases hsk with z | z
    · omega
    · subst z
      have := row d hd
      omega
  · have := f4 a b; omega
  · by_cases z : m = k
    · subst z
      rw [col s hs, row d hd]; exact n2
    · have hm' : m < k := by omega
      have c1 := f5 m hm' h7
      have c2 := (h k d hk hd).2.2.2.2.1 m hm' h7
      have c3 := (h s k hs hk).2.2.2.2.1 m hm' h7
      obtain ⟨_, _, a3⟩ := hg s m hs h7
      obtain ⟨_, _, b3⟩ := hg m d h7 hd
      omega
  · rcases n3 with z | z
    · obtain ⟨r, hr, hz, q⟩ := f6 a (by omega)
      have := (hg r d hr hd).1
      exact ⟨r, hr, hz, by omega⟩
    · by_cases y : s = k
      · subst y
        have e := row d hd
        obtain ⟨r, hr, hz, q⟩ := f6 a (by omega)
        have := (hg r d hr hd).1
        exact ⟨r, hr, hz, by omega⟩
      · obtain ⟨r, hr, hz, q⟩ := (h s k hs hk).2.2.2.2.2 y (by omega)
        have := (hg r d hr hd).2.1
        exact ⟨r, hr, hz, by omega⟩

theorem ln_fl7 {w : Nat → Nat → Nat} {o : Nat → Prop} {f : Nat → Nat → Nat} (hw : ln_Ok w o) (h : ln_Fl w o 7 f) : ln_Bel w o f := by
  intro s d hs hd
  obtain ⟨f1, f2, f3, f4, f5, f6⟩ := h s d hs hd
  have up : ∀ r : Nat, r < 7 → w s r ≠ 0 → f s d ≤ w s r + f r d := by
    intro r hr hz
    have a := f5 r hr hr
    have b := (h s r hs hr).2.2.2.1 ((hw s r hs hr).2 hz).2.2 hz
    omega
  refine ⟨f1, f2, f3, fun a => ⟨up, fun b => ?_⟩⟩
  obtain ⟨r, hr, hz, q⟩ := f6 a b
  have := up r hr hz
  exact ⟨r, hr, hz, by omega⟩

/-- how many of 0 .. n - 1 have p -/
def ln_cn (p : Nat → Bool) : Nat → Nat
  | 0 => 0
  | n + 1 => ln_cn p n + (if p n = true then 1 else 0)

theorem ln_cn_le (p : Nat → Bool) : ∀ n : Nat, ln_cn p n ≤ n := by
  intro n
  induction n with
  | zero => exact Nat.le_refl 0
  | succ n ih => rw [ln_cn]; split <;> omega

theorem ln_cn_lt {p : Nat → Bool} {i : Nat} (hp : ¬ p i = true) : ∀ n : Nat, i < n → ln_cn p n < n := by
  intro n
  induction n with
  | zero => intro h; exact absurd h (Nat.not_lt_zero i)
  | succ n ih =>
    intro h
    have := ln_cn_le p n
    rw [ln_cn]
    by_cases e : i = n
    · subst e; rw [if_neg hp]; omega
    · have := ih (by omega)
      split <;> omega

theorem ln_cn_mono {p q : Nat → Bool} (h : ∀ t : Nat, p t = true → q t = true) : ∀ n : Nat, ln_cn p n ≤ ln_cn q n := by
  intro n
  induction n with
  | zero => exact Nat.le_refl 0
  | succ n ih =>
    rw [ln_cn, ln_cn]
    by_cases e : p n = true
    · rw [if_pos e, if_pos (h n e)]; omega
    · rw [if_neg e]; omega

theorem ln_cn_st {p q : Nat → Bool} {i : Nat} (h : ∀ t : Nat, p t = true → q t = true) (hp : ¬ p i = true) (hq : q i = true) :
    ∀ n : Nat, i < n → ln_cn p n < ln_cn q n := by
  intro n
  induction n with
  | zero => intro h; exact absurd h (Nat.not_lt_zero i)
  | succ n ih =>
    intro hi
    have m := ln_cn_mono h n
    rw [ln_cn, ln_cn]
    by_cases e : i = n
    · subst e; rw [if_neg hp, if_pos hq]; omega
    · have s := ih (by omega)
      by_cases e : p n = true
      · rw [if_pos e, if_pos (h n e)]; omega
      · rw [if_neg e]; omega

theorem ln_cn_congr {p q : Nat → Bool} : ∀ n : Nat, (∀ t : Nat, t < n → p t = q t) → ln_cn p n = ln_cn q n := by
  intro n
  induction n with
  | zero => intro _; rfl
  | succ n ih =>
    intro h
    rw [ln_cn, ln_cn, ih (fun t ht => h t (by omega)), h n (by omega)]

/-- how many routers are nearer to d than s is -/
def ln_rk (f : Nat → Nat → Nat) (d s : Nat) : Nat := ln_cn (fun t => decide (f t d < f s d)) 7

theorem ln_rk6 (f : Nat → Nat → Nat) (d : Nat) {s : Nat} (hs : s < 7) : ln_rk f d s ≤ 6 := by
  have := ln_cn_lt (p := fun t => decide (f t d < f s d)) (i := s) (by simp) 7 hs
  unfold ln_rk; omega

theorem ln_rk_lt {f : Nat → Nat → Nat} {d r s : Nat} (hr : r < 7) (h : f r d < f s d) : ln_rk f d r < ln_rk f d s := by
  unfold ln_rk
  refine ln_cn_st (i := r) (fun t ht => ?_) (by simp) (by simp [h]) 7 hr
  simp only [decide_eq_true_eq] at ht ⊢
  omega

/-- r is the next hop from s to d -/
def ln_Hop (w f : Nat → Nat → Nat) (s d r : Nat) : Prop :=
  r < 7 ∧ w s r ≠ 0 ∧ w s r + f r d = f s d ∧ ∀ j : Nat, j < r → ¬ (w s j ≠ 0 ∧ w s j + f j d = f s d)

theorem ln_hop_uniq {w f : Nat → Nat → Nat} {s d r t : Nat} (h : ln_Hop w f s d r) (g : ln_Hop w f s d t) : r = t := by
  obtain ⟨_, h1, h2, h3⟩ := h
  obtain ⟨_, g1, g2, g3⟩ := g
  by_cases a : r < t
  · exact absurd ⟨h1, h2⟩ (g3 r a)
  · by_cases b : t < r
    · exact absurd ⟨g1, g2⟩ (h3 t b)
    · omega

theorem ln_hop_ex {w : Nat → Nat → Nat} {o : Nat → Prop} {f : Nat → Nat → Nat} (h : ln_Bel w o f) {s d : Nat} (hs : s < 7) (hd : d < 7)
    (e : s ≠ d) (l : f s d < 1000) : ∃ r : Nat, ln_Hop w f s d r := by
  obtain ⟨r, hr, hz, q⟩ := ((h s d hs hd).2.2.2 e).2 l
  obtain ⟨t, ⟨t1, t2⟩, t3⟩ := pk_least (fun j => w s j ≠ 0 ∧ w s j + f j d = f s d) ⟨r, hz, q⟩
  refine ⟨t, ?_, t1, t2, t3⟩
  by_cases c : t ≤ r
  · omega
  · exact absurd ⟨hz, q⟩ (t3 r (by omega))

/-- the route from s to d: n links, q 0 .. q n its routers -/
def ln_Rt (w f : Nat → Nat → Nat) (s d n : Nat) (q : Nat → Nat) : Prop :=
  n ≤ 6 ∧ q 0 = s ∧ q n = d ∧ (∀ k : Nat, k ≤ n → q k < 7 ∧ f (q k) d < 1000) ∧
    (∀ k : Nat, k < n → q k ≠ d ∧ ln_Hop w f (q k) d (q (k + 1)))

def ln_cons (s : Nat) (q : Nat → Nat) : Nat → Nat
  | 0 => s
  | k + 1 => q k

theorem ln_rt_ex {w : Nat → Nat → Nat} {o : Nat → Prop} {f : Nat → Nat → Nat} (h : ln_Bel w o f) {d : Nat} (hd : d < 7) :
    ∀ m s : Nat, s < 7 → f s d < 1000 → ln_rk f d s ≤ m → ∃ (n : Nat) (q : Nat → Nat), n ≤ m ∧ q 0 = s ∧ q n = d ∧
      (∀ k : Nat, k ≤ n → q k < 7 ∧ f (q k) d < 1000) ∧ (∀ k : Nat, k < n → q k ≠ d ∧ ln_Hop w f (q k) d (q (k + 1))) := by
  intro m
  induction m with
  | zero =>
    intro s hs l hm
    by_cases e : s = d
    · exact ⟨0, fun _ => s, Nat.le_refl 0, rfl, e, fun k _ => ⟨hs, l⟩, fun k hk => absurd hk (Nat.not_lt_zero k)⟩
    · obtain ⟨r, h1, h2, h3, _⟩ := ln_hop_ex h hs hd e l
      have := ln_rk_lt (f := f) (d := d) (s := s) h1 (by omega)
      omega
  | succ m ih =>
    intro s hs l hm
    by_cases e : s = d
    · exact ⟨0, fun _ => s, Nat.zero_le _, rfl, e, fun k _ => ⟨hs, l⟩, fun k hk => absurd hk (Nat.not_lt_zero k)⟩
    · obtain ⟨r, hh⟩ := ln_hop_ex h hs hd e l
      have h1 := hh.1
      have h2 := hh.2.1
      have h3 := hh.2.2.1
      have lt := ln_rk_lt (f := f) (d := d) (s := s) h1 (by omega)
      obtain ⟨n, q, q1, q2, q3, q4, q5⟩ := ih r h1 (by omega) (by omega)
      refine ⟨n + 1, ln_cons s q, by omega, rfl, q3, fun k hk => ?_, fun k hk => ?_⟩
      · cases k with
        | zero => exact ⟨hs, l⟩
        | succ k => exact q4 k (by omega)
      · cases k with
        | zero => exact ⟨e, by show ln_Hop w f s d (q 0); rw [q2]; exact hh⟩
        | succ k => exact q5 k (by omega)

theorem ln_rt {w : Nat → Nat → Nat} {o : Nat → Prop} {f : Nat → Nat → Nat} (h : ln_Bel w o f) {s d : Nat} (hs : s < 7) (hd : d < 7)
    (l : f s d < 1000) : ∃ (n : Nat) (q : Nat → Nat), ln_Rt w f s d n q := by
  obtain ⟨n, q, h1, h2, h3, h4, h5⟩ := ln_rt_ex h hd 6 s hs l (ln_rk6 f d hs)
  exact ⟨n, q, h1, h2, h3, h4, h5⟩

/-- the two codes of a route -/
def ln_cx (q : Nat → Nat) : Nat → Nat
  | 0 => q 0 + 1
  | n + 1 => 8 * ln_cx q n + (q (n + 1) + 1)
def ln_cy (q : Nat → Nat) : Nat → Nat
  | 0 => 8 + q 0
  | n + 1 => 8 * ln_cy q n + q (n + 1)

theorem ln_cx_b {q : Nat → Nat} : ∀ n : Nat, (∀ k : Nat, k ≤ n → q k < 7) → 1 ≤ ln_cx q n ∧ ln_cx q n < 8 ^ (n + 1) := by
  intro n
  induction n with
  | zero => intro h; have := h 0 (Nat.le_refl 0); rw [ln_cx]; omega
  | succ n ih =>
    intro h
    have a := ih (fun k hk => h k (by omega))
    have b := h (n + 1) (Nat.le_refl _)
    rw [ln_cx, Nat.pow_succ]
    omega

theorem ln_cy_b {q : Nat → Nat} : ∀ n : Nat, (∀ k : Nat, k ≤ n → q k < 7) → 8 ≤ ln_cy q n ∧ ln_cy q n < 2 * 8 ^ (n + 1) := by
  intro n
  induction n with
  | zero => intro h; have := h 0 (Nat.le_refl 0); rw [ln_cy]; omega
  | succ n ih =>
    intro h
    have a := ih (fun k hk => h k (by omega))
    have b := h (n + 1) (Nat.le_refl _)
    rw [ln_cy, Nat.pow_succ]
    omega

theorem ln_code {q p : Nat → Nat} : ∀ n m : Nat, (∀ k : Nat, k ≤ n → q k < 7) → (∀ k : Nat, k ≤ m → p k < 7) →
    (ln_cx q n = ln_cx p m ↔ ln_cy q n = ln_cy p m) := by
  intro n
  induction n with
  | zero =>
    intro m hq hp
    have a := hq 0 (Nat.le_refl 0)
    cases m with
    | zero => rw [ln_cx, ln_cx, ln_cy, ln_cy]; omega
    | succ m =>
      have x := ln_cx_b m (fun k hk => hp k (by omega))
      have y := ln_cy_b m (fun k hk => hp k (by omega))
      rw [ln_cx, ln_cx, ln_cy, ln_cy]; omega
  | succ n ih =>
    intro m hq hp
    have x := ln_cx_b n (fun k hk => hq k (by omega))
    have y := ln_cy_b n (fun k hk => hq k (by omega))
    have a := hq (n + 1) (Nat.le_refl _)
    cases m with
    | zero =>
      have b := hp 0 (Nat.le_refl 0)
      rw [ln_cx, ln_cx, ln_cy, ln_cy]; omega
    | succ m =>
      have b := hp (m + 1) (Nat.le_refl _)
      have i := ih m (fun k hk => hq k (by omega)) (fun k hk => hp k (by omega))
      rw [ln_cx, ln_cx, ln_cy, ln_cy]
      constructor
      · intro e
        have e1 : ln_cx q n = ln_cx p m := by omega
        have e2 := i.mp e1
        omega
      · intro e
        have e1 : ln_cy q n = ln_cy p m := by omega
        have e2 := i.mpr e1
        omega
end
section
/-! part 02: the reference's passes of lowering, against an f that keeps the equation -/

def ln_YI (f g : Nat → Nat → Nat) : Prop :=
  ∀ s d : Nat, s < 7 → d < 7 → f s d ≤ g s d ∧ g s d ≤ 1000 ∧ (s = d → g s d = f s d)

/-- p passes are through: exact wherever at most p routers are nearer -/
def ln_EX (f g : Nat → Nat → Nat) (p : Nat) : Prop :=
  ∀ s d : Nat, s < 7 → d < 7 → f s d < 1000 → ln_rk f d s ≤ p → g s d = f s d

/-- within a pass that began with g0: the steps below c are done -/
def ln_PS (w f g0 : Nat → Nat → Nat) (c : Nat) (g : Nat → Nat → Nat) : Prop :=
  ln_YI f g ∧ (∀ s d : Nat, s < 7 → d < 7 → g s d ≤ g0 s d) ∧
    ∀ s r d : Nat, s < 7 → r < 7 → d < 7 → 49 * s + 7 * r + d < c → w s r ≠ 0 → g0 r d = f r d → g s d ≤ w s r + f r d

def ln_set (g : Nat → Nat → Nat) (s d x : Nat) : Nat → Nat → Nat := fun a b => if a = s ∧ b = d then x else g a b
theorem ln_set_s {g : Nat → Nat → Nat} {s d x : Nat} : ln_set g s d x s d = x := if_pos ⟨rfl, rfl⟩
theorem ln_set_n {g : Nat → Nat → Nat} {s d x a b : Nat} (h : ¬ (a = s ∧ b = d)) : ln_set g s d x a b = g a b := if_neg h

theorem ln_y0 {w : Nat → Nat → Nat} {o : Nat → Prop} {f g : Nat → Nat → Nat} (h : ln_Bel w o f)
    (hg : ∀ s d : Nat, s < 7 → d < 7 → (s = d → o s → g s d = 0) ∧ (¬ (s = d ∧ o s) → g s d = 1000)) : ln_YI f g ∧ ln_EX f g 0 := by
  have y : ln_YI f g := by
    intro s d hs hd
    obtain ⟨h1, h2, h3, _⟩ := h s d hs hd
    obtain ⟨g1, g2⟩ := hg s d hs hd
    by_cases e : s = d
    · by_cases ho : o s
      · have := h2 e ho; have := g1 e ho; omega
      · have := h3 e ho; have := g2 (fun z => ho z.2); omega
    · have := g2 (fun z => e z.1)
      exact ⟨by omega, by omega, fun z => absurd z e⟩
  refine ⟨y, fun s d hs hd l k => ?_⟩
  by_cases e : s = d
  · exact (y s d hs hd).2.2 e
  · obtain ⟨r, h1, h2, h3, _⟩ := ln_hop_ex h hs hd e l
    have := ln_rk_lt (f := f) (d := d) (s := s) h1 (by omega)
    omega

theorem ln_ps0 {w f g : Nat → Nat → Nat} (h : ln_YI f g) : ln_PS w f g 0 g :=
  ⟨h, fun _ _ _ _ => Nat.le_refl _, fun _ _ _ _ _ _ hc => absurd hc (Nat.not_lt_zero _)⟩

/-- one step of a pass: the cell (s, d) becomes x -/
theorem ln_pss {w : Nat → Nat → Nat} {o : Nat → Prop} {f g0 g : Nat → Nat → Nat} {s r d x : Nat} (hw : ln_Ok w o) (h : ln_Bel w o f)
    (hs : s < 7) (hr : r < 7) (hd : d < 7) (P : ln_PS w f g0 (49 * s + 7 * r + d) g)
    (x1 : x ≤ g s d) (x2 : w s r ≠ 0 → x ≤ w s r + g r d) (x3 : x = g s d ∨ (w s r ≠ 0 ∧ x = w s r + g r d)) :
    ln_PS w f g0 (49 * s + 7 * r + d + 1) (ln_set g s d x) := by
  obtain ⟨p1, p2, p3⟩ := P
  obtain ⟨y1, y2, y3⟩ := p1 s d hs hd
  have lo : f s d ≤ x := by
    rcases x3 with z | ⟨z0, z⟩
    · omega
    · obtain ⟨_, b2, _, b4⟩ := h s d hs hd
      by_cases e : s = d
      · have := b2 e ((hw s r hs hr).2 z0).1; omega
      · have a := (b4 e).1 r hr z0
        have b := (p1 r d hr hd).1
        omega
  refine ⟨fun a b ha hb => ?_, fun a b ha hb => ?_, fun a c b ha hc hb hl hz he => ?_⟩
  · by_cases e : a = s ∧ b = d
    · obtain ⟨e1, e2⟩ := e
      subst e1; subst e2
      rw [ln_set_s]
      exact ⟨lo, by omega, fun z => by have := y3 z; omega⟩
    · rw [ln_set_n e]; exact p1 a b ha hb
  · by_cases e : a = s ∧ b = d
    · obtain ⟨e1, e2⟩ := e
      subst e1; subst e2
      rw [ln_set_s]
      have := p2 a b ha hb; omega
    · rw [ln_set_n e]; exact p2 a b ha hb
  · by_cases e : a = s ∧ b = d
    · obtain ⟨e1, e2⟩ := e
      subst e1; subst e2
      rw [ln_set_s]
      by_cases k : c = r
      · subst k
        have i := x2 hz
        have j := p2 c b hc hb
        omega
      · have := p3 a c b ha hc hb (by omega) hz he
        omega
    · rw [ln_set_n e]
      refine p3 a c b ha hc hb ?_ hz he
      by_cases k : 49 * a + 7 * c + b = 49 * s + 7 * r + d
      · exact absurd (show a = s ∧ b = d by omega) e
      · omega

theorem ln_psx {w : Nat → Nat → Nat} {o : Nat → Prop} {f g0 g : Nat → Nat → Nat} {p : Nat} (h : ln_Bel w o f)
    (E : ln_EX f g0 p) (P : ln_PS w f g0 343 g) : ln_YI f g ∧ ln_EX f g (p + 1) := by
  obtain ⟨p1, p2, p3⟩ := P
  refine ⟨p1, fun s d hs hd l k => ?_⟩
  by_cases e : s = d
  · exact (p1 s d hs hd).2.2 e
  · obtain ⟨r, h1, h2, h3, _⟩ := ln_hop_ex h hs hd e l
    have lt := ln_rk_lt (f := f) (d := d) (s := s) h1 (by omega)
    have ex := E r d h1 hd (by omega) (by omega)
    have up := p3 s r d hs h1 hd (by omega) h2 ex
    have lo := (p1 s d hs hd).1
    omega

theorem ln_y6 {f g : Nat → Nat → Nat} (Y : ln_YI f g) (E : ln_EX f g 6) {s d : Nat} (hs : s < 7) (hd : d < 7) : g s d = f s d := by
  obtain ⟨y1, y2, _⟩ := Y s d hs hd
  by_cases l : f s d < 1000
  · exact E s d hs hd l (ln_rk6 f d hs)
  · omega

/-- an array of 49 cells holds g -/
def ln_A (A : Nat → Int32) (g : Nat → Nat → Nat) : Prop := ∀ s d : Nat, s < 7 → d < 7 → A (7 * s + d) = nI (g s d)

theorem ln_A_set {A : Nat → Int32} {g : Nat → Nat → Nat} {s d x : Nat} (hd : d < 7) (h : ln_A A g) :
    ln_A (upd A (7 * s + d) (nI x)) (ln_set g s d x) := by
  intro a b ha hb
  by_cases e : a = s ∧ b = d
  · obtain ⟨e1, e2⟩ := e
    subst e1; subst e2
    rw [ln_set_s, pk_us]
  · rw [ln_set_n e, pk_un (fun z => e (by omega))]
    exact h a b ha hb

/-- the stage k, in place: the cells below c are new -/
def ln_ST (f : Nat → Nat → Nat) (k c : Nat) (g : Nat → Nat → Nat) : Prop :=
  ∀ s d : Nat, s < 7 → d < 7 → (7 * s + d < c → ln_New f k (g s d) s d) ∧ (¬ 7 * s + d < c → g s d = f s d)

theorem ln_st0 (f : Nat → Nat → Nat) (k : Nat) : ln_ST f k 0 f := fun _ _ _ _ => ⟨fun h => absurd h (Nat.not_lt_zero _), fun _ => rfl⟩

/-- what the stage reads is what stood there as it began -/
theorem ln_st_r {w : Nat → Nat → Nat} {o : Nat → Prop} {f g : Nat → Nat → Nat} {k c s d : Nat} (h : ln_Fl w o k f) (hk : k < 7)
    (S : ln_ST f k c g) (hs : s < 7) (hd : d < 7) : g s k = f s k ∧ g k d = f k d := by
  constructor
  · by_cases l : 7 * s + k < c
    · exact ln_col h hk ((S s k hs hk).1 l)
    · exact (S s k hs hk).2 l
  · by_cases l : 7 * k + d < c
    · exact ln_row h hk ((S k d hk hd).1 l)
    · exact (S k d hk hd).2 l

theorem ln_sts {w : Nat → Nat → Nat} {o : Nat → Prop} {f g : Nat → Nat → Nat} {k s d x : Nat} (h : ln_Fl w o k f) (hk : k < 7)
    (hs : s < 7) (hd : d < 7) (S : ln_ST f k (7 * s + d) g) (x1 : x ≤ g s d) (x2 : x ≤ g s k + g k d)
    (x3 : x = g s d ∨ x = g s k + g k d) : ln_ST f k (7 * s + d + 1) (ln_set g s d x) := by
  obtain ⟨r1, r2⟩ := ln_st_r h hk S hs hd
  have r3 := (S s d hs hd).2 (by omega)
  intro a b ha hb
  by_cases e : a = s ∧ b = d
  · obtain ⟨e1, e2⟩ := e
    subst e1; subst e2
    rw [ln_set_s]
    exact ⟨fun _ => ⟨by omega, by omega, by omega⟩, fun z => absurd (Nat.lt_succ_self _) z⟩
  · rw [ln_set_n e]
    refine ⟨fun z => (S a b ha hb).1 ?_, fun z => (S a b ha hb).2 (by omega)⟩
    by_cases k : 7 * a + b = 7 * s + d
    · exact absurd (show a = s ∧ b = d by omega) e
    · omega

theorem ln_st49 {f g : Nat → Nat → Nat} {k : Nat} (S : ln_ST f k 49 g) : ∀ s d : Nat, s < 7 → d < 7 → ln_New f k (g s d) s d :=
  fun s d hs hd => (S s d hs hd).1 (by omega)

theorem ln_set_id (g : Nat → Nat → Nat) (s d : Nat) : ln_set g s d (g s d) = g := by
  funext a b
  by_cases e : a = s ∧ b = d
  · obtain ⟨e1, e2⟩ := e
    subst e1; subst e2
    exact ln_set_s
  · exact ln_set_n e
end
section
/-! part 03: numbers, indices, loops over pairs, counts -/

theorem ln_pl (a b : Nat) : nI a * 7 + nI b = nI (7 * a + b) := by
  rw [show (7 : Int32) = nI 7 from rfl, pk_mul, nI_add, Nat.mul_comm]
theorem ln_py (a b : Nat) : 7 * nI a + nI b = nI (7 * a + b) := by
  rw [show (7 : Int32) = nI 7 from rfl, pk_mul, nI_add]
theorem ln_cl {a b : Nat} (ha : a < 7) (hb : b < 7) : (nI (7 * a + b)).toNatClampNeg = 7 * a + b := nI_clamp (by omega)
theorem ln_in {a b : Nat} (ha : a < 7) (hb : b < 7) : vp_in (nI (7 * a + b)) 49 := vp_in_nI (by omega) (by decide)
theorem ln_yi {a b : Nat} (ha : a < 7) (hb : b < 7) : (7 * nI a + nI b).toNatClampNeg = 7 * a + b := by
  rw [ln_py]; exact ln_cl ha hb
theorem ln_yin {a b : Nat} (ha : a < 7) (hb : b < 7) : vp_in (7 * nI a + nI b) 49 := by
  rw [ln_py]; exact ln_in ha hb
theorem ln_c7 {a : Nat} (ha : a < 7) : (nI a).toNatClampNeg = a := nI_clamp (by omega)
theorem ln_i7 {a : Nat} (ha : a < 7) : vp_in (nI a) 7 := vp_in_nI ha (by decide)
theorem ln_77 : (7 : Int32) ≤ 7 := by decide
theorem ln_n7 {i : Nat} (h : i < 7) : ¬ (7 : Int32) ≤ nI i := nI_ge (b := 7) h (by decide)
theorem ln_4949 : (49 : Int32) ≤ 49 := by decide
theorem ln_n49 {i : Nat} (h : i < 49) : ¬ (49 : Int32) ≤ nI i := nI_ge (b := 49) h (by decide)
theorem ln_n6 {i : Nat} (h : i < 6) : ¬ (6 : Int32) ≤ nI i := nI_ge (b := 6) h (by decide)
theorem ln_70 : ¬ (7 : Int32) = 0 := by decide
theorem ln_10 : ¬ (1 : Int32) = 0 := by decide
theorem ln_dv {c : Nat} (h : c < 49) : nI c / 7 = nI (c / 7) := pk_div (d := 7) (by omega) (by decide) (by decide)
theorem ln_rm {c : Nat} (h : c < 49) : nI c - nI c / 7 * 7 = nI (c % 7) := pk_rem (d := 7) (by omega) (by decide) (by decide)
theorem ln_ne {a b : Nat} (ha : a < 7) (hb : b < 7) (h : a ≠ b) : ¬ nI a = nI b := fun z => h ((nI_eq (by omega) (by omega)).mp z)
theorem ln_m1 {a : Nat} (h : a < 2 ^ 31) : ¬ nI a = -1 := by
  intro e
  have := nI_pos (n := a) h
  rw [e] at this
  exact this (by decide)
theorem ln_b0 : vp_nar .boolean 0 = 0 := by decide
theorem ln_b1 : vp_nar .boolean 1 = 1 := by decide

/-- x is a router's number -/
def ln_R (x : Int32) : Prop := ∃ a : Nat, a < 7 ∧ x = nI a

theorem ln_xrt {post : Int32 → Prop} {a : Nat} (ha : a < 7) (h : post 1) : wpX_isRouter post (nI a) :=
  br_f (nI_pos (by omega)) (br_f (ln_n7 ha) h)
theorem ln_xrf {post : Int32 → Prop} {x : Int32} (hx : ¬ ln_R x) (h : post 0) : wpX_isRouter post x := by
  by_cases z : x < 0
  · exact br_t z h
  · refine br_f z ?_
    rcases pk_ix x (n := 7) (by decide) with y | y | y
    · exact absurd y z
    · exact br_t y h
    · exact absurd y hx
theorem ln_yrt {post : Int32 → Prop} {v : SY} {a : Nat} (ha : a < 7) (h : post 1) : wpY_router post v (nI a) := by
  obtain ⟨P, M, O, D, B⟩ := v
  exact br_f (nI_pos (by omega)) (br_f (ln_n7 ha) h)
theorem ln_yrf {post : Int32 → Prop} {v : SY} {x : Int32} (hx : ¬ ln_R x) (h : post 0) : wpY_router post v x := by
  obtain ⟨P, M, O, D, B⟩ := v
  unfold wpY_router
  dsimp only
  by_cases z : x < 0
  · exact br_t z h
  · refine br_f z ?_
    rcases pk_ix x (n := 7) (by decide) with y | y | y
    · exact absurd y z
    · exact br_t y h
    · exact absurd y hx

theorem ln_xplace {post : Int32 → Prop} {a b : Nat} (ha : a < 7) (hb : b < 7)
    (h : ∀ r : Int32, r.toNatClampNeg = 7 * a + b → vp_in r 49 → post r) : wpX_place post (nI a) (nI b) := by
  unfold wpX_place
  rw [ln_pl]
  exact h _ (ln_cl ha hb) (ln_in ha hb)

/-- the component's loops over all pairs: W2 the outer one, W1 the inner one within the outer's fuel n -/
theorem ln_dbl {σ : Type} (W2 : Nat → Int32 → σ → Prop) (W1 : Nat → Int32 → Nat → Int32 → σ → Prop) (I : Nat → σ → Prop)
    (o1 : ∀ (n : Nat) (s : σ), I 49 s → W2 (n + 1) 7 s)
    (o2 : ∀ (n i : Nat) (s : σ), i < 7 → (∃ m, W1 n (nI i) m 0 s) → W2 (n + 1) (nI i) s)
    (i1 : ∀ (n m i : Nat) (s : σ), i < 7 → W2 n (nI (i + 1)) s → W1 n (nI i) (m + 1) 7 s)
    (i2 : ∀ (n m i j : Nat) (s : σ), i < 7 → j < 7 → I (7 * i + j) s →
      (∀ s' : σ, I (7 * i + j + 1) s' → W1 n (nI i) m (nI (j + 1)) s') → W1 n (nI i) (m + 1) (nI j) s)
    (s : σ) (h0 : I 0 s) : ∃ n, W2 n 0 s := by
  refine loop_0 (fun n i s => W2 n (nI i) s) (fun i s => I (7 * i) s) 7 s h0 (fun n s h => o1 n s h) (fun n i s hi h k => o2 n i s hi ?_)
  refine loop_0 (fun m j s => W1 n (nI i) m (nI j) s) (fun j s => I (7 * i + j) s) 7 s h (fun m s h => i1 n m i s hi (k s ?_))
    (fun m j s hj h k => i2 n m i j s hi hj h k)
  show I (7 * (i + 1)) s
  rw [Nat.mul_succ]
  exact h

/-- an array filled cell by cell: the cells below c have Q -/
def ln_Q (Q : Nat → Nat → Int32 → Prop) (c : Nat) (s : Nat → Int32) : Prop :=
  ∀ a b : Nat, a < 7 → b < 7 → 7 * a + b < c → Q a b (s (7 * a + b))
theorem ln_Q0 {Q : Nat → Nat → Int32 → Prop} {s : Nat → Int32} : ln_Q Q 0 s := fun _ _ _ _ h => absurd h (Nat.not_lt_zero _)
theorem ln_Qs {Q : Nat → Nat → Int32 → Prop} {s : Nat → Int32} {i j : Nat} {x : Int32} (hj : j < 7) (h : ln_Q Q (7 * i + j) s)
    (hx : Q i j x) : ln_Q Q (7 * i + j + 1) (upd s (7 * i + j) x) := by
  intro a b ha hb hc
  by_cases e : 7 * a + b = 7 * i + j
  · have e1 : a = i := by omega
    have e2 : b = j := by omega
    subst e1; subst e2
    rw [pk_us]; exact hx
  · rw [pk_un e]; exact h a b ha hb (by omega)
theorem ln_Q49 {Q : Nat → Nat → Int32 → Prop} {s : Nat → Int32} (h : ln_Q Q 49 s) : ∀ a b : Nat, a < 7 → b < 7 → Q a b (s (7 * a + b)) :=
  fun a b ha hb => h a b ha hb (by omega)

theorem ln_QA {g : Nat → Nat → Nat} {s : Nat → Int32} (h : ln_Q (fun a b x => x = nI (g a b)) 49 s) : ln_A s g :=
  fun a b ha hb => h a b ha hb (by omega)

/-- how many of the cells below c have T -/
noncomputable def ln_ct (T : Nat → Prop) : Nat → Nat
  | 0 => 0
  | n + 1 => ln_ct T n + @ite Nat (T n) (Classical.propDecidable (T n)) 1 0
theorem ln_ct_t {T : Nat → Prop} {n : Nat} (h : T n) : ln_ct T (n + 1) = ln_ct T n + 1 := by
  rw [ln_ct, if_pos h]
theorem ln_ct_f {T : Nat → Prop} {n : Nat} (h : ¬ T n) : ln_ct T (n + 1) = ln_ct T n := by
  rw [ln_ct, if_neg h, Nat.add_zero]
theorem ln_ct_g {T S : Nat → Prop} : ∀ n : Nat, (∀ t : Nat, t < n → (T t ↔ S t)) → ln_ct T n = ln_ct S n := by
  intro n
  induction n with
  | zero => intro _; rfl
  | succ n ih =>
    intro h
    have e := ih (fun t ht => h t (by omega))
    by_cases z : T n
    · rw [ln_ct_t z, ln_ct_t ((h n (by omega)).mp z), e]
    · rw [ln_ct_f z, ln_ct_f (fun y => z ((h n (by omega)).mpr y)), e]
theorem ln_dm {i j : Nat} (hj : j < 7) : (7 * i + j) / 7 = i ∧ (7 * i + j) % 7 = j := by omega
end
section
/-! part 04: the component's findRoutes, each method with a general post -/
section
variable {P L O D H B : Nat → Int32} {w : Nat → Nat → Nat} {o : Nat → Prop} {f : Nat → Nat → Nat}

/-- what counts, as the component sees it -/
def ln_VX (w : Nat → Nat → Nat) (o : Nat → Prop) (P L O : Nat → Int32) : Prop :=
  (∀ a : Nat, a < 7 → (O a = 0 ↔ ¬ o a)) ∧ ∀ a b : Nat, a < 7 → b < 7 →
    (L (7 * a + b) = 0 ∨ O a = 0 ∨ O b = 0 → w a b = 0) ∧
    (¬ L (7 * a + b) = 0 → ¬ O a = 0 → ¬ O b = 0 → w a b ≠ 0 ∧ P (7 * a + b) = nI (w a b))

theorem ln_xcounts {post : Int32 → Prop} (V : ln_VX w o P L O) {a b : Nat} (ha : a < 7) (hb : b < 7)
    (h1 : w a b ≠ 0 → P (7 * a + b) = nI (w a b) → post 1) (h0 : w a b = 0 → post 0) :
    wpX_counts post (P, L, O, D, H, B) (nI a) (nI b) := by
  have v := V.2 a b ha hb
  unfold wpX_counts
  dsimp only
  refine ln_xplace ha hb fun r er ir => ⟨ir, ?_⟩
  rw [er]
  refine br_c (fun z => h0 (v.1 (Or.inl z))) (fun z => ⟨ln_i7 ha, ?_⟩)
  rw [ln_c7 ha]
  refine br_c (fun y => h0 (v.1 (Or.inr (Or.inl y)))) (fun y => ⟨ln_i7 hb, ?_⟩)
  rw [ln_c7 hb]
  exact br_c (fun x => h0 (v.1 (Or.inr (Or.inr x)))) (fun x => h1 (v.2 z y x).1 (v.2 z y x).2)

/-- the direct way -/
def ln_g0 (w : Nat → Nat → Nat) (O : Nat → Int32) (a b : Nat) : Nat :=
  if a = b then (if O a = 0 then 1000 else 0) else if w a b = 0 then 1000 else w a b

theorem ln_xdirect {post : Int32 → Prop} (V : ln_VX w o P L O) {a b : Nat} (ha : a < 7) (hb : b < 7)
    (h : post (nI (ln_g0 w O a b))) : wpX_directWay post (P, L, O, D, H, B) (nI a) (nI b) := by
  unfold wpX_directWay
  dsimp only
  unfold ln_g0 at h
  by_cases e : a = b
  · subst e
    rw [if_pos rfl] at h
    refine br_t rfl ⟨ln_i7 ha, ?_⟩
    rw [ln_c7 ha]
    by_cases z : O a = 0
    · rw [if_pos z] at h; exact br_t z h
    · rw [if_neg z] at h; exact br_f z h
  · rw [if_neg e] at h
    refine br_f (ln_ne ha hb e) (ln_xcounts V ha hb (fun z p => ?_) (fun z => ?_))
    · rw [if_neg z] at h
      refine br_f ln_10 (ln_xplace ha hb fun r er ir => ⟨ir, ?_⟩)
      rw [er, p]; exact h
    · rw [if_pos z] at h
      exact br_t rfl h

theorem ln_xmeasure {post : SX → Prop} (V : ln_VX w o P L O)
    (h : ∀ D' : Nat → Int32, ln_A D' (ln_g0 w O) → post (P, L, O, D', H, B)) : wpX_measureDirectWays post (P, L, O, D, H, B) := by
  unfold wpX_measureDirectWays
  dsimp only
  refine ln_dbl (fun n x s => wX_measureDirectWays_2 post n x P L O s H B)
    (fun n x m y s => wX_measureDirectWays_10 post (wX_measureDirectWays_2 post n) x m y P L O s H B)
    (fun c s => ln_Q (fun a b x => x = nI (ln_g0 w O a b)) c s)
    (fun n s I => br_t ln_77 (h s (ln_QA I)))
    (fun n i s hi I => br_f (ln_n7 hi) I)
    (fun n m i s hi I => br_t ln_77 (nm_r (nI_1 i) I))
    (fun n m i j s hi hj I k => br_f (ln_n7 hj) (ln_xplace hi hj fun r er ir => ln_xdirect V hi hj ⟨ir, ?_⟩)) D ln_Q0
  rw [er]
  exact nm_e (nm_r (nI_1 j) (k _ (ln_Qs hj I rfl)))

theorem ln_st_le {k c : Nat} {g : Nat → Nat → Nat} (F : ln_Fl w o k f) (S : ln_ST f k c g) {s d : Nat} (hs : s < 7) (hd : d < 7) :
    g s d ≤ 1000 := by
  have a := (F s d hs hd).1
  by_cases l : 7 * s + d < c
  · have := ((S s d hs hd).1 l).1; omega
  · have := (S s d hs hd).2 l; omega

theorem ln_xshorten {post : SX → Prop} {k : Nat} (hk : k < 7) (F : ln_Fl w o k f) (A : ln_A D f)
    (h : ∀ (D' : Nat → Int32) (g : Nat → Nat → Nat), ln_A D' g → (∀ s d : Nat, s < 7 → d < 7 → ln_New f k (g s d) s d) → post (P, L, O, D', H, B)) :
    wpX_shortenWaysThrough post (P, L, O, D, H, B) (nI k) := by
  unfold wpX_shortenWaysThrough
  dsimp only
  refine ln_dbl (fun n x s => wX_shortenWaysThrough_2 post (nI k) n x P L O s H B)
    (fun n x m y s => wX_shortenWaysThrough_10 post (wX_shortenWaysThrough_2 post (nI k) n) (nI k) x m y P L O s H B)
    (fun c s => ∃ g : Nat → Nat → Nat, ln_A s g ∧ ln_ST f k c g)
    (fun n s I => br_t ln_77 ?_)
    (fun n i s hi I => br_f (ln_n7 hi) I)
    (fun n m i s hi I => br_t ln_77 (nm_r (nI_1 i) I))
    (fun n m i j s hi hj I K => br_f (ln_n7 hj) ?_) D ⟨f, A, ln_st0 f k⟩
  · obtain ⟨g, a, b⟩ := I
    exact h s g a (ln_st49 b)
  · obtain ⟨g, a, b⟩ := I
    have l1 := ln_st_le F b hi hk
    have l2 := ln_st_le F b hk hj
    have l3 := ln_st_le F b hi hj
    refine ln_xplace hi hk fun r er ir => ⟨ir, ln_xplace hk hj fun t et it => ⟨it, ?_⟩⟩
    rw [er, et, a i k hi hk, a k j hk hj, nI_add]
    refine nm_e (ln_xplace hi hj fun p ep ip => ⟨ip, ?_⟩)
    rw [ep, a i j hi hj]
    by_cases z : g i j ≤ g i k + g k j
    · refine br_t (nI_le z (by omega)) (nm_r (nI_1 j) (K s ⟨g, a, ?_⟩))
      have q := ln_sts F hk hi hj b (x := g i j) (Nat.le_refl _) z (Or.inl rfl)
      rw [ln_set_id] at q
      exact q
    · refine br_f (nI_ge (by omega) (by omega)) (ln_xplace hi hj fun q eq iq => ⟨iq, ?_⟩)
      rw [eq]
      exact nm_e (nm_r (nI_1 j) (K _ ⟨_, ln_A_set hj a, ln_sts F hk hi hj b (by omega) (Nat.le_refl _) (Or.inr rfl)⟩))

theorem ln_xroute {post : Int32 → Prop} (A : ln_A D f) {a b : Nat} (ha : a < 7) (hb : b < 7) (hf : f a b ≤ 1000)
    (h1 : f a b < 1000 → post 1) (h0 : f a b = 1000 → post 0) : wpX_isRoute post (P, L, O, D, H, B) (nI a) (nI b) := by
  unfold wpX_isRoute
  dsimp only
  refine ln_xrt ha (br_f ln_10 (ln_xrt hb (br_f ln_10 (ln_xplace ha hb fun r er ir => ⟨ir, ?_⟩))))
  rw [er, A a b ha hb]
  by_cases z : f a b = 1000
  · exact br_t (by rw [z]; rfl) (h0 z)
  · exact br_f (fun y => z ((nI_eq (b := 1000) (by omega) (by decide)).mp y)) (h1 (by omega))

theorem ln_xroute_n {post : Int32 → Prop} {x y : Int32} (hx : ¬ (ln_R x ∧ ln_R y)) (h : post 0) :
    wpX_isRoute post (P, L, O, D, H, B) x y := by
  unfold wpX_isRoute
  dsimp only
  by_cases z : ln_R x
  · obtain ⟨a, ha, e⟩ := z
    subst e
    exact ln_xrt ha (br_f ln_10 (ln_xrf (fun q => hx ⟨⟨a, ha, rfl⟩, q⟩) (br_t rfl h)))
  · exact ln_xrf z (br_t rfl h)

/-- r is what the component's next hop from s to d must be -/
def ln_HV (w f : Nat → Nat → Nat) (s d : Nat) (r : Int32) : Prop :=
  (s = d ∨ f s d = 1000 → r = -1) ∧ (s ≠ d → f s d < 1000 → ∃ j : Nat, r = nI j ∧ ln_Hop w f s d j)

theorem ln_xleast {post : Int32 → Prop} (V : ln_VX w o P L O) (E : ln_Bel w o f) (A : ln_A D f) {a b : Nat} (ha : a < 7) (hb : b < 7)
    (hw : ln_Ok w o) (h : ∀ r : Int32, ln_HV w f a b r → post r) : wpX_leastNextHop post (P, L, O, D, H, B) (nI a) (nI b) := by
  unfold wpX_leastNextHop
  dsimp only
  have hf := (E a b ha hb).1
  by_cases e : a = b
  · subst e
    exact br_t rfl (h (-1) ⟨fun _ => rfl, fun z => absurd rfl z⟩)
  · refine br_f (ln_ne ha hb e) (ln_xroute A ha hb hf (fun l => br_f ln_10 ?_) (fun l => br_t rfl (h (-1) ⟨fun _ => rfl, fun _ z => absurd l (by omega)⟩)))
    refine loop_0 (fun n i (_ : Unit) => wX_leastNextHop_18 post (nI a) (nI b) P L O D H B n (nI i))
      (fun i _ => ∀ j : Nat, j < i → ¬ (w a j ≠ 0 ∧ w a j + f j b = f a b)) 7 () (fun j hj => absurd hj (Nat.not_lt_zero j))
      (fun n _ I => ?_) (fun n i _ hi I K => br_f (ln_n7 hi) ?_)
    · obtain ⟨r, hr, q⟩ := ((E a b ha hb).2.2.2 e).2 l
      exact absurd q (I r hr)
    · refine ln_xcounts V ha hi (fun z p => br_f ln_10 ?_) (fun z => br_t rfl (nm_r (nI_1 i) (K () ?_)))
      · have hi1 := (E i b hi hb).1
        have hw9 := (hw a i ha hi).1
        refine ln_xplace ha hi fun r er ir => ⟨ir, ln_xplace hi hb fun t et it => ⟨it, ln_xplace ha hb fun q eq iq => ⟨iq, ?_⟩⟩⟩
        rw [er, et, eq, p, A i b hi hb, A a b ha hb, nI_add]
        by_cases y : w a i + f i b = f a b
        · refine br_t (by rw [y]) (h (nI i) ⟨fun u => ?_, fun _ _ => ⟨i, rfl, hi, z, y, I⟩⟩)
          rcases u with u | u
          · exact absurd u e
          · omega
        · refine br_f (fun u => y ((nI_eq (by omega) (by omega)).mp u)) (nm_r (nI_1 i) (K () ?_))
          intro j hj
          by_cases x : j = i
          · subst x; exact fun u => y u.2
          · exact I j (by omega)
      · intro j hj
        by_cases x : j = i
        · subst x; exact fun u => u.1 z
        · exact I j (by omega)

def ln_HH (w f : Nat → Nat → Nat) (H : Nat → Int32) : Prop := ∀ s d : Nat, s < 7 → d < 7 → ln_HV w f s d (H (7 * s + d))

theorem ln_xchoose {post : SX → Prop} (V : ln_VX w o P L O) (E : ln_Bel w o f) (A : ln_A D f) (hw : ln_Ok w o)
    (h : ∀ H' : Nat → Int32, ln_HH w f H' → post (P, L, O, D, H', B)) : wpX_chooseNextHops post (P, L, O, D, H, B) := by
  unfold wpX_chooseNextHops
  dsimp only
  refine ln_dbl (fun n x s => wX_chooseNextHops_2 post n x P L O D s B)
    (fun n x m y s => wX_chooseNextHops_10 post (wX_chooseNextHops_2 post n) x m y P L O D s B)
    (fun c s => ln_Q (ln_HV w f) c s)
    (fun n s I => br_t ln_77 (h s (ln_Q49 I)))
    (fun n i s hi I => br_f (ln_n7 hi) I)
    (fun n m i s hi I => br_t ln_77 (nm_r (nI_1 i) I))
    (fun n m i j s hi hj I k => br_f (ln_n7 hj) (ln_xplace hi hj fun r er ir => ln_xleast V E A hi hj hw fun t ht => ⟨ir, ?_⟩)) H ln_Q0
  rw [er]
  exact nm_e (nm_r (nI_1 j) (k _ (ln_Qs hj I ht)))

/-- findRoutes: distances and next hops are those of an f that keeps the equation -/
theorem ln_xfind {post : SX → Prop} (V : ln_VX w o P L O) (hw : ln_Ok w o)
    (h : ∀ (D' H' : Nat → Int32) (f : Nat → Nat → Nat), ln_Bel w o f → ln_A D' f → ln_HH w f H' → post (P, L, O, D', H', B)) :
    wpX_findRoutes post (P, L, O, D, H, B) := by
  unfold wpX_findRoutes
  dsimp only
  refine ln_xmeasure V fun D0 A0 => ?_
  have Fz : ln_Fl w o 0 (ln_g0 w O) := by
    refine ln_fl0 hw fun s d hs hd => ?_
    have v := V.1 s hs
    refine ⟨fun e u => ?_, fun e u => ?_, fun e u => ?_, fun e u => ?_⟩
    · unfold ln_g0; rw [if_pos e, if_neg (fun z => (v.mp z) u)]
    · unfold ln_g0; rw [if_pos e, if_pos (v.mpr u)]
    · unfold ln_g0; rw [if_neg e, if_pos u]
    · unfold ln_g0; rw [if_neg e, if_neg u]
  refine loop_0 (fun n i s => wX_findRoutes_6 post n (nI i) P L O s H B) (fun i s => ∃ g : Nat → Nat → Nat, ln_A s g ∧ ln_Fl w o i g) 7 D0
    ⟨_, A0, Fz⟩ (fun n s I => br_t ln_77 ?_) (fun n i s hi I K => br_f (ln_n7 hi) ?_)
  · obtain ⟨g, a, b⟩ := I
    exact ln_xchoose V (ln_fl7 hw b) a hw fun H' hH => h s H' g (ln_fl7 hw b) a hH
  · obtain ⟨g, a, b⟩ := I
    exact ln_xshorten hi b a fun D' g' a' b' => nm_r (nI_1 i) (K D' ⟨g', a', ln_fls hw hi b b'⟩)
end
end
section
/-! part 05: the reference's work, hop, walk, count, passes, route; each with a general post -/
section
variable {P M O D B : Nat → Int32} {w : Nat → Nat → Nat} {o : Nat → Prop} {f : Nat → Nat → Nat}

/-- what counts, as the reference sees it -/
def ln_VY (w : Nat → Nat → Nat) (o : Nat → Prop) (P M O : Nat → Int32) : Prop :=
  (∀ a : Nat, a < 7 → (O a = 0 ↔ ¬ o a)) ∧ ∀ a b : Nat, a < 7 → b < 7 →
    (P (7 * a + b) ≤ 0 ∨ M (7 * a + b) = 0 ∨ O a = 0 ∨ O b = 0 → w a b = 0) ∧
    (¬ P (7 * a + b) ≤ 0 → ¬ M (7 * a + b) = 0 → ¬ O a = 0 → ¬ O b = 0 → w a b ≠ 0 ∧ P (7 * a + b) = nI (w a b))

theorem ln_ylink {post : Int32 → Prop} {a b : Nat} (ha : a < 7) (hb : b < 7) (h1 : ¬ P (7 * a + b) ≤ 0 → post 1)
    (h0 : P (7 * a + b) ≤ 0 → post 0) : wpY_link post (P, M, O, D, B) (nI a) (nI b) := by
  unfold wpY_link
  dsimp only
  refine ln_yrt ha (br_f ln_10 (ln_yrt hb (br_f ln_10 ⟨ln_yin ha hb, ?_⟩)))
  rw [ln_yi ha hb]
  exact br_c h0 h1

theorem ln_ylink_n {post : Int32 → Prop} {x y : Int32} (hx : ¬ (ln_R x ∧ ln_R y)) (h : post 0) : wpY_link post (P, M, O, D, B) x y := by
  unfold wpY_link
  dsimp only
  by_cases z : ln_R x
  · obtain ⟨a, ha, e⟩ := z
    subst e
    exact ln_yrt ha (br_f ln_10 (ln_yrf (fun q => hx ⟨⟨a, ha, rfl⟩, q⟩) (br_t rfl h)))
  · exact ln_yrf z (br_t rfl h)

theorem ln_ycounts {post : Int32 → Prop} (V : ln_VY w o P M O) {a b : Nat} (ha : a < 7) (hb : b < 7)
    (h1 : w a b ≠ 0 → P (7 * a + b) = nI (w a b) → post 1) (h0 : w a b = 0 → post 0) :
    wpY_counts post (P, M, O, D, B) (nI a) (nI b) := by
  have v := V.2 a b ha hb
  unfold wpY_counts
  dsimp only
  refine ln_ylink ha hb (fun u => br_f ln_10 ⟨ln_yin ha hb, ?_⟩) (fun u => br_t rfl (h0 (v.1 (Or.inl u))))
  rw [ln_yi ha hb]
  refine br_c (fun z => h0 (v.1 (Or.inr (Or.inl z)))) (fun z => ⟨ln_i7 ha, ?_⟩)
  rw [ln_c7 ha]
  refine br_c (fun y => h0 (v.1 (Or.inr (Or.inr (Or.inl y))))) (fun y => ⟨ln_i7 hb, ?_⟩)
  rw [ln_c7 hb]
  exact br_c (fun x => h0 (v.1 (Or.inr (Or.inr (Or.inr x))))) (fun x => h1 (v.2 u z y x).1 (v.2 u z y x).2)

theorem ln_ycounts_n {post : Int32 → Prop} {x y : Int32} (hx : ¬ (ln_R x ∧ ln_R y)) (h : post 0) : wpY_counts post (P, M, O, D, B) x y := by
  unfold wpY_counts
  dsimp only
  exact ln_ylink_n hx (br_t rfl h)

theorem ln_ylower {post : SY → Prop} (V : ln_VY w o P M O) (hw : ln_Ok w o) (E : ln_Bel w o f) {s r : Nat} (hs : s < 7) (hr : r < 7)
    {g0 g : Nat → Nat → Nat} (A : ln_A D g) (S : ln_PS w f g0 (49 * s + 7 * r) g)
    (h : ∀ (D' : Nat → Int32) (g' : Nat → Nat → Nat), ln_A D' g' → ln_PS w f g0 (49 * s + 7 * r + 7) g' → post (P, M, O, D', B)) :
    wpY_lower post (P, M, O, D, B) (nI s) (nI r) := by
  unfold wpY_lower
  dsimp only
  refine loop_0 (fun n i t => wY_lower_2 post (nI s) (nI r) n (nI i) P M O t B)
    (fun i t => ∃ g : Nat → Nat → Nat, ln_A t g ∧ ln_PS w f g0 (49 * s + 7 * r + i) g) 7 D ⟨g, A, S⟩
    (fun n t I => br_t ln_77 ?_) (fun n d t hd I K => br_f (ln_n7 hd) ?_)
  · obtain ⟨g', a, b⟩ := I
    exact h t g' a b
  · obtain ⟨g', a, b⟩ := I
    have skip : (w s r ≠ 0 → g' s d ≤ w s r + g' r d) → ln_PS w f g0 (49 * s + 7 * r + d + 1) g' := by
      intro z
      have q := ln_pss hw E hs hr hd b (x := g' s d) (Nat.le_refl _) z (Or.inl rfl)
      rw [ln_set_id] at q
      exact q
    refine ln_ycounts V hs hr (fun z p => br_f ln_10 ⟨ln_yin hs hr, ln_yin hr hd, ln_yin hs hd, ?_⟩)
      (fun z => br_t rfl (nm_r (nI_1 d) (K t ⟨g', a, skip (fun y => absurd z y)⟩)))
    have l1 := (b.1 s d hs hd).2.1
    have l2 := (b.1 r d hr hd).2.1
    have l3 := (hw s r hs hr).1
    rw [ln_yi hs hr, ln_yi hr hd, ln_yi hs hd, p, a r d hr hd, a s d hs hd, nI_add]
    by_cases y : g' s d ≤ w s r + g' r d
    · exact br_t (nI_le y (by omega)) (nm_r (nI_1 d) (K t ⟨g', a, skip (fun _ => y)⟩))
    · refine br_f (nI_ge (by omega) (by omega)) ⟨ln_yin hs hr, ln_yin hr hd, ln_yin hs hd, ?_⟩
      exact nm_e (nm_r (nI_1 d) (K _ ⟨_, ln_A_set hd a, ln_pss hw E hs hr hd b (by omega) (fun _ => Nat.le_refl _) (Or.inr ⟨z, rfl⟩)⟩))

def ln_h0 (O : Nat → Int32) (a b : Nat) : Nat := if a = b then (if O a = 0 then 1000 else 0) else 1000

theorem ln_dvp {i j : Nat} (hi : i < 7) (hj : j < 7) : nI (7 * i + j) / 7 = nI i := by
  rw [ln_dv (by omega), (ln_dm hj).1]
theorem ln_rmp {i j : Nat} (hi : i < 7) (hj : j < 7) : nI (7 * i + j) - nI (7 * i + j) / 7 * 7 = nI j := by
  rw [ln_rm (by omega), (ln_dm hj).2]
theorem ln_pair {c : Nat} (h : c < 49) : ∃ i j : Nat, i < 7 ∧ j < 7 ∧ c = 7 * i + j := ⟨c / 7, c % 7, by omega, by omega, by omega⟩

theorem ln_ywork {post : SY → Prop} (V : ln_VY w o P M O) (hw : ln_Ok w o) (E : ln_Bel w o f)
    (h : ∀ D' : Nat → Int32, ln_A D' f → post (P, M, O, D', B)) : wpY_work post (P, M, O, D, B) := by
  unfold wpY_work
  dsimp only
  refine loop_0 (fun n c s => wY_work_2 post n (nI c) P M O s B) (fun c s => ln_Q (fun a b x => x = nI (ln_h0 O a b)) c s) 49 D ln_Q0
    (fun n s I => br_t ln_4949 ?_) (fun n c s hc I K => br_f (ln_n49 hc) ⟨ln_70, ln_70, ?_⟩)
  · -- the passes
    have A0 : ln_A s (ln_h0 O) := ln_QA I
    have Y0 : ln_YI f (ln_h0 O) ∧ ln_EX f (ln_h0 O) 0 := by
      refine ln_y0 E fun a b ha hb => ?_
      have v := V.1 a ha
      refine ⟨fun e u => ?_, fun u => ?_⟩
      · unfold ln_h0; rw [if_pos e, if_neg (fun z => (v.mp z) u)]
      · unfold ln_h0
        by_cases e : a = b
        · rw [if_pos e, if_pos (v.mpr (fun z => u ⟨e, z⟩))]
        · rw [if_neg e]
    refine loop_0 (fun n p s => wY_work_52 post n (nI p) P M O s B) (fun p s => ∃ g : Nat → Nat → Nat, ln_A s g ∧ ln_YI f g ∧ ln_EX f g p) 6 s
      ⟨_, A0, Y0⟩ (fun n s I => br_t (by decide) ?_) (fun n p s hp I K => br_f (ln_n6 hp) ?_)
    · obtain ⟨g, a, y, x⟩ := I
      exact h s (fun i j hi hj => by rw [a i j hi hj, ln_y6 y x hi hj])
    · obtain ⟨g, a, y, x⟩ := I
      refine loop_0 (fun m c s => wY_work_60 post (wY_work_52 post n) (nI p) m (nI c) P M O s B)
        (fun c s => ∃ g' : Nat → Nat → Nat, ln_A s g' ∧ ln_PS w f g (7 * c) g') 49 s ⟨g, a, ln_ps0 y⟩
        (fun m s I => br_t ln_4949 (nm_r (nI_1 p) ?_)) (fun m c s hc I L => br_f (ln_n49 hc) ⟨ln_70, ln_70, ?_⟩)
      · obtain ⟨g', a', b'⟩ := I
        exact K s ⟨g', a', ln_psx E x b'⟩
      · obtain ⟨g', a', b'⟩ := I
        obtain ⟨i, j, hi, hj, rfl⟩ := ln_pair hc
        rw [ln_rmp hi hj, ln_dvp hi hj]
        refine ln_ylower V hw E hi hj (g0 := g) a' ?_ fun D' g2 a2 b2 => nm_r (nI_1 _) (L D' ⟨g2, a2, ?_⟩)
        · rw [show 49 * i + 7 * j = 7 * (7 * i + j) by omega]; exact b'
        · rw [show 7 * (7 * i + j + 1) = 49 * i + 7 * j + 7 by omega]; exact b2
  · obtain ⟨i, j, hi, hj, rfl⟩ := ln_pair hc
    rw [ln_rmp hi hj, ln_dvp hi hj, ln_c7 hi, ln_cl hi hj]
    by_cases e : i = j
    · subst e
      refine br_t rfl ⟨ln_70, ln_i7 hi, ?_⟩
      by_cases z : O i = 0
      · exact br_t z ⟨ln_in hi hj, nm_e (nm_r (nI_1 _) (K _ (ln_Qs hj I (by show _ = nI (ln_h0 O i i); unfold ln_h0; rw [if_pos rfl, if_pos z]; rfl))))⟩
      · exact br_f z ⟨ln_in hi hj, nm_e (nm_r (nI_1 _) (K _ (ln_Qs hj I (by show _ = nI (ln_h0 O i i); unfold ln_h0; rw [if_pos rfl, if_neg z]; rfl))))⟩
    · exact br_f (ln_ne hi hj e) ⟨ln_in hi hj, nm_e (nm_r (nI_1 _) (K _ (ln_Qs hj I (by show _ = nI (ln_h0 O i j); unfold ln_h0; rw [if_neg e]; rfl))))⟩

theorem ln_yhas {post : Int32 → Prop} (A : ln_A D f) {a b : Nat} (ha : a < 7) (hb : b < 7) (hf : f a b ≤ 1000)
    (h1 : f a b < 1000 → post 1) (h0 : f a b = 1000 → post 0) : wpY_has post (P, M, O, D, B) (nI a) (nI b) := by
  unfold wpY_has
  dsimp only
  refine ln_yrt ha (br_f ln_10 (ln_yrt hb (br_f ln_10 ⟨ln_yin ha hb, ?_⟩)))
  rw [ln_yi ha hb, A a b ha hb]
  by_cases z : f a b = 1000
  · exact br_t (by rw [z]; decide) (h0 z)
  · exact br_f (nI_ge (b := 1000) (by omega) (by decide)) (h1 (by omega))

theorem ln_yhas_n {post : Int32 → Prop} {x y : Int32} (hx : ¬ (ln_R x ∧ ln_R y)) (h : post 0) : wpY_has post (P, M, O, D, B) x y := by
  unfold wpY_has
  dsimp only
  by_cases z : ln_R x
  · obtain ⟨a, ha, e⟩ := z
    subst e
    exact ln_yrt ha (br_f ln_10 (ln_yrf (fun q => hx ⟨⟨a, ha, rfl⟩, q⟩) (br_t rfl h)))
  · exact ln_yrf z (br_t rfl h)

theorem ln_yhop {post : Int32 → Prop} (V : ln_VY w o P M O) (hw : ln_Ok w o) (E : ln_Bel w o f) (A : ln_A D f) {a b : Nat} (ha : a < 7) (hb : b < 7)
    (e : a ≠ b) (l : f a b < 1000) (h : ∀ j : Nat, ln_Hop w f a b j → post (nI j)) : wpY_hop post (P, M, O, D, B) (nI a) (nI b) := by
  unfold wpY_hop
  dsimp only
  refine loop_0 (fun n i (_ : Unit) => wY_hop_2 post (nI a) (nI b) P M O D B n (nI i))
    (fun i _ => ∀ j : Nat, j < i → ¬ (w a j ≠ 0 ∧ w a j + f j b = f a b)) 7 () (fun j hj => absurd hj (Nat.not_lt_zero j))
    (fun n _ I => ?_) (fun n i _ hi I K => br_f (ln_n7 hi) ?_)
  · obtain ⟨r, hr, q⟩ := ((E a b ha hb).2.2.2 e).2 l
    exact absurd q (I r hr)
  · refine ln_ycounts V ha hi (fun z p => br_f ln_10 ⟨ln_yin ha hi, ln_yin hi hb, ln_yin ha hb, ?_⟩) (fun z => br_t rfl (nm_r (nI_1 i) (K () ?_)))
    · have hi1 := (E i b hi hb).1
      have hw9 := (hw a i ha hi).1
      rw [ln_yi ha hi, ln_yi hi hb, ln_yi ha hb, p, A i b hi hb, A a b ha hb, nI_add]
      by_cases y : w a i + f i b = f a b
      · exact br_t (by rw [y]) (h i ⟨hi, z, y, I⟩)
      · refine br_f (fun u => y ((nI_eq (by omega) (by omega)).mp u)) (nm_r (nI_1 i) (K () ?_))
        intro j hj
        by_cases x : j = i
        · subst x; exact fun u => y u.2
        · exact I j (by omega)
    · intro j hj
      by_cases x : j = i
      · subst x; exact fun u => u.1 z
      · exact I j (by omega)

/-- one step along a route -/
theorem ln_ystep {post : Int32 → Prop} (V : ln_VY w o P M O) (hw : ln_Ok w o) (E : ln_Bel w o f) (A : ln_A D f) {s d n : Nat} {q : Nat → Nat} (hd : d < 7)
    (R : ln_Rt w f s d n q) {k : Nat} (hk : k < n) (h : post (nI (q (k + 1)))) : wpY_hop post (P, M, O, D, B) (nI (q k)) (nI d) := by
  obtain ⟨_, _, _, r4, r5⟩ := R
  obtain ⟨a1, a2⟩ := r4 k (by omega)
  obtain ⟨b1, b2⟩ := r5 k hk
  exact ln_yhop V hw E A a1 hd b1 a2 fun j hj => by rw [ln_hop_uniq hj b2]; exact h

theorem ln_ywalk {post : Int32 → Prop} (V : ln_VY w o P M O) (hw : ln_Ok w o) (E : ln_Bel w o f) (A : ln_A D f) {s d n : Nat} {q : Nat → Nat} (hd : d < 7)
    (R : ln_Rt w f s d n q) {x : Int32} {t e : Nat} (T : ∀ k : Nat, k < 100 → (x ≤ nI k ↔ t ≤ k)) (e1 : e ≤ n) (e2 : e ≤ t) (e3 : e = n ∨ e = t)
    (h : post (nI (q e))) : wpY_walk post (P, M, O, D, B) (nI s) (nI d) x := by
  have n6 := R.1
  have go : ∀ m k : Nat, k + m = e → wY_walk_6 post (nI d) x P M O D B (m + 1) (nI (q k)) (nI k) := by
    intro m
    induction m with
    | zero =>
      intro k hk
      have hk : k = e := by omega
      subst hk
      by_cases z : t ≤ k
      · exact br_t ((T k (by omega)).mpr z) h
      · have hn : k = n := by omega
        refine br_f (fun y => z ((T k (by omega)).mp y)) ?_
        by_cases y : k < 6
        · refine br_f (ln_n6 y) (br_t ?_ h)
          rw [hn, R.2.2.1]
        · exact br_t (nI_le (a := 6) (by omega) (by omega)) h
    | succ m ih =>
      intro k hk
      refine br_f (fun y => absurd ((T k (by omega)).mp y) (by omega)) (br_f (ln_n6 (by omega)) (br_f ?_ ?_))
      · exact ln_ne (R.2.2.2.1 k (by omega)).1 hd (R.2.2.2.2 k (by omega)).1
      · exact ln_ystep V hw E A hd R (by omega) (nm_r (nI_1 k) (ih (k + 1) (by omega)))
  have g := go e 0 (by omega)
  rw [R.2.1] at g
  exact ⟨_, g⟩

theorem ln_ycount {post : Int32 → Prop} (V : ln_VY w o P M O) (hw : ln_Ok w o) (E : ln_Bel w o f) (A : ln_A D f) {s d n : Nat} {q : Nat → Nat} (hd : d < 7)
    (R : ln_Rt w f s d n q) (h : post (nI n)) : wpY_count post (P, M, O, D, B) (nI s) (nI d) := by
  have n6 := R.1
  have go : ∀ m k : Nat, k + m = n → wY_count_5 post (nI d) P M O D B (m + 1) (nI k) (nI (q k)) := by
    intro m
    induction m with
    | zero =>
      intro k hk
      have hk : k = n := by omega
      subst hk
      by_cases y : k < 6
      · refine br_f (ln_n6 y) (br_t ?_ h)
        rw [R.2.2.1]
      · exact br_t (nI_le (a := 6) (by omega) (by omega)) h
    | succ m ih =>
      intro k hk
      refine br_f (ln_n6 (by omega)) (br_f ?_ ?_)
      · exact ln_ne (R.2.2.2.1 k (by omega)).1 hd (R.2.2.2.2 k (by omega)).1
      · exact ln_ystep V hw E A hd R (by omega) (nm_r (nI_1 k) (ih (k + 1) (by omega)))
  have g := go n 0 (by omega)
  rw [R.2.1] at g
  exact ⟨_, g⟩

/-- x counts as t -/
theorem ln_T (x : Int32) : ∃ t : Nat, ∀ k : Nat, k < 100 → (x ≤ nI k ↔ t ≤ k) := by
  by_cases z : x < 0
  · refine ⟨0, fun k hk => ⟨fun _ => Nat.zero_le k, fun _ => ?_⟩⟩
    exact Int32.le_trans (Int32.le_of_lt z) (nI_pos' (by omega))
  · obtain ⟨j, hj, e⟩ := nI_of z
    subst e
    exact ⟨j, fun k hk => nI_leI hj (by omega)⟩
theorem ln_TnI {j : Nat} (hj : j < 2 ^ 31) : ∀ k : Nat, k < 100 → (nI j ≤ nI k ↔ j ≤ k) := fun k hk => nI_leI hj (by omega)

/-- walk(s, d, k) for a k within the route -/
theorem ln_ywalk_k {post : Int32 → Prop} (V : ln_VY w o P M O) (hw : ln_Ok w o) (E : ln_Bel w o f) (A : ln_A D f) {s d n : Nat} {q : Nat → Nat} (hd : d < 7)
    (R : ln_Rt w f s d n q) {k : Nat} (hk : k ≤ n) (h : post (nI (q k))) : wpY_walk post (P, M, O, D, B) (nI s) (nI d) (nI k) := by
  have := R.1
  exact ln_ywalk V hw E A hd R (ln_TnI (by omega)) hk (Nat.le_refl k) (Or.inr rfl) h

/-- what passes looks for at k -/
def ln_At (n : Nat) (q : Nat → Nat) (r : Nat) (x : Int32) (k : Nat) : Prop := q k = r ∧ (x < 0 ∨ (k < n ∧ nI (q (k + 1)) = x))

theorem ln_ypasses {post : Int32 → Prop} (V : ln_VY w o P M O) (hw : ln_Ok w o) (E : ln_Bel w o f) (A : ln_A D f) {s d n : Nat} {q : Nat → Nat} (hd : d < 7)
    (R : ln_Rt w f s d n q) {r : Nat} (hr : r < 7) {x : Int32} (h1 : (∃ k : Nat, k ≤ n ∧ ln_At n q r x k) → post 1)
    (h0 : (¬ ∃ k : Nat, k ≤ n ∧ ln_At n q r x k) → post 0) : wpY_passes post (P, M, O, D, B) (nI s) (nI d) (nI r) x := by
  have n6 := R.1
  unfold wpY_passes
  dsimp only
  refine ln_ycount V hw E A hd R ?_
  have fin : ∀ v : Int32, ((v = 1 ∧ ∃ k : Nat, k ≤ n ∧ ln_At n q r x k) ∨ (v = 0 ∧ ¬ ∃ k : Nat, k ≤ n ∧ ln_At n q r x k)) →
      (narrow .boolean (.int v) = .int v ∧ post v) := by
    intro v hv
    rcases hv with ⟨e, z⟩ | ⟨e, z⟩
    · subst e; exact ⟨rfl, h1 z⟩
    · subst e; exact ⟨rfl, h0 z⟩
  have go : ∀ (m k : Nat) (v : Int32), k + m = n + 1 →
      ((v = 1 ∧ ∃ j : Nat, j < k ∧ ln_At n q r x j) ∨ (v = 0 ∧ ¬ ∃ j : Nat, j < k ∧ ln_At n q r x j)) →
      wY_passes_14 post (nI s) (nI d) (nI r) x (nI n) P M O D B (m + 1) v (nI k) := by
    intro m
    induction m with
    | zero =>
      intro k v hk hv
      have hk : k = n + 1 := by omega
      subst hk
      refine br_t (nI_lt (by omega) (by omega)) (fin v ?_)
      rcases hv with ⟨e, j, hj, z⟩ | ⟨e, z⟩
      · exact Or.inl ⟨e, j, by omega, z⟩
      · exact Or.inr ⟨e, fun ⟨j, hj, y⟩ => z ⟨j, by omega, y⟩⟩
    | succ m ih =>
      intro k v hk hv
      have kn : k ≤ n := by omega
      have q7 := (R.2.2.2.1 k kn).1
      -- what follows: the next turn with the answer for k
      have nx1 : (∃ j : Nat, j < k + 1 ∧ ln_At n q r x j) → ∀ y : Int32, y = nI k + 1 → wY_passes_14 post (nI s) (nI d) (nI r) x (nI n) P M O D B (m + 1) 1 y :=
        fun z => nm_r (nI_1 k) (ih (k + 1) 1 (by omega) (Or.inl ⟨rfl, z⟩))
      have nx0 : (¬ ∃ j : Nat, j < k + 1 ∧ ln_At n q r x j) → ∀ y : Int32, y = nI k + 1 → wY_passes_14 post (nI s) (nI d) (nI r) x (nI n) P M O D B (m + 1) 0 y :=
        fun z => nm_r (nI_1 k) (ih (k + 1) 0 (by omega) (Or.inr ⟨rfl, z⟩))
      have no : v = 0 → (¬ ∃ j : Nat, j < k ∧ ln_At n q r x j) := by
        intro e
        rcases hv with ⟨a, _⟩ | ⟨_, b⟩
        · subst e; exact absurd a (by decide)
        · exact b
      have yes : ¬ v = 0 → ∃ j : Nat, j < k + 1 ∧ ln_At n q r x j := by
        intro e
        rcases hv with ⟨_, j, hj, z⟩ | ⟨b, _⟩
        · exact ⟨j, by omega, z⟩
        · exact absurd b e
      have add : v = 0 → ¬ ln_At n q r x k → ¬ ∃ j : Nat, j < k + 1 ∧ ln_At n q r x j := by
        intro e z ⟨j, hj, y⟩
        by_cases u : j = k
        · subst u; exact z y
        · exact no e ⟨j, by omega, y⟩
      refine br_f (nI_nlt kn (by omega)) (ln_ywalk_k V hw E A hd R kn ?_)
      by_cases c : q k = r
      · refine br_t (by rw [c]) ?_
        unfold wY_passes_38
        refine br_c (fun e => br_f ln_10 ?_) (fun e => nx1 (yes e))
        refine br_c (fun u => nx1 ⟨k, by omega, c, Or.inl u⟩) (fun u => ?_)
        by_cases y : k < n
        · refine br_f (nI_ge y (by omega)) ?_
          rw [nI_1]
          refine ln_ywalk_k V hw E A hd R (k := k + 1) (by omega) ?_
          refine br_c (fun z => ?_) (fun z => ?_)
          · rw [← nI_1]; exact nx1 ⟨k, by omega, c, Or.inr ⟨y, z⟩⟩
          · rw [← nI_1]; exact nx0 (add e (fun a => a.2.elim u (fun b => z b.2)))
        · exact br_t (nI_le (by omega) (by omega)) (nx0 (add e (fun a => a.2.elim u (fun b => y b.1))))
      · refine br_f (ln_ne q7 hr c) ?_
        unfold wY_passes_38
        exact br_c (fun e => br_t rfl (nx0 (add e (fun a => c a.1)))) (fun e => nx1 (yes e))
  exact ⟨_, go (n + 1) 0 0 (by omega) (Or.inr ⟨rfl, fun ⟨j, hj, _⟩ => absurd hj (Nat.not_lt_zero j)⟩)⟩

theorem ln_yroute {post : Int32 → Prop} (V : ln_VY w o P M O) (hw : ln_Ok w o) (E : ln_Bel w o f) (A : ln_A D f) {s d n : Nat} {q : Nat → Nat}
    (hs : s < 7) (hd : d < 7) (l : f s d < 1000) (R : ln_Rt w f s d n q) (h : post (nI (ln_cy q n))) : wpY_route post (P, M, O, D, B) (nI s) (nI d) := by
  have n6 := R.1
  have q7 : ∀ k : Nat, k ≤ n → q k < 7 := fun k hk => (R.2.2.2.1 k hk).1
  unfold wpY_route
  dsimp only
  refine ln_yhas A hs hd (by omega) (fun _ => br_f ln_10 (ln_ycount V hw E A hd R ?_)) (fun z => absurd z (by omega))
  -- the code before k: 1 at 0, else that of k - 1
  have go : ∀ (m k c : Nat), k + m = n + 1 → 8 * c + q k = ln_cy q k → (k = n + 1 → c = ln_cy q n) →
      wY_route_24 post (nI s) (nI d) (nI n) P M O D B (m + 1) (nI c) (nI k) := by
    intro m
    induction m with
    | zero =>
      intro k c hk _ hc
      have hk : k = n + 1 := by omega
      refine br_t (nI_lt (by omega) (by omega)) ?_
      rw [hc hk]; exact h
    | succ m ih =>
      intro k c hk hc _
      have kn : k ≤ n := by omega
      refine br_f (nI_nlt kn (by omega)) (ln_ywalk_k V hw E A hd R kn (nm_r ?_ (nm_r (nI_1 k) (ih (k + 1) (ln_cy q k) (by omega) rfl (fun e => ?_)))))
      · rw [show (8 : Int32) = nI 8 from rfl, pk_mul, nI_add, hc]
      · have : k = n := by omega
        rw [this]
  exact ⟨_, go (n + 1) 0 1 (by omega) rfl (fun e => absurd e (by omega))⟩

theorem ln_yroute_n {post : Int32 → Prop} (A : ln_A D f) {s d : Nat} (hs : s < 7) (hd : d < 7) (l : f s d = 1000) (h : post 0) :
    wpY_route post (P, M, O, D, B) (nI s) (nI d) := by
  unfold wpY_route
  dsimp only
  exact ln_yhas A hs hd (by omega) (fun z => absurd l (by omega)) (fun _ => br_t rfl h)
end
end
section
/-! part 06: the component's walks along a route; each with a general post -/
section
variable {P L O D H B : Nat → Int32} {w : Nat → Nat → Nat} {o : Nat → Prop} {f : Nat → Nat → Nat}

theorem ln_xnext {post : Int32 → Prop} (E : ln_Bel w o f) (A : ln_A D f) (N : ln_HH w f H) {a b : Nat} (ha : a < 7) (hb : b < 7)
    (h : ∀ r : Int32, ln_HV w f a b r → post r) : wpX_nextHop post (P, L, O, D, H, B) (nI a) (nI b) := by
  unfold wpX_nextHop
  dsimp only
  refine ln_xroute A ha hb (E a b ha hb).1 (fun l => br_f ln_10 (ln_xplace ha hb fun r er ir => ⟨ir, ?_⟩))
    (fun l => br_t rfl (h (-1) ⟨fun _ => rfl, fun _ z => absurd l (by omega)⟩))
  rw [er]
  exact h _ (N a b ha hb)

theorem ln_xnext_m {post : Int32 → Prop} (E : ln_Bel w o f) (A : ln_A D f) (N : ln_HH w f H) {a b : Nat} (ha : a < 7) (hb : b < 7)
    (z : a = b ∨ f a b = 1000) (h : post (-1)) : wpX_nextHop post (P, L, O, D, H, B) (nI a) (nI b) :=
  ln_xnext E A N ha hb fun r hr => by rw [hr.1 z]; exact h

theorem ln_xstep {post : Int32 → Prop} (E : ln_Bel w o f) (A : ln_A D f) (N : ln_HH w f H) {s d n : Nat} {q : Nat → Nat} (hd : d < 7)
    (R : ln_Rt w f s d n q) {k : Nat} (hk : k < n) (h : post (nI (q (k + 1)))) : wpX_nextHop post (P, L, O, D, H, B) (nI (q k)) (nI d) := by
  obtain ⟨_, _, _, r4, r5⟩ := R
  obtain ⟨a1, a2⟩ := r4 k (by omega)
  obtain ⟨b1, b2⟩ := r5 k hk
  refine ln_xnext E A N a1 hd fun r hr => ?_
  obtain ⟨j, e, hj⟩ := hr.2 b1 a2
  rw [e, ln_hop_uniq hj b2]
  exact h

theorem ln_xhops {post : Int32 → Prop} (E : ln_Bel w o f) (A : ln_A D f) (N : ln_HH w f H) {s d n : Nat} {q : Nat → Nat} (hs : s < 7) (hd : d < 7)
    (l : f s d < 1000) (R : ln_Rt w f s d n q) (h : post (nI n)) : wpX_hops post (P, L, O, D, H, B) (nI s) (nI d) := by
  have n6 := R.1
  unfold wpX_hops
  dsimp only
  refine ln_xroute A hs hd (by omega) (fun _ => br_f ln_10 ?_) (fun z => absurd z (by omega))
  have go : ∀ m k : Nat, k + m = n → wX_hops_16 post (nI d) P L O D H B (m + 1) (nI k) (nI (q k)) := by
    intro m
    induction m with
    | zero =>
      intro k hk
      have hk : k = n := by omega
      subst hk
      exact br_t (by rw [R.2.2.1]) h
    | succ m ih =>
      intro k hk
      refine br_f ?_ (br_f (ln_n7 (by omega)) ?_)
      · exact ln_ne (R.2.2.2.1 k (by omega)).1 hd (R.2.2.2.2 k (by omega)).1
      · exact ln_xstep E A N hd R (by omega) (nm_r (nI_1 k) (ih (k + 1) (by omega)))
  have g := go n 0 (by omega)
  rw [R.2.1] at g
  exact ⟨_, g⟩

theorem ln_xafter {post : Int32 → Prop} (E : ln_Bel w o f) (A : ln_A D f) (N : ln_HH w f H) {s d n : Nat} {q : Nat → Nat} (hs : s < 7) (hd : d < 7)
    (l : f s d < 1000) (R : ln_Rt w f s d n q) {x : Int32} {t e : Nat} (T : ∀ k : Nat, k < 100 → (x ≤ nI k ↔ t ≤ k)) (e1 : e ≤ n) (e2 : e ≤ t)
    (e3 : e = n ∨ e = t) (h : post (nI (q e))) : wpX_after post (P, L, O, D, H, B) (nI s) (nI d) x := by
  have n6 := R.1
  unfold wpX_after
  dsimp only
  refine ln_xroute A hs hd (by omega) (fun _ => br_f ln_10 ?_) (fun z => absurd z (by omega))
  have go : ∀ m k : Nat, k + m = e → wX_after_17 post (nI d) x P L O D H B (m + 1) (nI (q k)) (nI k) := by
    intro m
    induction m with
    | zero =>
      intro k hk
      have hk : k = e := by omega
      subst hk
      refine br_f (ln_n7 (by omega)) ?_
      by_cases z : t ≤ k
      · exact br_t ((T k (by omega)).mpr z) h
      · have hn : k = n := by omega
        exact br_f (fun y => z ((T k (by omega)).mp y)) (br_t (by rw [hn, R.2.2.1]) h)
    | succ m ih =>
      intro k hk
      refine br_f (ln_n7 (by omega)) (br_f (fun y => absurd ((T k (by omega)).mp y) (by omega)) (br_f ?_ ?_))
      · exact ln_ne (R.2.2.2.1 k (by omega)).1 hd (R.2.2.2.2 k (by omega)).1
      · exact ln_xstep E A N hd R (by omega) (nm_r (nI_1 k) (ih (k + 1) (by omega)))
  have g := go e 0 (by omega)
  rw [R.2.1] at g
  exact ⟨_, g⟩

theorem ln_xcomes {post : Int32 → Prop} (E : ln_Bel w o f) (A : ln_A D f) (N : ln_HH w f H) {s d n : Nat} {q : Nat → Nat} (hd : d < 7)
    (R : ln_Rt w f s d n q) {r : Nat} (hr : r < 7) (h1 : (∃ k : Nat, k ≤ n ∧ q k = r) → post 1) (h0 : (¬ ∃ k : Nat, k ≤ n ∧ q k = r) → post 0) :
    wpX_comesThrough post (P, L, O, D, H, B) (nI s) (nI d) (nI r) := by
  have n6 := R.1
  unfold wpX_comesThrough
  dsimp only
  have go : ∀ m k : Nat, k + m = n → (¬ ∃ j : Nat, j < k ∧ q j = r) → wX_comesThrough_6 post (nI d) (nI r) P L O D H B (m + 2) (nI (q k)) (nI k) := by
    intro m
    induction m with
    | zero =>
      intro k hk no
      have hk : k = n := by omega
      subst hk
      have q7 := (R.2.2.2.1 k (Nat.le_refl k)).1
      refine br_f (ln_n7 (by omega)) (br_f (ln_m1 (by omega)) ?_)
      by_cases c : q k = r
      · exact br_t (by rw [c]) (h1 ⟨k, Nat.le_refl k, c⟩)
      · refine br_f (ln_ne q7 hr c) ?_
        rw [R.2.2.1]
        refine ln_xnext_m E A N hd hd (Or.inl rfl) (nm_r (nI_1 k) ?_)
        have z : post 0 := h0 fun ⟨j, hj, y⟩ => by
          by_cases u : j = k
          · subst u; exact c y
          · exact no ⟨j, by omega, y⟩
        exact br_c (fun _ => z) (fun _ => br_t rfl z)
    | succ m ih =>
      intro k hk no
      have q7 := (R.2.2.2.1 k (by omega)).1
      refine br_f (ln_n7 (by omega)) (br_f (ln_m1 (by omega)) ?_)
      by_cases c : q k = r
      · exact br_t (by rw [c]) (h1 ⟨k, by omega, c⟩)
      · refine br_f (ln_ne q7 hr c) (ln_xstep E A N hd R (by omega) (nm_r (nI_1 k) (ih (k + 1) (by omega) ?_)))
        intro ⟨j, hj, y⟩
        by_cases u : j = k
        · subst u; exact c y
        · exact no ⟨j, by omega, y⟩
  have g := go n 0 (by omega) (fun ⟨j, hj, _⟩ => absurd hj (Nat.not_lt_zero j))
  rw [R.2.1] at g
  exact ⟨_, g⟩

/-- no route: it comes through nothing but its first router -/
theorem ln_xcomes_n {post : Int32 → Prop} (E : ln_Bel w o f) (A : ln_A D f) (N : ln_HH w f H) {s d r : Nat} (hs : s < 7) (hd : d < 7) (hr : r < 7)
    (z : s = d ∨ f s d = 1000) (e : s ≠ r) (h : post 0) : wpX_comesThrough post (P, L, O, D, H, B) (nI s) (nI d) (nI r) := by
  unfold wpX_comesThrough
  dsimp only
  refine ⟨2, ?_⟩
  have g : wX_comesThrough_6 post (nI d) (nI r) P L O D H B 2 (nI s) (nI 0) := by
    refine br_f (ln_n7 (by omega)) (br_f (ln_m1 (by omega)) (br_f (ln_ne hs hr e) (ln_xnext_m E A N hs hd z (nm_r (nI_1 0) ?_))))
    exact br_f (ln_n7 (by omega)) (br_t rfl h)
  exact g

/-- the link between a and b, in either direction -/
def ln_Al (n : Nat) (q : Nat → Nat) (a b k : Nat) : Prop := k < n ∧ ((q k = a ∧ q (k + 1) = b) ∨ (q k = b ∧ q (k + 1) = a))

theorem ln_xgoes {post : Int32 → Prop} (E : ln_Bel w o f) (A : ln_A D f) (N : ln_HH w f H) {s d n : Nat} {q : Nat → Nat} (hd : d < 7)
    (R : ln_Rt w f s d n q) {a b : Nat} (ha : a < 7) (hb : b < 7) (h1 : (∃ k : Nat, ln_Al n q a b k) → post 1) (h0 : (¬ ∃ k : Nat, ln_Al n q a b k) → post 0) :
    wpX_goesAlong post (P, L, O, D, H, B) (nI s) (nI d) (nI a) (nI b) := by
  have n6 := R.1
  unfold wpX_goesAlong
  dsimp only
  have go : ∀ m k : Nat, k + m = n → (¬ ∃ j : Nat, j < k ∧ ln_Al n q a b j) → wX_goesAlong_6 post (nI d) (nI a) (nI b) P L O D H B (m + 2) (nI (q k)) (nI k) := by
    intro m
    induction m with
    | zero =>
      intro k hk no
      have hk : k = n := by omega
      subst hk
      have z : post 0 := h0 fun ⟨j, y⟩ => no ⟨j, y.1, y⟩
      refine br_f (ln_n7 (by omega)) (br_f (ln_m1 (by have := (R.2.2.2.1 k (Nat.le_refl k)).1; omega)) ?_)
      have last : ∀ y : Int32, y = nI k + 1 → wX_goesAlong_6 post (nI d) (nI a) (nI b) P L O D H B 1 (-1) y :=
        nm_r (nI_1 k) (br_c (fun _ => z) (fun _ => br_t rfl z))
      have j41 : wX_goesAlong_41 post (wX_goesAlong_6 post (nI d) (nI a) (nI b) P L O D H B 1) (nI d) (nI a) (nI b) (nI (q k)) (nI k) (-1) P L O D H B := by
        unfold wX_goesAlong_41
        exact br_c (fun _ => br_c (fun u => absurd u.symm (ln_m1 (by omega))) (fun _ => last)) (fun _ => last)
      have key : wpX_nextHop (fun r_3 => (((nI (q k) = nI a → (((r_3 = nI b → (post 1)) ∧ (¬ r_3 = nI b → (wX_goesAlong_41 post (wX_goesAlong_6 post (nI d) (nI a) (nI b) P L O D H B 1) (nI d) (nI a) (nI b) (nI (q k)) (nI k) r_3 P L O D H B))))) ∧ (¬ nI (q k) = nI a → (wX_goesAlong_41 post (wX_goesAlong_6 post (nI d) (nI a) (nI b) P L O D H B 1) (nI d) (nI a) (nI b) (nI (q k)) (nI k) r_3 P L O D H B))))) (P, L, O, D, H, B) (nI (q k)) (nI d) := by
        have qd := R.2.2.1
        refine ln_xnext_m E A N (by omega) hd (Or.inl (by omega)) ?_
        exact br_c (fun _ => br_f (fun u => ln_m1 (by omega) u.symm) j41) (fun _ => j41)
      exact key
    | succ m ih =>
      intro k hk no
      have q7 := (R.2.2.2.1 k (by omega)).1
      have q8 := (R.2.2.2.1 (k + 1) (by omega)).1
      refine br_f (ln_n7 (by omega)) (br_f (ln_m1 (by omega)) (ln_xstep E A N hd R (by omega) ?_))
      have next : ¬ ln_Al n q a b k → ∀ y : Int32, y = nI k + 1 → wX_goesAlong_6 post (nI d) (nI a) (nI b) P L O D H B (m + 2) (nI (q (k + 1))) y := by
        intro c
        refine nm_r (nI_1 k) (ih (k + 1) (by omega) ?_)
        intro ⟨j, hj, y⟩
        by_cases u : j = k
        · subst u; exact c y
        · exact no ⟨j, by omega, y⟩
      have j41 : ¬ (q k = a ∧ q (k + 1) = b) → wX_goesAlong_41 post (wX_goesAlong_6 post (nI d) (nI a) (nI b) P L O D H B (m + 2)) (nI d) (nI a) (nI b) (nI (q k)) (nI k) (nI (q (k + 1))) P L O D H B := by
        intro c
        unfold wX_goesAlong_41
        by_cases x : q k = b
        · refine br_t (by rw [x]) ?_
          by_cases y : q (k + 1) = a
          · exact br_t (by rw [y]) (h1 ⟨k, by omega, Or.inr ⟨x, y⟩⟩)
          · exact br_f (ln_ne q8 ha y) (next (fun z => z.2.elim c (fun v => y v.2)))
        · exact br_f (ln_ne q7 hb x) (next (fun z => z.2.elim c (fun v => x v.1)))
      by_cases x : q k = a
      · refine br_t (by rw [x]) ?_
        by_cases y : q (k + 1) = b
        · exact br_t (by rw [y]) (h1 ⟨k, by omega, Or.inl ⟨x, y⟩⟩)
        · exact br_f (ln_ne q8 hb y) (j41 (fun z => y z.2))
      · exact br_f (ln_ne q7 ha x) (j41 (fun z => x z.1))
  have g := go n 0 (by omega) (fun ⟨j, hj, _⟩ => absurd hj (Nat.not_lt_zero j))
  rw [R.2.1] at g
  exact ⟨_, g⟩

/-- no route: it goes along nothing -/
theorem ln_xgoes_n {post : Int32 → Prop} (E : ln_Bel w o f) (A : ln_A D f) (N : ln_HH w f H) {s d a b : Nat} (hs : s < 7) (hd : d < 7) (ha : a < 7) (hb : b < 7)
    (z : s = d ∨ f s d = 1000) (h : post 0) : wpX_goesAlong post (P, L, O, D, H, B) (nI s) (nI d) (nI a) (nI b) := by
  unfold wpX_goesAlong
  dsimp only
  refine ⟨2, ?_⟩
  have last : ∀ y : Int32, y = nI 0 + 1 → wX_goesAlong_6 post (nI d) (nI a) (nI b) P L O D H B 1 (-1) y :=
    nm_r (nI_1 0) (br_f (ln_n7 (by omega)) (br_t rfl h))
  have j41 : wX_goesAlong_41 post (wX_goesAlong_6 post (nI d) (nI a) (nI b) P L O D H B 1) (nI d) (nI a) (nI b) (nI s) (nI 0) (-1) P L O D H B := by
    unfold wX_goesAlong_41
    exact br_c (fun _ => br_c (fun u => absurd u.symm (ln_m1 (by omega))) (fun _ => last)) (fun _ => last)
  have g : wX_goesAlong_6 post (nI d) (nI a) (nI b) P L O D H B 2 (nI s) (nI 0) := by
    refine br_f (ln_n7 (by omega)) (br_f (ln_m1 (by omega)) (ln_xnext_m E A N hs hd z ?_))
    exact br_c (fun _ => br_f (fun u => ln_m1 (by omega) u.symm) j41) (fun _ => j41)
  exact g

theorem ln_or {m x : Nat} (hm : m < 2 ^ 24) (hx : x < 8) : (nI m <<< ((3 : Int32) &&& 31)) ||| nI x = nI (8 * m + x) := by
  rw [pk_shlN _ 3 (by decide) (by omega)]
  apply Int32.toBitVec_inj.1
  show BitVec.ofNat 32 (m * 2 ^ 3) ||| BitVec.ofNat 32 x = BitVec.ofNat 32 (8 * m + x)
  have e : 8 * m + x = m * 2 ^ 3 ||| x := by
    have := Nat.two_pow_add_eq_or_of_lt (i := 3) (b := x) hx m
    rw [Nat.mul_comm m]; exact this
  rw [e]
  apply BitVec.eq_of_getLsbD_eq
  intro i hi
  simp [hi]

theorem ln_xpacked {post : Int32 → Prop} (E : ln_Bel w o f) (A : ln_A D f) (N : ln_HH w f H) {s d n : Nat} {q : Nat → Nat} (hs : s < 7) (hd : d < 7)
    (l : f s d < 1000) (R : ln_Rt w f s d n q) (h : post (nI (ln_cx q n))) : wpX_packedRoute post (P, L, O, D, H, B) (nI s) (nI d) := by
  have n6 := R.1
  have q7 : ∀ k : Nat, k ≤ n → q k < 7 := fun k hk => (R.2.2.2.1 k hk).1
  have small : ∀ k : Nat, k ≤ n → ln_cx q k < 2 ^ 24 := by
    intro k hk
    have a := (ln_cx_b k (fun j hj => q7 j (by omega))).2
    have b : 8 ^ (k + 1) ≤ 8 ^ 7 := Nat.pow_le_pow_right (by decide) (by omega)
    have c : 8 ^ 7 < 2 ^ 24 := by decide
    omega
  unfold wpX_packedRoute
  dsimp only
  refine ln_xroute A hs hd (by omega) (fun _ => br_f ln_10 ?_) (fun z => absurd z (by omega))
  have go : ∀ (m k c : Nat), k + m = n → c < 2 ^ 24 → 8 * c + (q k + 1) = ln_cx q k →
      wX_packedRoute_19 post (nI d) P L O D H B (m + 2) (nI c) (nI (q k)) (nI k) := by
    intro m
    induction m with
    | zero =>
      intro k c hk cs hc
      have hk : k = n := by omega
      subst hk
      have a := q7 k (Nat.le_refl k)
      refine br_f (ln_n7 (by omega)) (br_f (ln_m1 (by omega)) (nm_r (by rw [nI_1, ln_or cs (by omega), hc]) ?_))
      rw [R.2.2.1]
      refine ln_xnext_m E A N hd hd (Or.inl rfl) (nm_r (nI_1 k) ?_)
      exact br_c (fun _ => h) (fun _ => br_t rfl h)
    | succ m ih =>
      intro k c hk cs hc
      have a := q7 k (by omega)
      refine br_f (ln_n7 (by omega)) (br_f (ln_m1 (by omega)) (nm_r (by rw [nI_1, ln_or cs (by omega), hc]) ?_))
      exact ln_xstep E A N hd R (by omega) (nm_r (nI_1 k) (ih (k + 1) (ln_cx q k) (by omega) (small k (by omega)) rfl))
  have g := go n 0 0 (by omega) (by decide) (by rw [ln_cx]; omega)
  rw [R.2.1] at g
  exact ⟨_, g⟩

theorem ln_xpacked_n {post : Int32 → Prop} (A : ln_A D f) {s d : Nat} (hs : s < 7) (hd : d < 7) (l : f s d = 1000) (h : post 0) :
    wpX_packedRoute post (P, L, O, D, H, B) (nI s) (nI d) := by
  unfold wpX_packedRoute
  dsimp only
  exact ln_xroute A hs hd (by omega) (fun z => absurd l (by omega)) (fun _ => br_t rfl h)
end
end
section
/-! part 07: the two states, the relation, the calls that change a state -/

def ln_w (P L O : Nat → Int32) (a b : Nat) : Nat :=
  if L (7 * a + b) = 0 ∨ O a = 0 ∨ O b = 0 then 0 else (P (7 * a + b)).toNatClampNeg
def ln_o (O : Nat → Int32) (a : Nat) : Prop := ¬ O a = 0

/-- what the arrays of links keep: P the costs of both, L the component's, M the reference's marks of being up -/
def ln_S (P L M : Nat → Int32) : Prop := ∀ a b : Nat, a < 7 → b < 7 →
  (∃ n : Nat, n ≤ 9 ∧ P (7 * a + b) = nI n) ∧ (a = b → P (7 * a + b) = 0) ∧ P (7 * a + b) = P (7 * b + a) ∧
  (P (7 * a + b) = 0 → L (7 * a + b) = 0) ∧ (¬ P (7 * a + b) = 0 → M (7 * a + b) = L (7 * a + b)) ∧
  (L (7 * a + b) = 0 ∨ L (7 * a + b) = 1)

theorem ln_w0 {P L O : Nat → Int32} {a b : Nat} (h : L (7 * a + b) = 0 ∨ O a = 0 ∨ O b = 0) : ln_w P L O a b = 0 := if_pos h
theorem ln_wn {P L M O : Nat → Int32} (S : ln_S P L M) {a b : Nat} (ha : a < 7) (hb : b < 7) (h1 : ¬ L (7 * a + b) = 0) (h2 : ¬ O a = 0) (h3 : ¬ O b = 0) :
    ln_w P L O a b ≠ 0 ∧ ln_w P L O a b ≤ 9 ∧ P (7 * a + b) = nI (ln_w P L O a b) := by
  obtain ⟨⟨n, n9, e⟩, _, _, s4, _⟩ := S a b ha hb
  have z : ¬ (L (7 * a + b) = 0 ∨ O a = 0 ∨ O b = 0) := fun y => y.elim h1 (fun x => x.elim h2 h3)
  have ew : ln_w P L O a b = n := by
    unfold ln_w
    rw [if_neg z, e, nI_clamp (by omega)]
  rw [ew]
  refine ⟨fun y => h1 (s4 ?_), n9, e⟩
  rw [e, y]; rfl

theorem ln_S_X {P L M O : Nat → Int32} (S : ln_S P L M) : ln_VX (ln_w P L O) (ln_o O) P L O := by
  refine ⟨fun a _ => ⟨fun z y => y z, fun z => Classical.byContradiction fun y => z y⟩, fun a b ha hb => ⟨fun z => ln_w0 z, fun x y z => ?_⟩⟩
  have q := ln_wn (O := O) S ha hb x y z
  exact ⟨q.1, q.2.2⟩

theorem ln_S_Y {P L M O : Nat → Int32} (S : ln_S P L M) : ln_VY (ln_w P L O) (ln_o O) P M O := by
  refine ⟨fun a _ => ⟨fun z y => y z, fun z => Classical.byContradiction fun y => z y⟩, fun a b ha hb => ?_⟩
  obtain ⟨⟨n, n9, e⟩, _, _, s4, s5, _⟩ := S a b ha hb
  have le0 : P (7 * a + b) ≤ 0 → P (7 * a + b) = 0 := by
    intro z
    rw [e] at z ⊢
    have : n ≤ 0 := (nI_leI (b := 0) (by omega) (by decide)).mp z
    have : n = 0 := by omega
    rw [this]; rfl
  have ge0 : P (7 * a + b) = 0 → P (7 * a + b) ≤ 0 := by
    intro z; rw [z]; decide
  refine ⟨fun z => ln_w0 ?_, fun x y z u => ?_⟩
  · rcases z with z | z | z | z
    · exact Or.inl (s4 (le0 z))
    · by_cases p : P (7 * a + b) = 0
      · exact Or.inl (s4 p)
      · exact Or.inl (by rw [← s5 p]; exact z)
    · exact Or.inr (Or.inl z)
    · exact Or.inr (Or.inr z)
  · have p : ¬ P (7 * a + b) = 0 := fun v => x (ge0 v)
    have q := ln_wn (O := O) S ha hb (by rw [← s5 p]; exact y) z u
    exact ⟨q.1, q.2.2⟩

theorem ln_S_O {P L M O : Nat → Int32} (S : ln_S P L M) : ln_Ok (ln_w P L O) (ln_o O) := by
  intro a b ha hb
  by_cases z : L (7 * a + b) = 0 ∨ O a = 0 ∨ O b = 0
  · rw [ln_w0 z]
    exact ⟨by omega, fun y => absurd rfl y⟩
  · have z1 : ¬ L (7 * a + b) = 0 := fun y => z (Or.inl y)
    have z2 : ¬ O a = 0 := fun y => z (Or.inr (Or.inl y))
    have z3 : ¬ O b = 0 := fun y => z (Or.inr (Or.inr y))
    refine ⟨(ln_wn S ha hb z1 z2 z3).2.1, fun _ => ⟨z2, z3, fun e => z1 ?_⟩⟩
    obtain ⟨_, s2, _, s4, _⟩ := S a b ha hb
    exact s4 (s2 e)

/-- distances and next hops are found -/
def ln_G (P L O D H : Nat → Int32) : Prop := ∃ f : Nat → Nat → Nat, ln_Bel (ln_w P L O) (ln_o O) f ∧ ln_A D f ∧ ln_HH (ln_w P L O) f H

def i_Rel (_ : Nat) (u : SX) (v : SY) : Prop := ∃ P L O D H B M C F : Nat → Int32,
  u = (P, L, O, D, H, B) ∧ v = (P, M, O, C, F) ∧ ln_S P L M ∧ ln_G P L O D H
theorem i_up {k : Nat} {u : SX} {v : SY} (h : i_Rel k u v) : i_Rel (k + 4) u v := h

theorem ln_get {k : Nat} {u : SX} {v : SY} (I : i_Rel k u v) : ∃ P L O D H B M C F : Nat → Int32, ∃ w : Nat → Nat → Nat, ∃ o : Nat → Prop, ∃ f : Nat → Nat → Nat,
    u = (P, L, O, D, H, B) ∧ v = (P, M, O, C, F) ∧ ln_S P L M ∧ ln_VX w o P L O ∧ ln_VY w o P M O ∧ ln_Ok w o ∧ ln_Bel w o f ∧ ln_A D f ∧ ln_HH w f H ∧
    (∀ (j : Nat) (B' C' F' : Nat → Int32), i_Rel j (P, L, O, D, H, B') (P, M, O, C', F')) := by
  obtain ⟨P, L, O, D, H, B, M, C, F, e1, e2, S, f, g1, g2, g3⟩ := I
  exact ⟨P, L, O, D, H, B, M, C, F, ln_w P L O, ln_o O, f, e1, e2, S, ln_S_X S, ln_S_Y S, ln_S_O S, g1, g2, g3,
    fun j B' C' F' => ⟨P, L, O, D, H, B', M, C', F', rfl, rfl, S, f, g1, g2, g3⟩⟩

/-- a link's two cells -/
def ln_U (A : Nat → Int32) (a b : Nat) (x : Int32) : Nat → Int32 := upd (upd A (7 * a + b) x) (7 * b + a) x
def ln_Z (a b i j : Nat) : Prop := (i = a ∧ j = b) ∨ (i = b ∧ j = a)
theorem ln_U_t {A : Nat → Int32} {a b i j : Nat} {x : Int32} (z : ln_Z a b i j) : ln_U A a b x (7 * i + j) = x := by
  unfold ln_U
  by_cases e : 7 * i + j = 7 * b + a
  · rw [e, pk_us]
  · rw [pk_un e]
    rcases z with ⟨p, q⟩ | ⟨p, q⟩
    · rw [p, q, pk_us]
    · exact absurd (by rw [p, q]) e
theorem ln_U_f {A : Nat → Int32} {a b i j : Nat} {x : Int32} (ha : a < 7) (hb : b < 7) (hi : i < 7) (hj : j < 7) (z : ¬ ln_Z a b i j) :
    ln_U A a b x (7 * i + j) = A (7 * i + j) := by
  unfold ln_Z at z
  unfold ln_U
  rw [pk_un (by omega), pk_un (by omega)]
theorem ln_upd_id {A : Nat → Int32} {k : Nat} {x : Int32} (h : A k = x) : upd A k x = A := by
  funext j
  by_cases e : j = k
  · rw [e, pk_us, h]
  · rw [pk_un e]
theorem ln_U_id {A : Nat → Int32} {a b : Nat} {x : Int32} (h1 : A (7 * a + b) = x) (h2 : A (7 * b + a) = x) : ln_U A a b x = A := by
  unfold ln_U
  rw [ln_upd_id h1, ln_upd_id h2]

theorem ln_S_put {P L M N : Nat → Int32} (S : ln_S P L M) {a b : Nat} (ha : a < 7) (hb : b < 7) (ab : a ≠ b) {n : Nat} (n9 : n ≤ 9) {l : Int32}
    (hl : l = 0 ∨ l = 1) (h0 : n = 0 → l = 0) (m1 : ∀ i j : Nat, i < 7 → j < 7 → ¬ ln_Z a b i j → N (7 * i + j) = M (7 * i + j))
    (m2 : n ≠ 0 → ∀ i j : Nat, ln_Z a b i j → N (7 * i + j) = l) : ln_S (ln_U P a b (nI n)) (ln_U L a b l) N := by
  have n0 : nI n = 0 → n = 0 := fun z => (nI_eq (b := 0) (by omega) (by decide)).mp z
  intro i j hi hj
  by_cases z : ln_Z a b i j
  · have y : ln_Z a b j i := by unfold ln_Z at z ⊢; omega
    rw [ln_U_t z, ln_U_t y, ln_U_t z]
    refine ⟨⟨n, n9, rfl⟩, fun e => ?_, rfl, fun e => h0 (n0 e), fun e => m2 (fun q => e (by rw [q]; rfl)) i j z, hl⟩
    unfold ln_Z at z
    omega
  · have y : ¬ ln_Z a b j i := by unfold ln_Z at z ⊢; omega
    rw [ln_U_f ha hb hi hj z, ln_U_f ha hb hj hi y, ln_U_f ha hb hi hj z, m1 i j hi hj z]
    exact S i j hi hj

theorem ln_xput {P L O D H B : Nat → Int32} {post : SX → Prop} {a b : Nat} (ha : a < 7) (hb : b < 7) {c x y : Int32} (hx : vp_nar .boolean x = y)
    (h : post (ln_U P a b c, ln_U L a b y, O, D, H, B)) : wpX_putLink post (P, L, O, D, H, B) (nI a) (nI b) c x := by
  unfold wpX_putLink
  dsimp only
  rw [hx]
  refine ln_xplace ha hb fun r er ir => ⟨ir, ?_⟩
  rw [er]
  refine nm_e (ln_xplace hb ha fun r er ir => ⟨ir, ?_⟩)
  rw [er]
  refine nm_e (ln_xplace ha hb fun r er ir => ⟨ir, ?_⟩)
  rw [er]
  refine nm_e (ln_xplace hb ha fun r er ir => ⟨ir, ?_⟩)
  rw [er]
  exact nm_e h

theorem ln_xlink {P L O D H B : Nat → Int32} {post : Int32 → Prop} {a b : Nat} (ha : a < 7) (hb : b < 7) (h1 : ¬ P (7 * a + b) = 0 → post 1)
    (h0 : P (7 * a + b) = 0 → post 0) : wpX_isLink post (P, L, O, D, H, B) (nI a) (nI b) := by
  unfold wpX_isLink
  dsimp only
  refine ln_xrt ha (br_f ln_10 (ln_xrt hb (br_f ln_10 (ln_xplace ha hb fun r er ir => ⟨ir, ?_⟩))))
  rw [er]
  exact br_c h0 h1
theorem ln_xlink_n {P L O D H B : Nat → Int32} {post : Int32 → Prop} {x y : Int32} (hx : ¬ (ln_R x ∧ ln_R y)) (h : post 0) :
    wpX_isLink post (P, L, O, D, H, B) x y := by
  unfold wpX_isLink
  dsimp only
  by_cases z : ln_R x
  · obtain ⟨a, ha, e⟩ := z
    subst e
    exact ln_xrt ha (br_f ln_10 (ln_xrf (fun q => hx ⟨⟨a, ha, rfl⟩, q⟩) (br_t rfl h)))
  · exact ln_xrf z (br_t rfl h)

/-- the reference's test of a link says what the component's says -/
theorem ln_ylk {P L M O C F : Nat → Int32} {post : Int32 → Prop} (S : ln_S P L M) {a b : Nat} (ha : a < 7) (hb : b < 7) (h1 : ¬ P (7 * a + b) = 0 → post 1)
    (h0 : P (7 * a + b) = 0 → post 0) : wpY_link post (P, M, O, C, F) (nI a) (nI b) := by
  obtain ⟨⟨n, n9, e⟩, _⟩ := S a b ha hb
  have q : P (7 * a + b) ≤ 0 ↔ P (7 * a + b) = 0 := by
    rw [e]
    constructor
    · intro z
      have y : n ≤ 0 := (nI_leI (b := 0) (by omega) (by decide)).mp z
      have x : n = 0 := by omega
      rw [x]; rfl
    · intro z; rw [z]; decide
  exact ln_ylink ha hb (fun z => h1 (fun y => z (q.mpr y))) (fun z => h0 (q.mp z))

theorem ln_bz (x : Int32) : vp_nar .boolean (lw_bz x) = lw_bz x := by
  rcases lw_bz_01 x with e | e
  · rw [e]; exact ln_b0
  · rw [e]; exact ln_b1

/-- the state behind a change: findRoutes has run -/
theorem ln_done {P L M O D H B : Nat → Int32} {post : SX → Prop} (S : ln_S P L M)
    (h : ∀ D' H' : Nat → Int32, (∀ (j : Nat) (B' C' F' : Nat → Int32), i_Rel j (P, L, O, D', H', B') (P, M, O, C', F')) → post (P, L, O, D', H', B)) :
    wpX_findRoutes post (P, L, O, D, H, B) :=
  ln_xfind (ln_S_X S) (ln_S_O S) fun D' H' f g1 g2 g3 =>
    h D' H' fun j B' C' F' => ⟨P, L, O, D', H', B', M, C', F', rfl, rfl, S, f, g1, g2, g3⟩

theorem i_vc_join {k : Nat} {u : SX} {v : SY} (I : i_Rel k u v) (hk : k + 4 ≤ 2048) (v1 : Int32) (v2 : Int32) (v3 : Int32) : wpX_join (fun r u' => wpY_join (fun r' v' => r' = r ∧ i_Rel (k + 4) u' v') v v1 v2 v3) u v1 v2 v3 := by
  obtain ⟨P, L, O, D, H, B, M, C, F, w, o, f, rfl, rfl, S, VX, VY, K, E, A, N, J⟩ := ln_get I
  unfold wpX_join
  dsimp only
  by_cases e : v1 = v2
  · exact br_t e (br_t e ⟨rfl, J _ _ _ _⟩)
  · refine br_f e ?_
    by_cases r1 : ln_R v1
    · obtain ⟨a, ha, rfl⟩ := r1
      by_cases r2 : ln_R v2
      · obtain ⟨b, hb, rfl⟩ := r2
        have ab : a ≠ b := fun z => e (by rw [z])
        refine ln_xrt ha (br_f ln_10 (ln_xrt hb (br_f ln_10 ?_)))
        by_cases c1 : v3 < 1
        · exact br_t c1 (br_f e (ln_yrt ha (br_f ln_10 (ln_yrt hb (br_f ln_10 (br_t c1 ⟨rfl, J _ _ _ _⟩))))))
        · refine br_f c1 ?_
          by_cases c2 : v3 ≤ 9
          · have c0 : ¬ v3 < 0 := fun z => c1 (Int32.lt_trans z (by decide))
            obtain ⟨c, c9, rfl⟩ := nI_of2 (x := v3) (M := 9) (n := 9) (by decide) c0 c2
            have c3 : c ≠ 0 := fun z => c1 (by rw [z]; decide)
            have S' : ln_S (ln_U P a b (nI c)) (ln_U L a b 1) (ln_U M a b 1) :=
              ln_S_put S ha hb ab c9 (Or.inr rfl) (fun z => absurd z c3) (fun i j hi hj z => ln_U_f ha hb hi hj z) (fun _ i j z => ln_U_t z)
            refine br_t c2 (ln_xput ha hb ln_b1 (ln_done S' fun D' H' R => ?_))
            refine br_f e (ln_yrt ha (br_f ln_10 (ln_yrt hb (br_f ln_10 (br_f c1 (br_t c2 ?_))))))
            rw [ln_yi ha hb, ln_yi hb ha, ln_b1]
            exact ⟨ln_yin ha hb, nm_e ⟨ln_yin hb ha, nm_e ⟨ln_yin ha hb, nm_e ⟨ln_yin hb ha, nm_e ⟨rfl, R _ _ _ _⟩⟩⟩⟩⟩
          · exact br_f c2 (br_f e (ln_yrt ha (br_f ln_10 (ln_yrt hb (br_f ln_10 (br_f c1 (br_f c2 ⟨rfl, J _ _ _ _⟩)))))))
      · exact ln_xrt ha (br_f ln_10 (ln_xrf r2 (br_t rfl (br_f e (ln_yrt ha (br_f ln_10 (ln_yrf r2 (br_t rfl ⟨rfl, J _ _ _ _⟩))))))))
    · exact ln_xrf r1 (br_t rfl (br_f e (ln_yrf r1 (br_t rfl ⟨rfl, J _ _ _ _⟩))))

theorem i_vc_cut {k : Nat} {u : SX} {v : SY} (I : i_Rel k u v) (hk : k + 4 ≤ 2048) (v1 : Int32) (v2 : Int32) : wpX_cut (fun r u' => wpY_cut (fun r' v' => r' = r ∧ i_Rel (k + 4) u' v') v v1 v2) u v1 v2 := by
  obtain ⟨P, L, O, D, H, B, M, C, F, w, o, f, rfl, rfl, S, VX, VY, K, E, A, N, J⟩ := ln_get I
  unfold wpX_cut wpY_cut
  dsimp only
  by_cases r : ln_R v1 ∧ ln_R v2
  · obtain ⟨⟨a, ha, rfl⟩, ⟨b, hb, rfl⟩⟩ := r
    refine ln_xlink ha hb (fun z => br_f ln_10 ?_) (fun z => br_t rfl (ln_ylk S ha hb (fun y => absurd z y) (fun _ => br_t rfl ⟨rfl, J _ _ _ _⟩)))
    have ab : a ≠ b := fun q => z ((S a b ha hb).2.1 q)
    have S' : ln_S (ln_U P a b (nI 0)) (ln_U L a b 0) M :=
      ln_S_put S ha hb ab (by omega) (Or.inl rfl) (fun _ => rfl) (fun _ _ _ _ _ => rfl) (fun q => absurd rfl q)
    refine ln_xput ha hb ln_b0 (ln_done S' fun D' H' R => ln_ylk S ha hb (fun _ => br_f ln_10 ?_) (fun y => absurd y z))
    rw [ln_yi ha hb, ln_yi hb ha]
    exact ⟨ln_yin ha hb, nm_e ⟨ln_yin hb ha, nm_e ⟨rfl, R _ _ _ _⟩⟩⟩
  · exact ln_xlink_n r (br_t rfl (ln_ylink_n r (br_t rfl ⟨rfl, J _ _ _ _⟩)))

/-- the reference's setLink -/
theorem ln_ysetLink {P L M O C F : Nat → Int32} {post : Int32 → SY → Prop} (S : ln_S P L M) {a b : Nat} (ha : a < 7) (hb : b < 7) {x y : Int32}
    (hx : vp_nar .boolean x = y) (z : ¬ P (7 * a + b) = 0) (h : post 1 (P, ln_U M a b y, O, C, F)) :
    wpY_setLink post (P, M, O, C, F) (nI a) (nI b) x := by
  unfold wpY_setLink
  dsimp only
  rw [hx]
  refine ln_ylk S ha hb (fun _ => br_f ln_10 ?_) (fun q => absurd q z)
  rw [ln_yi ha hb, ln_yi hb ha]
  exact ⟨ln_yin ha hb, nm_e ⟨ln_yin hb ha, nm_e h⟩⟩

/-- a link's mark is set on both sides -/
theorem ln_S_set {P L M : Nat → Int32} (S : ln_S P L M) {a b : Nat} (ha : a < 7) (hb : b < 7) (z : ¬ P (7 * a + b) = 0) {x : Int32} (hx : x = 0 ∨ x = 1) :
    ln_U P a b (P (7 * a + b)) = P ∧ ln_S P (ln_U L a b x) (ln_U M a b x) := by
  obtain ⟨⟨n, n9, e⟩, s2, s3, _⟩ := S a b ha hb
  have ab : a ≠ b := fun q => z (s2 q)
  have id : ln_U P a b (P (7 * a + b)) = P := ln_U_id rfl s3.symm
  refine ⟨id, ?_⟩
  have n0 : n ≠ 0 := fun q => z (by rw [e, q]; rfl)
  have q := ln_S_put (N := ln_U M a b x) S ha hb ab n9 hx (fun y => absurd y n0) (fun i j hi hj y => ln_U_f ha hb hi hj y) (fun _ i j y => ln_U_t y)
  rw [← e, id] at q
  exact q

theorem i_vc_setLink {k : Nat} {u : SX} {v : SY} (I : i_Rel k u v) (hk : k + 4 ≤ 2048) (v1 : Int32) (v2 : Int32) (v3 : Int32) : wpX_setLink (fun r u' => wpY_setLink (fun r' v' => r' = r ∧ i_Rel (k + 4) u' v') v v1 v2 (lw_bz v3)) u v1 v2 (lw_bz v3) := by
  obtain ⟨P, L, O, D, H, B, M, C, F, w, o, f, rfl, rfl, S, VX, VY, K, E, A, N, J⟩ := ln_get I
  unfold wpX_setLink
  dsimp only
  by_cases r : ln_R v1 ∧ ln_R v2
  · obtain ⟨⟨a, ha, rfl⟩, ⟨b, hb, rfl⟩⟩ := r
    refine ln_xlink ha hb (fun z => br_f ln_10 (ln_xplace ha hb fun t et it => ⟨it, ?_⟩)) (fun z => br_t rfl ?_)
    · rw [et]
      obtain ⟨id, S'⟩ := ln_S_set S ha hb z (lw_bz_01 v3)
      refine nm_e (ln_xput ha hb (ln_bz v3) ?_)
      rw [id]
      exact ln_done S' fun D' H' R => ln_ysetLink S ha hb (ln_bz v3) z ⟨rfl, R _ _ _ _⟩
    · unfold wpY_setLink
      dsimp only
      exact ln_ylk S ha hb (fun y => absurd z y) (fun _ => br_t rfl ⟨rfl, J _ _ _ _⟩)
  · refine ln_xlink_n r (br_t rfl ?_)
    unfold wpY_setLink
    dsimp only
    exact ln_ylink_n r (br_t rfl ⟨rfl, J _ _ _ _⟩)

theorem i_vc_setRouter {k : Nat} {u : SX} {v : SY} (I : i_Rel k u v) (hk : k + 4 ≤ 2048) (v1 : Int32) (v2 : Int32) : wpX_setRouter (fun r u' => wpY_setRouter (fun r' v' => r' = r ∧ i_Rel (k + 4) u' v') v v1 (lw_bz v2)) u v1 (lw_bz v2) := by
  obtain ⟨P, L, O, D, H, B, M, C, F, w, o, f, rfl, rfl, S, VX, VY, K, E, A, N, J⟩ := ln_get I
  unfold wpX_setRouter wpY_setRouter
  dsimp only
  by_cases r : ln_R v1
  · obtain ⟨a, ha, rfl⟩ := r
    refine ln_xrt ha (br_f ln_10 ⟨ln_i7 ha, nm_e (ln_done S fun D' H' R => ?_)⟩)
    exact ln_yrt ha (br_f ln_10 ⟨ln_i7 ha, nm_e ⟨rfl, R _ _ _ _⟩⟩)
  · exact ln_xrf r (br_t rfl (ln_yrf r (br_t rfl ⟨rfl, J _ _ _ _⟩)))

/-- the first i routers are up -/
def ln_on (i : Nat) : Nat → Int32 := fun j => if j < i then 1 else 0
theorem ln_on_s (i : Nat) : upd (ln_on i) i 1 = ln_on (i + 1) := by
  funext j
  by_cases e : j = i
  · rw [e, pk_us]; exact (if_pos (Nat.lt_succ_self i)).symm
  · rw [pk_un e]
    unfold ln_on
    by_cases z : j < i
    · rw [if_pos z, if_pos (by omega)]
    · rw [if_neg z, if_neg (by omega)]

theorem i_vc0 : wpX_init (fun u => wpY_init (fun v => i_Rel 0 u v)) := by
  unfold wpX_init
  have S : ln_S (fun _ => 0) (fun _ => 0) (fun _ => 0) :=
    fun a b _ _ => ⟨⟨0, by omega, rfl⟩, fun _ => rfl, rfl, fun _ => rfl, fun _ => rfl, Or.inl rfl⟩
  refine loop_0 (fun n i s => wX_init_54 (fun u => wpY_init (fun v => i_Rel 0 u v)) n (nI i) (fun _ => 0) (fun _ => 0) s (fun _ => 0) (fun _ => 0) (fun _ => 0))
    (fun i s => s = ln_on i) 7 (fun _ => 0) rfl (fun n s I => br_t ln_77 (ln_done S fun D' H' R => ?_))
    (fun n i s hi I K => br_f (ln_n7 hi) ⟨ln_i7 hi, nm_e (nm_r (nI_1 i) (K _ ?_))⟩)
  · unfold wpY_init
    refine loop_0 (fun n i t => wY_init_46 (fun v => i_Rel 0 ((fun _ => 0), (fun _ => 0), s, D', H', (fun _ => 0)) v) n (nI i) (fun _ => 0) (fun _ => 0) t (fun _ => 0) (fun _ => 0))
      (fun i t => t = ln_on i) 7 (fun _ => 0) rfl (fun n t T => br_t ln_77 ?_)
      (fun n i t hi T K => br_f (ln_n7 hi) ⟨ln_i7 hi, nm_e (nm_r (nI_1 i) (K _ ?_))⟩)
    · rw [T, ← I]; exact R _ _ _ _
    · rw [T, ln_b1, ln_c7 hi]; exact ln_on_s i
  · rw [I, ln_b1, ln_c7 hi]; exact ln_on_s i
end
section
/-! part 08: the calls that ask -/

theorem i_vc_cost {k : Nat} {u : SX} {v : SY} (I : i_Rel k u v) (hk : k + 4 ≤ 2048) (v1 : Int32) (v2 : Int32) : wpX_cost (fun r => wpY_cost (fun r' => r' = r ∧ i_Rel (k + 4) u v) v v1 v2) u v1 v2 := by
  obtain ⟨P, L, O, D, H, B, M, C, F, w, o, f, rfl, rfl, S, VX, VY, K, E, A, N, J⟩ := ln_get I
  unfold wpX_cost wpY_cost
  dsimp only
  by_cases r : ln_R v1 ∧ ln_R v2
  · obtain ⟨⟨a, ha, rfl⟩, ⟨b, hb, rfl⟩⟩ := r
    refine ln_xlink ha hb (fun z => br_f ln_10 (ln_xplace ha hb fun t et it => ⟨it, ?_⟩))
      (fun z => br_t rfl (ln_ylk S ha hb (fun y => absurd z y) (fun _ => br_t rfl ⟨rfl, J _ _ _ _⟩)))
    refine ln_ylk S ha hb (fun _ => br_f ln_10 ⟨ln_yin ha hb, ?_⟩) (fun y => absurd y z)
    rw [et, ln_yi ha hb]
    exact ⟨rfl, J _ _ _ _⟩
  · exact ln_xlink_n r (br_t rfl (ln_ylink_n r (br_t rfl ⟨rfl, J _ _ _ _⟩)))

theorem i_vc_distance {k : Nat} {u : SX} {v : SY} (I : i_Rel k u v) (hk : k + 4 ≤ 2048) (v1 : Int32) (v2 : Int32) : wpX_distance (fun r => wpY_distance (fun r' v' => r' = r ∧ i_Rel (k + 4) u v') v v1 v2) u v1 v2 := by
  obtain ⟨P, L, O, D, H, B, M, C, F, w, o, f, rfl, rfl, S, VX, VY, K, E, A, N, J⟩ := ln_get I
  unfold wpX_distance wpY_distance
  dsimp only
  by_cases r : ln_R v1 ∧ ln_R v2
  · obtain ⟨⟨a, ha, rfl⟩, ⟨b, hb, rfl⟩⟩ := r
    have hf := (E a b ha hb).1
    refine ln_xroute A ha hb hf (fun l => br_f ln_10 (ln_xplace ha hb fun t et it => ⟨it, ?_⟩)) (fun l => br_t rfl ?_)
    · refine ln_ywork VY K E fun D2 A2 => ln_yhas A2 ha hb hf (fun _ => br_f ln_10 ⟨ln_yin ha hb, ?_⟩) (fun z => absurd z (by omega))
      dsimp only
      rw [et, ln_yi ha hb, A a b ha hb, A2 a b ha hb]
      exact ⟨rfl, J _ _ _ _⟩
    · exact ln_ywork VY K E fun D2 A2 => ln_yhas A2 ha hb hf (fun z => absurd l (by omega)) (fun _ => br_t rfl ⟨rfl, J _ _ _ _⟩)
  · exact ln_xroute_n r (br_t rfl (ln_ywork VY K E fun D2 A2 => ln_yhas_n r (br_t rfl ⟨rfl, J _ _ _ _⟩)))

theorem i_vc_nextHop {k : Nat} {u : SX} {v : SY} (I : i_Rel k u v) (hk : k + 4 ≤ 2048) (v1 : Int32) (v2 : Int32) : wpX_nextHop (fun r => wpY_nextHop (fun r' v' => r' = r ∧ i_Rel (k + 4) u v') v v1 v2) u v1 v2 := by
  obtain ⟨P, L, O, D, H, B, M, C, F, w, o, f, rfl, rfl, S, VX, VY, K, E, A, N, J⟩ := ln_get I
  by_cases r : ln_R v1 ∧ ln_R v2
  · obtain ⟨⟨a, ha, rfl⟩, ⟨b, hb, rfl⟩⟩ := r
    have hf := (E a b ha hb).1
    by_cases e : a = b
    · subst e
      refine ln_xnext_m E A N ha hb (Or.inl rfl) ?_
      unfold wpY_nextHop
      dsimp only
      exact ln_ywork VY K E fun D2 A2 => br_t rfl ⟨rfl, J _ _ _ _⟩
    · by_cases l : f a b < 1000
      · refine ln_xnext E A N ha hb fun t ht => ?_
        obtain ⟨j, ej, hj⟩ := ht.2 e l
        unfold wpY_nextHop
        dsimp only
        refine ln_ywork VY K E fun D2 A2 => br_f (ln_ne ha hb e) (ln_yhas A2 ha hb hf (fun _ => br_f ln_10 ?_) (fun z => absurd z (by omega)))
        refine ln_yhop VY K E A2 ha hb e l fun i hi => ⟨?_, J _ _ _ _⟩
        rw [ej, ln_hop_uniq hi hj]
      · refine ln_xnext_m E A N ha hb (Or.inr (by omega)) ?_
        unfold wpY_nextHop
        dsimp only
        exact ln_ywork VY K E fun D2 A2 => br_f (ln_ne ha hb e) (ln_yhas A2 ha hb hf (fun z => absurd z l) (fun _ => br_t rfl ⟨rfl, J _ _ _ _⟩))
  · unfold wpX_nextHop wpY_nextHop
    dsimp only
    refine ln_xroute_n r (br_t rfl (ln_ywork VY K E fun D2 A2 => ?_))
    exact br_c (fun _ => ⟨rfl, J _ _ _ _⟩) (fun _ => ln_yhas_n r (br_t rfl ⟨rfl, J _ _ _ _⟩))

theorem i_vc_hops {k : Nat} {u : SX} {v : SY} (I : i_Rel k u v) (hk : k + 4 ≤ 2048) (v1 : Int32) (v2 : Int32) : wpX_hops (fun r => wpY_hops (fun r' v' => r' = r ∧ i_Rel (k + 4) u v') v v1 v2) u v1 v2 := by
  obtain ⟨P, L, O, D, H, B, M, C, F, w, o, f, rfl, rfl, S, VX, VY, K, E, A, N, J⟩ := ln_get I
  by_cases r : ln_R v1 ∧ ln_R v2
  · obtain ⟨⟨a, ha, rfl⟩, ⟨b, hb, rfl⟩⟩ := r
    have hf := (E a b ha hb).1
    by_cases l : f a b < 1000
    · obtain ⟨n, q, R⟩ := ln_rt E ha hb l
      refine ln_xhops E A N ha hb l R ?_
      unfold wpY_hops
      dsimp only
      exact ln_ywork VY K E fun D2 A2 => ln_yhas A2 ha hb hf (fun _ => br_f ln_10 (ln_ycount VY K E A2 hb R ⟨rfl, J _ _ _ _⟩)) (fun z => absurd z (by omega))
    · unfold wpX_hops wpY_hops
      dsimp only
      exact ln_xroute A ha hb hf (fun z => absurd z l) (fun _ => br_t rfl (ln_ywork VY K E fun D2 A2 => ln_yhas A2 ha hb hf (fun z => absurd z l) (fun _ => br_t rfl ⟨rfl, J _ _ _ _⟩)))
  · unfold wpX_hops wpY_hops
    dsimp only
    exact ln_xroute_n r (br_t rfl (ln_ywork VY K E fun D2 A2 => ln_yhas_n r (br_t rfl ⟨rfl, J _ _ _ _⟩)))

theorem ln_min (n t : Nat) : ∃ e : Nat, e ≤ n ∧ e ≤ t ∧ (e = n ∨ e = t) := by
  by_cases h : n ≤ t
  · exact ⟨n, Nat.le_refl n, h, Or.inl rfl⟩
  · exact ⟨t, by omega, Nat.le_refl t, Or.inr rfl⟩

theorem i_vc_after {k : Nat} {u : SX} {v : SY} (I : i_Rel k u v) (hk : k + 4 ≤ 2048) (v1 : Int32) (v2 : Int32) (v3 : Int32) : wpX_after (fun r => wpY_after (fun r' v' => r' = r ∧ i_Rel (k + 4) u v') v v1 v2 v3) u v1 v2 v3 := by
  obtain ⟨P, L, O, D, H, B, M, C, F, w, o, f, rfl, rfl, S, VX, VY, K, E, A, N, J⟩ := ln_get I
  by_cases r : ln_R v1 ∧ ln_R v2
  · obtain ⟨⟨a, ha, rfl⟩, ⟨b, hb, rfl⟩⟩ := r
    have hf := (E a b ha hb).1
    by_cases l : f a b < 1000
    · obtain ⟨n, q, R⟩ := ln_rt E ha hb l
      obtain ⟨t, T⟩ := ln_T v3
      obtain ⟨e, e1, e2, e3⟩ := ln_min n t
      refine ln_xafter E A N ha hb l R T e1 e2 e3 ?_
      unfold wpY_after
      dsimp only
      exact ln_ywork VY K E fun D2 A2 => ln_yhas A2 ha hb hf (fun _ => br_f ln_10 (ln_ywalk VY K E A2 hb R T e1 e2 e3 ⟨rfl, J _ _ _ _⟩)) (fun z => absurd z (by omega))
    · unfold wpX_after wpY_after
      dsimp only
      exact ln_xroute A ha hb hf (fun z => absurd z l) (fun _ => br_t rfl (ln_ywork VY K E fun D2 A2 => ln_yhas A2 ha hb hf (fun z => absurd z l) (fun _ => br_t rfl ⟨rfl, J _ _ _ _⟩)))
  · unfold wpX_after wpY_after
    dsimp only
    exact ln_xroute_n r (br_t rfl (ln_ywork VY K E fun D2 A2 => ln_yhas_n r (br_t rfl ⟨rfl, J _ _ _ _⟩)))

/-- hops where there is no distance -/
theorem ln_xhops_n {P L O D H B : Nat → Int32} {f : Nat → Nat → Nat} {post : Int32 → Prop} (A : ln_A D f) {a b : Nat} (ha : a < 7) (hb : b < 7) (l : f a b = 1000)
    (h : post (-1)) : wpX_hops post (P, L, O, D, H, B) (nI a) (nI b) := by
  unfold wpX_hops
  dsimp only
  exact ln_xroute A ha hb (by omega) (fun z => absurd l (by omega)) (fun _ => br_t rfl h)
theorem ln_xhops_m {P L O D H B : Nat → Int32} {post : Int32 → Prop} {x y : Int32} (r : ¬ (ln_R x ∧ ln_R y)) (h : post (-1)) :
    wpX_hops post (P, L, O, D, H, B) x y := by
  unfold wpX_hops
  dsimp only
  exact ln_xroute_n r (br_t rfl h)

theorem i_vc_routeAt {k : Nat} {u : SX} {v : SY} (I : i_Rel k u v) (hk : k + 4 ≤ 2048) (v1 : Int32) (v2 : Int32) (v3 : Int32) : wpX_routeAt (fun r => wpY_routeAt (fun r' v' => r' = r ∧ i_Rel (k + 4) u v') v v1 v2 v3) u v1 v2 v3 := by
  obtain ⟨P, L, O, D, H, B, M, C, F, w, o, f, rfl, rfl, S, VX, VY, K, E, A, N, J⟩ := ln_get I
  -- the reference's NONE
  have yn : ∀ R' : Int32, R' = -1 → (¬ (ln_R v1 ∧ ln_R v2) ∨ (∃ a b : Nat, a < 7 ∧ b < 7 ∧ v1 = nI a ∧ v2 = nI b ∧ f a b = 1000)) →
      wpY_routeAt (fun r' v' => r' = R' ∧ i_Rel (k + 4) (P, L, O, D, H, B) v') (P, M, O, C, F) v1 v2 v3 := by
    intro R' e z
    subst e
    unfold wpY_routeAt
    dsimp only
    refine ln_ywork VY K E fun D2 A2 => ?_
    rcases z with z | ⟨a, b, ha, hb, rfl, rfl, l⟩
    · exact ln_yhas_n z (br_t rfl ⟨rfl, J _ _ _ _⟩)
    · exact ln_yhas A2 ha hb (by omega) (fun z => absurd l (by omega)) (fun _ => br_t rfl ⟨rfl, J _ _ _ _⟩)
  have neg : ¬ v3 < 0 → ¬ v3 ≤ -1 := fun a b => a (Int32.lt_of_le_of_lt b (by decide))
  by_cases r : ln_R v1 ∧ ln_R v2
  · obtain ⟨⟨a, ha, rfl⟩, ⟨b, hb, rfl⟩⟩ := r
    have hf := (E a b ha hb).1
    by_cases l : f a b < 1000
    · obtain ⟨n, q, R⟩ := ln_rt E ha hb l
      have n6 := R.1
      by_cases m : v3 < 0
      · unfold wpX_routeAt wpY_routeAt
        dsimp only
        exact br_t m (ln_ywork VY K E fun D2 A2 => ln_yhas A2 ha hb hf (fun _ => br_f ln_10 (br_t m ⟨rfl, J _ _ _ _⟩)) (fun z => absurd z (by omega)))
      · obtain ⟨j, hj, rfl⟩ := nI_of m
        unfold wpX_routeAt wpY_routeAt
        dsimp only
        refine br_f m (ln_xhops E A N ha hb l R ?_)
        by_cases c : j ≤ n
        · refine br_t (nI_le c (by omega)) (ln_xafter E A N ha hb l R (ln_TnI hj) c (Nat.le_refl j) (Or.inr rfl) ?_)
          exact ln_ywork VY K E fun D2 A2 => ln_yhas A2 ha hb hf (fun _ => br_f ln_10 (br_f m (ln_ycount VY K E A2 hb R
            (br_f (nI_nlt c (by omega)) (ln_ywalk_k VY K E A2 hb R c ⟨rfl, J _ _ _ _⟩))))) (fun z => absurd z (by omega))
        · refine br_f (nI_ge (by omega) hj) ?_
          exact ln_ywork VY K E fun D2 A2 => ln_yhas A2 ha hb hf (fun _ => br_f ln_10 (br_f m (ln_ycount VY K E A2 hb R
            (br_t (nI_lt (by omega) hj) ⟨rfl, J _ _ _ _⟩)))) (fun z => absurd z (by omega))
    · have y := yn (-1) rfl (Or.inr ⟨a, b, ha, hb, rfl, rfl, by omega⟩)
      unfold wpX_routeAt
      dsimp only
      exact br_c (fun _ => y) (fun m => ln_xhops_n A ha hb (by omega) (br_f (neg m) y))
  · have y := yn (-1) rfl (Or.inl r)
    unfold wpX_routeAt
    dsimp only
    exact br_c (fun _ => y) (fun m => ln_xhops_m r (br_f (neg m) y))
end
section
/-! part 09: load and linkLoad -/

/-- routes for all pairs -/
theorem ln_rts {w : Nat → Nat → Nat} {o : Nat → Prop} {f : Nat → Nat → Nat} (E : ln_Bel w o f) : ∃ n : Nat → Nat → Nat, ∃ q : Nat → Nat → Nat → Nat,
    ∀ s d : Nat, s < 7 → d < 7 → f s d < 1000 → ln_Rt w f s d (n s d) (q s d) := by
  refine ⟨fun s d => if h : s < 7 ∧ d < 7 ∧ f s d < 1000 then (ln_rt E h.1 h.2.1 h.2.2).choose else 0,
    fun s d => if h : s < 7 ∧ d < 7 ∧ f s d < 1000 then (ln_rt E h.1 h.2.1 h.2.2).choose_spec.choose else fun _ => 0, fun s d hs hd l => ?_⟩
  have h : s < 7 ∧ d < 7 ∧ f s d < 1000 := ⟨hs, hd, l⟩
  dsimp only
  rw [dif_pos h, dif_pos h]
  exact (ln_rt E h.1 h.2.1 h.2.2).choose_spec.choose_spec

theorem ln_m0 {x y : Int32} (h : y = x) : x + 0 = y := by rw [Int32.add_zero, h]

/-- what is said of pairs, said of places -/
theorem ln_pp (U : Nat → Nat → Prop) : ∃ T : Nat → Prop, ∀ i j : Nat, j < 7 → (T (7 * i + j) ↔ U i j) :=
  ⟨fun c => U (c / 7) (c % 7), fun i j hj => by
    show U ((7 * i + j) / 7) ((7 * i + j) % 7) ↔ U i j
    rw [(ln_dm hj).1, (ln_dm hj).2]⟩

/-- the reference's load, router by router -/
theorem i_vc_load {k : Nat} {u : SX} {v : SY} (I : i_Rel k u v) (hk : k + 4 ≤ 2048) (v1 : Int32) : wpX_load (fun r => wpY_load (fun r' v' => r' = r ∧ i_Rel (k + 4) u v') v v1) u v1 := by
  obtain ⟨P, L, O, D, H, B, M, C, F, w, o, f, rfl, rfl, S, VX, VY, K, E, A, N, J⟩ := ln_get I
  unfold wpX_load
  dsimp only
  by_cases r : ln_R v1
  · obtain ⟨r, hr, rfl⟩ := r
    obtain ⟨n, q, R⟩ := ln_rts E
    obtain ⟨T, Tp⟩ : ∃ T : Nat → Prop, ∀ i j : Nat, j < 7 → (T (7 * i + j) ↔ (i ≠ r ∧ j ≠ r ∧ i ≠ j ∧ f i j < 1000 ∧ ∃ k : Nat, k ≤ n i j ∧ q i j k = r)) :=
      ln_pp (fun i j => i ≠ r ∧ j ≠ r ∧ i ≠ j ∧ f i j < 1000 ∧ ∃ k : Nat, k ≤ n i j ∧ q i j k = r)
    refine ln_xrt hr (br_f ln_10 ?_)
    refine ln_dbl (fun m x s => wX_load_13 (fun r' => wpY_load (fun r'' v' => r'' = r' ∧ i_Rel (k + 4) (P, L, O, D, H, B) v') (P, M, O, C, F) (nI r)) (nI r) P L O D H B m s x)
      (fun m x m' y s => wX_load_22 (fun r' => wpY_load (fun r'' v' => r'' = r' ∧ i_Rel (k + 4) (P, L, O, D, H, B) v') (P, M, O, C, F) (nI r))
        (wX_load_13 (fun r' => wpY_load (fun r'' v' => r'' = r' ∧ i_Rel (k + 4) (P, L, O, D, H, B) v') (P, M, O, C, F) (nI r)) (nI r) P L O D H B m) (nI r) x P L O D H B m' s y)
      (fun c s => s = nI (ln_ct T c)) (fun m s I => br_t ln_77 ?_) (fun m i s hi I => br_f (ln_n7 hi) I) (fun m m' i s hi I => br_t ln_77 (nm_r (nI_1 i) I))
      (fun m m' i j s hi hj I Z => br_f (ln_n7 hj) ?_) 0 rfl
    · -- the reference
      rw [I]
      unfold wpY_load
      dsimp only
      refine ln_ywork VY K E fun D2 A2 => ?_
      refine loop_0 (fun m c s => wY_load_8 (fun r'' v' => r'' = nI (ln_ct T 49) ∧ i_Rel (k + 4) (P, L, O, D, H, B) v') (nI r) P M O D2 F m s (nI c))
        (fun c s => s = nI (ln_ct T c)) 49 0 rfl (fun m s I => br_t ln_4949 ⟨I, J _ _ _ _⟩) (fun m c s hc I Z => br_f (ln_n49 hc) ⟨ln_70, ?_⟩)
      obtain ⟨i, j, hi, hj, rfl⟩ := ln_pair hc
      have no : ¬ T (7 * i + j) → ∀ x : Int32, x = s + 0 → ∀ y : Int32, y = nI (7 * i + j) + 1 → wY_load_8 (fun r'' v' => r'' = nI (ln_ct T 49) ∧ i_Rel (k + 4) (P, L, O, D, H, B) v') (nI r) P M O D2 F m x y :=
        fun z => nm_e (nm_r (nI_1 _) (Z _ (by rw [Int32.add_zero, I, ln_ct_f z])))
      have yes : T (7 * i + j) → ∀ x : Int32, x = s + 1 → ∀ y : Int32, y = nI (7 * i + j) + 1 → wY_load_8 (fun r'' v' => r'' = nI (ln_ct T 49) ∧ i_Rel (k + 4) (P, L, O, D, H, B) v') (nI r) P M O D2 F m x y :=
        fun z => nm_e (nm_r (nI_1 _) (Z _ (by rw [I, nI_1, ln_ct_t z])))
      refine nm_r (ln_dvp hi hj) ⟨ln_70, nm_r (ln_rmp hi hj) (ln_yrt hr (br_f ln_10 ?_))⟩
      by_cases e1 : i = j
      · exact br_t (by rw [e1]) (no (fun z => ((Tp i j hj).mp z).2.2.1 e1))
      · refine br_f (ln_ne hi hj e1) ?_
        by_cases e2 : i = r
        · exact br_t (by rw [e2]) (no (fun z => ((Tp i j hj).mp z).1 e2))
        · refine br_f (ln_ne hi hr e2) ?_
          by_cases e3 : j = r
          · exact br_t (by rw [e3]) (no (fun z => ((Tp i j hj).mp z).2.1 e3))
          · refine br_f (ln_ne hj hr e3) (ln_yhas A2 hi hj (E i j hi hj).1 (fun l => br_f ln_10 ?_) (fun l => br_t rfl (no (fun z => absurd l (by have := ((Tp i j hj).mp z).2.2.2.1; omega)))))
            refine ln_ypasses VY K E A2 hj (R i j hi hj l) hr (fun z => br_f ln_10 (yes ((Tp i j hj).mpr ?_))) (fun z => br_t rfl (no (fun y => z ?_)))
            · obtain ⟨k', h1, h2, _⟩ := z
              exact ⟨e2, e3, e1, l, k', h1, h2⟩
            · obtain ⟨_, _, _, _, k', h1, h2⟩ := (Tp i j hj).mp y
              exact ⟨k', h1, h2, Or.inl (by decide)⟩
    · -- the component
      have no : ¬ T (7 * i + j) → s = nI (ln_ct T (7 * i + j + 1)) := fun z => by rw [I, ln_ct_f z]
      by_cases e2 : i = r
      · exact br_t (by rw [e2]) (nm_r (nI_1 j) (Z s (no (fun z => ((Tp i j hj).mp z).1 e2))))
      · refine br_f (ln_ne hi hr e2) ?_
        by_cases e3 : j = r
        · exact br_t (by rw [e3]) (nm_r (nI_1 j) (Z s (no (fun z => ((Tp i j hj).mp z).2.1 e3))))
        · refine br_f (ln_ne hj hr e3) ?_
          by_cases g : i = j ∨ f i j = 1000
          · refine ln_xcomes_n E A N hi hj hr g e2 (br_t rfl (nm_r (nI_1 j) (Z s (no (fun z => ?_)))))
            obtain ⟨_, _, z3, z4, _⟩ := (Tp i j hj).mp z
            rcases g with g | g
            · exact z3 g
            · omega
          · have g1 : i ≠ j := fun z => g (Or.inl z)
            have l : f i j < 1000 := by
              have := (E i j hi hj).1
              by_cases z : f i j = 1000
              · exact absurd (Or.inr z) g
              · omega
            refine ln_xcomes E A N hj (R i j hi hj l) hr (fun z => br_f ln_10 (nm_r (e' := s + 1) rfl (nm_r (nI_1 j) (Z _ ?_))))
              (fun z => br_t rfl (nm_r (nI_1 j) (Z s (no (fun y => z ((Tp i j hj).mp y).2.2.2.2)))))
            rw [I, nI_1, ln_ct_t ((Tp i j hj).mpr ⟨e2, e3, g1, l, z⟩)]
  · refine ln_xrf r (br_t rfl ?_)
    unfold wpY_load
    dsimp only
    refine ln_ywork VY K E fun D2 A2 => ?_
    refine loop_0 (fun m c s => wY_load_8 (fun r'' v' => r'' = 0 ∧ i_Rel (k + 4) (P, L, O, D, H, B) v') v1 P M O D2 F m s (nI c))
      (fun c s => s = 0) 49 0 rfl (fun m s I => br_t ln_4949 ⟨I, J _ _ _ _⟩) (fun m c s hc I Z => br_f (ln_n49 hc) ⟨ln_70, ?_⟩)
    exact nm_e ⟨ln_70, nm_e (ln_yrf r (br_t rfl (nm_e (nm_r (nI_1 c) (Z _ (by rw [I]; rfl))))))⟩

theorem i_vc_linkLoad {k : Nat} {u : SX} {v : SY} (I : i_Rel k u v) (hk : k + 4 ≤ 2048) (v1 : Int32) (v2 : Int32) : wpX_linkLoad (fun r => wpY_linkLoad (fun r' v' => r' = r ∧ i_Rel (k + 4) u v') v v1 v2) u v1 v2 := by
  obtain ⟨P, L, O, D, H, B, M, C, F, w, o, f, rfl, rfl, S, VX, VY, K, E, A, N, J⟩ := ln_get I
  by_cases r : ln_R v1 ∧ ln_R v2
  · obtain ⟨⟨a, ha, rfl⟩, ⟨b, hb, rfl⟩⟩ := r
    by_cases wz : w a b = 0
    · -- none that counts
      have y : wpY_linkLoad (fun r' v' => r' = 0 ∧ i_Rel (k + 4) (P, L, O, D, H, B) v') (P, M, O, C, F) (nI a) (nI b) := by
        unfold wpY_linkLoad
        dsimp only
        refine ln_ywork VY K E fun D2 A2 => ⟨1, ?_⟩
        have g : wY_linkLoad_9 (fun r' v' => r' = 0 ∧ i_Rel (k + 4) (P, L, O, D, H, B) v') (nI a) (nI b) P M O D2 F 1 0 (nI 0) :=
          br_f (ln_n49 (by omega)) (ln_ycounts VY ha hb (fun z _ => absurd wz z) (fun _ => br_t rfl ⟨rfl, J _ _ _ _⟩))
        exact g
      unfold wpX_linkLoad
      dsimp only
      exact ln_xlink ha hb (fun _ => br_f ln_10 (ln_xcounts VX ha hb (fun z _ => absurd wz z) (fun _ => br_t rfl y))) (fun _ => br_t rfl y)
    · obtain ⟨n, q, R⟩ := ln_rts E
      obtain ⟨T, Tp⟩ : ∃ T : Nat → Prop, ∀ i j : Nat, j < 7 → (T (7 * i + j) ↔ (i ≠ j ∧ f i j < 1000 ∧ ∃ k : Nat, ln_Al (n i j) (q i j) a b k)) :=
        ln_pp (fun i j => i ≠ j ∧ f i j < 1000 ∧ ∃ k : Nat, ln_Al (n i j) (q i j) a b k)
      have pz : ¬ P (7 * a + b) = 0 := by
        intro z
        obtain ⟨_, _, _, s4, _⟩ := S a b ha hb
        exact wz ((VX.2 a b ha hb).1 (Or.inl (s4 z)))
      unfold wpX_linkLoad
      dsimp only
      refine ln_xlink ha hb (fun _ => br_f ln_10 (ln_xcounts VX ha hb (fun _ _ => br_f ln_10 ?_) (fun z => absurd z wz))) (fun z => absurd z pz)
      refine ln_dbl (fun m x s => wX_linkLoad_25 (fun r' => wpY_linkLoad (fun r'' v' => r'' = r' ∧ i_Rel (k + 4) (P, L, O, D, H, B) v') (P, M, O, C, F) (nI a) (nI b)) (nI a) (nI b) P L O D H B m s x)
        (fun m x m' y s => wX_linkLoad_35 (fun r' => wpY_linkLoad (fun r'' v' => r'' = r' ∧ i_Rel (k + 4) (P, L, O, D, H, B) v') (P, M, O, C, F) (nI a) (nI b))
          (wX_linkLoad_25 (fun r' => wpY_linkLoad (fun r'' v' => r'' = r' ∧ i_Rel (k + 4) (P, L, O, D, H, B) v') (P, M, O, C, F) (nI a) (nI b)) (nI a) (nI b) P L O D H B m) (nI a) (nI b) x P L O D H B m' s y)
        (fun c s => s = nI (ln_ct T c)) (fun m s I => br_t ln_77 ?_) (fun m i s hi I => br_f (ln_n7 hi) I) (fun m m' i s hi I => br_t ln_77 (nm_r (nI_1 i) I))
        (fun m m' i j s hi hj I Z => br_f (ln_n7 hj) ?_) 0 rfl
      · -- the reference
        rw [I]
        unfold wpY_linkLoad
        dsimp only
        refine ln_ywork VY K E fun D2 A2 => ?_
        refine loop_0 (fun m c s => wY_linkLoad_9 (fun r'' v' => r'' = nI (ln_ct T 49) ∧ i_Rel (k + 4) (P, L, O, D, H, B) v') (nI a) (nI b) P M O D2 F m s (nI c))
          (fun c s => s = nI (ln_ct T c)) 49 0 rfl (fun m s I => br_t ln_4949 ⟨I, J _ _ _ _⟩)
          (fun m c s hc I Z => br_f (ln_n49 hc) (ln_ycounts VY ha hb (fun _ _ => br_f ln_10 ⟨ln_70, ?_⟩) (fun z => absurd z wz)))
        obtain ⟨i, j, hi, hj, rfl⟩ := ln_pair hc
        have no : ¬ T (7 * i + j) → ∀ x : Int32, x = s + 0 → ∀ y : Int32, y = nI (7 * i + j) + 1 → wY_linkLoad_9 (fun r'' v' => r'' = nI (ln_ct T 49) ∧ i_Rel (k + 4) (P, L, O, D, H, B) v') (nI a) (nI b) P M O D2 F m x y :=
          fun z => nm_e (nm_r (nI_1 _) (Z _ (by rw [Int32.add_zero, I, ln_ct_f z])))
        have yes : T (7 * i + j) → ∀ x : Int32, x = s + 1 → ∀ y : Int32, y = nI (7 * i + j) + 1 → wY_linkLoad_9 (fun r'' v' => r'' = nI (ln_ct T 49) ∧ i_Rel (k + 4) (P, L, O, D, H, B) v') (nI a) (nI b) P M O D2 F m x y :=
          fun z => nm_e (nm_r (nI_1 _) (Z _ (by rw [I, nI_1, ln_ct_t z])))
        refine nm_r (ln_dvp hi hj) ⟨ln_70, nm_r (ln_rmp hi hj) ?_⟩
        by_cases e1 : i = j
        · exact br_t (by rw [e1]) (no (fun z => ((Tp i j hj).mp z).1 e1))
        · refine br_f (ln_ne hi hj e1) (ln_yhas A2 hi hj (E i j hi hj).1 (fun l => br_f ln_10 ?_) (fun l => br_t rfl (no (fun z => absurd l (by have := ((Tp i j hj).mp z).2.1; omega)))))
          have Rij := R i j hi hj l
          have x0 : ∀ x : Nat, x < 7 → ¬ nI x < 0 := fun x hx => nI_pos (by omega)
          have q7 : ∀ t : Nat, t < n i j → q i j (t + 1) < 7 := fun t ht => (Rij.2.2.2.1 (t + 1) (by omega)).1
          refine ln_ypasses VY K E A2 hj Rij ha (fun z => br_f ln_10 (yes ((Tp i j hj).mpr ⟨e1, l, ?_⟩))) (fun z => br_t rfl
            (ln_ypasses VY K E A2 hj Rij hb (fun y => br_f ln_10 (yes ((Tp i j hj).mpr ⟨e1, l, ?_⟩))) (fun y => br_t rfl (no (fun x => ?_)))))
          · obtain ⟨t, _, h2, h3⟩ := z
            rcases h3 with h3 | ⟨h3, h4⟩
            · exact absurd h3 (x0 b hb)
            · exact ⟨t, h3, Or.inl ⟨h2, (nI_eq (by have := q7 t h3; omega) (by omega)).mp h4⟩⟩
          · obtain ⟨t, _, h2, h3⟩ := y
            rcases h3 with h3 | ⟨h3, h4⟩
            · exact absurd h3 (x0 a ha)
            · exact ⟨t, h3, Or.inr ⟨h2, (nI_eq (by have := q7 t h3; omega) (by omega)).mp h4⟩⟩
          · obtain ⟨_, _, t, h3, h4⟩ := (Tp i j hj).mp x
            rcases h4 with ⟨h4, h5⟩ | ⟨h4, h5⟩
            · exact z ⟨t, by omega, h4, Or.inr ⟨h3, by rw [h5]⟩⟩
            · exact y ⟨t, by omega, h4, Or.inr ⟨h3, by rw [h5]⟩⟩
      · -- the component
        have no : ¬ T (7 * i + j) → s = nI (ln_ct T (7 * i + j + 1)) := fun z => by rw [I, ln_ct_f z]
        by_cases g : i = j ∨ f i j = 1000
        · refine ln_xgoes_n E A N hi hj ha hb g (br_t rfl (nm_r (nI_1 j) (Z s (no (fun z => ?_)))))
          obtain ⟨z3, z4, _⟩ := (Tp i j hj).mp z
          rcases g with g | g
          · exact z3 g
          · omega
        · have g1 : i ≠ j := fun z => g (Or.inl z)
          have l : f i j < 1000 := by
            have := (E i j hi hj).1
            by_cases z : f i j = 1000
            · exact absurd (Or.inr z) g
            · omega
          refine ln_xgoes E A N hj (R i j hi hj l) ha hb (fun z => br_f ln_10 (nm_e (nm_r (nI_1 j) (Z _ ?_))))
            (fun z => br_t rfl (nm_r (nI_1 j) (Z s (no (fun y => z ((Tp i j hj).mp y).2.2)))))
          rw [I, nI_1, ln_ct_t ((Tp i j hj).mpr ⟨g1, l, z⟩)]
  · unfold wpX_linkLoad
    dsimp only
    refine ln_xlink_n r (br_t rfl ?_)
    unfold wpY_linkLoad
    dsimp only
    refine ln_ywork VY K E fun D2 A2 => ⟨1, ?_⟩
    have g : wY_linkLoad_9 (fun r' v' => r' = 0 ∧ i_Rel (k + 4) (P, L, O, D, H, B) v') v1 v2 P M O D2 F 1 0 (nI 0) :=
      br_f (ln_n49 (by omega)) (ln_ycounts_n r (br_t rfl ⟨rfl, J _ _ _ _⟩))
    exact g
end
section
/-! part 10: reachable and farthest -/

/-- reachable: the bits of the routers below n that have T -/
noncomputable def ln_rb (T : Nat → Prop) : Nat → Int32
  | 0 => 0
  | n + 1 => @ite Int32 (T n) (Classical.propDecidable (T n)) (ln_rb T n ||| ((1 : Int32) <<< (nI n &&& 31))) (ln_rb T n)
theorem ln_rb_t {T : Nat → Prop} {n : Nat} (h : T n) : ln_rb T (n + 1) = ln_rb T n ||| ((1 : Int32) <<< (nI n &&& 31)) := by rw [ln_rb, if_pos h]
theorem ln_rb_f {T : Nat → Prop} {n : Nat} (h : ¬ T n) : ln_rb T (n + 1) = ln_rb T n := by rw [ln_rb, if_neg h]
theorem ln_or0 (x : Int32) : x ||| 0 = x := Int32.or_zero

theorem i_vc_reachable {k : Nat} {u : SX} {v : SY} (I : i_Rel k u v) (hk : k + 4 ≤ 2048) (v1 : Int32) : wpX_reachable (fun r => wpY_reachable (fun r' v' => r' = r ∧ i_Rel (k + 4) u v') v v1) u v1 := by
  obtain ⟨P, L, O, D, H, B, M, C, F, w, o, f, rfl, rfl, S, VX, VY, K, E, A, N, J⟩ := ln_get I
  obtain ⟨T, Tp⟩ : ∃ T : Nat → Prop, ∀ d : Nat, T d ↔ (¬ nI d = v1 ∧ ∃ a : Nat, a < 7 ∧ v1 = nI a ∧ f a d < 1000) :=
    ⟨fun d => ¬ nI d = v1 ∧ ∃ a : Nat, a < 7 ∧ v1 = nI a ∧ f a d < 1000, fun _ => Iff.rfl⟩
  unfold wpX_reachable
  dsimp only
  refine loop_0 (fun n i s => wX_reachable_4 (fun r => wpY_reachable (fun r' v' => r' = r ∧ i_Rel (k + 4) (P, L, O, D, H, B) v') (P, M, O, C, F) v1) v1 P L O D H B n s (nI i))
    (fun i s => s = ln_rb T i) 7 0 rfl (fun n s I => br_t ln_77 ?_) (fun n d s hd I Z => br_f (ln_n7 hd) ?_)
  · rw [I]
    unfold wpY_reachable
    dsimp only
    refine ln_ywork VY K E fun D2 A2 => ?_
    refine loop_0 (fun n i s => wY_reachable_8 (fun r' v' => r' = ln_rb T 7 ∧ i_Rel (k + 4) (P, L, O, D, H, B) v') v1 P M O D2 F n s (nI i))
      (fun i s => s = ln_rb T i) 7 0 rfl (fun n s I => br_t ln_77 ⟨I, J _ _ _ _⟩) (fun n d s hd I Z => br_f (ln_n7 hd) ?_)
    have no : ¬ T d → ∀ x : Int32, x = s ||| 0 → ∀ y : Int32, y = nI d + 1 → wY_reachable_8 (fun r' v' => r' = ln_rb T 7 ∧ i_Rel (k + 4) (P, L, O, D, H, B) v') v1 P M O D2 F n x y :=
      fun z => nm_e (nm_r (nI_1 d) (Z _ (by rw [ln_or0, I, ln_rb_f z])))
    by_cases e : nI d = v1
    · exact br_t e (no (fun z => ((Tp d).mp z).1 e))
    · refine br_f e ?_
      by_cases r : ln_R v1
      · obtain ⟨a, ha, ea⟩ := r
        rw [ea]
        refine ln_yhas A2 ha hd (E a d ha hd).1 (fun l => br_f ln_10 ?_) (fun l => br_t rfl ?_)
        · rw [← ea]
          exact nm_e (nm_r (nI_1 d) (Z _ (by rw [I, ln_rb_t ((Tp d).mpr ⟨e, a, ha, ea, l⟩)])))
        · rw [← ea]
          refine no (fun z => ?_)
          obtain ⟨_, a', ha', ea', l'⟩ := (Tp d).mp z
          have : a = a' := (nI_eq (by omega) (by omega)).mp (ea.symm.trans ea')
          subst this
          omega
      · exact ln_yhas_n (fun z => r z.1) (br_t rfl (no (fun z => ((Tp d).mp z).2.elim fun a' h' => r ⟨a', h'.1, h'.2.1⟩)))
  · have no : ¬ T d → s = ln_rb T (d + 1) := fun z => by rw [I, ln_rb_f z]
    by_cases e : nI d = v1
    · exact br_t e (nm_r (nI_1 d) (Z s (no (fun z => ((Tp d).mp z).1 e))))
    · refine br_f e ?_
      by_cases r : ln_R v1
      · obtain ⟨a, ha, ea⟩ := r
        subst ea
        refine ln_xroute A ha hd (E a d ha hd).1 (fun l => br_f ln_10 (nm_e (nm_r (nI_1 d) (Z _ ?_)))) (fun l => br_t rfl (nm_r (nI_1 d) (Z s (no (fun z => ?_)))))
        · rw [I, ln_rb_t ((Tp d).mpr ⟨e, a, ha, rfl, l⟩)]
        · obtain ⟨_, a', ha', ea', l'⟩ := (Tp d).mp z
          have : a = a' := (nI_eq (by omega) (by omega)).mp ea'
          subst this
          omega
      · exact ln_xroute_n (fun z => r z.1) (br_t rfl (nm_r (nI_1 d) (Z s (no (fun z => ((Tp d).mp z).2.elim fun a' h' => r ⟨a', h'.1, h'.2.1⟩)))))

/-- farthest -/
def ln_fm (a : Nat) (f : Nat → Nat → Nat) : Nat → Int32
  | 0 => -1
  | n + 1 => if f a n < 1000 then (if nI (f a n) ≤ ln_fm a f n then ln_fm a f n else nI (f a n)) else ln_fm a f n
theorem ln_fm_m (a : Nat) (f : Nat → Nat → Nat) : ∀ n : Nat, (-1 : Int32) ≤ ln_fm a f n := by
  intro n
  induction n with
  | zero => exact (by decide : (-1 : Int32) ≤ -1)
  | succ n ih =>
    rw [ln_fm]
    by_cases l : f a n < 1000
    · rw [if_pos l]
      by_cases c : nI (f a n) ≤ ln_fm a f n
      · rw [if_pos c]; exact ih
      · rw [if_neg c]; exact Int32.le_trans (by decide : (-1 : Int32) ≤ 0) (nI_pos' (by omega))
    · rw [if_neg l]; exact ih

theorem i_vc_farthest {k : Nat} {u : SX} {v : SY} (I : i_Rel k u v) (hk : k + 4 ≤ 2048) (v1 : Int32) : wpX_farthest (fun r => wpY_farthest (fun r' v' => r' = r ∧ i_Rel (k + 4) u v') v v1) u v1 := by
  obtain ⟨P, L, O, D, H, B, M, C, F, w, o, f, rfl, rfl, S, VX, VY, K, E, A, N, J⟩ := ln_get I
  unfold wpX_farthest
  dsimp only
  by_cases r : ln_R v1
  · obtain ⟨a, ha, rfl⟩ := r
    refine loop_0 (fun n i s => wX_farthest_4 (fun r => wpY_farthest (fun r' v' => r' = r ∧ i_Rel (k + 4) (P, L, O, D, H, B) v') (P, M, O, C, F) (nI a)) (nI a) P L O D H B n s (nI i))
      (fun i s => s = ln_fm a f i) 7 (-1) rfl (fun n s I => br_t ln_77 ?_) (fun n d s hd I Z => br_f (ln_n7 hd) ?_)
    · rw [I]
      unfold wpY_farthest
      dsimp only
      refine ln_ywork VY K E fun D2 A2 => ?_
      refine loop_0 (fun n i s => wY_farthest_8 (fun r' v' => r' = ln_fm a f 7 ∧ i_Rel (k + 4) (P, L, O, D, H, B) v') (nI a) P M O D2 F n s (nI i))
        (fun i s => s = ln_fm a f i) 7 (-1) rfl (fun n s I => br_t ln_77 ⟨I, J _ _ _ _⟩) (fun n d s hd I Z => br_f (ln_n7 hd) ?_)
      refine ln_yhas A2 ha hd (E a d ha hd).1 (fun l => br_f ln_10 ⟨ln_yin ha hd, ?_⟩) (fun l => br_t rfl (nm_r (nI_1 d) (Z s ?_)))
      · rw [ln_yi ha hd, A2 a d ha hd]
        by_cases c : nI (f a d) ≤ s
        · refine br_t c (nm_r (nI_1 d) (Z s ?_))
          rw [I] at c
          rw [ln_fm, if_pos l, if_pos c, I]
        · refine br_f c ⟨ln_yin ha hd, nm_e (nm_r (nI_1 d) (Z _ ?_))⟩
          rw [I] at c
          rw [ln_fm, if_pos l, if_neg c]
      · rw [ln_fm, if_neg (by omega), I]
    · unfold wpX_distance
      dsimp only
      refine ln_xroute A ha hd (E a d ha hd).1 (fun l => br_f ln_10 (ln_xplace ha hd fun t et it => ⟨it, ?_⟩)) (fun l => br_t rfl ?_)
      · rw [et, A a d ha hd]
        by_cases c : nI (f a d) ≤ s
        · refine br_t c (nm_r (nI_1 d) (Z s ?_))
          rw [I] at c
          rw [ln_fm, if_pos l, if_pos c, I]
        · refine br_f c (nm_r (nI_1 d) (Z _ ?_))
          rw [I] at c
          rw [ln_fm, if_pos l, if_neg c]
      · refine br_t (by rw [I]; exact ln_fm_m a f d) (nm_r (nI_1 d) (Z s ?_))
        rw [ln_fm, if_neg (by omega), I]
  · refine loop_0 (fun n i s => wX_farthest_4 (fun r => wpY_farthest (fun r' v' => r' = r ∧ i_Rel (k + 4) (P, L, O, D, H, B) v') (P, M, O, C, F) v1) v1 P L O D H B n s (nI i))
      (fun i s => s = -1) 7 (-1) rfl (fun n s I => br_t ln_77 ?_) (fun n d s hd I Z => br_f (ln_n7 hd) ?_)
    · rw [I]
      unfold wpY_farthest
      dsimp only
      refine ln_ywork VY K E fun D2 A2 => ?_
      refine loop_0 (fun n i s => wY_farthest_8 (fun r' v' => r' = -1 ∧ i_Rel (k + 4) (P, L, O, D, H, B) v') v1 P M O D2 F n s (nI i))
        (fun i s => s = -1) 7 (-1) rfl (fun n s I => br_t ln_77 ⟨I, J _ _ _ _⟩) (fun n d s hd I Z => br_f (ln_n7 hd) ?_)
      exact ln_yhas_n (fun z => r z.1) (br_t rfl (nm_r (nI_1 d) (Z s I)))
    · unfold wpX_distance
      dsimp only
      refine ln_xroute_n (fun z => r z.1) (br_t rfl (br_t ?_ (nm_r (nI_1 d) (Z s I))))
      rw [I]; decide
end
section
/-! part 11: impact -/

/-- the codes of all pairs: 0 where there is no route -/
def ln_CX (f n : Nat → Nat → Nat) (q : Nat → Nat → Nat → Nat) (s d : Nat) : Nat := if f s d < 1000 then ln_cx (q s d) (n s d) else 0
def ln_CY (f n : Nat → Nat → Nat) (q : Nat → Nat → Nat → Nat) (s d : Nat) : Nat := if f s d < 1000 then ln_cy (q s d) (n s d) else 0
/-- n and q are the routes of all pairs -/
def ln_RS (w f n : Nat → Nat → Nat) (q : Nat → Nat → Nat → Nat) : Prop :=
  ∀ s d : Nat, s < 7 → d < 7 → f s d < 1000 → ln_Rt w f s d (n s d) (q s d)

theorem ln_CX_b {w f n : Nat → Nat → Nat} {q : Nat → Nat → Nat → Nat} (R : ln_RS w f n q) {s d : Nat} (hs : s < 7) (hd : d < 7) : ln_CX f n q s d < 2 ^ 31 := by
  unfold ln_CX
  by_cases l : f s d < 1000
  · rw [if_pos l]
    have r := R s d hs hd l
    have a := (ln_cx_b (n s d) (fun k hk => (r.2.2.2.1 k hk).1)).2
    have b : 8 ^ (n s d + 1) ≤ 8 ^ 7 := Nat.pow_le_pow_right (by decide) (by have := r.1; omega)
    have c : 8 ^ 7 < 2 ^ 31 := by decide
    omega
  · rw [if_neg l]; decide
theorem ln_CY_b {w f n : Nat → Nat → Nat} {q : Nat → Nat → Nat → Nat} (R : ln_RS w f n q) {s d : Nat} (hs : s < 7) (hd : d < 7) : ln_CY f n q s d < 2 ^ 31 := by
  unfold ln_CY
  by_cases l : f s d < 1000
  · rw [if_pos l]
    have r := R s d hs hd l
    have a := (ln_cy_b (n s d) (fun k hk => (r.2.2.2.1 k hk).1)).2
    have b : 8 ^ (n s d + 1) ≤ 8 ^ 7 := Nat.pow_le_pow_right (by decide) (by have := r.1; omega)
    have c : 2 * 8 ^ 7 < 2 ^ 31 := by decide
    omega
  · rw [if_neg l]; decide

theorem ln_CC {w f n w' f' n' : Nat → Nat → Nat} {q q' : Nat → Nat → Nat → Nat} (R : ln_RS w f n q) (R' : ln_RS w' f' n' q') {s d : Nat} (hs : s < 7) (hd : d < 7) :
    ln_CX f' n' q' s d = ln_CX f n q s d ↔ ln_CY f' n' q' s d = ln_CY f n q s d := by
  unfold ln_CX ln_CY
  by_cases l : f s d < 1000
  · have r := R s d hs hd l
    have r7 : ∀ k : Nat, k ≤ n s d → q s d k < 7 := fun k hk => (r.2.2.2.1 k hk).1
    by_cases l' : f' s d < 1000
    · have r' := R' s d hs hd l'
      rw [if_pos l, if_pos l, if_pos l', if_pos l']
      exact ln_code _ _ (fun k hk => (r'.2.2.2.1 k hk).1) r7
    · have a := (ln_cx_b (n s d) r7).1
      have b := (ln_cy_b (n s d) r7).1
      rw [if_pos l, if_pos l, if_neg l', if_neg l']
      omega
  · by_cases l' : f' s d < 1000
    · have r' := R' s d hs hd l'
      have r7 : ∀ k : Nat, k ≤ n' s d → q' s d k < 7 := fun k hk => (r'.2.2.2.1 k hk).1
      have a := (ln_cx_b (n' s d) r7).1
      have b := (ln_cy_b (n' s d) r7).1
      rw [if_neg l, if_neg l, if_pos l', if_pos l']
      omega
    · rw [if_neg l, if_neg l, if_neg l', if_neg l']

theorem ln_xpk {P L O D H B : Nat → Int32} {w : Nat → Nat → Nat} {o : Nat → Prop} {f n : Nat → Nat → Nat} {q : Nat → Nat → Nat → Nat} {post : Int32 → Prop}
    (E : ln_Bel w o f) (A : ln_A D f) (N : ln_HH w f H) (R : ln_RS w f n q) {s d : Nat} (hs : s < 7) (hd : d < 7) (h : post (nI (ln_CX f n q s d))) :
    wpX_packedRoute post (P, L, O, D, H, B) (nI s) (nI d) := by
  unfold ln_CX at h
  by_cases l : f s d < 1000
  · rw [if_pos l] at h
    exact ln_xpacked E A N hs hd l (R s d hs hd l) h
  · rw [if_neg l] at h
    exact ln_xpacked_n A hs hd (by have := (E s d hs hd).1; omega) h
theorem ln_ypk {P M O D B : Nat → Int32} {w : Nat → Nat → Nat} {o : Nat → Prop} {f n : Nat → Nat → Nat} {q : Nat → Nat → Nat → Nat} {post : Int32 → Prop}
    (V : ln_VY w o P M O) (K : ln_Ok w o) (E : ln_Bel w o f) (A : ln_A D f) (R : ln_RS w f n q) {s d : Nat} (hs : s < 7) (hd : d < 7) (h : post (nI (ln_CY f n q s d))) :
    wpY_route post (P, M, O, D, B) (nI s) (nI d) := by
  unfold ln_CY at h
  by_cases l : f s d < 1000
  · rw [if_pos l] at h
    exact ln_yroute V K E A hs hd l (R s d hs hd l) h
  · rw [if_neg l] at h
    exact ln_yroute_n A hs hd (by have := (E s d hs hd).1; omega) h

theorem ln_xremember {P L O D H B : Nat → Int32} {w : Nat → Nat → Nat} {o : Nat → Prop} {f n : Nat → Nat → Nat} {q : Nat → Nat → Nat → Nat} {post : SX → Prop}
    (E : ln_Bel w o f) (A : ln_A D f) (N : ln_HH w f H) (R : ln_RS w f n q)
    (h : ∀ B' : Nat → Int32, ln_A B' (ln_CX f n q) → post (P, L, O, D, H, B')) : wpX_rememberRoutes post (P, L, O, D, H, B) := by
  unfold wpX_rememberRoutes
  dsimp only
  refine ln_dbl (fun m x s => wX_rememberRoutes_2 post m x P L O D H s)
    (fun m x m' y s => wX_rememberRoutes_10 post (wX_rememberRoutes_2 post m) x m' y P L O D H s)
    (fun c s => ln_Q (fun a b x => x = nI (ln_CX f n q a b)) c s)
    (fun m s I => br_t ln_77 (h s (ln_QA I)))
    (fun m i s hi I => br_f (ln_n7 hi) I)
    (fun m m' i s hi I => br_t ln_77 (nm_r (nI_1 i) I))
    (fun m m' i j s hi hj I k => br_f (ln_n7 hj) (ln_xplace hi hj fun r er ir => ln_xpk E A N R hi hj ⟨ir, ?_⟩)) B ln_Q0
  rw [er]
  exact nm_e (nm_r (nI_1 j) (k _ (ln_Qs hj I rfl)))

theorem ln_xchanged {P L O D H B : Nat → Int32} {w : Nat → Nat → Nat} {o : Nat → Prop} {f n g : Nat → Nat → Nat} {q : Nat → Nat → Nat → Nat} {post : Int32 → Prop}
    (E : ln_Bel w o f) (A : ln_A D f) (N : ln_HH w f H) (R : ln_RS w f n q) (G : ln_A B g) (gb : ∀ a b : Nat, a < 7 → b < 7 → g a b < 2 ^ 31)
    (h : post (nI (ln_ct (fun c => ¬ ln_CX f n q (c / 7) (c % 7) = g (c / 7) (c % 7)) 49))) : wpX_countChangedRoutes post (P, L, O, D, H, B) := by
  unfold wpX_countChangedRoutes
  dsimp only
  refine ln_dbl (fun m x s => wX_countChangedRoutes_4 post P L O D H B m s x)
    (fun m x m' y s => wX_countChangedRoutes_12 post (wX_countChangedRoutes_4 post P L O D H B m) x P L O D H B m' s y)
    (fun c s => s = nI (ln_ct (fun c => ¬ ln_CX f n q (c / 7) (c % 7) = g (c / 7) (c % 7)) c))
    (fun m s I => br_t ln_77 (by rw [I]; exact h))
    (fun m i s hi I => br_f (ln_n7 hi) I)
    (fun m m' i s hi I => br_t ln_77 (nm_r (nI_1 i) I))
    (fun m m' i j s hi hj I k => br_f (ln_n7 hj) (ln_xpk E A N R hi hj (ln_xplace hi hj fun r er ir => ⟨ir, ?_⟩))) 0 rfl
  rw [er, G i j hi hj]
  have d := ln_dm (i := i) hj
  by_cases z : ln_CX f n q i j = g i j
  · refine br_t (by rw [z]) (nm_r (nI_1 j) (k s ?_))
    rw [I, ln_ct_f (by show ¬ ¬ _; rw [d.1, d.2]; exact fun y => y z)]
  · refine br_f (fun y => z ((nI_eq (ln_CX_b R hi hj) (gb i j hi hj)).mp y)) (nm_e (nm_r (nI_1 j) (k _ ?_)))
    rw [I, nI_1, ln_ct_t (by show ¬ _; rw [d.1, d.2]; exact z)]

/-- the reference's impact; f, n, q before, f', n', q' with the link turned -/
theorem ln_yimpact {P L M O C F : Nat → Int32} {w w' : Nat → Nat → Nat} {o o' : Nat → Prop} {f n f' n' : Nat → Nat → Nat} {q q' : Nat → Nat → Nat → Nat}
    {post : Int32 → SY → Prop} (S : ln_S P L M) {a b : Nat} (ha : a < 7) (hb : b < 7) (z : ¬ P (7 * a + b) = 0) {up nu : Int32} (eu : M (7 * a + b) = up)
    (hu : (up = 0 ∧ nu = 1) ∨ (up = 1 ∧ nu = 0)) (S1 : ln_S P (ln_U L a b nu) (ln_U M a b nu))
    (V : ln_VY w o P M O) (K : ln_Ok w o) (E : ln_Bel w o f) (R : ln_RS w f n q)
    (V' : ln_VY w' o' P (ln_U M a b nu) O) (K' : ln_Ok w' o') (E' : ln_Bel w' o' f') (R' : ln_RS w' f' n' q')
    (h : ∀ C' F' : Nat → Int32, post (nI (ln_ct (fun c => ¬ ln_CY f' n' q' (c / 7) (c % 7) = ln_CY f n q (c / 7) (c % 7)) 49)) (P, ln_U (ln_U M a b nu) a b up, O, C', F')) :
    wpY_impact post (P, M, O, C, F) (nI a) (nI b) := by
  unfold wpY_impact
  dsimp only
  refine ln_ylk S ha hb (fun _ => br_f ln_10 (ln_ywork V K E fun D2 A2 => ?_)) (fun y => absurd y z)
  have bu : vp_nar .boolean up = up := by rcases hu with ⟨e, _⟩ | ⟨e, _⟩ <;> rw [e] <;> decide
  have bn : vp_nar .boolean nu = nu := by rcases hu with ⟨_, e⟩ | ⟨_, e⟩ <;> rw [e] <;> decide
  -- the second half: the routes are remembered in F1
  have half : ∀ F1 : Nat → Int32, ln_A F1 (ln_CY f n q) → wY_impact_71 post (nI a) (nI b) up nu (nI b) (nI a) P M O D2 F1 := by
    intro F1 G
    unfold wY_impact_71
    refine ln_ysetLink S ha hb bn z ?_
    refine ln_ywork V' K' E' fun D3 A3 => ?_
    refine loop_0 (fun m c s => wY_impact_85 post (nI a) (nI b) up P (ln_U M a b nu) O D3 F1 m s (nI c))
      (fun c s => s = nI (ln_ct (fun c => ¬ ln_CY f' n' q' (c / 7) (c % 7) = ln_CY f n q (c / 7) (c % 7)) c)) 49 0 rfl
      (fun m s I => br_t ln_4949 ?_) (fun m c s hc I Z => br_f (ln_n49 hc) ⟨ln_70, ln_70, ?_⟩)
    · refine ln_ysetLink S1 ha hb bu z ?_
      rw [I]
      exact h D3 F1
    · obtain ⟨i, j, hi, hj, rfl⟩ := ln_pair hc
      have d := ln_dm (i := i) hj
      rw [ln_rmp hi hj, ln_dvp hi hj]
      refine ln_ypk V' K' E' A3 R' hi hj ⟨ln_in hi hj, ?_⟩
      rw [ln_cl hi hj, G i j hi hj]
      by_cases y : ln_CY f' n' q' i j = ln_CY f n q i j
      · refine br_t (by rw [y]) (nm_e (nm_r (nI_1 _) (Z _ ?_)))
        rw [Int32.add_zero, I, ln_ct_f (by show ¬ ¬ _; rw [d.1, d.2]; exact fun x => x y)]
      · refine br_f (fun x => y ((nI_eq (ln_CY_b R' hi hj) (ln_CY_b R hi hj)).mp x)) (nm_e (nm_r (nI_1 _) (Z _ ?_)))
        rw [I, nI_1, ln_ct_t (by show ¬ _; rw [d.1, d.2]; exact y)]
  refine loop_0 (fun m c s => wY_impact_17 post (nI a) (nI b) m (nI c) P M O D2 s) (fun c s => ln_Q (fun a b x => x = nI (ln_CY f n q a b)) c s) 49 F ln_Q0
    (fun m s I => br_t ln_4949 ⟨ln_yin ha hb, ?_⟩) (fun m c s hc I Z => br_f (ln_n49 hc) ⟨ln_70, ln_70, ?_⟩)
  · rw [ln_yi ha hb, eu]
    refine nm_e ?_
    have g := half s (ln_QA I)
    rcases hu with ⟨e1, e2⟩ | ⟨e1, e2⟩
    · rw [e1, e2] at g
      rw [e1]
      exact br_t rfl g
    · rw [e1, e2] at g
      rw [e1]
      exact br_f ln_10 g
  · obtain ⟨i, j, hi, hj, rfl⟩ := ln_pair hc
    rw [ln_rmp hi hj, ln_dvp hi hj]
    refine ln_ypk V K E A2 R hi hj ⟨ln_in hi hj, ?_⟩
    rw [ln_cl hi hj]
    exact nm_e (nm_r (nI_1 _) (Z _ (ln_Qs hj I rfl)))

theorem i_vc_impact {k : Nat} {u : SX} {v : SY} (I : i_Rel k u v) (hk : k + 4 ≤ 2048) (v1 : Int32) (v2 : Int32) : wpX_impact (fun r u' => wpY_impact (fun r' v' => r' = r ∧ i_Rel (k + 4) u' v') v v1 v2) u v1 v2 := by
  obtain ⟨P, L, O, D, H, B, M, C, F, w, o, f, rfl, rfl, S, VX, VY, K, E, A, N, J⟩ := ln_get I
  unfold wpX_impact
  dsimp only
  by_cases r : ln_R v1 ∧ ln_R v2
  · obtain ⟨⟨a, ha, rfl⟩, ⟨b, hb, rfl⟩⟩ := r
    refine ln_xlink ha hb (fun z => br_f ln_10 ?_) (fun z => br_t rfl ?_)
    · obtain ⟨_, _, _, _, s5, s6⟩ := S a b ha hb
      obtain ⟨n, q, R⟩ := ln_rts E
      refine ln_xplace ha hb fun t et it => ⟨it, ?_⟩
      rw [et]
      refine nm_e (ln_xplace ha hb fun t et it => ⟨it, ?_⟩)
      rw [et]
      -- up: the mark as it stands; nu: the mark turned
      have go : ∀ up nu : Int32, L (7 * a + b) = up → ((up = 0 ∧ nu = 1) ∨ (up = 1 ∧ nu = 0)) → ∀ B1 : Nat → Int32, ln_A B1 (ln_CX f n q) →
          wX_impact_52 (fun r u' => wpY_impact (fun r' v' => r' = r ∧ i_Rel (k + 4) u' v') (P, M, O, C, F) (nI a) (nI b)) (nI a) (nI b) (P (7 * a + b)) up nu (P (7 * a + b)) (nI b) (nI a) P L O D H B1 := by
        intro up nu eL hu B1 G
        have hu2 : up = 0 ∨ up = 1 := hu.elim (fun x => Or.inl x.1) (fun x => Or.inr x.1)
        have hn2 : nu = 0 ∨ nu = 1 := hu.elim (fun x => Or.inr x.2) (fun x => Or.inl x.2)
        have bu : vp_nar .boolean up = up := by rcases hu2 with e | e <;> rw [e] <;> decide
        have bn : vp_nar .boolean nu = nu := by rcases hn2 with e | e <;> rw [e] <;> decide
        obtain ⟨id, S1⟩ := ln_S_set S ha hb z hn2
        obtain ⟨_, S2⟩ := ln_S_set S1 ha hb z hu2
        unfold wX_impact_52
        refine ln_xput ha hb bn ?_
        rw [id]
        refine ln_xfind (ln_S_X S1) (ln_S_O S1) fun D1 H1 f' E1 A1 N1 => ?_
        obtain ⟨n', q', R'⟩ := ln_rts E1
        refine ln_xchanged E1 A1 N1 R' G (fun i j hi hj => ln_CX_b R hi hj) ?_
        refine ln_xput ha hb bu ?_
        rw [id]
        refine ln_done S2 fun D3 H3 Q => ?_
        refine ln_yimpact S ha hb z ((s5 z).trans eL) hu S1 VY K E R (ln_S_Y S1) (ln_S_O S1) E1 R' fun C' F' => ⟨?_, Q _ _ _ _⟩
        refine congrArg nI (ln_ct_g 49 fun c hc => ?_)
        have cc := ln_CC R R' (s := c / 7) (d := c % 7) (by omega) (by omega)
        exact ⟨fun x y => x (cc.mp y), fun x y => x (cc.mpr y)⟩
      refine nm_e (ln_xremember E A N R fun B1 G => ?_)
      rcases s6 with e | e
      · have g := go 0 1 e (Or.inl ⟨rfl, rfl⟩) B1 G
        rw [e]
        exact br_t rfl g
      · have g := go 1 0 e (Or.inr ⟨rfl, rfl⟩) B1 G
        rw [e]
        exact br_f ln_10 g
    · unfold wpY_impact
      dsimp only
      exact ln_ylk S ha hb (fun y => absurd z y) (fun _ => br_t rfl ⟨rfl, J _ _ _ _⟩)
  · refine ln_xlink_n r (br_t rfl ?_)
    unfold wpY_impact
    dsimp only
    exact ln_ylink_n r (br_t rfl ⟨rfl, J _ _ _ _⟩)
end
