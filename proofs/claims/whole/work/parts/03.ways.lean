section
/-- how many below i have P -/
noncomputable def pc_n (P : Nat → Prop) : Nat → Nat
  | 0 => 0
  | i + 1 => @ite Nat (P i) (Classical.propDecidable (P i)) (pc_n P i + 1) (pc_n P i)
theorem pc_t {P : Nat → Prop} {i : Nat} (h : P i) : pc_n P (i + 1) = pc_n P i + 1 := by
  show @ite Nat (P i) (Classical.propDecidable (P i)) (pc_n P i + 1) (pc_n P i) = _
  exact if_pos h
theorem pc_f {P : Nat → Prop} {i : Nat} (h : ¬ P i) : pc_n P (i + 1) = pc_n P i := by
  show @ite Nat (P i) (Classical.propDecidable (P i)) (pc_n P i + 1) (pc_n P i) = _
  exact if_neg h
theorem pc_s (P : Nat → Prop) (i : Nat) : pc_n P i ≤ pc_n P (i + 1) ∧ pc_n P (i + 1) ≤ pc_n P i + 1 := by
  by_cases h : P i
  · rw [pc_t h]; omega
  · rw [pc_f h]; omega
theorem pc_le (P : Nat → Prop) (i : Nat) : pc_n P i ≤ i := by
  induction i with
  | zero => exact Nat.le_refl _
  | succ i ih => have := (pc_s P i).2; omega
theorem pc_mono (P : Nat → Prop) {i j : Nat} (h : i ≤ j) : pc_n P i ≤ pc_n P j := by
  induction j with
  | zero => have e : i = 0 := by omega
            rw [e]; exact Nat.le_refl _
  | succ j ih =>
    by_cases e : i = j + 1
    · rw [e]; exact Nat.le_refl _
    · have := ih (by omega)
      have := (pc_s P j).1
      omega
theorem pc_ex (P : Nat → Prop) {k : Nat} (N : Nat) (h : k < pc_n P N) : ∃ w, w < N ∧ P w ∧ pc_n P w = k := by
  induction N with
  | zero => exact absurd h (Nat.not_lt_zero k)
  | succ N ih =>
    by_cases x : P N
    · rw [pc_t x] at h
      by_cases e : pc_n P N = k
      · exact ⟨N, by omega, x, e⟩
      · obtain ⟨w, hw, h1, h2⟩ := ih (by omega)
        exact ⟨w, by omega, h1, h2⟩
    · rw [pc_f x] at h
      obtain ⟨w, hw, h1, h2⟩ := ih h
      exact ⟨w, by omega, h1, h2⟩
theorem pc_inj (P : Nat → Prop) {w w' : Nat} (h : P w) (h' : P w') (e : pc_n P w = pc_n P w') : w = w' := by
  rcases Nat.lt_trichotomy w w' with x | x | x
  · have := pc_mono P (show w + 1 ≤ w' from x)
    rw [pc_t h] at this; omega
  · exact x
  · have := pc_mono P (show w' + 1 ≤ w from x)
    rw [pc_t h'] at this; omega
/-- a walk over those that have P -/
noncomputable def xf_s {σ : Type} (P : Nat → Prop) (g : Nat → σ → σ) (s : σ) : Nat → σ
  | 0 => s
  | i + 1 => @ite σ (P i) (Classical.propDecidable (P i)) (g i (xf_s P g s i)) (xf_s P g s i)
theorem xf_t {σ : Type} {P : Nat → Prop} {g : Nat → σ → σ} {s : σ} {i : Nat} (h : P i) : xf_s P g s (i + 1) = g i (xf_s P g s i) := by
  show @ite σ (P i) (Classical.propDecidable (P i)) (g i (xf_s P g s i)) (xf_s P g s i) = _
  exact if_pos h
theorem xf_f {σ : Type} {P : Nat → Prop} {g : Nat → σ → σ} {s : σ} {i : Nat} (h : ¬ P i) : xf_s P g s (i + 1) = xf_s P g s i := by
  show @ite σ (P i) (Classical.propDecidable (P i)) (g i (xf_s P g s i)) (xf_s P g s i) = _
  exact if_neg h
theorem xf_up {σ : Type} (P : Nat → Prop) (g : Nat → σ → σ) (s : σ) {w : Nat} (w' : Nat) (hw : w ≤ w') (e : pc_n P w' = pc_n P w) : xf_s P g s w' = xf_s P g s w := by
  induction w' with
  | zero => have e : w = 0 := by omega
            rw [e]
  | succ j ih =>
    by_cases x : w = j + 1
    · rw [x]
    · have m := pc_mono P (show w ≤ j by omega)
      by_cases y : P j
      · rw [pc_t y] at e; omega
      · rw [pc_f y] at e
        rw [xf_f y]; exact ih (by omega) e
theorem xf_eq {σ : Type} (P : Nat → Prop) (g : Nat → σ → σ) (s : σ) {w w' : Nat} (e : pc_n P w = pc_n P w') : xf_s P g s w = xf_s P g s w' := by
  rcases Nat.le_total w w' with h | h
  · exact (xf_up P g s w' h e.symm).symm
  · exact xf_up P g s w h e
/-- the bits of a number may be chosen -/
theorem bs_ex (f : Nat → Prop) (N : Nat) : ∃ q, q < 2 ^ N ∧ ∀ k, k < N → (q.testBit k = true ↔ f k) := by
  induction N with
  | zero => exact ⟨0, by decide, fun k hk => absurd hk (Nat.not_lt_zero k)⟩
  | succ N ih =>
    obtain ⟨q, hq, hb⟩ := ih
    have p2 : 2 ^ (N + 1) = 2 ^ N + 2 ^ N := by rw [Nat.pow_succ]; omega
    by_cases x : f N
    · refine ⟨2 ^ N + q, by omega, fun k hk => ?_⟩
      by_cases e : k = N
      · rw [e, Nat.testBit_two_pow_add_eq, Nat.testBit_lt_two_pow hq]
        exact ⟨fun _ => x, fun _ => rfl⟩
      · rw [Nat.testBit_two_pow_add_gt (show k < N by omega)]
        exact hb k (by omega)
    · refine ⟨q, by omega, fun k hk => ?_⟩
      by_cases e : k = N
      · rw [e, Nat.testBit_lt_two_pow hq]
        exact ⟨fun z => absurd z (by decide), fun z => absurd z x⟩
      · exact hb k (by omega)
theorem bs_eq {p q N : Nat} (hp : p < 2 ^ N) (hq : q < 2 ^ N) (h : ∀ k, k < N → (p.testBit k = true ↔ q.testBit k = true)) : p = q := by
  apply Nat.eq_of_testBit_eq
  intro i
  by_cases hi : i < N
  · exact Bool.eq_iff_iff.mpr (h i hi)
  · have b : 2 ^ N ≤ 2 ^ i := Nat.pow_le_pow_right (by decide) (by omega)
    rw [Nat.testBit_lt_two_pow (show p < 2 ^ i by omega), Nat.testBit_lt_two_pow (show q < 2 ^ i by omega)]
/-- how many places -/
def sz_n (p : Nat) : Nat → Nat
  | 0 => 0
  | k + 1 => sz_n p k + p / 2 ^ k % 2
theorem sz_bd (p k : Nat) : sz_n p k ≤ k := by
  induction k with
  | zero => exact Nat.le_refl _
  | succ k ih =>
    show sz_n p k + p / 2 ^ k % 2 ≤ k + 1
    have : p / 2 ^ k % 2 < 2 := Nat.mod_lt _ (by decide)
    omega
theorem sz_sub {p q : Nat} (k : Nat) (h : ∀ i, i < k → q.testBit i = true → p.testBit i = true) : sz_n q k ≤ sz_n p k := by
  induction k with
  | zero => exact Nat.le_refl _
  | succ k ih =>
    have ih := ih (fun i hi => h i (by omega))
    show sz_n q k + q / 2 ^ k % 2 ≤ sz_n p k + p / 2 ^ k % 2
    by_cases x : q.testBit k = true
    · rw [bi_b1 x, bi_b1 (h k (by omega) x)]; omega
    · rw [bi_b0 (bi_ft x)]; omega
theorem sz_lt {p q : Nat} (k : Nat) (h : ∀ i, i < k → q.testBit i = true → p.testBit i = true) (d : Nat) (hd : d < k) (hq : ¬ q.testBit d = true) (hp : p.testBit d = true) : sz_n q k < sz_n p k := by
  induction k with
  | zero => omega
  | succ k ih =>
    show sz_n q k + q / 2 ^ k % 2 < sz_n p k + p / 2 ^ k % 2
    by_cases e : d = k
    · rw [e] at hq hp
      have := sz_sub k (fun i hi => h i (by omega))
      rw [bi_b1 hp, bi_b0 (bi_ft hq)]; omega
    · have ih := ih (fun i hi => h i (by omega)) (by omega)
      by_cases x : q.testBit k = true
      · rw [bi_b1 x, bi_b1 (h k (by omega) x)]; omega
      · rw [bi_b0 (bi_ft x)]; omega
/-- the best of those below i that have R: fewest places, then the least number; -2 if there is none -/
def am_P (R : Nat → Prop) (i : Nat) (b : Int32) : Prop :=
  (b = -2 ∧ ∀ p, p < i → ¬ R p) ∨ ∃ m, m < i ∧ b = nI m ∧ R m ∧ ∀ p, p < i → R p → sz_n m 8 < sz_n p 8 ∨ (sz_n m 8 = sz_n p 8 ∧ m ≤ p)
theorem am_0 (R : Nat → Prop) : am_P R 0 (-2) := Or.inl ⟨rfl, fun p hp => absurd hp (Nat.not_lt_zero p)⟩
theorem am_n {R : Nat → Prop} {i : Nat} {b : Int32} (h : am_P R i b) (x : ¬ R i) : am_P R (i + 1) b := by
  rcases h with ⟨e, h⟩ | ⟨m, hm, e, hr, h⟩
  · refine Or.inl ⟨e, fun p hp => ?_⟩
    by_cases z : p = i
    · rw [z]; exact x
    · exact h p (by omega)
  · refine Or.inr ⟨m, by omega, e, hr, fun p hp hR => ?_⟩
    by_cases z : p = i
    · rw [z] at hR; exact absurd hR x
    · exact h p (by omega) hR
theorem am_first {R : Nat → Prop} {i : Nat} (h : ∀ p, p < i → ¬ R p) (x : R i) : am_P R (i + 1) (nI i) := by
  refine Or.inr ⟨i, by omega, rfl, x, fun p hp hR => ?_⟩
  by_cases z : p = i
  · rw [z]; exact Or.inr ⟨rfl, Nat.le_refl _⟩
  · exact absurd hR (h p (by omega))
theorem am_new {R : Nat → Prop} {i m : Nat} (h : ∀ p, p < i → R p → sz_n m 8 < sz_n p 8 ∨ (sz_n m 8 = sz_n p 8 ∧ m ≤ p)) (x : R i) (l : sz_n i 8 < sz_n m 8) : am_P R (i + 1) (nI i) := by
  refine Or.inr ⟨i, by omega, rfl, x, fun p hp hR => ?_⟩
  by_cases z : p = i
  · rw [z]; exact Or.inr ⟨rfl, Nat.le_refl _⟩
  · have := h p (by omega) hR
    exact Or.inl (by omega)
theorem am_old {R : Nat → Prop} {i m : Nat} (hm : m < i) (hr : R m) (h : ∀ p, p < i → R p → sz_n m 8 < sz_n p 8 ∨ (sz_n m 8 = sz_n p 8 ∧ m ≤ p)) (l : ¬ sz_n i 8 < sz_n m 8) : am_P R (i + 1) (nI m) := by
  refine Or.inr ⟨m, by omega, rfl, hr, fun p hp hR => ?_⟩
  by_cases z : p = i
  · rw [z]
    by_cases e : sz_n m 8 = sz_n i 8
    · exact Or.inr ⟨e, by omega⟩
    · exact Or.inl (by omega)
  · exact h p (by omega) hR
theorem am_u {R : Nat → Prop} {N : Nat} {b c : Int32} (h : am_P R N b) (h' : am_P R N c) : b = c := by
  rcases h with ⟨e, h⟩ | ⟨m, hm, e, hr, h⟩
  · rcases h' with ⟨e', h'⟩ | ⟨m', hm', e', hr', h'⟩
    · rw [e, e']
    · exact absurd hr' (h m' hm')
  · rcases h' with ⟨e', h'⟩ | ⟨m', hm', e', hr', h'⟩
    · exact absurd hr (h' m hm)
    · have x := h m' hm' hr'
      have y := h' m hm hr
      have z : m = m' := by omega
      rw [e, e', z]
theorem am_c {R R' : Nat → Prop} {N : Nat} {b : Int32} (hs : ∀ p, p < N → R' p → R p) (hc : ∀ p, p < N → R p → ∃ p', p' < N ∧ R' p' ∧ (sz_n p' 8 < sz_n p 8 ∨ p' = p)) (h : am_P R' N b) : am_P R N b := by
  rcases h with ⟨e, h⟩ | ⟨m, hm, e, hr, h⟩
  · refine Or.inl ⟨e, fun p hp hR => ?_⟩
    obtain ⟨p', hp', hr', _⟩ := hc p hp hR
    exact h p' hp' hr'
  · refine Or.inr ⟨m, hm, e, hs m hm hr, fun p hp hR => ?_⟩
    obtain ⟨p', hp', hr', x⟩ := hc p hp hR
    have y := h p' hp' hr'
    rcases x with x | x
    · exact Or.inl (by omega)
    · rw [x] at y; exact y
/-- the atoms whose literals at the places are of the kind o: 0 asserted, 1 denied -/
def as_n (St : Nat → Nat) (o p : Nat) : Nat → Nat
  | 0 => 0
  | k + 1 => if p.testBit k = true ∧ St k % 2 = o then as_n St o p k ||| 2 ^ (St k / 2) else as_n St o p k
theorem as_t {St : Nat → Nat} {o p k : Nat} (h : p.testBit k = true) (h' : St k % 2 = o) : as_n St o p (k + 1) = as_n St o p k ||| 2 ^ (St k / 2) := by
  show (if p.testBit k = true ∧ St k % 2 = o then as_n St o p k ||| 2 ^ (St k / 2) else as_n St o p k) = _
  exact if_pos ⟨h, h'⟩
theorem as_f {St : Nat → Nat} {o p k : Nat} (h : ¬ (p.testBit k = true ∧ St k % 2 = o)) : as_n St o p (k + 1) = as_n St o p k := by
  show (if p.testBit k = true ∧ St k % 2 = o then as_n St o p k ||| 2 ^ (St k / 2) else as_n St o p k) = _
  exact if_neg h
theorem as_lt {St : Nat → Nat} {o p a : Nat} (k : Nat) (h : ∀ j, j < k → St j < 2 * a) : as_n St o p k < 2 ^ a := by
  induction k with
  | zero => exact Nat.two_pow_pos a
  | succ k ih =>
    have ih := ih (fun j hj => h j (by omega))
    by_cases x : p.testBit k = true ∧ St k % 2 = o
    · rw [as_t x.1 x.2]
      have := h k (by omega)
      exact Nat.or_lt_two_pow ih (Nat.pow_lt_pow_right (by decide) (by omega))
    · rw [as_f x]; exact ih
theorem as_bit {St : Nat → Nat} {o p : Nat} (k i : Nat) : (as_n St o p k).testBit i = true ↔ ∃ j, j < k ∧ p.testBit j = true ∧ St j % 2 = o ∧ St j / 2 = i := by
  induction k with
  | zero =>
    constructor
    · intro h
      have h' : (0 : Nat).testBit i = true := h
      rw [Nat.zero_testBit] at h'
      exact absurd h' (by decide)
    · intro h
      obtain ⟨j, hj, _⟩ := h
      exact absurd hj (Nat.not_lt_zero j)
  | succ k ih =>
    by_cases x : p.testBit k = true ∧ St k % 2 = o
    · rw [as_t x.1 x.2, Nat.testBit_or, Bool.or_eq_true, ih, Nat.testBit_two_pow, decide_eq_true_eq]
      constructor
      · intro h
        rcases h with ⟨j, hj, h1⟩ | h
        · exact ⟨j, by omega, h1⟩
        · exact ⟨k, by omega, x.1, x.2, h⟩
      · intro h
        obtain ⟨j, hj, h1, h2, h3⟩ := h
        by_cases e : j = k
        · rw [e] at h3; exact Or.inr h3
        · exact Or.inl ⟨j, by omega, h1, h2, h3⟩
    · rw [as_f x, ih]
      constructor
      · intro h
        obtain ⟨j, hj, h1⟩ := h
        exact ⟨j, by omega, h1⟩
      · intro h
        obtain ⟨j, hj, h1, h2, h3⟩ := h
        by_cases e : j = k
        · rw [e] at h1 h2; exact absurd ⟨h1, h2⟩ x
        · exact ⟨j, by omega, h1, h2, h3⟩
theorem as_cg {St : Nat → Nat} {o p q : Nat} (k : Nat) (h : ∀ j, j < k → St j % 2 = o → (p.testBit j = true ↔ q.testBit j = true)) : as_n St o p k = as_n St o q k := by
  induction k with
  | zero => rfl
  | succ k ih =>
    have ih := ih (fun j hj => h j (by omega))
    have hk := h k (by omega)
    by_cases y : St k % 2 = o
    · by_cases x : p.testBit k = true
      · rw [as_t x y, as_t ((hk y).mp x) y, ih]
      · rw [as_f (fun z => x z.1), as_f (fun z => x ((hk y).mpr z.1)), ih]
    · rw [as_f (fun z => y z.2), as_f (fun z => y z.2), ih]
end
