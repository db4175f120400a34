section
variable {n a c h : Nat} {K P Q Lf Rt St : Nat → Nat} {kk fp sp ll rr li ss : Nat → Int32}
/-- the best so far, and its size (9: none yet) -/
def am_X (R : Nat → Prop) (i : Nat) (b : Int32) (f : Nat) : Prop :=
  (b = -2 ∧ f = 9 ∧ ∀ p, p < i → ¬ R p) ∨ ∃ m, m < i ∧ b = nI m ∧ f = sz_n m 8 ∧ R m ∧ ∀ p, p < i → R p → sz_n m 8 < sz_n p 8 ∨ (sz_n m 8 = sz_n p 8 ∧ m ≤ p)
theorem am_Xp {R : Nat → Prop} {i f : Nat} {b : Int32} (h : am_X R i b f) : am_P R i b := by
  rcases h with ⟨e, _, h⟩ | ⟨m, hm, e, _, hr, h⟩
  · exact Or.inl ⟨e, h⟩
  · exact Or.inr ⟨m, hm, e, hr, h⟩
theorem am_X9 {R : Nat → Prop} {i f : Nat} {b : Int32} (h : am_X R i b f) : f ≤ 9 := by
  rcases h with ⟨_, e, _⟩ | ⟨m, _, _, e, _⟩
  · omega
  · have := sz_bd m 8
    omega
theorem am_X0 (R : Nat → Prop) : am_X R 0 (-2) 9 := Or.inl ⟨rfl, rfl, fun p hp => absurd hp (Nat.not_lt_zero p)⟩
theorem am_Xn {R : Nat → Prop} {i f : Nat} {b : Int32} (h : am_X R i b f) (x : ¬ R i) : am_X R (i + 1) b f := by
  rcases h with ⟨e, e1, h⟩ | ⟨m, hm, e, e1, hr, h⟩
  · refine Or.inl ⟨e, e1, fun p hp => ?_⟩
    by_cases z : p = i
    · rw [z]; exact x
    · exact h p (by omega)
  · refine Or.inr ⟨m, by omega, e, e1, hr, fun p hp hR => ?_⟩
    by_cases z : p = i
    · rw [z] at hR; exact absurd hR x
    · exact h p (by omega) hR
theorem am_Xs {R : Nat → Prop} {i f : Nat} {b : Int32} (h : am_X R i b f) (l : f ≤ sz_n i 8) : am_X R (i + 1) b f := by
  rcases h with ⟨e, e1, h⟩ | ⟨m, hm, e, e1, hr, h⟩
  · have := sz_bd i 8
    omega
  · refine Or.inr ⟨m, by omega, e, e1, hr, fun p hp hR => ?_⟩
    by_cases z : p = i
    · rw [z]
      by_cases y : sz_n m 8 = sz_n i 8
      · exact Or.inr ⟨y, by omega⟩
      · exact Or.inl (by omega)
    · exact h p (by omega) hR
theorem am_Xy {R : Nat → Prop} {i f : Nat} {b : Int32} (h : am_X R i b f) (l : sz_n i 8 < f) (x : R i) : am_X R (i + 1) (nI i) (sz_n i 8) := by
  refine Or.inr ⟨i, by omega, rfl, rfl, x, fun p hp hR => ?_⟩
  by_cases z : p = i
  · rw [z]; exact Or.inr ⟨rfl, Nat.le_refl _⟩
  · rcases h with ⟨_, _, h⟩ | ⟨m, _, _, e1, _, h⟩
    · exact absurd hR (h p (by omega))
    · have := h p (by omega) hR
      exact Or.inl (by omega)
theorem xw_classes {post : Int32 → SX → Prop} {v : Int32} {ld : Nat → Int32} (I : st_I n a c h K P Q Lf Rt St kk fp sp ll rr li ss)
    (H1 : ∀ ld' b, (b = true ∧ v = 0) ∨ (b = false ∧ v = 1) → post (bt_I (xf_s (mo_M n K P Q a Lf Rt c li h St) (fun w s => bt_O b (cl_N n K P Q a Lf Rt w) s) none (2 ^ a))) (nI n, nI a, nI c, nI h, kk, fp, sp, ll, rr, li, ss, ld'))
    (H0 : ¬ v = 0 → ¬ v = 1 → post (-1) (nI n, nI a, nI c, nI h, kk, fp, sp, ll, rr, li, ss, ld)) : wpX_classes post (nI n, nI a, nI c, nI h, kk, fp, sp, ll, rr, li, ss, ld) v := by
  unfold wpX_classes
  dsimp only
  refine br_c (fun e => ?_) (fun e => br_c (fun e1 => ?_) (fun e1 => H0 e e1))
  · exact xw_classes11 (b := true) I ⟨fun _ => rfl, fun _ => e⟩ (fun ld' => H1 ld' true (Or.inl ⟨rfl, e⟩))
  · exact xw_classes11 (b := false) I ⟨fun z => absurd z e, fun z => absurd z (by decide)⟩ (fun ld' => H1 ld' false (Or.inr ⟨rfl, e1⟩))
theorem xw_least {post : Int32 → SX → Prop} {v : Int32} {ld : Nat → Int32} (I : st_I n a c h K P Q Lf Rt St kk fp sp ll rr li ss)
    (H1 : ∀ ld' t L, t < n → v = nI t → cc_Ex n K P Q (cc_E a Lf Rt (as_n St 0 (2 ^ h - 1) h)) L → post (nI (L t)) (nI n, nI a, nI c, nI h, kk, fp, sp, ll, rr, li, ss, ld'))
    (H0 : (¬ ∃ t, t < n ∧ v = nI t) → post (-1) (nI n, nI a, nI c, nI h, kk, fp, sp, ll, rr, li, ss, ld)) : wpX_least post (nI n, nI a, nI c, nI h, kk, fp, sp, ll, rr, li, ss, ld) v := by
  have hn := st_n I
  have hh := st_h I
  have p8 := bi_p8 (st_a I)
  have p8' := bi_p8 hh
  have l0 := as_lt (o := 0) (p := 2 ^ h - 1) h (st_S2 I)
  unfold wpX_least
  dsimp only
  refine xw_isTerm hn (fun t ht et => ?_) (fun z => br_t rfl (H0 z))
  have e1 : (1 : Int32) <<< (nI h &&& 31) - 1 = nI (2 ^ h - 1) := by
    rw [bi_shl1 (show h < 31 by omega)]
    exact pk_sub (b := 1) (Nat.two_pow_pos h)
  refine br_f (by decide) (nm_r e1 ?_)
  refine xw_atomsAt I (by omega) ?_
  refine xw_close I (by omega) (fun ld' L g1 g2 => ?_)
  dsimp only
  rw [et, nI_clamp (show t < 2 ^ 31 by omega), g1 t ht]
  exact ⟨pk_in t 16 (by omega), H1 ld' t L ht et g2⟩
theorem xw_why {post : Int32 → SX → Prop} {v1 v2 : Int32} {ld : Nat → Int32} (I : st_I n a c h K P Q Lf Rt St kk fp sp ll rr li ss)
    (H1 : ∀ ld' t u b, t < n → u < n → v1 = nI t → v2 = nI u → am_P (fun p => cc_F n K P Q a Lf Rt (as_n St 0 p h) t u) (2 ^ h) b → post b (nI n, nI a, nI c, nI h, kk, fp, sp, ll, rr, li, ss, ld'))
    (H0 : ¬ ((∃ t, t < n ∧ v1 = nI t) ∧ (∃ u, u < n ∧ v2 = nI u)) → post (-1) (nI n, nI a, nI c, nI h, kk, fp, sp, ll, rr, li, ss, ld)) : wpX_why post (nI n, nI a, nI c, nI h, kk, fp, sp, ll, rr, li, ss, ld) v1 v2 := by
  have hn := st_n I
  have hh := st_h I
  have p8 := bi_p8 (st_a I)
  have p8' := bi_p8 hh
  unfold wpX_why
  dsimp only
  refine xw_isTerm hn (fun t ht et => ?_) (fun z => br_t rfl (H0 (fun y => z y.1)))
  refine br_f (by decide) ?_
  refine xw_isTerm hn (fun u hu eu => ?_) (fun z => br_t rfl (H0 (fun y => z y.2)))
  refine br_f (by decide) (nm_r (bi_shl1 (show h < 31 by omega)) ?_)
  have H1 := fun ld' b => H1 ld' t u b ht hu et eu
  rw [et, eu]
  refine loop_0 (σ := Int32 × Int32 × (Nat → Int32)) (fun m i z => wX_why_36 post (nI t) (nI u) (nI (2 ^ h)) m z.1 z.2.1 (nI i) (nI n) (nI a) (nI c) (nI h) kk fp sp ll rr li ss z.2.2) (fun i z => ∃ f, z.2.1 = nI f ∧ am_X (fun p => cc_F n K P Q a Lf Rt (as_n St 0 p h) t u) i z.1 f) (2 ^ h) (-2, 9, ld) ⟨9, rfl, am_X0 _⟩ ?_ ?_
  · intro m z G
    obtain ⟨x, y, ld'⟩ := z
    obtain ⟨f, _, G⟩ := G
    exact pk_le (2 ^ h) (2 ^ h) (fun _ => H1 ld' x (am_Xp G)) (fun z => absurd z (by omega))
  · intro m i z hi G ih
    obtain ⟨x, y, ld'⟩ := z
    obtain ⟨f, e, G⟩ := G
    have e : y = nI f := e
    have G : am_X (fun p => cc_F n K P Q a Lf Rt (as_n St 0 p h) t u) i x f := G
    have f9 := am_X9 G
    have s8 := sz_bd i 8
    have l0 := as_lt (o := 0) (p := i) h (st_S2 I)
    refine pk_le (2 ^ h) i (fun z => absurd z (by omega)) (fun _ => ?_)
    refine xw_size (by omega) ?_
    refine pk_le f (sz_n i 8) (fun l => nm_r (nI_1 i) (ih (x, y, ld') ⟨f, e, am_Xs G l⟩)) (fun l => ?_) e
    refine xw_atomsAt I (by omega) ?_
    refine xw_close I (by omega) (fun ld2 L g1 g2 => ?_)
    dsimp only
    rw [nI_clamp (show t < 2 ^ 31 by omega), nI_clamp (show u < 2 ^ 31 by omega), g1 t ht, g1 u hu]
    refine ⟨pk_in t 16 (by omega), pk_in u 16 (by omega), ?_⟩
    exact ek_if (ex_iff g2 ht hu hn) (fun r => nm_r (nI_1 i) (ih (nI i, nI (sz_n i 8), ld2) ⟨_, rfl, am_Xy G l r⟩)) (fun r => nm_r (nI_1 i) (ih (x, y, ld2) ⟨f, e, am_Xn G r⟩))
theorem xw_blame {post : Int32 → SX → Prop} {ld : Nat → Int32} (I : st_I n a c h K P Q Lf Rt St kk fp sp ll rr li ss)
    (H : ∀ ld' b, am_P (fun p => ¬ mo_B n K P Q a Lf Rt h St p) (2 ^ h) b → post b (nI n, nI a, nI c, nI h, kk, fp, sp, ll, rr, li, ss, ld')) : wpX_blame post (nI n, nI a, nI c, nI h, kk, fp, sp, ll, rr, li, ss, ld) := by
  have hh := st_h I
  have p8' := bi_p8 hh
  unfold wpX_blame
  dsimp only
  refine nm_r (bi_shl1 (show h < 31 by omega)) ?_
  refine loop_0 (σ := Int32 × Int32 × (Nat → Int32)) (fun m i z => wX_blame_16 post (nI (2 ^ h)) m z.1 z.2.1 (nI i) (nI n) (nI a) (nI c) (nI h) kk fp sp ll rr li ss z.2.2) (fun i z => ∃ f, z.2.1 = nI f ∧ am_X (fun p => ¬ mo_B n K P Q a Lf Rt h St p) i z.1 f) (2 ^ h) (-2, 9, ld) ⟨9, rfl, am_X0 _⟩ ?_ ?_
  · intro m z G
    obtain ⟨x, y, ld'⟩ := z
    obtain ⟨f, _, G⟩ := G
    exact pk_le (2 ^ h) (2 ^ h) (fun _ => H ld' x (am_Xp G)) (fun z => absurd z (by omega))
  · intro m i z hi G ih
    obtain ⟨x, y, ld'⟩ := z
    obtain ⟨f, e, G⟩ := G
    have e : y = nI f := e
    have G : am_X (fun p => ¬ mo_B n K P Q a Lf Rt h St p) i x f := G
    have f9 := am_X9 G
    have s8 := sz_bd i 8
    refine pk_le (2 ^ h) i (fun z => absurd z (by omega)) (fun _ => ?_)
    refine xw_size (by omega) ?_
    refine pk_le f (sz_n i 8) (fun l => nm_r (nI_1 i) (ih (x, y, ld') ⟨f, e, am_Xs G l⟩)) (fun l => ?_) e
    refine xw_clash I (by omega) (fun ld2 r => ?_) (fun ld2 r => ?_)
    · exact br_f (by decide) (nm_r (nI_1 i) (ih (nI i, nI (sz_n i 8), ld2) ⟨_, rfl, am_Xy G l r⟩))
    · exact br_t rfl (nm_r (nI_1 i) (ih (x, y, ld2) ⟨f, e, am_Xn G (fun z => z r)⟩))
end
