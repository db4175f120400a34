section
variable {n a c h : Nat} {K P Q Lf Rt St : Nat → Nat} {kk fp sp ll rr li ss : Nat → Int32}
variable {fm kn cs : Int32} {ob po mo cl : Nat → Int32}
theorem yw_atomsAt {post : Int32 → Prop} {p : Nat} (I : st_I n a c h K P Q Lf Rt St kk fp sp ll rr li ss) (hp : p < 2 ^ 31) (H : post (nI (as_n St 0 p h))) : wpY_atomsAt post (nI n, nI a, nI c, nI h, fm, kn, cs, kk, fp, sp, ll, rr, li, ss, ob, po, mo, cl) (nI p) := by
  have hh := st_h I
  have ha := st_a I
  refine loop_0 (σ := Int32) (fun m i z => wY_atomsAt_4 post (nI p) (nI n) (nI a) (nI c) (nI h) fm kn cs kk fp sp ll rr li ss ob po mo cl m z (nI i)) (fun i z => z = nI (as_n St 0 p i)) h 0 rfl ?_ ?_
  · intro m z G
    exact pk_le h h (fun _ => by rw [G]; exact H) (fun z => absurd z (by omega))
  · intro m i z hi G ih
    have s2 := st_S2 I i hi
    refine pk_le h i (fun z => absurd z (by omega)) (fun _ => ?_)
    rw [bi_bit hp (show i < 32 by omega)]
    by_cases x : p.testBit i = true
    · refine br_t (by rw [bi_b1 x]; rfl) (And.intro (pk_in i 8 (by omega)) (And.intro (by decide) ?_))
      rw [nI_clamp (show i < 2 ^ 31 by omega), st_S I i hi, bi_r2 (show St i < 2 ^ 31 by omega), bi_d2 (show St i < 2 ^ 31 by omega)]
      have b : St i % 2 < 2 := Nat.mod_lt _ (by decide)
      refine pk_eq (St i % 2) 0 (fun e => And.intro (pk_in i 8 (by omega)) (And.intro (by decide) ?_)) (fun e => nm_r (nI_1 i) (ih z ?_))
      · refine nm_e (nm_r (nI_1 i) (ih _ ?_))
        rw [G, bi_shl1 (show St i / 2 < 31 by omega), bi_or, as_t x e]
      · rw [G, as_f (fun y => e y.2)]
    · refine br_f (by rw [bi_b0 (bi_ft x)]; decide) (nm_r (nI_1 i) (ih z ?_))
      rw [G, as_f (fun y => x y.1)]
theorem yw_isAtoms {post : Int32 → Prop} {p : Nat} (I : st_I n a c h K P Q Lf Rt St kk fp sp ll rr li ss) (hp : p < 2 ^ 31) (h1 : wh_A h St p → post 1) (h0 : ¬ wh_A h St p → post 0) : wpY_isAtoms post (nI n, nI a, nI c, nI h, fm, kn, cs, kk, fp, sp, ll, rr, li, ss, ob, po, mo, cl) (nI p) := by
  have hh := st_h I
  have ha := st_a I
  refine loop_0 (σ := Unit) (fun m i _ => wY_isAtoms_2 post (nI p) (nI n) (nI a) (nI c) (nI h) fm kn cs kk fp sp ll rr li ss ob po mo cl m (nI i)) (fun i _ => ∀ k, k < i → p.testBit k = true → St k % 2 = 0) h () (fun k hk => absurd hk (Nat.not_lt_zero k)) ?_ ?_
  · intro m _ G
    exact pk_le h h (fun _ => h1 G) (fun z => absurd z (by omega))
  · intro m i _ hi G ih
    have s2 := st_S2 I i hi
    refine pk_le h i (fun z => absurd z (by omega)) (fun _ => ?_)
    rw [bi_bit hp (show i < 32 by omega)]
    by_cases x : p.testBit i = true
    · refine br_t (by rw [bi_b1 x]; rfl) (And.intro (pk_in i 8 (by omega)) (And.intro (by decide) ?_))
      rw [nI_clamp (show i < 2 ^ 31 by omega), st_S I i hi, bi_r2 (show St i < 2 ^ 31 by omega)]
      have b : St i % 2 < 2 := Nat.mod_lt _ (by decide)
      refine pk_eq (St i % 2) 1 (fun e => h0 (fun z => ?_)) (fun e => nm_r (nI_1 i) (ih () (fun k hk hb => ?_)))
      · have := z i hi x
        omega
      · by_cases ek : k = i
        · rw [ek]; omega
        · exact G k (by omega) hb
    · refine br_f (by rw [bi_b0 (bi_ft x)]; decide) (nm_r (nI_1 i) (ih () (fun k hk hb => ?_)))
      by_cases ek : k = i
      · rw [ek] at hb; exact absurd hb x
      · exact G k (by omega) hb
theorem yw_poss {post : Int32 → Prop} {p : Nat} (I : st_I n a c h K P Q Lf Rt St kk fp sp ll rr li ss) (hc : cl_C n K P Q a Lf Rt po cl) (hp : p < 2 ^ 31) (h1 : mo_B n K P Q a Lf Rt h St p → post 1) (h0 : ¬ mo_B n K P Q a Lf Rt h St p → post 0) :
    wpY_isPossible post (nI n, nI a, nI c, nI h, fm, kn, cs, kk, fp, sp, ll, rr, li, ss, ob, po, mo, cl) (nI p) := by
  have hh := st_h I
  have ha := st_a I
  have p8 := bi_p8 ha
  refine loop_0 (σ := Unit) (fun m i _ => wY_isPossible_2 post (nI p) (nI n) (nI a) (nI c) (nI h) fm kn cs kk fp sp ll rr li ss ob po mo cl m (nI i)) (fun i _ => ∀ w, w < i → ¬ (mo_P n K P Q a Lf Rt w ∧ ∀ k, k < h → p.testBit k = true → mo_h w (St k))) (2 ^ a) () (fun k hk => absurd hk (Nat.not_lt_zero k)) ?_ ?_
  · intro m _ G
    refine pk_le (2 ^ a) (2 ^ a) (fun _ => h0 (fun z => ?_)) (fun z => absurd z (by omega)) (bi_shl1 (show a < 31 by omega))
    obtain ⟨w, hw, z⟩ := z
    exact G w hw z
  · intro m w _ hw G ih
    refine pk_le (2 ^ a) w (fun z => absurd z (by omega)) (fun _ => And.intro (pk_in w 256 (by omega)) ?_) (bi_shl1 (show a < 31 by omega))
    rw [nI_clamp (show w < 2 ^ 31 by omega)]
    refine nm_e ?_
    obtain ⟨k1, k2, _⟩ := hc w hw
    have next : ¬ (mo_P n K P Q a Lf Rt w ∧ ∀ k, k < h → p.testBit k = true → mo_h w (St k)) → wY_isPossible_2 post (nI p) (nI n) (nI a) (nI c) (nI h) fm kn cs kk fp sp ll rr li ss ob po mo cl m (nI (w + 1)) := by
      intro nb
      refine ih () (fun v hv => ?_)
      by_cases ev : v = w
      · rw [ev]; exact nb
      · exact G v (by omega)
    refine loop_0 (σ := Int32) (fun m' i z => wY_isPossible_22 post (wY_isPossible_2 post (nI p) (nI n) (nI a) (nI c) (nI h) fm kn cs kk fp sp ll rr li ss ob po mo cl m) (nI p) (nI w) (nI n) (nI a) (nI c) (nI h) fm kn cs kk fp sp ll rr li ss ob po mo cl m' z (nI i))
      (fun i z => (z = 1 ∧ mo_P n K P Q a Lf Rt w ∧ ∀ k, k < i → p.testBit k = true → mo_h w (St k)) ∨ (z = 0 ∧ ¬ (mo_P n K P Q a Lf Rt w ∧ ∀ k, k < h → p.testBit k = true → mo_h w (St k)))) h (po w) ?_ ?_ ?_
    · by_cases z : mo_P n K P Q a Lf Rt w
      · exact Or.inl ⟨k1 z, z, fun k hk => absurd hk (Nat.not_lt_zero k)⟩
      · exact Or.inr ⟨k2 z, fun y => z y.1⟩
    · intro m' z G'
      refine pk_le h h (fun _ => ?_) (fun z => absurd z (by omega))
      rcases G' with ⟨e, g⟩ | ⟨e, g⟩
      · exact br_f (by rw [e]; decide) (h1 ⟨w, hw, g⟩)
      · exact br_t e (nm_r (nI_1 w) (next g))
    · intro m' i z hi G' ih'
      have s2 := st_S2 I i hi
      refine pk_le h i (fun z => absurd z (by omega)) (fun _ => ?_)
      rcases G' with ⟨e, g1, g2⟩ | ⟨e, g⟩
      · refine br_f (by rw [e]; decide) ?_
        rw [bi_bit hp (show i < 32 by omega)]
        by_cases x : p.testBit i = true
        · refine br_f (by rw [bi_b1 x]; decide) (And.intro (pk_in i 8 (by omega)) ?_)
          rw [nI_clamp (show i < 2 ^ 31 by omega), st_S I i hi]
          refine yw_holdsIn (by omega) (by omega) (fun q => br_f (by decide) (nm_r (nI_1 i) (ih' 1 (Or.inl ⟨rfl, g1, fun k hk hb => ?_⟩)))) (fun q => br_t rfl (nm_r (nI_1 i) (ih' 0 (Or.inr ⟨rfl, fun y => q (y.2 i hi x)⟩))))
          by_cases ek : k = i
          · rw [ek]; exact q
          · exact g2 k (by omega) hb
        · refine br_t (by rw [bi_b0 (bi_ft x)]; rfl) (nm_r (nI_1 i) (ih' 1 (Or.inl ⟨rfl, g1, fun k hk hb => ?_⟩)))
          by_cases ek : k = i
          · rw [ek] at hb; exact absurd hb x
          · exact g2 k (by omega) hb
      · exact br_t e (br_t e (nm_r (nI_1 w) (next g)))
theorem yw_least {post : Int32 → SY → Prop} {v : Int32} (I : st_I n a c h K P Q Lf Rt St kk fp sp ll rr li ss) (HC : cs = 0 ∨ (cs = 1 ∧ cl_C n K P Q a Lf Rt po cl))
    (H1 : ∀ ob' po' cl' t L, cl_C n K P Q a Lf Rt po' cl' → t < n → v = nI t → cc_Ex n K P Q (cc_E a Lf Rt (as_n St 0 (2 ^ h - 1) h)) L → post (nI (L t)) (nI n, nI a, nI c, nI h, fm, kn, 1, kk, fp, sp, ll, rr, li, ss, ob', po', mo, cl'))
    (H0 : (¬ ∃ t, t < n ∧ v = nI t) → post (-1) (nI n, nI a, nI c, nI h, fm, kn, cs, kk, fp, sp, ll, rr, li, ss, ob, po, mo, cl)) : wpY_least post (nI n, nI a, nI c, nI h, fm, kn, cs, kk, fp, sp, ll, rr, li, ss, ob, po, mo, cl) v := by
  have hn := st_n I
  have hh := st_h I
  have p8 := bi_p8 (st_a I)
  have l0 := as_lt (o := 0) (p := 2 ^ h - 1) h (st_S2 I)
  have e255 : as_n St 0 255 h = as_n St 0 (2 ^ h - 1) h := by
    refine as_cg h (fun j hj _ => ?_)
    rw [Nat.testBit_two_pow_sub_one, show (255 : Nat) = 2 ^ 8 - 1 from rfl, Nat.testBit_two_pow_sub_one, decide_eq_true_eq, decide_eq_true_eq]
    omega
  unfold wpY_least
  dsimp only
  refine yw_within (show n < 2 ^ 31 by omega) (fun t ht et => br_f (by decide) ?_) (fun z => br_t rfl (H0 z))
  refine yw_closeAll I HC (fun ob' po' cl' hc => ?_)
  refine yw_atomsAt (p := 255) I (by decide) ?_
  rw [e255]
  obtain ⟨_, _, L, X, k⟩ := hc _ l0
  have e : (16 * nI (as_n St 0 (2 ^ h - 1) h)) + nI t = nI (16 * as_n St 0 (2 ^ h - 1) h + t) := by
    rw [show (16 : Int32) * nI (as_n St 0 (2 ^ h - 1) h) = nI (16 * as_n St 0 (2 ^ h - 1) h) from pk_mul 16 _]
    exact nI_add _ t
  dsimp only
  rw [et, e, nI_clamp (show 16 * as_n St 0 (2 ^ h - 1) h + t < 2 ^ 31 by omega), k t ht]
  exact And.intro (pk_in (16 * as_n St 0 (2 ^ h - 1) h + t) 4096 (by omega)) (H1 ob' po' cl' t L hc ht et X)
theorem yw_why61 {post : Int32 → SY → Prop} {J : Int32 → Int32 → Prop} {t u i : Nat} {x3 : Int32} (I : st_I n a c h K P Q Lf Rt St kk fp sp ll rr li ss) (hc : cl_C n K P Q a Lf Rt po cl) (ht : t < n) (hu : u < n) (hi : i < 2 ^ 31)
    (Hy : (wh_A h St i ∧ cc_F n K P Q a Lf Rt (as_n St 0 i h) t u) → J (nI i) (nI (i + 1))) (Hn : ¬ (wh_A h St i ∧ cc_F n K P Q a Lf Rt (as_n St 0 i h) t u) → J x3 (nI (i + 1))) :
    wY_why_61 post J (nI t) (nI u) x3 (nI i) (nI n) (nI a) (nI c) (nI h) fm kn cs kk fp sp ll rr li ss ob po mo cl := by
  have l0 := as_lt (o := 0) (p := i) h (st_S2 I)
  unfold wY_why_61 wY_why_66
  refine br_f (by decide) ?_
  refine yw_isAtoms I hi (fun y => br_f (by decide) ?_) (fun y => br_t rfl (nm_r (nI_1 i) (Hn (fun z => y z.1))))
  refine yw_atomsAt I hi ?_
  exact yw_areOne I hc l0 ht hu (fun q => br_f (by decide) (nm_r (nI_1 i) (Hy ⟨y, q⟩))) (fun q => br_t rfl (nm_r (nI_1 i) (Hn (fun z => q z.2))))
theorem yw_why {post : Int32 → SY → Prop} {v1 v2 : Int32} (I : st_I n a c h K P Q Lf Rt St kk fp sp ll rr li ss) (HC : cs = 0 ∨ (cs = 1 ∧ cl_C n K P Q a Lf Rt po cl))
    (H1 : ∀ ob' po' cl' t u b, cl_C n K P Q a Lf Rt po' cl' → t < n → u < n → v1 = nI t → v2 = nI u → am_P (fun p => wh_A h St p ∧ cc_F n K P Q a Lf Rt (as_n St 0 p h) t u) (2 ^ h) b → post b (nI n, nI a, nI c, nI h, fm, kn, 1, kk, fp, sp, ll, rr, li, ss, ob', po', mo, cl'))
    (H0 : ¬ ((∃ t, t < n ∧ v1 = nI t) ∧ (∃ u, u < n ∧ v2 = nI u)) → post (-1) (nI n, nI a, nI c, nI h, fm, kn, cs, kk, fp, sp, ll, rr, li, ss, ob, po, mo, cl)) : wpY_why post (nI n, nI a, nI c, nI h, fm, kn, cs, kk, fp, sp, ll, rr, li, ss, ob, po, mo, cl) v1 v2 := by
  have hn := st_n I
  have hh := st_h I
  have p8' := bi_p8 hh
  unfold wpY_why
  dsimp only
  refine yw_within (show n < 2 ^ 31 by omega) (fun t ht et => br_f (by decide) ?_) (fun z => br_t rfl (H0 (fun y => z y.1)))
  refine yw_within (show n < 2 ^ 31 by omega) (fun u hu eu => br_f (by decide) ?_) (fun z => br_t rfl (H0 (fun y => z y.2)))
  refine yw_closeAll I HC (fun ob' po' cl' hc => ?_)
  dsimp only
  have H1 := fun b => H1 ob' po' cl' t u b hc ht hu et eu
  rw [et, eu]
  refine loop_0 (σ := Int32) (fun m i z => wY_why_34 post (nI t) (nI u) (nI n) (nI a) (nI c) (nI h) fm kn 1 kk fp sp ll rr li ss ob' po' mo cl' m z (nI i)) (fun i z => am_P (fun p => wh_A h St p ∧ cc_F n K P Q a Lf Rt (as_n St 0 p h) t u) i z) (2 ^ h) (-2) (am_0 _) ?_ ?_
  · intro m z G
    exact pk_le (2 ^ h) (2 ^ h) (fun _ => H1 z G) (fun z => absurd z (by omega)) (bi_shl1 (show h < 31 by omega))
  · intro m i z hi G ih
    refine pk_le (2 ^ h) i (fun z => absurd z (by omega)) (fun _ => ?_) (bi_shl1 (show h < 31 by omega))
    have G0 := G
    rcases G with ⟨e, g⟩ | ⟨k, hk, e, hr, g⟩
    · refine br_t (by rw [e]; decide) ?_
      exact yw_why61 I hc ht hu (by omega) (fun r => ih _ (am_first g r)) (fun r => ih _ (am_n G0 r))
    · rw [e]
      rw [e] at G0
      have s1 := sz_bd i 8
      have s2 := sz_bd k 8
      refine br_f (bi_nn (by omega)) ?_
      refine yw_size (by omega) ?_
      refine yw_size (by omega) ?_
      refine pk_le (sz_n k 8) (sz_n i 8) (fun l => ?_) (fun l => ?_)
      · unfold wY_why_66
        exact br_t rfl (nm_r (nI_1 i) (ih _ (am_old hk hr g (by omega))))
      · exact yw_why61 I hc ht hu (by omega) (fun r => ih _ (am_new g r l)) (fun r => ih _ (am_n G0 r))
theorem yw_blame34 {post : Int32 → SY → Prop} {J : Int32 → Int32 → Prop} {i : Nat} {x1 : Int32} (I : st_I n a c h K P Q Lf Rt St kk fp sp ll rr li ss) (hc : cl_C n K P Q a Lf Rt po cl) (hi : i < 2 ^ 31)
    (Hy : ¬ mo_B n K P Q a Lf Rt h St i → J (nI i) (nI (i + 1))) (Hn : mo_B n K P Q a Lf Rt h St i → J x1 (nI (i + 1))) :
    wY_blame_34 post J x1 (nI i) (nI n) (nI a) (nI c) (nI h) fm kn cs kk fp sp ll rr li ss ob po mo cl := by
  unfold wY_blame_34 wY_blame_39
  refine br_f (by decide) ?_
  exact yw_poss I hc hi (fun y => br_f (by decide) (nm_r (nI_1 i) (Hn y))) (fun y => br_t rfl (nm_r (nI_1 i) (Hy y)))
theorem yw_blame {post : Int32 → SY → Prop} (I : st_I n a c h K P Q Lf Rt St kk fp sp ll rr li ss) (HC : cs = 0 ∨ (cs = 1 ∧ cl_C n K P Q a Lf Rt po cl)) (HK : kn = 0 ∨ (kn = 1 ∧ kn_C (mo_M n K P Q a Lf Rt c li h St) (2 ^ a) fm mo))
    (H : ∀ fm' ob' po' mo' cl' b, cl_C n K P Q a Lf Rt po' cl' → kn_C (mo_M n K P Q a Lf Rt c li h St) (2 ^ a) fm' mo' → am_P (fun p => ¬ mo_B n K P Q a Lf Rt h St p) (2 ^ h) b → post b (nI n, nI a, nI c, nI h, fm', 1, 1, kk, fp, sp, ll, rr, li, ss, ob', po', mo', cl')) :
    wpY_blame post (nI n, nI a, nI c, nI h, fm, kn, cs, kk, fp, sp, ll, rr, li, ss, ob, po, mo, cl) := by
  have hh := st_h I
  have p8' := bi_p8 hh
  unfold wpY_blame
  dsimp only
  refine yw_learn I HC HK (fun fm' ob' po' mo' cl' hc hk => ?_)
  dsimp only
  have H := fun b => H fm' ob' po' mo' cl' b hc hk
  refine loop_0 (σ := Int32) (fun m i z => wY_blame_9 post (nI n) (nI a) (nI c) (nI h) fm' 1 1 kk fp sp ll rr li ss ob' po' mo' cl' m z (nI i)) (fun i z => am_P (fun p => ¬ mo_B n K P Q a Lf Rt h St p) i z) (2 ^ h) (-2) (am_0 _) ?_ ?_
  · intro m z G
    exact pk_le (2 ^ h) (2 ^ h) (fun _ => H z G) (fun z => absurd z (by omega)) (bi_shl1 (show h < 31 by omega))
  · intro m i z hi G ih
    refine pk_le (2 ^ h) i (fun z => absurd z (by omega)) (fun _ => ?_) (bi_shl1 (show h < 31 by omega))
    have G0 := G
    rcases G with ⟨e, g⟩ | ⟨k, hk', e, hr, g⟩
    · refine br_t (by rw [e]; decide) ?_
      exact yw_blame34 I hc (by omega) (fun r => ih _ (am_first g r)) (fun r => ih _ (am_n G0 (fun y => y r)))
    · rw [e]
      rw [e] at G0
      have s1 := sz_bd i 8
      have s2 := sz_bd k 8
      refine br_f (bi_nn (by omega)) ?_
      refine yw_size (by omega) ?_
      refine yw_size (by omega) ?_
      refine pk_le (sz_n k 8) (sz_n i 8) (fun l => ?_) (fun l => ?_)
      · unfold wY_blame_39
        exact br_t rfl (nm_r (nI_1 i) (ih _ (am_old hk' hr g (by omega))))
      · exact yw_blame34 I hc (by omega) (fun r => ih _ (am_new g r l)) (fun r => ih _ (am_n G0 (fun y => y r)))
end
