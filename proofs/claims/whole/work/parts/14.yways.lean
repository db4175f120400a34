section
variable {n a c h : Nat} {K P Q Lf Rt St : Nat → Nat} {kk fp sp ll rr li ss : Nat → Int32}
variable {fm kn cs : Int32} {ob po mo cl : Nat → Int32}
theorem yw_in {post : Int32 → Prop} {x y : Int32} {m : Nat} (hy : y = nI m) (hm : m < 2 ^ 31) (h1 : ∀ j, j < m → x = nI j → post 1) (h0 : (¬ ∃ j, j < m ∧ x = nI j) → post 0) :
    wpY_within post x y := wi_b (m := m) hy hm h1 h0
theorem yw_isLit {post : Int32 → Prop} {x : Int32} (ha : a ≤ 8) (h1 : ∀ j, j < 2 * a → x = nI j → post 1) (h0 : (¬ ∃ j, j < 2 * a ∧ x = nI j) → post 0) :
    wpY_isLiteral post (nI n, nI a, nI c, nI h, fm, kn, cs, kk, fp, sp, ll, rr, li, ss, ob, po, mo, cl) x := by
  unfold wpY_isLiteral
  dsimp only
  exact yw_in (m := 2 * a) (pk_mul 2 a) (by omega) (fun j hj e => And.intro rfl (h1 j hj e)) (fun z => And.intro rfl (h0 z))
theorem yw_models {post : Int32 → SY → Prop} (I : st_I n a c h K P Q Lf Rt St kk fp sp ll rr li ss) (HC : cs = 0 ∨ (cs = 1 ∧ cl_C n K P Q a Lf Rt po cl)) (HK : kn = 0 ∨ (kn = 1 ∧ kn_C (mo_M n K P Q a Lf Rt c li h St) (2 ^ a) fm mo))
    (H : ∀ fm' ob' po' mo' cl', cl_C n K P Q a Lf Rt po' cl' → kn_C (mo_M n K P Q a Lf Rt c li h St) (2 ^ a) fm' mo' → post (nI (pc_n (mo_M n K P Q a Lf Rt c li h St) (2 ^ a))) (nI n, nI a, nI c, nI h, fm', 1, 1, kk, fp, sp, ll, rr, li, ss, ob', po', mo', cl')) : wpY_models post (nI n, nI a, nI c, nI h, fm, kn, cs, kk, fp, sp, ll, rr, li, ss, ob, po, mo, cl) := by
  unfold wpY_models
  dsimp only
  refine yw_learn I HC HK (fun fm' ob' po' mo' cl' hc hk => ?_)
  have x := H fm' ob' po' mo' cl' hc hk
  rw [← hk.1] at x
  exact x
theorem yw_kth {post : Int32 → SY → Prop} {k : Int32} (I : st_I n a c h K P Q Lf Rt St kk fp sp ll rr li ss) (HC : cs = 0 ∨ (cs = 1 ∧ cl_C n K P Q a Lf Rt po cl)) (HK : kn = 0 ∨ (kn = 1 ∧ kn_C (mo_M n K P Q a Lf Rt c li h St) (2 ^ a) fm mo))
    (H1 : ∀ fm' ob' po' mo' cl' w, cl_C n K P Q a Lf Rt po' cl' → kn_C (mo_M n K P Q a Lf Rt c li h St) (2 ^ a) fm' mo' → w < 2 ^ a → (mo_M n K P Q a Lf Rt c li h St) w → k = nI (pc_n (mo_M n K P Q a Lf Rt c li h St) w) → post (nI w) (nI n, nI a, nI c, nI h, fm', 1, 1, kk, fp, sp, ll, rr, li, ss, ob', po', mo', cl'))
    (H0 : ∀ fm' ob' po' mo' cl', cl_C n K P Q a Lf Rt po' cl' → kn_C (mo_M n K P Q a Lf Rt c li h St) (2 ^ a) fm' mo' → (∀ w, w < 2 ^ a → (mo_M n K P Q a Lf Rt c li h St) w → ¬ k = nI (pc_n (mo_M n K P Q a Lf Rt c li h St) w)) → post (-1) (nI n, nI a, nI c, nI h, fm', 1, 1, kk, fp, sp, ll, rr, li, ss, ob', po', mo', cl')) :
    wpY_model post (nI n, nI a, nI c, nI h, fm, kn, cs, kk, fp, sp, ll, rr, li, ss, ob, po, mo, cl) k := by
  have p8 := bi_p8 (st_a I)
  have pl := pc_le (mo_M n K P Q a Lf Rt c li h St) (2 ^ a)
  unfold wpY_model
  dsimp only
  refine yw_learn I HC HK (fun fm' ob' po' mo' cl' hc hk => ?_)
  refine yw_in hk.1 (by omega) (fun j hj ej => ?_) (fun z => ?_)
  · obtain ⟨w, hw, mw, e1, e2⟩ := kn_at hk hj
    refine br_f (by decide) ?_
    dsimp only
    rw [ej, nI_clamp (show j < 2 ^ 31 by omega), e2]
    exact And.intro (pk_in j 256 (by omega)) (H1 fm' ob' po' mo' cl' w hc hk hw mw (by rw [e1]; exact ej))
  · refine br_t rfl (H0 fm' ob' po' mo' cl' hc hk (fun w hw mw e => z ⟨_, ?_, e⟩))
    have := pc_mono (mo_M n K P Q a Lf Rt c li h St) (show w + 1 ≤ 2 ^ a from hw)
    rw [pc_t mw] at this
    omega
theorem yw_holds {post : Int32 → SY → Prop} {v : Int32} (I : st_I n a c h K P Q Lf Rt St kk fp sp ll rr li ss) (HC : cs = 0 ∨ (cs = 1 ∧ cl_C n K P Q a Lf Rt po cl)) (HK : kn = 0 ∨ (kn = 1 ∧ kn_C (mo_M n K P Q a Lf Rt c li h St) (2 ^ a) fm mo))
    (H1 : ∀ fm' ob' po' mo' cl' l, cl_C n K P Q a Lf Rt po' cl' → kn_C (mo_M n K P Q a Lf Rt c li h St) (2 ^ a) fm' mo' → l < 2 * a → v = nI l → post (ve_N (pc_n (fun w => (mo_M n K P Q a Lf Rt c li h St) w ∧ mo_h w l) (2 ^ a)) (pc_n (mo_M n K P Q a Lf Rt c li h St) (2 ^ a))) (nI n, nI a, nI c, nI h, fm', 1, 1, kk, fp, sp, ll, rr, li, ss, ob', po', mo', cl'))
    (H0 : (¬ ∃ l, l < 2 * a ∧ v = nI l) → post (-1) (nI n, nI a, nI c, nI h, fm, kn, cs, kk, fp, sp, ll, rr, li, ss, ob, po, mo, cl)) : wpY_holds post (nI n, nI a, nI c, nI h, fm, kn, cs, kk, fp, sp, ll, rr, li, ss, ob, po, mo, cl) v := by
  have ha := st_a I
  have p8 := bi_p8 ha
  have pl := pc_le (mo_M n K P Q a Lf Rt c li h St) (2 ^ a)
  unfold wpY_holds
  dsimp only
  refine yw_isLit ha (fun l hl el => br_f (by decide) ?_) (fun z => br_t rfl (H0 z))
  refine yw_learn I HC HK (fun fm' ob' po' mo' cl' hc hk => ?_)
  dsimp only
  have H1 := H1 fm' ob' po' mo' cl' l hc hk hl el
  rw [el]
  refine loop_0 (σ := Int32) (fun m i z => wY_holds_18 post (nI l) (nI n) (nI a) (nI c) (nI h) fm' 1 1 kk fp sp ll rr li ss ob' po' mo' cl' m z (nI i)) (fun i z => ∃ s, z = nI s ∧ s ≤ i ∧ yk_I (mo_M n K P Q a Lf Rt c li h St) (gq_N (fun w => mo_h w l)) 0 i s) (pc_n (mo_M n K P Q a Lf Rt c li h St) (2 ^ a)) 0 ⟨0, rfl, Nat.le_refl 0, yk_0 _ _ _⟩ ?_ ?_
  · intro m z G
    obtain ⟨s, e, sl, G⟩ := G
    have es : s = pc_n (fun w => (mo_M n K P Q a Lf Rt c li h St) w ∧ mo_h w l) (2 ^ a) := (G (2 ^ a) rfl).trans (gq_pc _ _ _)
    refine pk_le (pc_n (mo_M n K P Q a Lf Rt c li h St) (2 ^ a)) (pc_n (mo_M n K P Q a Lf Rt c li h St) (2 ^ a)) (fun _ => ?_) (fun z => absurd z (by omega)) hk.1
    rw [← es] at H1
    exact ve_b (A := fun r => post r (nI n, nI a, nI c, nI h, fm', 1, 1, kk, fp, sp, ll, rr, li, ss, ob', po', mo', cl')) e hk.1 (by omega) (by omega) H1
  · intro m i z hi G ih
    obtain ⟨s, e, sl, G⟩ := G
    obtain ⟨w, hw, mw, e1, e2⟩ := kn_at hk hi
    refine pk_le _ i (fun z => absurd z (by omega)) (fun _ => And.intro (pk_in i 256 (by omega)) ?_) hk.1
    rw [nI_clamp (show i < 2 ^ 31 by omega), e2]
    refine yw_holdsIn (by omega) (by omega) (fun q => br_f (by decide) (nm_e (nm_r (nI_1 i) (ih _ ⟨s + 1, ?_, by omega, ?_⟩)))) (fun q => br_t rfl (nm_r (nI_1 i) (ih z ⟨s, e, by omega, ?_⟩)))
    · rw [e, nI_1]
    · exact yk_s G mw e1 (gq_t (Q := fun w => mo_h w l) q).symm
    · exact yk_s G mw e1 (gq_f (Q := fun w => mo_h w l) q).symm
theorem yw_areOne {post : Int32 → Prop} {w t u : Nat} (I : st_I n a c h K P Q Lf Rt St kk fp sp ll rr li ss) (hc : cl_C n K P Q a Lf Rt po cl) (hw : w < 2 ^ a) (ht : t < n) (hu : u < n)
    (h1 : cc_F n K P Q a Lf Rt w t u → post 1) (h0 : ¬ cc_F n K P Q a Lf Rt w t u → post 0) : wpY_areOne post (nI n, nI a, nI c, nI h, fm, kn, cs, kk, fp, sp, ll, rr, li, ss, ob, po, mo, cl) (nI w) (nI t) (nI u) := by
  have hn := st_n I
  have p8 := bi_p8 (st_a I)
  obtain ⟨_, _, L, X, k⟩ := hc w hw
  have e : ∀ i, (16 * nI w) + nI i = nI (16 * w + i) := by
    intro i
    rw [show (16 : Int32) * nI w = nI (16 * w) from pk_mul 16 w]
    exact nI_add (16 * w) i
  unfold wpY_areOne
  dsimp only
  rw [e t, e u, nI_clamp (show 16 * w + t < 2 ^ 31 by omega), nI_clamp (show 16 * w + u < 2 ^ 31 by omega), k t ht, k u hu]
  exact ⟨pk_in (16 * w + t) 4096 (by omega), pk_in (16 * w + u) 4096 (by omega), ek_if (ex_iff X ht hu hn) h1 h0⟩
theorem yw_one {post : Int32 → SY → Prop} {v1 v2 : Int32} (I : st_I n a c h K P Q Lf Rt St kk fp sp ll rr li ss) (HC : cs = 0 ∨ (cs = 1 ∧ cl_C n K P Q a Lf Rt po cl)) (HK : kn = 0 ∨ (kn = 1 ∧ kn_C (mo_M n K P Q a Lf Rt c li h St) (2 ^ a) fm mo))
    (H1 : ∀ fm' ob' po' mo' cl' t u, cl_C n K P Q a Lf Rt po' cl' → kn_C (mo_M n K P Q a Lf Rt c li h St) (2 ^ a) fm' mo' → t < n → u < n → v1 = nI t → v2 = nI u → post (ve_N (pc_n (fun w => (mo_M n K P Q a Lf Rt c li h St) w ∧ cc_F n K P Q a Lf Rt w t u) (2 ^ a)) (pc_n (mo_M n K P Q a Lf Rt c li h St) (2 ^ a))) (nI n, nI a, nI c, nI h, fm', 1, 1, kk, fp, sp, ll, rr, li, ss, ob', po', mo', cl'))
    (H0 : ¬ ((∃ t, t < n ∧ v1 = nI t) ∧ (∃ u, u < n ∧ v2 = nI u)) → post (-1) (nI n, nI a, nI c, nI h, fm, kn, cs, kk, fp, sp, ll, rr, li, ss, ob, po, mo, cl)) : wpY_one post (nI n, nI a, nI c, nI h, fm, kn, cs, kk, fp, sp, ll, rr, li, ss, ob, po, mo, cl) v1 v2 := by
  have hn := st_n I
  have ha := st_a I
  have p8 := bi_p8 ha
  have pl := pc_le (mo_M n K P Q a Lf Rt c li h St) (2 ^ a)
  unfold wpY_one
  dsimp only
  refine yw_within (show n < 2 ^ 31 by omega) (fun t ht et => br_f (by decide) ?_) (fun z => br_t rfl (H0 (fun y => z y.1)))
  refine yw_within (show n < 2 ^ 31 by omega) (fun u hu eu => br_f (by decide) ?_) (fun z => br_t rfl (H0 (fun y => z y.2)))
  refine yw_learn I HC HK (fun fm' ob' po' mo' cl' hc hk => ?_)
  dsimp only
  have H1 := H1 fm' ob' po' mo' cl' t u hc hk ht hu et eu
  rw [et, eu]
  refine loop_0 (σ := Int32) (fun m i z => wY_one_33 post (nI t) (nI u) (nI n) (nI a) (nI c) (nI h) fm' 1 1 kk fp sp ll rr li ss ob' po' mo' cl' m z (nI i)) (fun i z => ∃ s, z = nI s ∧ s ≤ i ∧ yk_I (mo_M n K P Q a Lf Rt c li h St) (gq_N (fun w => cc_F n K P Q a Lf Rt w t u)) 0 i s) (pc_n (mo_M n K P Q a Lf Rt c li h St) (2 ^ a)) 0 ⟨0, rfl, Nat.le_refl 0, yk_0 _ _ _⟩ ?_ ?_
  · intro m z G
    obtain ⟨s, e, sl, G⟩ := G
    have es : s = pc_n (fun w => (mo_M n K P Q a Lf Rt c li h St) w ∧ cc_F n K P Q a Lf Rt w t u) (2 ^ a) := (G (2 ^ a) rfl).trans (gq_pc _ _ _)
    refine pk_le (pc_n (mo_M n K P Q a Lf Rt c li h St) (2 ^ a)) (pc_n (mo_M n K P Q a Lf Rt c li h St) (2 ^ a)) (fun _ => ?_) (fun z => absurd z (by omega)) hk.1
    rw [← es] at H1
    exact ve_b (A := fun r => post r (nI n, nI a, nI c, nI h, fm', 1, 1, kk, fp, sp, ll, rr, li, ss, ob', po', mo', cl')) e hk.1 (by omega) (by omega) H1
  · intro m i z hi G ih
    obtain ⟨s, e, sl, G⟩ := G
    obtain ⟨w, hw, mw, e1, e2⟩ := kn_at hk hi
    refine pk_le _ i (fun z => absurd z (by omega)) (fun _ => And.intro (pk_in i 256 (by omega)) ?_) hk.1
    rw [nI_clamp (show i < 2 ^ 31 by omega), e2]
    refine yw_areOne I hc hw ht hu (fun q => br_f (by decide) (nm_e (nm_r (nI_1 i) (ih _ ⟨s + 1, ?_, by omega, ?_⟩)))) (fun q => br_t rfl (nm_r (nI_1 i) (ih z ⟨s, e, by omega, ?_⟩)))
    · rw [e, nI_1]
    · exact yk_s G mw e1 (gq_t (Q := fun w => cc_F n K P Q a Lf Rt w t u) q).symm
    · exact yk_s G mw e1 (gq_f (Q := fun w => cc_F n K P Q a Lf Rt w t u) q).symm
theorem yw_better {J : Int32 → Int32 → Prop} {x1 : Int32} {b : Bool} {o : Option Nat} {q i : Nat} (hb : x1 = 0 ↔ b = true) (hd : ∀ d, o = some d → d ≤ 16) (hq : q ≤ 16) (H : J (bt_I (bt_O b q o)) (nI (i + 1))) :
    (bt_I o < 0 → ∀ y : Int32, y = nI i + 1 → J (nI q) y) ∧ (¬ bt_I o < 0 → ((x1 = 0 → ((bt_I o ≤ nI q → ∀ y : Int32, y = nI i + 1 → J (bt_I o) y) ∧ (¬ bt_I o ≤ nI q → ∀ y : Int32, y = nI i + 1 → J (nI q) y))) ∧
      (¬ x1 = 0 → ((nI q ≤ bt_I o → ∀ y : Int32, y = nI i + 1 → J (bt_I o) y) ∧ (¬ nI q ≤ bt_I o → ∀ y : Int32, y = nI i + 1 → J (nI q) y))))) := by
  cases o with
  | none => exact br_t (show (-2 : Int32) < 0 by decide) (nm_r (nI_1 i) H)
  | some d =>
    have hd := hd d rfl
    refine br_f (show ¬ nI d < 0 from bi_nn (by omega)) ?_
    refine br_c (fun e => pk_le d q (fun z => ?_) (fun z => ?_)) (fun e => pk_le q d (fun z => ?_) (fun z => ?_))
    · rw [bt_ge (hb.mp e) (by omega)] at H
      exact nm_r (nI_1 i) H
    · rw [bt_lt (hb.mp e) z] at H
      exact nm_r (nI_1 i) H
    · rw [bt_le (fun y => e (hb.mpr y)) (by omega)] at H
      exact nm_r (nI_1 i) H
    · rw [bt_gt (fun y => e (hb.mpr y)) z] at H
      exact nm_r (nI_1 i) H
theorem yw_classes {post : Int32 → SY → Prop} {v : Int32} (I : st_I n a c h K P Q Lf Rt St kk fp sp ll rr li ss) (HC : cs = 0 ∨ (cs = 1 ∧ cl_C n K P Q a Lf Rt po cl)) (HK : kn = 0 ∨ (kn = 1 ∧ kn_C (mo_M n K P Q a Lf Rt c li h St) (2 ^ a) fm mo))
    (H1 : ∀ fm' ob' po' mo' cl' b, cl_C n K P Q a Lf Rt po' cl' → kn_C (mo_M n K P Q a Lf Rt c li h St) (2 ^ a) fm' mo' → (b = true ∧ v = 0) ∨ (b = false ∧ v = 1) → post (bt_I (xf_s (mo_M n K P Q a Lf Rt c li h St) (fun w s => bt_O b (cl_N n K P Q a Lf Rt w) s) none (2 ^ a))) (nI n, nI a, nI c, nI h, fm', 1, 1, kk, fp, sp, ll, rr, li, ss, ob', po', mo', cl'))
    (H0 : ¬ v = 0 → ¬ v = 1 → post (-1) (nI n, nI a, nI c, nI h, fm, kn, cs, kk, fp, sp, ll, rr, li, ss, ob, po, mo, cl)) : wpY_classes post (nI n, nI a, nI c, nI h, fm, kn, cs, kk, fp, sp, ll, rr, li, ss, ob, po, mo, cl) v := by
  have hn := st_n I
  have ha := st_a I
  have p8 := bi_p8 ha
  have pl := pc_le (mo_M n K P Q a Lf Rt c li h St) (2 ^ a)
  unfold wpY_classes
  dsimp only
  refine yw_in (m := 2) rfl (by decide) (fun j hj ej => br_f (by decide) ?_) (fun z => br_t rfl (H0 (fun e => z ⟨0, by decide, e⟩) (fun e => z ⟨1, by decide, e⟩)))
  have hb : ∃ b : Bool, ((b = true ∧ v = 0) ∨ (b = false ∧ v = 1)) ∧ (v = 0 ↔ b = true) := by
    by_cases e : j = 0
    · rw [e] at ej
      exact ⟨true, Or.inl ⟨rfl, ej⟩, fun _ => rfl, fun _ => ej⟩
    · have e1 : j = 1 := by omega
      rw [e1] at ej
      have ej : v = 1 := ej
      refine ⟨false, Or.inr ⟨rfl, ej⟩, fun z => ?_, fun z => absurd z (by decide)⟩
      rw [ej] at z
      exact absurd z (by decide)
  obtain ⟨b, hv, hb⟩ := hb
  have bd := bt_bd (M := (mo_M n K P Q a Lf Rt c li h St)) (b := b) (N := fun w => cl_N n K P Q a Lf Rt w) (n := 16) (fun w => Nat.le_trans (cl_le n K P Q a Lf Rt w) hn)
  refine yw_learn I HC HK (fun fm' ob' po' mo' cl' hc hk => ?_)
  dsimp only
  have H1 := H1 fm' ob' po' mo' cl' b hc hk hv
  refine loop_0 (σ := Int32) (fun m i z => wY_classes_19 post v (nI n) (nI a) (nI c) (nI h) fm' 1 1 kk fp sp ll rr li ss ob' po' mo' cl' m z (nI i)) (fun i z => ∃ o, z = bt_I o ∧ yk_I (mo_M n K P Q a Lf Rt c li h St) (fun w s => bt_O b (cl_N n K P Q a Lf Rt w) s) none i o) (pc_n (mo_M n K P Q a Lf Rt c li h St) (2 ^ a)) (-2) ⟨none, rfl, yk_0 _ _ _⟩ ?_ ?_
  · intro m z G
    obtain ⟨o, e, G⟩ := G
    refine pk_le (pc_n (mo_M n K P Q a Lf Rt c li h St) (2 ^ a)) (pc_n (mo_M n K P Q a Lf Rt c li h St) (2 ^ a)) (fun _ => ?_) (fun z => absurd z (by omega)) hk.1
    rw [e, G (2 ^ a) rfl]
    exact H1
  · intro m i z hi G ih
    obtain ⟨o, e, G⟩ := G
    obtain ⟨w, hw, mw, e1, e2⟩ := kn_at hk hi
    obtain ⟨_, _, L, X, k⟩ := hc w hw
    have hB := ex_B hn X
    refine pk_le _ i (fun z => absurd z (by omega)) (fun _ => ?_) hk.1
    refine loop_0 (σ := Int32) (fun m' j y => wY_classes_33 post (wY_classes_19 post v (nI n) (nI a) (nI c) (nI h) fm' 1 1 kk fp sp ll rr li ss ob' po' mo' cl' m) v z (nI i) (nI n) (nI a) (nI c) (nI h) fm' 1 1 kk fp sp ll rr li ss ob' po' mo' cl' m' y (nI j)) (fun j y => y = nI (cc_cnt (fun t => decide (L t = t)) j)) n 0 rfl ?_ ?_
    · intro m' y G'
      refine pk_le n n (fun _ => ?_) (fun z => absurd z (by omega))
      have G' : y = nI (cc_nl n L) := G'
      rw [cl_eq X] at G'
      rw [G', e]
      have bo : ∀ d, o = some d → d ≤ 16 := by
        intro d hd
        have g := G w e1
        rw [hd] at g
        exact bd w d g.symm
      exact yw_better hb bo (Nat.le_trans (cl_le n K P Q a Lf Rt w) hn) (ih _ ⟨_, rfl, yk_s G mw e1 rfl⟩)
    · intro m' j y hj G' ih'
      have b1 := hB j hj
      have e6 : (16 * nI w) + nI j = nI (16 * w + j) := by
        rw [show (16 : Int32) * nI w = nI (16 * w) from pk_mul 16 w]
        exact nI_add (16 * w) j
      refine pk_le n j (fun z => absurd z (by omega)) (fun _ => And.intro (pk_in i 256 (by omega)) ?_)
      rw [nI_clamp (show i < 2 ^ 31 by omega), e2, e6, nI_clamp (show 16 * w + j < 2 ^ 31 by omega), k j hj]
      refine And.intro (pk_in (16 * w + j) 4096 (by omega)) ?_
      refine pk_eq (L j) j (fun e => nm_e (nm_r (nI_1 j) (ih' _ ?_))) (fun e => nm_r (nI_1 j) (ih' y ?_))
      · rw [G', nI_1, cc_cnt_t (decide_eq_true e)]
      · rw [G', cc_cnt_f (fun y => e (of_decide_eq_true y))]
end
