section
variable {n a c h : Nat} {K P Q Lf Rt St : Nat → Nat} {kk fp sp ll rr li ss : Nat → Int32}
theorem ve_b {x y : Int32} {m f : Nat} {A : Int32 → Prop} (hx : x = nI m) (hy : y = nI f) (hm : m < 2 ^ 31) (hf : f < 2 ^ 31) (H : A (ve_N m f)) :
    (y = 0 → A (-2)) ∧ (¬ y = 0 → ((x = y → A 1) ∧ (¬ x = y → ((x = 0 → A 0) ∧ (¬ x = 0 → A 2))))) := by
  unfold ve_N at H
  refine pk_eq f 0 (fun e => ?_) (fun e => pk_eq m f (fun e1 => ?_) (fun e1 => pk_eq m 0 (fun e2 => ?_) (fun e2 => ?_) hx rfl) hx hy) hy rfl
  · rw [if_pos e] at H; exact H
  · rw [if_neg e, if_pos e1] at H; exact H
  · rw [if_neg e, if_neg e1, if_pos e2] at H; exact H
  · rw [if_neg e, if_neg e1, if_neg e2] at H; exact H
theorem xw_models {post : Int32 → SX → Prop} {ld : Nat → Int32} (I : st_I n a c h K P Q Lf Rt St kk fp sp ll rr li ss) (H : ∀ ld', post (nI (pc_n (mo_M n K P Q a Lf Rt c li h St) (2 ^ a))) (nI n, nI a, nI c, nI h, kk, fp, sp, ll, rr, li, ss, ld')) : wpX_models post (nI n, nI a, nI c, nI h, kk, fp, sp, ll, rr, li, ss, ld) := by
  have ha := st_a I
  have p8 := bi_p8 ha
  unfold wpX_models
  dsimp only
  refine nm_r (bi_shl1 (show a < 31 by omega)) ?_
  refine loop_0 (σ := Int32 × (Nat → Int32)) (fun m i z => wX_models_11 post (nI (2 ^ a)) m z.1 (nI i) (nI n) (nI a) (nI c) (nI h) kk fp sp ll rr li ss z.2) (fun i z => z.1 = nI (pc_n (mo_M n K P Q a Lf Rt c li h St) i)) (2 ^ a) (0, ld) rfl ?_ ?_
  · intro m z G
    obtain ⟨x, ld'⟩ := z
    have G' : x = nI (pc_n (mo_M n K P Q a Lf Rt c li h St) (2 ^ a)) := G
    exact pk_le (2 ^ a) (2 ^ a) (fun _ => by dsimp only; rw [G']; exact H ld') (fun z => absurd z (by omega))
  · intro m i z hi G ih
    obtain ⟨x, ld'⟩ := z
    have G' : x = nI (pc_n (mo_M n K P Q a Lf Rt c li h St) i) := G
    refine pk_le (2 ^ a) i (fun z => absurd z (by omega)) (fun _ => ?_)
    refine xw_model I hi (fun ld2 L mm g1 g2 => ?_) (fun ld2 mm => ?_)
    · refine br_f (by decide) (nm_e (nm_r (nI_1 i) (ih (x + 1, ld2) ?_)))
      show x + 1 = _
      rw [G', nI_1, pc_t mm]
    · refine br_t rfl (nm_r (nI_1 i) (ih (x, ld2) ?_))
      show x = _
      rw [G', pc_f mm]
theorem xw_kth {post : Int32 → SX → Prop} {k : Int32} {ld : Nat → Int32} (I : st_I n a c h K P Q Lf Rt St kk fp sp ll rr li ss) (H1 : ∀ ld' w, w < 2 ^ a → (mo_M n K P Q a Lf Rt c li h St) w → k = nI (pc_n (mo_M n K P Q a Lf Rt c li h St) w) → post (nI w) (nI n, nI a, nI c, nI h, kk, fp, sp, ll, rr, li, ss, ld'))
    (H0 : ∀ ld', (∀ w, w < 2 ^ a → (mo_M n K P Q a Lf Rt c li h St) w → ¬ k = nI (pc_n (mo_M n K P Q a Lf Rt c li h St) w)) → post (-1) (nI n, nI a, nI c, nI h, kk, fp, sp, ll, rr, li, ss, ld')) : wpX_model post (nI n, nI a, nI c, nI h, kk, fp, sp, ll, rr, li, ss, ld) k := by
  have ha := st_a I
  have p8 := bi_p8 ha
  unfold wpX_model
  dsimp only
  refine nm_r (bi_shl1 (show a < 31 by omega)) ?_
  refine loop_0 (σ := Int32 × (Nat → Int32)) (fun m i z => wX_model_12 post k (nI (2 ^ a)) m z.1 (nI i) (nI n) (nI a) (nI c) (nI h) kk fp sp ll rr li ss z.2) (fun i z => z.1 = nI (pc_n (mo_M n K P Q a Lf Rt c li h St) i) ∧ ∀ w, w < i → (mo_M n K P Q a Lf Rt c li h St) w → ¬ k = nI (pc_n (mo_M n K P Q a Lf Rt c li h St) w)) (2 ^ a) (0, ld) ⟨rfl, fun w hw => absurd hw (Nat.not_lt_zero w)⟩ ?_ ?_
  · intro m z G
    obtain ⟨x, ld'⟩ := z
    exact pk_le (2 ^ a) (2 ^ a) (fun _ => H0 ld' G.2) (fun z => absurd z (by omega))
  · intro m i z hi G ih
    obtain ⟨x, ld'⟩ := z
    obtain ⟨G', G2⟩ := G
    have G' : x = nI (pc_n (mo_M n K P Q a Lf Rt c li h St) i) := G'
    refine pk_le (2 ^ a) i (fun z => absurd z (by omega)) (fun _ => ?_)
    refine xw_model I hi (fun ld2 L mm g1 g2 => ?_) (fun ld2 mm => ?_)
    · refine br_f (by decide) (br_c (fun e => ?_) (fun e => nm_e (nm_r (nI_1 i) (ih (x + 1, ld2) ⟨?_, fun w hw mw => ?_⟩))))
      · exact H1 ld2 i hi mm (by rw [← G']; exact e.symm)
      · show x + 1 = _
        rw [G', nI_1, pc_t mm]
      · by_cases ew : w = i
        · rw [ew, ← G']; exact fun z => e z.symm
        · exact G2 w (by omega) mw
    · refine br_t rfl (nm_r (nI_1 i) (ih (x, ld2) ⟨?_, fun w hw mw => ?_⟩))
      · show x = _
        rw [G', pc_f mm]
      · by_cases ew : w = i
        · rw [ew] at mw; exact absurd mw mm
        · exact G2 w (by omega) mw
theorem xw_holds {post : Int32 → SX → Prop} {v : Int32} {ld : Nat → Int32} (I : st_I n a c h K P Q Lf Rt St kk fp sp ll rr li ss) (H1 : ∀ ld' l, l < 2 * a → v = nI l → post (ve_N (pc_n (fun w => (mo_M n K P Q a Lf Rt c li h St) w ∧ mo_h w l) (2 ^ a)) (pc_n (mo_M n K P Q a Lf Rt c li h St) (2 ^ a))) (nI n, nI a, nI c, nI h, kk, fp, sp, ll, rr, li, ss, ld'))
    (H0 : (¬ ∃ l, l < 2 * a ∧ v = nI l) → post (-1) (nI n, nI a, nI c, nI h, kk, fp, sp, ll, rr, li, ss, ld)) : wpX_holds post (nI n, nI a, nI c, nI h, kk, fp, sp, ll, rr, li, ss, ld) v := by
  have ha := st_a I
  have p8 := bi_p8 ha
  unfold wpX_holds
  dsimp only
  refine xw_isLit ha (fun l hl el => ?_) (fun z => br_t rfl (H0 z))
  refine br_f (by decide) (nm_r (bi_shl1 (show a < 31 by omega)) ?_)
  rw [el]
  refine loop_0 (σ := Int32 × Int32 × (Nat → Int32)) (fun m i z => wX_holds_25 post (nI l) (nI (2 ^ a)) m z.1 z.2.1 (nI i) (nI n) (nI a) (nI c) (nI h) kk fp sp ll rr li ss z.2.2) (fun i z => z.1 = nI (pc_n (mo_M n K P Q a Lf Rt c li h St) i) ∧ z.2.1 = nI (pc_n (fun w => (mo_M n K P Q a Lf Rt c li h St) w ∧ mo_h w l) i)) (2 ^ a) (0, 0, ld) ⟨rfl, rfl⟩ ?_ ?_
  · intro m z G
    obtain ⟨x, y, ld'⟩ := z
    obtain ⟨G1, G2⟩ := G
    have b1 := pc_le (mo_M n K P Q a Lf Rt c li h St) (2 ^ a)
    have b2 := pc_le (fun w => (mo_M n K P Q a Lf Rt c li h St) w ∧ mo_h w l) (2 ^ a)
    refine pk_le (2 ^ a) (2 ^ a) (fun _ => ?_) (fun z => absurd z (by omega))
    exact ve_b (A := fun r => post r (nI n, nI a, nI c, nI h, kk, fp, sp, ll, rr, li, ss, ld')) G2 G1 (by omega) (by omega) (H1 ld' l hl el)
  · intro m i z hi G ih
    obtain ⟨x, y, ld'⟩ := z
    obtain ⟨G1, G2⟩ := G
    have G1 : x = nI (pc_n (mo_M n K P Q a Lf Rt c li h St) i) := G1
    have G2 : y = nI (pc_n (fun w => (mo_M n K P Q a Lf Rt c li h St) w ∧ mo_h w l) i) := G2
    refine pk_le (2 ^ a) i (fun z => absurd z (by omega)) (fun _ => ?_)
    refine xw_model I hi (fun ld2 L mm g1 g2 => ?_) (fun ld2 mm => ?_)
    · refine br_f (by decide) (nm_e ?_)
      have e1 : x + 1 = nI (pc_n (mo_M n K P Q a Lf Rt c li h St) (i + 1)) := by rw [G1, nI_1, pc_t mm]
      refine xw_holdsIn (by omega) (by omega) (fun hh => br_f (by decide) (nm_e (nm_r (nI_1 i) (ih (x + 1, y + 1, ld2) ⟨e1, ?_⟩)))) (fun hh => br_t rfl (nm_r (nI_1 i) (ih (x + 1, y, ld2) ⟨e1, ?_⟩)))
      · show y + 1 = _
        rw [G2, nI_1, pc_t (P := fun w => (mo_M n K P Q a Lf Rt c li h St) w ∧ mo_h w l) ⟨mm, hh⟩]
      · show y = _
        rw [G2, pc_f (P := fun w => (mo_M n K P Q a Lf Rt c li h St) w ∧ mo_h w l) (fun z => hh z.2)]
    · refine br_t rfl (nm_r (nI_1 i) (ih (x, y, ld2) ⟨?_, ?_⟩))
      · show x = _
        rw [G1, pc_f mm]
      · show y = _
        rw [G2, pc_f (P := fun w => (mo_M n K P Q a Lf Rt c li h St) w ∧ mo_h w l) (fun z => mm z.1)]
theorem xw_one {post : Int32 → SX → Prop} {v1 v2 : Int32} {ld : Nat → Int32} (I : st_I n a c h K P Q Lf Rt St kk fp sp ll rr li ss) (H1 : ∀ ld' t u, t < n → u < n → v1 = nI t → v2 = nI u → post (ve_N (pc_n (fun w => (mo_M n K P Q a Lf Rt c li h St) w ∧ cc_F n K P Q a Lf Rt w t u) (2 ^ a)) (pc_n (mo_M n K P Q a Lf Rt c li h St) (2 ^ a))) (nI n, nI a, nI c, nI h, kk, fp, sp, ll, rr, li, ss, ld'))
    (H0 : ¬ ((∃ t, t < n ∧ v1 = nI t) ∧ (∃ u, u < n ∧ v2 = nI u)) → post (-1) (nI n, nI a, nI c, nI h, kk, fp, sp, ll, rr, li, ss, ld)) : wpX_one post (nI n, nI a, nI c, nI h, kk, fp, sp, ll, rr, li, ss, ld) v1 v2 := by
  have hn := st_n I
  have ha := st_a I
  have p8 := bi_p8 ha
  unfold wpX_one
  dsimp only
  refine xw_isTerm hn (fun t ht et => ?_) (fun z => br_t rfl (H0 (fun y => z y.1)))
  refine br_f (by decide) ?_
  refine xw_isTerm hn (fun u hu eu => ?_) (fun z => br_t rfl (H0 (fun y => z y.2)))
  refine br_f (by decide) (nm_r (bi_shl1 (show a < 31 by omega)) ?_)
  rw [et, eu]
  refine loop_0 (σ := Int32 × Int32 × (Nat → Int32)) (fun m i z => wX_one_34 post (nI t) (nI u) (nI (2 ^ a)) m z.1 z.2.1 (nI i) (nI n) (nI a) (nI c) (nI h) kk fp sp ll rr li ss z.2.2) (fun i z => z.1 = nI (pc_n (mo_M n K P Q a Lf Rt c li h St) i) ∧ z.2.1 = nI (pc_n (fun w => (mo_M n K P Q a Lf Rt c li h St) w ∧ cc_F n K P Q a Lf Rt w t u) i)) (2 ^ a) (0, 0, ld) ⟨rfl, rfl⟩ ?_ ?_
  · intro m z G
    obtain ⟨x, y, ld'⟩ := z
    obtain ⟨G1, G2⟩ := G
    have b1 := pc_le (mo_M n K P Q a Lf Rt c li h St) (2 ^ a)
    have b2 := pc_le (fun w => (mo_M n K P Q a Lf Rt c li h St) w ∧ cc_F n K P Q a Lf Rt w t u) (2 ^ a)
    refine pk_le (2 ^ a) (2 ^ a) (fun _ => ?_) (fun z => absurd z (by omega))
    exact ve_b (A := fun r => post r (nI n, nI a, nI c, nI h, kk, fp, sp, ll, rr, li, ss, ld')) G2 G1 (by omega) (by omega) (H1 ld' t u ht hu et eu)
  · intro m i z hi G ih
    obtain ⟨x, y, ld'⟩ := z
    obtain ⟨G1, G2⟩ := G
    have G1 : x = nI (pc_n (mo_M n K P Q a Lf Rt c li h St) i) := G1
    have G2 : y = nI (pc_n (fun w => (mo_M n K P Q a Lf Rt c li h St) w ∧ cc_F n K P Q a Lf Rt w t u) i) := G2
    refine pk_le (2 ^ a) i (fun z => absurd z (by omega)) (fun _ => ?_)
    refine xw_model I hi (fun ld2 L mm g1 g2 => ?_) (fun ld2 mm => ?_)
    · have e1 : x + 1 = nI (pc_n (mo_M n K P Q a Lf Rt c li h St) (i + 1)) := by rw [G1, nI_1, pc_t mm]
      refine br_f (by decide) (nm_e (And.intro (pk_in t 16 (by omega)) (And.intro (pk_in u 16 (by omega)) ?_)))
      rw [nI_clamp (show t < 2 ^ 31 by omega), nI_clamp (show u < 2 ^ 31 by omega), g1 t ht, g1 u hu]
      refine ek_if (ex_iff g2 ht hu hn) (fun hh => nm_e (nm_r (nI_1 i) (ih (x + 1, y + 1, ld2) ⟨e1, ?_⟩))) (fun hh => nm_r (nI_1 i) (ih (x + 1, y, ld2) ⟨e1, ?_⟩))
      · show y + 1 = _
        rw [G2, nI_1, pc_t (P := fun w => (mo_M n K P Q a Lf Rt c li h St) w ∧ cc_F n K P Q a Lf Rt w t u) ⟨mm, hh⟩]
      · show y = _
        rw [G2, pc_f (P := fun w => (mo_M n K P Q a Lf Rt c li h St) w ∧ cc_F n K P Q a Lf Rt w t u) (fun z => hh z.2)]
    · refine br_t rfl (nm_r (nI_1 i) (ih (x, y, ld2) ⟨?_, ?_⟩))
      · show x = _
        rw [G1, pc_f mm]
      · show y = _
        rw [G2, pc_f (P := fun w => (mo_M n K P Q a Lf Rt c li h St) w ∧ cc_F n K P Q a Lf Rt w t u) (fun z => mm z.1)]
theorem bt_m2 {d : Nat} (h : d < 2 ^ 31) : ¬ nI d = -2 := by
  intro e
  have h1 : (nI d).toInt = (d : Int) := nI_toInt h
  rw [e] at h1
  have h2 : (-2 : Int32).toInt = -2 := by decide
  omega
theorem bt_lt {b : Bool} {q d : Nat} (hb : b = true) (h : q < d) : bt_O b q (some d) = some q := by
  show (if b = true then (if q < d then some q else some d) else (if d < q then some q else some d)) = _
  rw [if_pos hb, if_pos h]
theorem bt_ge {b : Bool} {q d : Nat} (hb : b = true) (h : ¬ q < d) : bt_O b q (some d) = some d := by
  show (if b = true then (if q < d then some q else some d) else (if d < q then some q else some d)) = _
  rw [if_pos hb, if_neg h]
theorem bt_gt {b : Bool} {q d : Nat} (hb : ¬ b = true) (h : d < q) : bt_O b q (some d) = some q := by
  show (if b = true then (if q < d then some q else some d) else (if d < q then some q else some d)) = _
  rw [if_neg hb, if_pos h]
theorem bt_le {b : Bool} {q d : Nat} (hb : ¬ b = true) (h : ¬ d < q) : bt_O b q (some d) = some d := by
  show (if b = true then (if q < d then some q else some d) else (if d < q then some q else some d)) = _
  rw [if_neg hb, if_neg h]
theorem xw_better {post : Int32 → SX → Prop} {J : Int32 → Int32 → Int32 → Int32 → Int32 → Int32 → (Nat → Int32) → (Nat → Int32) → (Nat → Int32) → (Nat → Int32) → (Nat → Int32) → (Nat → Int32) → (Nat → Int32) → (Nat → Int32) → Prop}
    {x1 x2 : Int32} {b : Bool} {o : Option Nat} {q i : Nat} {ld : Nat → Int32} (hb : x1 = 0 ↔ b = true) (hd : ∀ d, o = some d → d ≤ 16) (hq : q ≤ 16) (H : J (bt_I (bt_O b q o)) (nI (i + 1)) (nI n) (nI a) (nI c) (nI h) kk fp sp ll rr li ss ld) :
    (x1 = 0 → ((bt_I o ≤ nI q → wX_classes_74 post J x1 x2 (bt_I o) (nI i) (nI q) 0 (nI n) (nI a) (nI c) (nI h) kk fp sp ll rr li ss ld) ∧ (¬ bt_I o ≤ nI q → wX_classes_74 post J x1 x2 (bt_I o) (nI i) (nI q) 1 (nI n) (nI a) (nI c) (nI h) kk fp sp ll rr li ss ld))) ∧
    (¬ x1 = 0 → ((nI q ≤ bt_I o → wX_classes_74 post J x1 x2 (bt_I o) (nI i) (nI q) 0 (nI n) (nI a) (nI c) (nI h) kk fp sp ll rr li ss ld) ∧ (¬ nI q ≤ bt_I o → wX_classes_74 post J x1 x2 (bt_I o) (nI i) (nI q) 1 (nI n) (nI a) (nI c) (nI h) kk fp sp ll rr li ss ld))) := by
  cases o with
  | none =>
    have H' : J (nI q) (nI (i + 1)) (nI n) (nI a) (nI c) (nI h) kk fp sp ll rr li ss ld := H
    have k : ∀ z0, wX_classes_74 post J x1 x2 (-2) (nI i) (nI q) z0 (nI n) (nI a) (nI c) (nI h) kk fp sp ll rr li ss ld := fun z0 => br_t rfl (nm_r (nI_1 i) H')
    exact br_c (fun _ => br_c (fun _ => k 0) (fun _ => k 1)) (fun _ => br_c (fun _ => k 0) (fun _ => k 1))
  | some d =>
    have hd := hd d rfl
    have m2 : ¬ nI d = -2 := bt_m2 (by omega)
    refine br_c (fun e => pk_le d q (fun z => ?_) (fun z => ?_)) (fun e => pk_le q d (fun z => ?_) (fun z => ?_))
    · rw [bt_ge (hb.mp e) (by omega)] at H
      exact br_f m2 (br_t rfl (nm_r (nI_1 i) H))
    · rw [bt_lt (hb.mp e) z] at H
      exact br_f m2 (br_f (by decide) (nm_r (nI_1 i) H))
    · rw [bt_le (fun y => e (hb.mpr y)) (by omega)] at H
      exact br_f m2 (br_t rfl (nm_r (nI_1 i) H))
    · rw [bt_gt (fun y => e (hb.mpr y)) z] at H
      exact br_f m2 (br_f (by decide) (nm_r (nI_1 i) H))
theorem xw_classes11 {post : Int32 → SX → Prop} {x1 : Int32} {b : Bool} {ld : Nat → Int32} (I : st_I n a c h K P Q Lf Rt St kk fp sp ll rr li ss) (hb : x1 = 0 ↔ b = true)
    (H : ∀ ld', post (bt_I (xf_s (mo_M n K P Q a Lf Rt c li h St) (fun w s => bt_O b (cl_N n K P Q a Lf Rt w) s) none (2 ^ a))) (nI n, nI a, nI c, nI h, kk, fp, sp, ll, rr, li, ss, ld')) : wX_classes_11 post x1 (nI n) (nI a) (nI c) (nI h) kk fp sp ll rr li ss ld := by
  have hn := st_n I
  have ha := st_a I
  have p8 := bi_p8 ha
  have bd := bt_bd (M := (mo_M n K P Q a Lf Rt c li h St)) (b := b) (N := fun w => cl_N n K P Q a Lf Rt w) (n := 16) (fun w => Nat.le_trans (cl_le n K P Q a Lf Rt w) hn)
  unfold wX_classes_11
  refine nm_r (bi_shl1 (show a < 31 by omega)) ?_
  refine loop_0 (σ := Int32 × (Nat → Int32)) (fun m i z => wX_classes_24 post x1 (nI (2 ^ a)) m z.1 (nI i) (nI n) (nI a) (nI c) (nI h) kk fp sp ll rr li ss z.2) (fun i z => z.1 = bt_I (xf_s (mo_M n K P Q a Lf Rt c li h St) (fun w s => bt_O b (cl_N n K P Q a Lf Rt w) s) none i)) (2 ^ a) (-2, ld) rfl ?_ ?_
  · intro m z G
    obtain ⟨x, ld'⟩ := z
    have G' : x = bt_I (xf_s (mo_M n K P Q a Lf Rt c li h St) (fun w s => bt_O b (cl_N n K P Q a Lf Rt w) s) none (2 ^ a)) := G
    exact pk_le (2 ^ a) (2 ^ a) (fun _ => by dsimp only; rw [G']; exact H ld') (fun z => absurd z (by omega))
  · intro m i z hi G ih
    obtain ⟨x, ld'⟩ := z
    have G' : x = bt_I (xf_s (mo_M n K P Q a Lf Rt c li h St) (fun w s => bt_O b (cl_N n K P Q a Lf Rt w) s) none i) := G
    refine pk_le (2 ^ a) i (fun z => absurd z (by omega)) (fun _ => ?_)
    refine xw_model I hi (fun ld2 L mm g1 g2 => ?_) (fun ld2 mm => ?_)
    · refine br_f (by decide) ?_
      refine xw_count hn g1 (ex_B hn g2) ?_
      rw [cl_eq g2]
      dsimp only
      rw [G']
      refine xw_better hb (bd i) (Nat.le_trans (cl_le n K P Q a Lf Rt i) hn) ?_
      refine ih (_, ld2) ?_
      show bt_I _ = bt_I _
      rw [xf_t mm]
    · refine br_t rfl (nm_r (nI_1 i) (ih (x, ld2) ?_))
      show x = _
      rw [G', xf_f mm]
end
