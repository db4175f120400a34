section
variable {n a c h : Nat} {K P Q Lf Rt St : Nat → Nat} {kk fp sp ll rr li ss : Nat → Int32}
theorem ex_B {w : Nat} {L : Nat → Nat} (hn : n ≤ 16) (h : cc_Ex n K P Q (cc_E a Lf Rt w) L) : ∀ t, t < n → L t < 16 := by
  intro t ht
  have := (h.1 t ht).1
  omega
theorem xw_fol {post : Int32 → Prop} {L : Nat → Nat} {ld : Nat → Int32} (I : st_I n a c h K P Q Lf Rt St kk fp sp ll rr li ss) (hL : cc_A n ld L) (hB : ∀ t, t < n → L t < 16) (H : post (nI (fo_n L Lf Rt a))) :
    wpX_followingAtoms post (nI n, nI a, nI c, nI h, kk, fp, sp, ll, rr, li, ss, ld) := by
  have hn := st_n I
  have ha := st_a I
  have W := st_W I
  refine loop_0 (σ := Int32) (fun m i z => wX_followingAtoms_4 post (nI n) (nI a) (nI c) (nI h) kk fp sp ll rr li ss ld m z (nI i)) (fun i z => z = nI (fo_n L Lf Rt i)) a 0 rfl ?_ ?_
  · intro m z G
    exact pk_le a a (fun _ => by rw [G]; exact H) (fun z => absurd z (by omega))
  · intro m i z hi G ih
    have w := W.2.2 i hi
    have b1 := hB _ w.1
    have b2 := hB _ w.2
    refine pk_le a i (fun z => absurd z (by omega)) (fun _ => And.intro (pk_in i 8 (by omega)) ?_)
    rw [nI_clamp (show i < 2 ^ 31 by omega), st_L I i hi, st_R I i hi, nI_clamp (show Lf i < 2 ^ 31 by omega), nI_clamp (show Rt i < 2 ^ 31 by omega), hL _ w.1, hL _ w.2]
    refine ⟨pk_in (Lf i) 16 (by omega), pk_in i 8 (by omega), pk_in (Rt i) 16 (by omega), ?_⟩
    refine pk_eq (L (Lf i)) (L (Rt i)) (fun e => ?_) (fun e => nm_r (nI_1 i) (ih z (by rw [fo_f e]; exact G)))
    refine nm_e (nm_r (nI_1 i) (ih _ ?_))
    rw [G, bi_shl1 (show i < 31 by omega), bi_or, fo_t e]
theorem xw_model {post : Int32 → SX → Prop} {w : Nat} {ld : Nat → Int32} (I : st_I n a c h K P Q Lf Rt St kk fp sp ll rr li ss) (hw : w < 2 ^ a)
    (h1 : ∀ ld' L, (mo_M n K P Q a Lf Rt c li h St) w → cc_A n ld' L → cc_Ex n K P Q (cc_E a Lf Rt w) L → post 1 (nI n, nI a, nI c, nI h, kk, fp, sp, ll, rr, li, ss, ld')) (h0 : ∀ ld', ¬ (mo_M n K P Q a Lf Rt c li h St) w → post 0 (nI n, nI a, nI c, nI h, kk, fp, sp, ll, rr, li, ss, ld')) : wpX_isModel post (nI n, nI a, nI c, nI h, kk, fp, sp, ll, rr, li, ss, ld) (nI w) := by
  have hn := st_n I
  have p8 := bi_p8 (st_a I)
  have W := st_W I
  have hw' : w < 256 := by omega
  unfold wpX_isModel
  dsimp only
  refine xw_stack I hw' (fun m1 => br_f (by decide) ?_) (fun m1 => br_t rfl (h0 ld (fun z => m1 z.1)))
  refine xw_clauses I hw' (fun m2 => br_f (by decide) ?_) (fun m2 => br_t rfl (h0 ld (fun z => m2 z.2.1)))
  refine xw_close I hw' (fun ld' L g1 g2 => ?_)
  dsimp only
  refine xw_fol I g1 (ex_B hn g2) ?_
  have f := fo_lt L Lf Rt a
  refine pk_eq (fo_n L Lf Rt a) w (fun e => ?_) (fun e => ?_)
  · exact h1 ld' L ⟨m1, m2, (ps_iff W hw g2).mp e⟩ g1 g2
  · exact h0 ld' (fun z => e ((ps_iff W hw g2).mpr z.2.2))
theorem xw_count {post : Int32 → Prop} {L : Nat → Nat} {ld : Nat → Int32} (hn : n ≤ 16) (hL : cc_A n ld L) (hB : ∀ t, t < n → L t < 16) (H : post (nI (cc_nl n L))) :
    wpX_countLeaders post (nI n, nI a, nI c, nI h, kk, fp, sp, ll, rr, li, ss, ld) := by
  refine loop_0 (σ := Int32) (fun m i z => wX_countLeaders_4 post (nI n) (nI a) (nI c) (nI h) kk fp sp ll rr li ss ld m z (nI i)) (fun i z => z = nI (cc_cnt (fun t => decide (L t = t)) i)) n 0 rfl ?_ ?_
  · intro m z G
    exact pk_le n n (fun _ => by rw [G]; exact H) (fun z => absurd z (by omega))
  · intro m i z hi G ih
    have b1 := hB _ hi
    refine pk_le n i (fun z => absurd z (by omega)) (fun _ => And.intro (pk_in i 16 (by omega)) ?_)
    rw [nI_clamp (show i < 2 ^ 31 by omega), hL i hi]
    refine pk_eq (L i) i (fun e => ?_) (fun e => nm_r (nI_1 i) (ih z ?_))
    · refine nm_e (nm_r (nI_1 i) (ih _ ?_))
      rw [G, nI_1, cc_cnt_t (decide_eq_true e)]
    · rw [G, cc_cnt_f (fun y => e (of_decide_eq_true y))]
theorem xw_atomsAt {post : Int32 → Prop} {p : Nat} {ld : Nat → Int32} (I : st_I n a c h K P Q Lf Rt St kk fp sp ll rr li ss) (hp : p < 2 ^ 31) (H : post (nI (as_n St 0 p h))) : wpX_atomsAt post (nI n, nI a, nI c, nI h, kk, fp, sp, ll, rr, li, ss, ld) (nI p) := by
  have hh := st_h I
  have ha := st_a I
  refine loop_0 (σ := Int32) (fun m i z => wX_atomsAt_4 post (nI p) (nI n) (nI a) (nI c) (nI h) kk fp sp ll rr li ss ld m z (nI i)) (fun i z => z = nI (as_n St 0 p i)) h 0 rfl ?_ ?_
  · intro m z G
    exact pk_le h h (fun _ => by rw [G]; exact H) (fun z => absurd z (by omega))
  · intro m i z hi G ih
    have s2 := st_S2 I i hi
    refine pk_le h i (fun z => absurd z (by omega)) (fun _ => ?_)
    rw [bi_bit hp (show i < 32 by omega)]
    by_cases x : p.testBit i = true
    · refine br_t (by rw [bi_b1 x]; rfl) (And.intro (pk_in i 8 (by omega)) ?_)
      rw [nI_clamp (show i < 2 ^ 31 by omega), st_S I i hi, bi_1, bi_s1 (show St i < 2 ^ 31 by omega)]
      have b : St i % 2 < 2 := Nat.mod_lt _ (by decide)
      refine pk_eq (St i % 2) 0 (fun e => And.intro (pk_in i 8 (by omega)) ?_) (fun e => nm_r (nI_1 i) (ih z ?_))
      · refine nm_e (nm_r (nI_1 i) (ih _ ?_))
        rw [G, bi_shl1 (show St i / 2 < 31 by omega), bi_or, as_t x e]
      · rw [G, as_f (fun y => e y.2)]
    · refine br_f (by rw [bi_b0 (bi_ft x)]; decide) (nm_r (nI_1 i) (ih z ?_))
      rw [G, as_f (fun y => x y.1)]
theorem xw_oppsAt {post : Int32 → Prop} {p : Nat} {ld : Nat → Int32} (I : st_I n a c h K P Q Lf Rt St kk fp sp ll rr li ss) (hp : p < 2 ^ 31) (H : post (nI (as_n St 1 p h))) : wpX_oppositesAt post (nI n, nI a, nI c, nI h, kk, fp, sp, ll, rr, li, ss, ld) (nI p) := by
  have hh := st_h I
  have ha := st_a I
  refine loop_0 (σ := Int32) (fun m i z => wX_oppositesAt_4 post (nI p) (nI n) (nI a) (nI c) (nI h) kk fp sp ll rr li ss ld m z (nI i)) (fun i z => z = nI (as_n St 1 p i)) h 0 rfl ?_ ?_
  · intro m z G
    exact pk_le h h (fun _ => by rw [G]; exact H) (fun z => absurd z (by omega))
  · intro m i z hi G ih
    have s2 := st_S2 I i hi
    refine pk_le h i (fun z => absurd z (by omega)) (fun _ => ?_)
    rw [bi_bit hp (show i < 32 by omega)]
    by_cases x : p.testBit i = true
    · refine br_t (by rw [bi_b1 x]; rfl) (And.intro (pk_in i 8 (by omega)) ?_)
      rw [nI_clamp (show i < 2 ^ 31 by omega), st_S I i hi, bi_1, bi_s1 (show St i < 2 ^ 31 by omega)]
      have b : St i % 2 < 2 := Nat.mod_lt _ (by decide)
      refine pk_eq (St i % 2) 1 (fun e => And.intro (pk_in i 8 (by omega)) ?_) (fun e => nm_r (nI_1 i) (ih z ?_))
      · refine nm_e (nm_r (nI_1 i) (ih _ ?_))
        rw [G, bi_shl1 (show St i / 2 < 31 by omega), bi_or, as_t x e]
      · rw [G, as_f (fun y => e y.2)]
    · refine br_f (by rw [bi_b0 (bi_ft x)]; decide) (nm_r (nI_1 i) (ih z ?_))
      rw [G, as_f (fun y => x y.1)]
theorem xw_size {post : Int32 → Prop} {p : Nat} (hp : p < 2 ^ 31) (H : post (nI (sz_n p 8))) : wpX_countPlaces post (nI p) := by
  refine loop_0 (σ := Int32) (fun m i z => wX_countPlaces_4 post (nI p) m z (nI i)) (fun i z => z = nI (sz_n p i)) 8 0 rfl ?_ ?_
  · intro m z G
    exact pk_le 8 8 (fun _ => by rw [G]; exact H) (fun z => absurd z (by omega))
  · intro m i z hi G ih
    refine pk_le 8 i (fun z => absurd z (by omega)) (fun _ => ?_)
    rw [bi_bit hp (show i < 32 by omega)]
    refine nm_e (nm_r (nI_1 i) (ih _ ?_))
    rw [G, nI_add]
    rfl
theorem yw_size {post : Int32 → Prop} {p : Nat} (hp : p < 2 ^ 31) (H : post (nI (sz_n p 8))) : wpY_size post (nI p) := by
  refine loop_0 (σ := Int32) (fun m i z => wY_size_4 post (nI p) m z (nI i)) (fun i z => z = nI (sz_n p i)) 8 0 rfl ?_ ?_
  · intro m z G
    exact pk_le 8 8 (fun _ => by rw [G]; exact H) (fun z => absurd z (by omega))
  · intro m i z hi G ih
    refine pk_le 8 i (fun z => absurd z (by omega)) (fun _ => ?_)
    rw [bi_bit hp (show i < 32 by omega)]
    refine nm_e (nm_r (nI_1 i) (ih _ ?_))
    rw [G, nI_add]
    rfl
theorem xw_clash {post : Int32 → SX → Prop} {p : Nat} {ld : Nat → Int32} (I : st_I n a c h K P Q Lf Rt St kk fp sp ll rr li ss) (hp : p < 2 ^ 31)
    (h1 : ∀ ld', ¬ mo_B n K P Q a Lf Rt h St p → post 1 (nI n, nI a, nI c, nI h, kk, fp, sp, ll, rr, li, ss, ld')) (h0 : ∀ ld', mo_B n K P Q a Lf Rt h St p → post 0 (nI n, nI a, nI c, nI h, kk, fp, sp, ll, rr, li, ss, ld')) : wpX_clash post (nI n, nI a, nI c, nI h, kk, fp, sp, ll, rr, li, ss, ld) (nI p) := by
  have hn := st_n I
  have p8 := bi_p8 (st_a I)
  have W := st_W I
  have l0 := as_lt (o := 0) (p := p) h (st_S2 I)
  have l1 := as_lt (o := 1) (p := p) h (st_S2 I)
  unfold wpX_clash
  dsimp only
  refine xw_atomsAt I hp ?_
  refine xw_oppsAt I hp ?_
  refine xw_close I (by omega) (fun ld' L g1 g2 => ?_)
  dsimp only
  refine xw_fol I g1 (ex_B hn g2) ?_
  have f := fo_lt L Lf Rt a
  rw [nx_and]
  have lt : (fo_n L Lf Rt a &&& as_n St 1 p h) < 2 ^ a := Nat.and_lt_two_pow _ l1
  have key : ¬ (fo_n L Lf Rt a &&& as_n St 1 p h) = 0 ↔ ¬ mo_B n K P Q a Lf Rt h St p := by
    rw [an_ex, bl_iff (st_S2 I)]
    constructor
    · intro z
      obtain ⟨i, z1, z2⟩ := z
      have z3 := (fo_bit a i).mp z1
      exact ⟨i, z3.1, (g2.2 _ _ (W.2.2 i z3.1).1 (W.2.2 i z3.1).2).mp z3.2, z2⟩
    · intro z
      obtain ⟨i, hi, z1, z2⟩ := z
      exact ⟨i, (fo_bit a i).mpr ⟨hi, (g2.2 _ _ (W.2.2 i hi).1 (W.2.2 i hi).2).mpr z1⟩, z2⟩
  refine pk_eq (fo_n L Lf Rt a &&& as_n St 1 p h) 0 (fun e => ?_) (fun e => ?_)
  · exact h0 ld' (Classical.byContradiction (fun z => key.mpr z e))
  · exact h1 ld' (key.mp e)
end
