section
variable {n a c h : Nat} {K P Q Lf Rt St : Nat → Nat} {kk fp sp ll rr li ss : Nat → Int32}
theorem xw_join66 {post : SX → Prop} {x d : Nat} {L : Nat → Nat} {ld : Nat → Int32} (hn : n ≤ 16) (hL : cc_A n ld L) (hB : ∀ t, t < n → L t < 16) (hd : d < 16)
    (H : ∀ ld', cc_A n ld' (cc_jo n L x d) → post (nI n, nI a, nI c, nI h, kk, fp, sp, ll, rr, li, ss, ld')) : ∃ m, wX_join_66 post (nI x) (nI d) (nI n) (nI a) (nI c) (nI h) m 0 kk fp sp ll rr li ss ld := by
  refine loop_0 (σ := Nat → Int32) (fun m i s => wX_join_66 post (nI x) (nI d) (nI n) (nI a) (nI c) (nI h) m (nI i) kk fp sp ll rr li ss s) (fun i s => cc_A n s (jl_m n L x d i)) n ld (jl_0 hL) ?_ ?_
  · intro m s G
    exact pk_le n n (fun _ => H s (jl_n G)) (fun z => absurd z (by omega))
  · intro m i s hi G ih
    refine pk_le n i (fun z => absurd z (by omega)) (fun _ => And.intro (pk_in i 16 (by omega)) ?_)
    have b := hB i hi
    rw [nI_clamp (show i < 2 ^ 31 by omega), jl_at G hi]
    refine pk_eq (L i) d (fun e => And.intro (pk_in i 16 (by omega)) ?_) (fun e => nm_r (nI_1 i) (ih s (jl_keep G (cc_jo_f e))))
    exact nm_e (nm_r (nI_1 i) (ih _ (jl_set G (cc_jo_t hi e))))
theorem xw_join {post : SX → Prop} {t u : Nat} {L : Nat → Nat} {ld : Nat → Int32} (hn : n ≤ 16) (hL : cc_A n ld L) (hB : ∀ t, t < n → L t < 16) (ht : t < n) (hu : u < n)
    (H : ∀ ld', cc_A n ld' (cc_jn n L t u) → post (nI n, nI a, nI c, nI h, kk, fp, sp, ll, rr, li, ss, ld')) : wpX_join post (nI n, nI a, nI c, nI h, kk, fp, sp, ll, rr, li, ss, ld) (nI t) (nI u) := by
  unfold wpX_join
  dsimp only
  have it : vp_in (nI t) 16 := pk_in t 16 (by omega)
  have iu : vp_in (nI u) 16 := pk_in u 16 (by omega)
  have bt := hB t ht
  have bu := hB u hu
  refine ⟨it, iu, ?_⟩
  by_cases z : L u ≤ L t
  · have hc : ld (nI u).toNatClampNeg ≤ ld (nI t).toNatClampNeg := by
      rw [nI_clamp (show t < 2 ^ 31 by omega), nI_clamp (show u < 2 ^ 31 by omega), hL t ht, hL u hu, nI_leI (by omega) (by omega)]
      exact z
    refine br_t hc ⟨iu, ?_⟩
    unfold wX_join_30
    refine ⟨it, iu, br_t hc ⟨it, ?_⟩⟩
    rw [nI_clamp (show t < 2 ^ 31 by omega), nI_clamp (show u < 2 ^ 31 by omega), hL t ht, hL u hu]
    have x : ¬ L t < L u := by omega
    rw [cc_jn_ge x] at H
    exact nm_e (xw_join66 hn hL hB bt H)
  · have hc : ¬ ld (nI u).toNatClampNeg ≤ ld (nI t).toNatClampNeg := by
      rw [nI_clamp (show t < 2 ^ 31 by omega), nI_clamp (show u < 2 ^ 31 by omega), hL t ht, hL u hu, nI_leI (by omega) (by omega)]
      exact z
    refine br_f hc ⟨it, ?_⟩
    unfold wX_join_30
    refine ⟨it, iu, br_f hc ⟨iu, ?_⟩⟩
    rw [nI_clamp (show t < 2 ^ 31 by omega), nI_clamp (show u < 2 ^ 31 by omega), hL t ht, hL u hu]
    have x : L t < L u := by omega
    rw [cc_jn_lt x] at H
    exact nm_e (xw_join66 hn hL hB bu H)
theorem xw_alike {post : Int32 → Prop} {t u : Nat} {L : Nat → Nat} {ld : Nat → Int32} (I : st_I n a c h K P Q Lf Rt St kk fp sp ll rr li ss) (hL : cc_A n ld L) (hB : ∀ t, t < n → L t < 16) (ht : t < n) (hu : u < n)
    (h1 : cc_al K P Q L t u → post 1) (h0 : ¬ cc_al K P Q L t u → post 0) : wpX_areAlike post (nI n, nI a, nI c, nI h, kk, fp, sp, ll, rr, li, ss, ld) (nI t) (nI u) := by
  have hn := st_n I
  have W := st_W I
  have it : vp_in (nI t) 16 := pk_in t 16 (by omega)
  have iu : vp_in (nI u) 16 := pk_in u 16 (by omega)
  have k4 := st_K4 I t ht
  have k4' := st_K4 I u hu
  unfold wpX_areAlike
  dsimp only
  rw [nI_clamp (show t < 2 ^ 31 by omega), nI_clamp (show u < 2 ^ 31 by omega), st_K I t ht, st_K I u hu]
  refine ⟨it, iu, pk_eq (K t) (K u) (fun e => ⟨it, pk_eq (K t) 0 (fun e0 => h0 (fun z => z.2.1 e0)) (fun e0 => ⟨it, ?_⟩)⟩) (fun e => h0 (fun z => e z.1))⟩
  have e0' : K u ≠ 0 := fun z => e0 (e.trans z)
  have p1 := W.1 t ht e0
  have p2 := W.1 u hu e0'
  have b1 := hB _ p1
  have b2 := hB _ p2
  rw [st_P I t ht e0, st_P I u hu e0', nI_clamp (show P t < 2 ^ 31 by omega), nI_clamp (show P u < 2 ^ 31 by omega), hL _ p1, hL _ p2]
  refine ⟨pk_in (P t) 16 (by omega), iu, pk_in (P u) 16 (by omega), ?_⟩
  refine pk_eq (L (P t)) (L (P u)) (fun e1 => ⟨it, ?_⟩) (fun e1 => h0 (fun z => e1 z.2.2.1))
  refine pk_eq (K t) 2 (fun e2 => ⟨it, ?_⟩) (fun e2 => h1 ⟨e, e0, e1, fun z => absurd z e2⟩)
  have q1 := W.2.1 t ht e2
  have q2 := W.2.1 u hu (e.symm.trans e2)
  have c1 := hB _ q1
  have c2 := hB _ q2
  rw [st_Q I t ht e2, st_Q I u hu (e.symm.trans e2), nI_clamp (show Q t < 2 ^ 31 by omega), nI_clamp (show Q u < 2 ^ 31 by omega), hL _ q1, hL _ q2]
  refine ⟨pk_in (Q t) 16 (by omega), iu, pk_in (Q u) 16 (by omega), ?_⟩
  exact pk_eq (L (Q t)) (L (Q u)) (fun e3 => h1 ⟨e, e0, e1, fun _ => e3⟩) (fun e3 => h0 (fun z => e3 (z.2.2.2 e2)))
theorem ai_B {s m : Nat} {L : Nat → Nat} (hn : n ≤ 16) (h : cc_AI n K P Q a Lf Rt s m L) : ∀ t, t < n → L t < 16 := by
  intro t ht
  have := (h.1 t ht).1
  omega
theorem xw_joinAlike {post : Int32 → SX → Prop} {s : Nat} {L0 : Nat → Nat} {ld : Nat → Int32} (I : st_I n a c h K P Q Lf Rt St kk fp sp ll rr li ss) (hL : cc_A n ld L0) (hA : cc_AI n K P Q a Lf Rt s a L0)
    (H : ∀ ld' L x, cc_A n ld' L → rd_R n K P Q a Lf Rt s (fun t u => t < n ∧ u < t) L0 L x → post x (nI n, nI a, nI c, nI h, kk, fp, sp, ll, rr, li, ss, ld')) : wpX_joinAlike post (nI n, nI a, nI c, nI h, kk, fp, sp, ll, rr, li, ss, ld) := by
  have hn := st_n I
  have W := st_W I
  refine loop_0 (σ := Int32 × (Nat → Int32)) (fun m i s => wX_joinAlike_4 post m s.1 (nI i) (nI n) (nI a) (nI c) (nI h) kk fp sp ll rr li ss s.2) (fun i z => ∃ L, cc_A n z.2 L ∧ rd_R n K P Q a Lf Rt s (fun t u => t < i ∧ u < t) L0 L z.1) n (0, ld) ⟨L0, hL, rd_0 hA (fun t u z => absurd z.1 (Nat.not_lt_zero t))⟩ ?_ ?_
  · intro m z G
    obtain ⟨x, ld'⟩ := z
    obtain ⟨L, g1, g2⟩ := G
    refine pk_le n n (fun _ => And.intro ?_ (H ld' L x g1 g2)) (fun z => absurd z (by omega))
    show narrow .boolean (.int x) = .int x
    rcases g2.2 with y | y
    · rw [show x = 0 from y.1]; rfl
    · rw [show x = 1 from y.1]; rfl
  · intro m i z hi G ih
    obtain ⟨x, ld'⟩ := z
    refine pk_le n i (fun z => absurd z (by omega)) (fun _ => ?_)
    refine loop_0 (σ := Int32 × (Nat → Int32)) (fun m' j s => wX_joinAlike_14 post (wX_joinAlike_4 post m) (nI i) m' s.1 (nI j) (nI n) (nI a) (nI c) (nI h) kk fp sp ll rr li ss s.2)
      (fun j z => ∃ L, cc_A n z.2 L ∧ rd_R n K P Q a Lf Rt s (fun t u => (t < i ∧ u < t) ∨ (t = i ∧ u < j)) L0 L z.1) i (x, ld') ?_ ?_ ?_
    · obtain ⟨L, g1, g2⟩ := G
      exact ⟨L, g1, rd_same g2 (fun t u z => by omega)⟩
    · intro m' z G
      obtain ⟨x, ld'⟩ := z
      obtain ⟨L, g1, g2⟩ := G
      refine pk_le i i (fun _ => nm_r (nI_1 i) (ih (x, ld') ⟨L, g1, rd_same g2 (fun t u z => ?_)⟩)) (fun z => absurd z (by omega))
      by_cases e : t = i
      · exact Or.inr ⟨e, by omega⟩
      · exact Or.inl ⟨by omega, z.2⟩
    · intro m' j z hj G ih'
      obtain ⟨x, ld'⟩ := z
      obtain ⟨L, g1, g2⟩ := G
      have g1 : cc_A n ld' L := g1
      have hB := ai_B hn g2.1
      have b1 := hB i hi
      have b2 := hB j (by omega)
      have hD : ∀ t u, ((t < i ∧ u < t) ∨ (t = i ∧ u < j + 1)) → ((t < i ∧ u < t) ∨ (t = i ∧ u < j)) ∨ (t = i ∧ u = j) := by
        intro t u z
        omega
      refine pk_le i j (fun z => absurd z (by omega)) (fun _ => And.intro (pk_in i 16 (by omega)) (And.intro (pk_in j 16 (by omega)) ?_))
      dsimp only
      rw [nI_clamp (show i < 2 ^ 31 by omega), nI_clamp (show j < 2 ^ 31 by omega), g1 i hi, g1 j (by omega)]
      refine pk_eq (L i) (L j) (fun e => nm_r (nI_1 j) (ih' (x, ld') ⟨L, g1, rd_skip g2 i j hD (fun _ => e)⟩)) (fun e => ?_)
      refine xw_alike I g1 hB hi (by omega) (fun al => ?_) (fun al => ?_)
      · refine br_f (by decide) ?_
        refine xw_join hn g1 hB hi (by omega) (fun ld2 g3 => ?_)
        exact nm_r (nI_1 j) (ih' (1, ld2) ⟨_, g3, rd_join _ W g2 hi (by omega) e al⟩)
      · exact br_t rfl (nm_r (nI_1 j) (ih' (x, ld') ⟨L, g1, rd_skip g2 i j hD (fun z => absurd z al)⟩))
theorem xw_close {post : SX → Prop} {s : Nat} {ld : Nat → Int32} (I : st_I n a c h K P Q Lf Rt St kk fp sp ll rr li ss) (hs : s < 256)
    (H : ∀ ld' L, cc_A n ld' L → cc_Ex n K P Q (cc_E a Lf Rt s) L → post (nI n, nI a, nI c, nI h, kk, fp, sp, ll, rr, li, ss, ld')) : wpX_closeUnder post (nI n, nI a, nI c, nI h, kk, fp, sp, ll, rr, li, ss, ld) (nI s) := by
  have hn := st_n I
  have ha := st_a I
  have W := st_W I
  refine loop_0 (σ := Nat → Int32) (fun m i z => wX_closeUnder_2 post (nI s) (nI n) (nI a) (nI c) (nI h) m (nI i) kk fp sp ll rr li ss z) (fun i z => cc_A i z (fun t => t)) n ld (fun t ht => absurd ht (Nat.not_lt_zero t)) ?_ ?_
  · intro m ld1 G
    refine pk_le n n (fun _ => ?_) (fun z => absurd z (by omega))
    refine loop_0 (σ := Nat → Int32) (fun m i z => wX_closeUnder_25 post (nI s) m (nI i) (nI n) (nI a) (nI c) (nI h) kk fp sp ll rr li ss z) (fun i z => ∃ L, cc_A n z L ∧ cc_AI n K P Q a Lf Rt s i L) a ld1 ⟨_, G, cc_AI_0 n K P Q a Lf Rt s⟩ ?_ ?_
    · intro m ld2 G
      obtain ⟨L, g1, g2⟩ := G
      refine pk_le a a (fun _ => ?_) (fun z => absurd z (by omega))
      refine loop_0 (σ := Int32 × (Nat → Int32)) (fun m i z => wX_closeUnder_68 post m z.1 (nI i) (nI n) (nI a) (nI c) (nI h) kk fp sp ll rr li ss z.2) (fun i z => ∃ L, cc_A n z.2 L ∧ rd_X n K P Q a Lf Rt s i L z.1) 16 (1, ld2) ⟨L, g1, Or.inl ⟨rfl, g2, cc_nl_le n L⟩⟩ ?_ ?_
      · intro m z G
        obtain ⟨x, ld3⟩ := z
        obtain ⟨L, g1, g2⟩ := G
        exact br_c (fun _ => H ld3 L g1 (rd_X16 hn g2)) (fun _ => pk_le 16 16 (fun _ => H ld3 L g1 (rd_X16 hn g2)) (fun z => absurd z (by omega)))
      · intro m i z hi G ih
        obtain ⟨x, ld3⟩ := z
        obtain ⟨L, g1, g2⟩ := G
        rcases g2 with ⟨e, g2, g3⟩ | ⟨e, g2⟩
        · have e' : x = 1 := e
          refine br_f (show ¬ x = 0 by rw [e']; decide) (pk_le 16 i (fun z => absurd z (by omega)) (fun _ => ?_))
          refine xw_joinAlike I g1 g2 (fun ld4 L4 x4 g4 g5 => ?_)
          exact nm_r (nI_1 i) (ih (x4, ld4) ⟨L4, g4, rd_Xs W g3 g5 (fun t u ht hu => by omega)⟩)
        · exact br_t e (H ld3 L g1 g2)
    · intro m i ld2 hi G ih
      obtain ⟨L, g1, g2⟩ := G
      have w := W.2.2 i hi
      refine pk_le a i (fun z => absurd z (by omega)) (fun _ => ?_)
      rw [bi_bit (show s < 2 ^ 31 by omega) (show i < 32 by omega)]
      have b : s / 2 ^ i % 2 < 2 := Nat.mod_lt _ (by decide)
      by_cases x : s.testBit i = true
      · refine br_t (by rw [bi_b1 x]; rfl) (And.intro (pk_in i 8 (by omega)) (And.intro (pk_in i 8 (by omega)) ?_))
        rw [nI_clamp (show i < 2 ^ 31 by omega), st_L I i hi, st_R I i hi]
        refine xw_join hn g1 (ai_B hn g2) w.1 w.2 (fun ld3 g3 => ?_)
        exact nm_r (nI_1 i) (ih ld3 ⟨_, g3, cc_AI_join W g2 hi x⟩)
      · refine br_f (by rw [bi_b0 (bi_ft x)]; decide) (nm_r (nI_1 i) (ih ld2 ⟨L, g1, cc_AI_skip g2 x⟩))
  · intro m i ld1 hi G ih
    refine pk_le n i (fun z => absurd z (by omega)) (fun _ => And.intro (pk_in i 16 (by omega)) ?_)
    rw [nI_clamp (show i < 2 ^ 31 by omega)]
    refine nm_e (nm_r (nI_1 i) (ih _ (fun t ht => ?_)))
    by_cases e : t = i
    · rw [e]; exact pk_us
    · rw [pk_un e]; exact G t (by omega)
end
