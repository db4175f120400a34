section
variable {n a c h : Nat} {K P Q Lf Rt St : Nat → Nat} {kk fp sp ll rr li ss : Nat → Int32}
variable {fm kn cs : Int32} {ob po mo cl : Nat → Int32}
theorem jo_x {n : Nat} {L : Nat → Nat} {x d v : Nat} (hv : v < n) (h : L v = x ∨ L v = d) : cc_jo n L x d v = x := by
  by_cases e : L v = d
  · exact cc_jo_t hv e
  · rw [cc_jo_f e]
    rcases h with h | h
    · exact h
    · exact absurd h e
theorem yw_unite32 {post : SY → Prop} {p q x d : Nat} {L : Nat → Nat} (hn : n ≤ 16) (hL : cc_A n ob L) (hB : ∀ t, t < n → L t < 16) (hp : p < 16) (hq : q < 16)
    (hpq : (p = x ∧ q = d) ∨ (p = d ∧ q = x)) (H : ∀ ob', cc_A n ob' (cc_jo n L x d) → post (nI n, nI a, nI c, nI h, fm, kn, cs, kk, fp, sp, ll, rr, li, ss, ob', po, mo, cl)) :
    ∃ m, wY_unite_32 post (nI p) (nI q) (nI x) (nI n) (nI a) (nI c) (nI h) fm kn cs m 0 kk fp sp ll rr li ss ob po mo cl := by
  refine loop_0 (σ := Nat → Int32) (fun m i s => wY_unite_32 post (nI p) (nI q) (nI x) (nI n) (nI a) (nI c) (nI h) fm kn cs m (nI i) kk fp sp ll rr li ss s po mo cl) (fun i s => cc_A n s (jl_m n L x d i)) n ob (jl_0 hL) ?_ ?_
  · intro m s G
    exact pk_le n n (fun _ => H s (jl_n G)) (fun z => absurd z (by omega))
  · intro m i s hi G ih
    refine pk_le n i (fun z => absurd z (by omega)) (fun _ => And.intro (pk_in i 16 (by omega)) ?_)
    have b := hB i hi
    rw [nI_clamp (show i < 2 ^ 31 by omega), jl_at G hi]
    refine pk_eq (L i) p (fun e => And.intro (pk_in i 16 (by omega)) (nm_e (nm_r (nI_1 i) (ih _ (jl_set G (jo_x hi (by omega))))))) (fun e => And.intro (pk_in i 16 (by omega)) ?_)
    refine pk_eq (L i) q (fun e' => And.intro (pk_in i 16 (by omega)) (nm_e (nm_r (nI_1 i) (ih _ (jl_set G (jo_x hi (by omega))))))) (fun e' => nm_r (nI_1 i) (ih s (jl_keep G (cc_jo_f (by omega)))))
theorem yw_unite {post : SY → Prop} {t u : Nat} {L : Nat → Nat} (hn : n ≤ 16) (hL : cc_A n ob L) (hB : ∀ t, t < n → L t < 16) (ht : t < n) (hu : u < n)
    (H : ∀ ob', cc_A n ob' (cc_jn n L t u) → post (nI n, nI a, nI c, nI h, fm, kn, cs, kk, fp, sp, ll, rr, li, ss, ob', po, mo, cl)) : wpY_unite post (nI n, nI a, nI c, nI h, fm, kn, cs, kk, fp, sp, ll, rr, li, ss, ob, po, mo, cl) (nI t) (nI u) := by
  unfold wpY_unite
  dsimp only
  have bt := hB t ht
  have bu := hB u hu
  rw [nI_clamp (show t < 2 ^ 31 by omega), nI_clamp (show u < 2 ^ 31 by omega), hL t ht, hL u hu]
  refine ⟨pk_in t 16 (by omega), nm_e ⟨pk_in u 16 (by omega), nm_e ?_⟩⟩
  refine pk_le (L u) (L t) (fun z => ?_) (fun z => ?_)
  · have x : ¬ L t < L u := by omega
    rw [cc_jn_ge x] at H
    exact yw_unite32 hn hL hB bt bu (Or.inr ⟨rfl, rfl⟩) H
  · rw [cc_jn_lt z] at H
    exact yw_unite32 hn hL hB bt bu (Or.inl ⟨rfl, rfl⟩) H
theorem yw_alike {post : Int32 → Prop} {t u : Nat} {L : Nat → Nat} (I : st_I n a c h K P Q Lf Rt St kk fp sp ll rr li ss) (hL : cc_A n ob L) (hB : ∀ t, t < n → L t < 16) (ht : t < n) (hu : u < n)
    (h1 : cc_al K P Q L t u → post 1) (h0 : ¬ cc_al K P Q L t u → post 0) : wpY_alike post (nI n, nI a, nI c, nI h, fm, kn, cs, kk, fp, sp, ll, rr, li, ss, ob, po, mo, cl) (nI t) (nI u) := by
  have hn := st_n I
  have W := st_W I
  have it : vp_in (nI t) 16 := pk_in t 16 (by omega)
  have iu : vp_in (nI u) 16 := pk_in u 16 (by omega)
  have k4 := st_K4 I t ht
  have k4' := st_K4 I u hu
  unfold wpY_alike
  dsimp only
  rw [nI_clamp (show t < 2 ^ 31 by omega), nI_clamp (show u < 2 ^ 31 by omega), st_K I t ht, st_K I u hu]
  refine ⟨it, iu, pk_eq (K t) (K u) (fun e => ⟨it, pk_eq (K t) 0 (fun e0 => h0 (fun z => z.2.1 e0)) (fun e0 => ⟨it, ?_⟩)⟩) (fun e => h0 (fun z => e z.1))⟩
  have e0' : K u ≠ 0 := fun z => e0 (e.trans z)
  have p1 := W.1 t ht e0
  have p2 := W.1 u hu e0'
  have b1 := hB _ p1
  have b2 := hB _ p2
  rw [st_P I t ht e0, st_P I u hu e0', nI_clamp (show P t < 2 ^ 31 by omega), nI_clamp (show P u < 2 ^ 31 by omega), hL _ p1, hL _ p2]
  refine ⟨pk_in (P t) 16 (by omega), iu, pk_in (P u) 16 (by omega), ?_⟩
  refine pk_eq (L (P t)) (L (P u)) (fun e1 => ⟨it, ?_⟩) (fun e1 => h0 (fun z => e1 z.2.2.1))
  refine pk_eq (K t) 2 (fun e2 => ⟨it, ?_⟩) (fun e2 => h1 ⟨e, e0, e1, fun z => absurd z e2⟩)
  have q1 := W.2.1 t ht e2
  have q2 := W.2.1 u hu (e.symm.trans e2)
  have c1 := hB _ q1
  have c2 := hB _ q2
  rw [st_Q I t ht e2, st_Q I u hu (e.symm.trans e2), nI_clamp (show Q t < 2 ^ 31 by omega), nI_clamp (show Q u < 2 ^ 31 by omega), hL _ q1, hL _ q2]
  refine ⟨pk_in (Q t) 16 (by omega), iu, pk_in (Q u) 16 (by omega), ?_⟩
  exact pk_eq (L (Q t)) (L (Q u)) (fun e3 => h1 ⟨e, e0, e1, fun _ => e3⟩) (fun e3 => h0 (fun z => e3 (z.2.2.2 e2)))
theorem dm_q {n t u i : Nat} (hu : u < n) (e : u + t * n = i) : t = i / n ∧ u = i % n := by
  have h0 : 0 < n := by omega
  rw [← e, Nat.add_mul_div_right u t h0, Nat.div_eq_of_lt hu, Nat.add_mul_mod_self_right, Nat.mod_eq_of_lt hu]
  exact ⟨by omega, rfl⟩
theorem dm_all {n t u : Nat} (ht : t < n) (hu : u < n) : u + t * n < n * n := by
  have h := Nat.mul_le_mul_right n (show t + 1 ≤ n from ht)
  rw [Nat.succ_mul] at h
  omega
theorem dm_sq {n : Nat} (h : n ≤ 16) : n * n ≤ 256 := Nat.mul_le_mul h h
theorem yw_close {post : SY → Prop} {s : Nat} (I : st_I n a c h K P Q Lf Rt St kk fp sp ll rr li ss) (hs : s < 256)
    (H : ∀ ob' L, cc_A n ob' L → cc_Ex n K P Q (cc_E a Lf Rt s) L → post (nI n, nI a, nI c, nI h, fm, kn, cs, kk, fp, sp, ll, rr, li, ss, ob', po, mo, cl)) : wpY_close post (nI n, nI a, nI c, nI h, fm, kn, cs, kk, fp, sp, ll, rr, li, ss, ob, po, mo, cl) (nI s) := by
  have hn := st_n I
  have ha := st_a I
  have W := st_W I
  have sq := dm_sq hn
  refine loop_0 (σ := Nat → Int32) (fun m i z => wY_close_2 post (nI s) (nI n) (nI a) (nI c) (nI h) fm kn cs m (nI i) kk fp sp ll rr li ss z po mo cl) (fun i z => cc_A i z (fun t => t)) n ob (fun t ht => absurd ht (Nat.not_lt_zero t)) ?_ ?_
  · intro m ob1 G
    refine pk_le n n (fun _ => ?_) (fun z => absurd z (by omega))
    refine loop_0 (σ := Nat → Int32) (fun m i z => wY_close_25 post (nI s) m (nI i) (nI n) (nI a) (nI c) (nI h) fm kn cs kk fp sp ll rr li ss z po mo cl) (fun i z => ∃ L, cc_A n z L ∧ cc_AI n K P Q a Lf Rt s i L) a ob1 ⟨_, G, cc_AI_0 n K P Q a Lf Rt s⟩ ?_ ?_
    · intro m ob2 G
      obtain ⟨L, g1, g2⟩ := G
      refine pk_le a a (fun _ => ?_) (fun z => absurd z (by omega))
      refine loop_m (σ := Int32 × (Nat → Int32) × (Nat → Nat)) (fun m z => wY_close_66 post m z.1 (nI n) (nI a) (nI c) (nI h) fm kn cs kk fp sp ll rr li ss z.2.1 po mo cl)
        (fun z => cc_A n z.2.1 z.2.2 ∧ ((z.1 = 1 ∧ cc_AI n K P Q a Lf Rt s a z.2.2) ∨ (z.1 = 0 ∧ cc_Ex n K P Q (cc_E a Lf Rt s) z.2.2)))
        (fun z => if z.1 = 0 then 0 else cc_nl n z.2.2 + 1) ?_ (1, ob2, L) ⟨g1, Or.inl ⟨rfl, g2⟩⟩
      intro m z G ih
      obtain ⟨x, ob3, L0⟩ := z
      obtain ⟨g1, g2⟩ := G
      rcases g2 with ⟨e, g2⟩ | ⟨e, g2⟩
      · have e : x = 1 := e
        have nx : ¬ x = 0 := by rw [e]; decide
        refine br_f nx ?_
        refine loop_0 (σ := Int32 × (Nat → Int32)) (fun m' j z => wY_close_74 post (wY_close_66 post m) m' z.1 (nI j) (nI n) (nI a) (nI c) (nI h) fm kn cs kk fp sp ll rr li ss z.2 po mo cl)
          (fun j z => ∃ L, cc_A n z.2 L ∧ rd_R n K P Q a Lf Rt s (fun t u => u < n ∧ u + t * n < j) L0 L z.1) (n * n) (0, ob3) ⟨L0, g1, rd_0 g2 (fun t u z => absurd z.2 (Nat.not_lt_zero _))⟩ ?_ ?_
        · intro m' z G
          obtain ⟨y, ob4⟩ := z
          obtain ⟨L, g3, g4⟩ := G
          have hD : ∀ t u, t < n → u < n → (u < n ∧ u + t * n < n * n) ∨ (t < n ∧ t + u * n < n * n) ∨ t = u := fun t u ht hu => Or.inl ⟨hu, dm_all ht hu⟩
          refine pk_le (n * n) (n * n) (fun _ => ?_) (fun z => absurd z (by omega)) (pk_mul n n)
          refine ih (y, ob4, L) ⟨g3, ?_⟩ ?_
          · rcases g4.2 with z | z
            · exact Or.inr ⟨z.1, rd_end W g4 z.1 hD⟩
            · exact Or.inl ⟨z.1, g4.1⟩
          · show (if y = 0 then 0 else cc_nl n L + 1) < (if x = 0 then 0 else cc_nl n L0 + 1)
            rw [if_neg nx]
            rcases g4.2 with z | z
            · rw [if_pos (show y = 0 from z.1)]; omega
            · have ny : ¬ y = 0 := by rw [show y = 1 from z.1]; decide
              rw [if_neg ny]
              have := z.2
              omega
        · intro m' j z hj G ih'
          obtain ⟨y, ob4⟩ := z
          obtain ⟨L, g3, g4⟩ := G
          have g3 : cc_A n ob4 L := g3
          have hB := ai_B hn g4.1
          have h0 : 0 < n := by
            rcases Nat.eq_zero_or_pos n with z | z
            · rw [z] at hj; omega
            · exact z
          have ht : j / n < n := Nat.div_lt_of_lt_mul hj
          have hu : j % n < n := Nat.mod_lt _ h0
          have b1 := hB _ ht
          have b2 := hB _ hu
          have hD : ∀ t u, (u < n ∧ u + t * n < j + 1) → (u < n ∧ u + t * n < j) ∨ (t = j / n ∧ u = j % n) := by
            intro t u z
            by_cases e : u + t * n = j
            · exact Or.inr (dm_q z.1 e)
            · exact Or.inl ⟨z.1, by omega⟩
          have nz : ¬ nI n = 0 := nI_ne0 h0 (by omega)
          refine pk_le (n * n) j (fun z => absurd z (by omega)) (fun _ => And.intro nz ?_) (pk_mul n n)
          refine nm_r (pk_div (show j < 2 ^ 31 by omega) h0 (show n < 2 ^ 31 by omega)) (And.intro nz (nm_r (pk_rem (show j < 2 ^ 31 by omega) h0 (show n < 2 ^ 31 by omega)) ?_))
          refine And.intro (pk_in (j / n) 16 (by omega)) (And.intro (pk_in (j % n) 16 (by omega)) ?_)
          dsimp only
          rw [nI_clamp (show j / n < 2 ^ 31 by omega), nI_clamp (show j % n < 2 ^ 31 by omega), g3 _ ht, g3 _ hu]
          refine pk_eq (L (j / n)) (L (j % n)) (fun e => nm_r (nI_1 j) (ih' (y, ob4) ⟨L, g3, rd_skip g4 (j / n) (j % n) hD (fun _ => e)⟩)) (fun e => ?_)
          refine yw_alike I g3 hB ht hu (fun al => ?_) (fun al => ?_)
          · refine br_f (by decide) ?_
            refine yw_unite hn g3 hB ht hu (fun ob5 g5 => ?_)
            exact nm_r (nI_1 j) (ih' (1, ob5) ⟨_, g5, rd_join _ W g4 ht hu e al⟩)
          · exact br_t rfl (nm_r (nI_1 j) (ih' (y, ob4) ⟨L, g3, rd_skip g4 (j / n) (j % n) hD (fun z => absurd z al)⟩))
      · exact br_t e (H ob3 L0 g1 g2)
    · intro m i ob2 hi G ih
      obtain ⟨L, g1, g2⟩ := G
      have w := W.2.2 i hi
      refine pk_le a i (fun z => absurd z (by omega)) (fun _ => ?_)
      rw [bi_bit (show s < 2 ^ 31 by omega) (show i < 32 by omega)]
      by_cases x : s.testBit i = true
      · refine br_t (by rw [bi_b1 x]; rfl) (And.intro (pk_in i 8 (by omega)) (And.intro (pk_in i 8 (by omega)) ?_))
        rw [nI_clamp (show i < 2 ^ 31 by omega), st_L I i hi, st_R I i hi]
        refine yw_unite hn g1 (ai_B hn g2) w.1 w.2 (fun ob3 g3 => ?_)
        exact nm_r (nI_1 i) (ih ob3 ⟨_, g3, cc_AI_join W g2 hi x⟩)
      · refine br_f (by rw [bi_b0 (bi_ft x)]; decide) (nm_r (nI_1 i) (ih ob2 ⟨L, g1, cc_AI_skip g2 x⟩))
  · intro m i ob1 hi G ih
    refine pk_le n i (fun z => absurd z (by omega)) (fun _ => And.intro (pk_in i 16 (by omega)) ?_)
    rw [nI_clamp (show i < 2 ^ 31 by omega)]
    refine nm_e (nm_r (nI_1 i) (ih _ (fun t ht => ?_)))
    by_cases e : t = i
    · rw [e]; exact pk_us
    · rw [pk_un e]; exact G t (by omega)
end
