section
variable {n a c h : Nat} {K P Q Lf Rt St : Nat → Nat} {kk fp sp ll rr li ss : Nat → Int32}
variable {fm kn cs : Int32} {ob po mo cl : Nat → Int32}
theorem yw_fits {post : Int32 → Prop} {w : Nat} {L : Nat → Nat} (I : st_I n a c h K P Q Lf Rt St kk fp sp ll rr li ss) (hw : w < 256) (hL : cc_A n ob L) (X : cc_Ex n K P Q (cc_E a Lf Rt w) L)
    (h1 : mo_P n K P Q a Lf Rt w → post 1) (h0 : ¬ mo_P n K P Q a Lf Rt w → post 0) : wpY_fits post (nI n, nI a, nI c, nI h, fm, kn, cs, kk, fp, sp, ll, rr, li, ss, ob, po, mo, cl) (nI w) := by
  have hn := st_n I
  have ha := st_a I
  have W := st_W I
  have hB := ex_B hn X
  refine loop_0 (σ := Unit) (fun m i _ => wY_fits_2 post (nI w) (nI n) (nI a) (nI c) (nI h) fm kn cs kk fp sp ll rr li ss ob po mo cl m (nI i)) (fun i _ => ∀ k, k < i → ¬ w.testBit k = true → ¬ cc_F n K P Q a Lf Rt w (Lf k) (Rt k)) a () (fun k hk => absurd hk (Nat.not_lt_zero k)) ?_ ?_
  · intro m _ G
    exact pk_le a a (fun _ => h1 G) (fun z => absurd z (by omega))
  · intro m i _ hi G ih
    have v := W.2.2 i hi
    have b1 := hB _ v.1
    have b2 := hB _ v.2
    refine pk_le a i (fun z => absurd z (by omega)) (fun _ => ?_)
    rw [bi_bit (show w < 2 ^ 31 by omega) (show i < 32 by omega)]
    by_cases x : w.testBit i = true
    · refine br_f (by rw [bi_b1 x]; decide) (nm_r (nI_1 i) (ih () (fun k hk hb => ?_)))
      by_cases e : k = i
      · rw [e] at hb; exact absurd x hb
      · exact G k (by omega) hb
    · refine br_t (by rw [bi_b0 (bi_ft x)]; rfl) (And.intro (pk_in i 8 (by omega)) ?_)
      rw [nI_clamp (show i < 2 ^ 31 by omega), st_L I i hi, st_R I i hi, nI_clamp (show Lf i < 2 ^ 31 by omega), nI_clamp (show Rt i < 2 ^ 31 by omega), hL _ v.1, hL _ v.2]
      refine ⟨pk_in (Lf i) 16 (by omega), pk_in i 8 (by omega), pk_in (Rt i) 16 (by omega), ?_⟩
      refine ek_if (ex_iff X v.1 v.2 hn) (fun f => h0 (fun z => z i hi x f)) (fun f => nm_r (nI_1 i) (ih () (fun k hk hb => ?_)))
      by_cases e : k = i
      · rw [e]; exact f
      · exact G k (by omega) hb
theorem yw_sat50 {post : Int32 → Prop} {J : Int32 → Prop} {w j : Nat} (I : st_I n a c h K P Q Lf Rt St kk fp sp ll rr li ss) (hw : w < 256) (hj : j < c) (h1 : mo_D li w j → J (nI (j + 1))) (h0 : ¬ mo_D li w j → post 0) :
    ∃ m, wY_satisfies_50 post J (nI w) (nI j) (nI n) (nI a) (nI c) (nI h) fm kn cs kk fp sp ll rr li ss ob po mo cl m 0 (nI (3 * j)) := by
  have hc := st_c I
  have ha := st_a I
  have e3 : (3 * nI j) + 3 = nI (3 * j + 3) := by
    rw [show (3 : Int32) * nI j = nI (3 * j) from pk_mul 3 j]
    exact nI_add (3 * j) 3
  refine loop_0 (σ := Int32) (fun m i z => wY_satisfies_50 post J (nI w) (nI j) (nI n) (nI a) (nI c) (nI h) fm kn cs kk fp sp ll rr li ss ob po mo cl m z (nI (3 * j + i)))
    (fun i z => (z = 1 ∧ ∃ k, k < i ∧ mo_L w (li (3 * j + k))) ∨ (z = 0 ∧ ∀ k, k < i → ¬ mo_L w (li (3 * j + k)))) 3 0 (Or.inr ⟨rfl, fun k hk => absurd hk (Nat.not_lt_zero k)⟩) ?_ ?_
  · intro m z G
    refine pk_le (3 * j + 3) (3 * j + 3) (fun _ => ?_) (fun z => absurd z (by omega)) e3
    rcases G with ⟨e, k, hk, g⟩ | ⟨e, g⟩
    · refine br_f (by rw [e]; decide) (nm_r (nI_1 j) (h1 ⟨k, hk, g⟩))
    · refine br_t e (h0 (fun z => ?_))
      obtain ⟨k, hk, z⟩ := z
      exact g k hk z
  · intro m i z hi G ih
    refine pk_le (3 * j + 3) (3 * j + i) (fun z => absurd z (by omega)) (fun _ => And.intro (pk_in (3 * j + i) 36 (by omega)) ?_) e3
    rw [nI_clamp (show 3 * j + i < 2 ^ 31 by omega)]
    have keep : ¬ mo_L w (li (3 * j + i)) → ((z ||| 0 = 1 ∧ ∃ k, k < i + 1 ∧ mo_L w (li (3 * j + k))) ∨ (z ||| 0 = 0 ∧ ∀ k, k < i + 1 → ¬ mo_L w (li (3 * j + k)))) := by
      intro q
      rcases G with ⟨e, k, hk, g⟩ | ⟨e, g⟩
      · exact Or.inl ⟨by rw [e]; decide, k, by omega, g⟩
      · refine Or.inr ⟨by rw [e]; decide, fun k hk => ?_⟩
        by_cases ek : k = i
        · rw [ek]; exact q
        · exact g k (by omega)
    have e1 : nI (3 * j + i) + 1 = nI (3 * j + (i + 1)) := nI_1 (3 * j + i)
    rcases st_C I (3 * j + i) (by omega) with e | ⟨l, hl, e⟩
    · refine br_t (by rw [e]; decide) (nm_e (nm_r e1 (ih _ (keep (fun q => ?_)))))
      obtain ⟨l, hl, e', _⟩ := q
      exact bi_m1 l (by omega) (e'.symm.trans e)
    · refine br_f (by rw [e]; exact bi_nn (by omega)) (And.intro (pk_in (3 * j + i) 36 (by omega)) ?_)
      rw [e]
      refine yw_holdsIn (by omega) hw (fun q => ?_) (fun q => ?_)
      · refine br_f (by decide) (nm_e (nm_r e1 (ih _ (Or.inl ⟨?_, i, by omega, l, by omega, e, q⟩))))
        rcases G with ⟨e, _⟩ | ⟨e, _⟩
        · rw [e]; decide
        · rw [e]; decide
      · refine br_t rfl (nm_e (nm_r e1 (ih _ (keep (fun y => ?_)))))
        obtain ⟨l', hl', e', y⟩ := y
        have x := e.symm.trans e'
        rw [nI_eq (by omega) (by omega)] at x
        rw [x] at q
        exact q y
theorem yw_sat35 {post : Int32 → Prop} {w : Nat} (I : st_I n a c h K P Q Lf Rt St kk fp sp ll rr li ss) (hw : w < 256) (h1 : mo_C c li w → post 1) (h0 : ¬ mo_C c li w → post 0) :
    ∃ m, wY_satisfies_35 post (nI w) (nI n) (nI a) (nI c) (nI h) fm kn cs kk fp sp ll rr li ss ob po mo cl m 0 := by
  have hc := st_c I
  refine loop_0 (σ := Unit) (fun m i _ => wY_satisfies_35 post (nI w) (nI n) (nI a) (nI c) (nI h) fm kn cs kk fp sp ll rr li ss ob po mo cl m (nI i)) (fun i _ => ∀ k, k < i → mo_D li w k) c () (fun k hk => absurd hk (Nat.not_lt_zero k)) ?_ ?_
  · intro m _ G
    exact pk_le c c (fun _ => h1 G) (fun z => absurd z (by omega))
  · intro m i _ hi G ih
    refine pk_le c i (fun z => absurd z (by omega)) (fun _ => nm_r (pk_mul 3 i) ?_)
    refine yw_sat50 I hw hi (fun z => ih () (fun k hk => ?_)) (fun z => h0 (fun q => z (q i hi)))
    by_cases e : k = i
    · rw [e]; exact z
    · exact G k (by omega)
theorem yw_sat {post : Int32 → Prop} {w : Nat} (I : st_I n a c h K P Q Lf Rt St kk fp sp ll rr li ss) (hw : w < 256) (h1 : mo_S h St w → mo_C c li w → post 1) (h0 : ¬ (mo_S h St w ∧ mo_C c li w) → post 0) :
    wpY_satisfies post (nI n, nI a, nI c, nI h, fm, kn, cs, kk, fp, sp, ll, rr, li, ss, ob, po, mo, cl) (nI w) := by
  have hh := st_h I
  have ha := st_a I
  refine loop_0 (σ := Unit) (fun m i _ => wY_satisfies_2 post (nI w) (nI n) (nI a) (nI c) (nI h) fm kn cs kk fp sp ll rr li ss ob po mo cl m (nI i)) (fun i _ => ∀ k, k < i → mo_h w (St k)) h () (fun k hk => absurd hk (Nat.not_lt_zero k)) ?_ ?_
  · intro m _ G
    exact pk_le h h (fun _ => yw_sat35 I hw (h1 G) (fun z => h0 (fun q => z q.2))) (fun z => absurd z (by omega))
  · intro m i _ hi G ih
    refine pk_le h i (fun z => absurd z (by omega)) (fun _ => And.intro (pk_in i 8 (by omega)) ?_)
    have hs := st_S2 I i hi
    rw [nI_clamp (show i < 2 ^ 31 by omega), st_S I i hi]
    refine yw_holdsIn (by omega) hw (fun z => ?_) (fun z => ?_)
    · refine br_f (by decide) (nm_r (nI_1 i) (ih () (fun k hk => ?_)))
      by_cases e : k = i
      · rw [e]; exact z
      · exact G k (by omega)
    · exact br_t rfl (h0 (fun q => z (q.1 i hi)))
theorem yw_all43 {post : SY → Prop} {J : Int32 → Int32 → Int32 → Int32 → Int32 → Int32 → Int32 → Int32 → (Nat → Int32) → (Nat → Int32) → (Nat → Int32) → (Nat → Int32) → (Nat → Int32) → (Nat → Int32) → (Nat → Int32) → (Nat → Int32) → (Nat → Int32) → (Nat → Int32) → (Nat → Int32) → Prop}
    {w : Nat} {L : Nat → Nat} (hn : n ≤ 16) (hw : w < 256) (hL : cc_A n ob L)
    (H : ∀ cl', (∀ x, x < 16 * w → cl' x = cl x) → (∀ t, t < n → cl' (16 * w + t) = nI (L t)) → J (nI (w + 1)) (nI n) (nI a) (nI c) (nI h) fm kn cs kk fp sp ll rr li ss ob po mo cl') :
    ∃ m, wY_closeAll_43 post J (nI w) (nI n) (nI a) (nI c) (nI h) fm kn cs m 0 kk fp sp ll rr li ss ob po mo cl := by
  refine loop_0 (σ := Nat → Int32) (fun m i s => wY_closeAll_43 post J (nI w) (nI n) (nI a) (nI c) (nI h) fm kn cs m (nI i) kk fp sp ll rr li ss ob po mo s) (fun i s => (∀ x, x < 16 * w → s x = cl x) ∧ (∀ t, t < i → s (16 * w + t) = nI (L t))) n cl ⟨fun _ _ => rfl, fun t ht => absurd ht (Nat.not_lt_zero t)⟩ ?_ ?_
  · intro m s G
    exact pk_le n n (fun _ => nm_r (nI_1 w) (H s G.1 G.2)) (fun z => absurd z (by omega))
  · intro m i s hi G ih
    refine pk_le n i (fun z => absurd z (by omega)) (fun _ => And.intro (pk_in i 16 (by omega)) ?_)
    have e : (16 * nI w) + nI i = nI (16 * w + i) := by
      rw [show (16 : Int32) * nI w = nI (16 * w) from pk_mul 16 w]
      exact nI_add (16 * w) i
    rw [e, nI_clamp (show 16 * w + i < 2 ^ 31 by omega), nI_clamp (show i < 2 ^ 31 by omega), hL i hi]
    refine And.intro (pk_in (16 * w + i) 4096 (by omega)) (nm_e (nm_r (nI_1 i) (ih _ ⟨fun x hx => ?_, fun t ht => ?_⟩)))
    · rw [pk_un (by omega)]; exact G.1 x hx
    · by_cases et : t = i
      · rw [et]; exact pk_us
      · rw [pk_un (by omega)]; exact G.2 t (by omega)
theorem yw_closeAll {post : SY → Prop} (I : st_I n a c h K P Q Lf Rt St kk fp sp ll rr li ss) (HC : cs = 0 ∨ (cs = 1 ∧ cl_C n K P Q a Lf Rt po cl))
    (H : ∀ ob' po' cl', cl_C n K P Q a Lf Rt po' cl' → post (nI n, nI a, nI c, nI h, fm, kn, 1, kk, fp, sp, ll, rr, li, ss, ob', po', mo, cl')) : wpY_closeAll post (nI n, nI a, nI c, nI h, fm, kn, cs, kk, fp, sp, ll, rr, li, ss, ob, po, mo, cl) := by
  have hn := st_n I
  have ha := st_a I
  have p8 := bi_p8 ha
  rcases HC with e | ⟨e, hc⟩
  · refine br_t e ?_
    refine loop_0 (σ := (Nat → Int32) × (Nat → Int32) × (Nat → Int32)) (fun m i z => wY_closeAll_15 post m (nI i) (nI n) (nI a) (nI c) (nI h) fm kn 1 kk fp sp ll rr li ss z.1 z.2.1 mo z.2.2) (fun i z => ∀ w, w < i → cl_W n K P Q a Lf Rt z.2.1 z.2.2 w) (2 ^ a) (ob, po, cl) (fun w hw => absurd hw (Nat.not_lt_zero w)) ?_ ?_
    · intro m z G
      obtain ⟨ob1, po1, cl1⟩ := z
      exact pk_le (2 ^ a) (2 ^ a) (fun _ => H ob1 po1 cl1 G) (fun z => absurd z (by omega)) (bi_shl1 (show a < 31 by omega))
    · intro m i z hi G ih
      obtain ⟨ob1, po1, cl1⟩ := z
      refine pk_le (2 ^ a) i (fun z => absurd z (by omega)) (fun _ => ?_) (bi_shl1 (show a < 31 by omega))
      refine yw_close I (by omega) (fun ob2 L g1 g2 => ?_)
      have go : ∀ r, (mo_P n K P Q a Lf Rt i → r = 1) → (¬ mo_P n K P Q a Lf Rt i → r = 0) →
          ∃ m', wY_closeAll_43 post (wY_closeAll_15 post m) (nI i) (nI n) (nI a) (nI c) (nI h) fm kn 1 m' 0 kk fp sp ll rr li ss ob2 (upd po1 i r) mo cl1 := by
        intro r r1 r0
        refine yw_all43 hn (by omega) g1 (fun cl2 c1 c2 => ih (ob2, upd po1 i r, cl2) (fun w hw => ?_))
        show cl_W n K P Q a Lf Rt (upd po1 i r) cl2 w
        by_cases ew : w = i
        · rw [ew]
          exact ⟨fun z => by rw [pk_us]; exact r1 z, fun z => by rw [pk_us]; exact r0 z, L, g2, c2⟩
        · have G' := G w (by omega)
          obtain ⟨k1, k2, L', k3, k4⟩ := G'
          refine ⟨fun z => by rw [pk_un ew]; exact k1 z, fun z => by rw [pk_un ew]; exact k2 z, L', k3, fun t ht => ?_⟩
          rw [c1 _ (by omega)]
          exact k4 t ht
      have iw : vp_in (nI i) 256 := pk_in i 256 (by omega)
      refine yw_fits I (by omega) g1 g2 (fun z => ?_) (fun z => ?_)
      · refine And.intro iw ?_
        rw [nI_clamp (show i < 2 ^ 31 by omega)]
        exact nm_e (go _ (fun _ => rfl) (fun y => absurd z y))
      · refine And.intro iw ?_
        rw [nI_clamp (show i < 2 ^ 31 by omega)]
        exact nm_e (go _ (fun y => absurd y z) (fun _ => rfl))
  · have ne : ¬ cs = 0 := by rw [e]; decide
    refine br_f ne ?_
    rw [e]
    exact H ob po cl hc
theorem yw_learn {post : SY → Prop} (I : st_I n a c h K P Q Lf Rt St kk fp sp ll rr li ss) (HC : cs = 0 ∨ (cs = 1 ∧ cl_C n K P Q a Lf Rt po cl)) (HK : kn = 0 ∨ (kn = 1 ∧ kn_C (mo_M n K P Q a Lf Rt c li h St) (2 ^ a) fm mo))
    (H : ∀ fm' ob' po' mo' cl', cl_C n K P Q a Lf Rt po' cl' → kn_C (mo_M n K P Q a Lf Rt c li h St) (2 ^ a) fm' mo' → post (nI n, nI a, nI c, nI h, fm', 1, 1, kk, fp, sp, ll, rr, li, ss, ob', po', mo', cl')) : wpY_learn post (nI n, nI a, nI c, nI h, fm, kn, cs, kk, fp, sp, ll, rr, li, ss, ob, po, mo, cl) := by
  have hn := st_n I
  have ha := st_a I
  have p8 := bi_p8 ha
  unfold wpY_learn
  dsimp only
  refine yw_closeAll I HC (fun ob1 po1 cl1 hc => ?_)
  rcases HK with e | ⟨e, hk⟩
  · refine br_t e ?_
    refine loop_0 (σ := Int32 × (Nat → Int32)) (fun m i z => wY_learn_24 post (nI n) (nI a) (nI c) (nI h) 1 1 m (nI i) z.1 kk fp sp ll rr li ss ob1 po1 z.2 cl1) (fun i z => z.1 = nI (pc_n (mo_M n K P Q a Lf Rt c li h St) i) ∧ ∀ w, w < i → (mo_M n K P Q a Lf Rt c li h St) w → z.2 (pc_n (mo_M n K P Q a Lf Rt c li h St) w) = nI w) (2 ^ a) (0, mo) ⟨rfl, fun w hw => absurd hw (Nat.not_lt_zero w)⟩ ?_ ?_
    · intro m z G
      obtain ⟨x, mo1⟩ := z
      exact pk_le (2 ^ a) (2 ^ a) (fun _ => H x ob1 po1 mo1 cl1 hc G) (fun z => absurd z (by omega)) (bi_shl1 (show a < 31 by omega))
    · intro m i z hi G ih
      obtain ⟨x, mo1⟩ := z
      obtain ⟨G1, G2⟩ := G
      have G1 : x = nI (pc_n (mo_M n K P Q a Lf Rt c li h St) i) := G1
      have G2 : ∀ w, w < i → (mo_M n K P Q a Lf Rt c li h St) w → mo1 (pc_n (mo_M n K P Q a Lf Rt c li h St) w) = nI w := G2
      have pl := pc_le (mo_M n K P Q a Lf Rt c li h St) i
      have skip : ¬ (mo_M n K P Q a Lf Rt c li h St) i → (x = nI (pc_n (mo_M n K P Q a Lf Rt c li h St) (i + 1)) ∧ ∀ w, w < i + 1 → (mo_M n K P Q a Lf Rt c li h St) w → mo1 (pc_n (mo_M n K P Q a Lf Rt c li h St) w) = nI w) := by
        intro nm
        refine ⟨by rw [pc_f nm]; exact G1, fun w hw mw => ?_⟩
        by_cases ew : w = i
        · rw [ew] at mw; exact absurd mw nm
        · exact G2 w (by omega) mw
      refine pk_le (2 ^ a) i (fun z => absurd z (by omega)) (fun _ => And.intro (pk_in i 256 (by omega)) ?_) (bi_shl1 (show a < 31 by omega))
      rw [nI_clamp (show i < 2 ^ 31 by omega)]
      obtain ⟨k1, k2, _⟩ := hc i hi
      by_cases z : mo_P n K P Q a Lf Rt i
      · refine br_f (by rw [k1 z]; decide) ?_
        refine yw_sat I (by omega) (fun s1 s2 => ?_) (fun s => ?_)
        · have mm : (mo_M n K P Q a Lf Rt c li h St) i := ⟨s1, s2, z⟩
          refine br_f (by decide) (nm_e ?_)
          dsimp only
          rw [G1, nI_clamp (show pc_n (mo_M n K P Q a Lf Rt c li h St) i < 2 ^ 31 by omega)]
          refine And.intro (pk_in (pc_n (mo_M n K P Q a Lf Rt c li h St) i) 256 (by omega)) (nm_e (nm_r (nI_1 i) (ih (_, _) ⟨?_, fun w hw mw => ?_⟩)))
          · show nI (pc_n (mo_M n K P Q a Lf Rt c li h St) i) + 1 = _
            rw [nI_1, pc_t mm]
          · show upd mo1 (pc_n (mo_M n K P Q a Lf Rt c li h St) i) (nI i) (pc_n (mo_M n K P Q a Lf Rt c li h St) w) = nI w
            by_cases ew : w = i
            · rw [ew]; exact pk_us
            · rw [pk_un (fun y => ew (pc_inj (mo_M n K P Q a Lf Rt c li h St) mw mm y))]
              exact G2 w (by omega) mw
        · exact br_t rfl (nm_r (nI_1 i) (ih (x, mo1) (skip (fun y => s ⟨y.1, y.2.1⟩))))
      · exact br_t (k2 z) (nm_r (nI_1 i) (ih (x, mo1) (skip (fun y => z y.2.2))))
  · have ne : ¬ kn = 0 := by rw [e]; decide
    refine br_f ne ?_
    dsimp only
    rw [e]
    exact H fm ob1 po1 mo cl1 hc hk
end
