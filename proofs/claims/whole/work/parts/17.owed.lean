section
/-- the relation: what both sides keep alike, and the reference's caches right where they say so -/
def i_Rel (k : Nat) (u : SX) (v : SY) : Prop :=
  ∃ (n a c h : Nat) (K P Q Lf Rt St : Nat → Nat) (kk fp sp fi se ll rr li ss ld : Nat → Int32) (fm kn cs : Int32) (ob po mo cl : Nat → Int32),
    u = (nI n, nI a, nI c, nI h, kk, fp, sp, ll, rr, li, ss, ld) ∧ v = (nI n, nI a, nI c, nI h, fm, kn, cs, kk, fi, se, ll, rr, li, ss, ob, po, mo, cl) ∧
    st_I n a c h K P Q Lf Rt St kk fp sp ll rr li ss ∧ st_I n a c h K P Q Lf Rt St kk fi se ll rr li ss ∧
    (cs = 0 ∨ (cs = 1 ∧ cl_C n K P Q a Lf Rt po cl)) ∧ (kn = 0 ∨ (kn = 1 ∧ kn_C (mo_M n K P Q a Lf Rt c li h St) (2 ^ a) fm mo))
theorem re_mk {k n a c h : Nat} {K P Q Lf Rt St : Nat → Nat} {kk fp sp fi se ll rr li ss ld : Nat → Int32} {fm kn cs : Int32} {ob po mo cl : Nat → Int32}
    (I1 : st_I n a c h K P Q Lf Rt St kk fp sp ll rr li ss) (I2 : st_I n a c h K P Q Lf Rt St kk fi se ll rr li ss)
    (HC : cs = 0 ∨ (cs = 1 ∧ cl_C n K P Q a Lf Rt po cl)) (HK : kn = 0 ∨ (kn = 1 ∧ kn_C (mo_M n K P Q a Lf Rt c li h St) (2 ^ a) fm mo)) :
    i_Rel k (nI n, nI a, nI c, nI h, kk, fp, sp, ll, rr, li, ss, ld) (nI n, nI a, nI c, nI h, fm, kn, cs, kk, fi, se, ll, rr, li, ss, ob, po, mo, cl) :=
  ⟨n, a, c, h, K, P, Q, Lf, Rt, St, kk, fp, sp, fi, se, ll, rr, li, ss, ld, fm, kn, cs, ob, po, mo, cl, rfl, rfl, I1, I2, HC, HK⟩
theorem i_up {k : Nat} {u : SX} {v : SY} (h : i_Rel k u v) : i_Rel (k + 4) u v := h
theorem i_vc0 : wpX_init (fun u => wpY_init (fun v => i_Rel 0 u v)) := by
  unfold wpX_init wpY_init
  exact re_mk (n := 0) (a := 0) (c := 0) (h := 0) (K := fun _ => 0) (P := fun _ => 0) (Q := fun _ => 0) (Lf := fun _ => 0) (Rt := fun _ => 0) (St := fun _ => 0) (st_0 _ _ _ _ _ _ _ _ _ _ _ _ _) (st_0 _ _ _ _ _ _ _ _ _ _ _ _ _) (Or.inl rfl) (Or.inl rfl)
theorem i_vc_term {k : Nat} {u : SX} {v : SY} (I : i_Rel k u v) (hk : k + 4 ≤ 2048) (v1 : Int32) (v2 : Int32) (v3 : Int32) : wpX_term (fun r u' => wpY_term (fun r' v' => r' = r ∧ i_Rel (k + 4) u' v') v v1 v2 v3) u v1 v2 v3 := by
  obtain ⟨n, a, c, h, K, P, Q, Lf, Rt, St, kk, fp, sp, fi, se, ll, rr, li, ss, ld, fm, kn, cs, ob, po, mo, cl, rfl, rfl, I1, I2, HC, HK⟩ := I
  have hn := st_n I1
  refine xw_term hn (fun κ fp' sp' h16 h4 e hx hy f1 f2 s1 s2 => ?_) (fun nT => ?_)
  · refine yw_term hn (fun κ' fi' se' _ h4' e' _ _ g1 g2 q1 q2 => ?_) (fun nT => absurd ⟨h16, κ, h4, e, hx, hy⟩ nT)
    have ee := e.symm.trans e'
    rw [nI_eq (by omega) (by omega)] at ee
    rw [← ee] at g2 q2
    rw [← ee]
    have pa : ∃ pa : Nat, κ ≠ 0 → (pa < n ∧ v2 = nI pa) := by
      by_cases z : κ = 0
      · exact ⟨0, fun y => absurd z y⟩
      · obtain ⟨j, hj⟩ := hx z
        exact ⟨j, fun _ => hj⟩
    have pb : ∃ pb : Nat, κ = 2 → (pb < n ∧ v3 = nI pb) := by
      by_cases z : κ = 2
      · obtain ⟨j, hj⟩ := hy z
        exact ⟨j, fun _ => hj⟩
      · exact ⟨0, fun y => absurd y z⟩
    obtain ⟨pa, hpa⟩ := pa
    obtain ⟨pb, hpb⟩ := pb
    refine ⟨rfl, re_mk (st_term I1 h16 h4 (fun z => (hpa z).1) (fun z => (hpb z).1) f1 (fun z => ?_) s1 (fun z => ?_)) (st_term I2 h16 h4 (fun z => (hpa z).1) (fun z => (hpb z).1) g1 (fun z => ?_) q1 (fun z => ?_)) (Or.inl rfl) (Or.inl rfl)⟩
    · rw [f2 z]; exact (hpa z).2
    · rw [s2 z]; exact (hpb z).2
    · rw [g2 z]; exact (hpa z).2
    · rw [q2 z]; exact (hpb z).2
  · refine yw_term hn (fun κ fi' se' h16 h4 e hx hy _ _ _ _ => absurd ⟨h16, κ, h4, e, hx, hy⟩ nT) (fun _ => ⟨rfl, re_mk I1 I2 HC HK⟩)
theorem i_vc_atom {k : Nat} {u : SX} {v : SY} (I : i_Rel k u v) (hk : k + 4 ≤ 2048) (v1 : Int32) (v2 : Int32) : wpX_atom (fun r u' => wpY_atom (fun r' v' => r' = r ∧ i_Rel (k + 4) u' v') v v1 v2) u v1 v2 := by
  obtain ⟨n, a, c, h, K, P, Q, Lf, Rt, St, kk, fp, sp, fi, se, ll, rr, li, ss, ld, fm, kn, cs, ob, po, mo, cl, rfl, rfl, I1, I2, HC, HK⟩ := I
  have hn := st_n I1
  have ha := st_a I1
  refine xw_atom hn ha (fun t u h8 ht hu et eu => ?_) (fun nT => ?_)
  · refine yw_atom hn ha (fun _ _ _ _ _ _ _ => ?_) (fun nT => absurd ⟨h8, ⟨t, ht, et⟩, ⟨u, hu, eu⟩⟩ nT)
    rw [et, eu]
    exact ⟨rfl, re_mk (st_atom I1 h8 ht hu) (st_atom I2 h8 ht hu) (Or.inl rfl) (Or.inl rfl)⟩
  · exact yw_atom hn ha (fun t u h8 ht hu et eu => absurd ⟨h8, ⟨t, ht, et⟩, ⟨u, hu, eu⟩⟩ nT) (fun _ => ⟨rfl, re_mk I1 I2 HC HK⟩)
theorem i_vc_clause {k : Nat} {u : SX} {v : SY} (I : i_Rel k u v) (hk : k + 4 ≤ 2048) (v1 : Int32) (v2 : Int32) (v3 : Int32) : wpX_clause (fun r u' => wpY_clause (fun r' v' => r' = r ∧ i_Rel (k + 4) u' v') v v1 v2 v3) u v1 v2 v3 := by
  obtain ⟨n, a, c, h, K, P, Q, Lf, Rt, St, kk, fp, sp, fi, se, ll, rr, li, ss, ld, fm, kn, cs, ob, po, mo, cl, rfl, rfl, I1, I2, HC, HK⟩ := I
  have ha := st_a I1
  have hc := st_c I1
  refine xw_clauseM ha hc (fun T => ?_) (fun nT => ?_)
  · refine yw_clauseM ha hc (fun _ => ⟨rfl, re_mk (st_clause I1 T.1 T.2.2.1 T.2.2.2.1 T.2.2.2.2) (st_clause I2 T.1 T.2.2.1 T.2.2.2.1 T.2.2.2.2) HC (Or.inl rfl)⟩) (fun nT => absurd T nT)
  · exact yw_clauseM ha hc (fun T => absurd T nT) (fun _ => ⟨rfl, re_mk I1 I2 HC HK⟩)
theorem i_vc_push {k : Nat} {u : SX} {v : SY} (I : i_Rel k u v) (hk : k + 4 ≤ 2048) (v1 : Int32) : wpX_push (fun r u' => wpY_push (fun r' v' => r' = r ∧ i_Rel (k + 4) u' v') v v1) u v1 := by
  obtain ⟨n, a, c, h, K, P, Q, Lf, Rt, St, kk, fp, sp, fi, se, ll, rr, li, ss, ld, fm, kn, cs, ob, po, mo, cl, rfl, rfl, I1, I2, HC, HK⟩ := I
  have ha := st_a I1
  have hh := st_h I1
  refine xw_push ha hh (fun l h8 hl el => ?_) (fun nT => ?_)
  · refine yw_push ha hh (fun _ _ _ _ => ?_) (fun nT => absurd ⟨h8, l, hl, el⟩ nT)
    rw [el]
    exact ⟨rfl, re_mk (st_push I1 h8 hl) (st_push I2 h8 hl) HC (Or.inl rfl)⟩
  · exact yw_push ha hh (fun l h8 hl el => absurd ⟨h8, l, hl, el⟩ nT) (fun _ => ⟨rfl, re_mk I1 I2 HC HK⟩)
theorem i_vc_pop {k : Nat} {u : SX} {v : SY} (I : i_Rel k u v) (hk : k + 4 ≤ 2048) : wpX_pop (fun r u' => wpY_pop (fun r' v' => r' = r ∧ i_Rel (k + 4) u' v') v) u := by
  obtain ⟨n, a, c, h, K, P, Q, Lf, Rt, St, kk, fp, sp, fi, se, ll, rr, li, ss, ld, fm, kn, cs, ob, po, mo, cl, rfl, rfl, I1, I2, HC, HK⟩ := I
  have hh := st_h I1
  refine xw_pop hh (fun z => ?_) (fun z => ?_)
  · exact yw_pop hh (fun _ => ⟨rfl, re_mk (st_low I1 (Nat.le_refl c) (Nat.sub_le h 1)) (st_low I2 (Nat.le_refl c) (Nat.sub_le h 1)) HC (Or.inl rfl)⟩) (fun y => absurd y (by omega))
  · exact yw_pop hh (fun y => absurd y (by omega)) (fun _ => ⟨rfl, re_mk I1 I2 HC HK⟩)
theorem i_vc_clear {k : Nat} {u : SX} {v : SY} (I : i_Rel k u v) (hk : k + 4 ≤ 2048) (v1 : Int32) : wpX_clear (fun r u' => wpY_clear (fun r' v' => r' = r ∧ i_Rel (k + 4) u' v') v v1) u v1 := by
  obtain ⟨n, a, c, h, K, P, Q, Lf, Rt, St, kk, fp, sp, fi, se, ll, rr, li, ss, ld, fm, kn, cs, ob, po, mo, cl, rfl, rfl, I1, I2, HC, HK⟩ := I
  unfold wpX_clear wpY_clear
  dsimp only
  refine br_c (fun e => ?_) (fun e => br_c (fun e1 => ?_) (fun e1 => br_c (fun e2 => ?_) (fun e2 => ?_)))
  · refine yw_in (m := 3) rfl (by decide) (fun _ _ _ => br_f (by decide) ?_) (fun z => absurd ⟨0, by decide, e⟩ z)
    rw [e]
    refine br_t rfl ?_
    unfold wY_clear_37 wY_clear_48 wY_clear_58
    refine br_f (by decide) (br_f (by decide) (br_t rfl ?_))
    exact ⟨rfl, re_mk (n := 0) (a := 0) (c := 0) (h := 0) (st_0 _ _ _ _ _ _ _ K P Q Lf Rt St) (st_0 _ _ _ _ _ _ _ K P Q Lf Rt St) (Or.inl rfl) (Or.inl rfl)⟩
  · refine yw_in (m := 3) rfl (by decide) (fun _ _ _ => br_f (by decide) ?_) (fun z => absurd ⟨1, by decide, e1⟩ z)
    rw [e1]
    refine br_f (by decide) (br_t rfl ?_)
    unfold wY_clear_37 wY_clear_48 wY_clear_58
    refine br_f (by decide) (br_t rfl (br_f (by decide) ?_))
    exact ⟨rfl, re_mk (c := 0) (st_low I1 (Nat.zero_le c) (Nat.le_refl h)) (st_low I2 (Nat.zero_le c) (Nat.le_refl h)) HC (Or.inl rfl)⟩
  · refine yw_in (m := 3) rfl (by decide) (fun _ _ _ => br_f (by decide) ?_) (fun z => absurd ⟨2, by decide, e2⟩ z)
    rw [e2]
    refine br_f (by decide) (br_f (by decide) ?_)
    unfold wY_clear_37 wY_clear_48 wY_clear_58
    refine br_t rfl (br_f (by decide) (br_f (by decide) ?_))
    exact ⟨rfl, re_mk (h := 0) (st_low I1 (Nat.le_refl c) (Nat.zero_le h)) (st_low I2 (Nat.le_refl c) (Nat.zero_le h)) HC (Or.inl rfl)⟩
  · refine yw_in (m := 3) rfl (by decide) (fun j hj ej => ?_) (fun z => br_t rfl ⟨rfl, re_mk I1 I2 HC HK⟩)
    have hj : j = 0 ∨ j = 1 ∨ j = 2 := by omega
    rcases hj with z | z | z
    · rw [z] at ej; exact absurd ej e
    · rw [z] at ej; exact absurd ej e1
    · rw [z] at ej; exact absurd ej e2
theorem i_vc_models {k : Nat} {u : SX} {v : SY} (I : i_Rel k u v) (hk : k + 4 ≤ 2048) : wpX_models (fun r u' => wpY_models (fun r' v' => r' = r ∧ i_Rel (k + 4) u' v') v) u := by
  obtain ⟨n, a, c, h, K, P, Q, Lf, Rt, St, kk, fp, sp, fi, se, ll, rr, li, ss, ld, fm, kn, cs, ob, po, mo, cl, rfl, rfl, I1, I2, HC, HK⟩ := I
  exact xw_models I1 (fun ld' => yw_models I2 HC HK (fun fm' ob' po' mo' cl' hc hk => ⟨rfl, re_mk I1 I2 (Or.inr ⟨rfl, hc⟩) (Or.inr ⟨rfl, hk⟩)⟩))
theorem i_vc_model {k : Nat} {u : SX} {v : SY} (I : i_Rel k u v) (hk : k + 4 ≤ 2048) (v1 : Int32) : wpX_model (fun r u' => wpY_model (fun r' v' => r' = r ∧ i_Rel (k + 4) u' v') v v1) u v1 := by
  obtain ⟨n, a, c, h, K, P, Q, Lf, Rt, St, kk, fp, sp, fi, se, ll, rr, li, ss, ld, fm, kn, cs, ob, po, mo, cl, rfl, rfl, I1, I2, HC, HK⟩ := I
  have p8 := bi_p8 (st_a I1)
  refine xw_kth I1 (fun ld' w hw mw e => ?_) (fun ld' nw => ?_)
  · refine yw_kth I2 HC HK (fun fm' ob' po' mo' cl' w' hc hk hw' mw' e' => ?_) (fun fm' ob' po' mo' cl' hc hk nw => absurd e (nw w hw mw))
    have b1 := pc_le (mo_M n K P Q a Lf Rt c li h St) w
    have b2 := pc_le (mo_M n K P Q a Lf Rt c li h St) w'
    have ee := e'.symm.trans e
    rw [nI_eq (by omega) (by omega)] at ee
    exact ⟨congrArg nI (pc_inj _ mw' mw ee), re_mk I1 I2 (Or.inr ⟨rfl, hc⟩) (Or.inr ⟨rfl, hk⟩)⟩
  · exact yw_kth I2 HC HK (fun fm' ob' po' mo' cl' w' hc hk hw' mw' e' => absurd e' (nw w' hw' mw')) (fun fm' ob' po' mo' cl' hc hk _ => ⟨rfl, re_mk I1 I2 (Or.inr ⟨rfl, hc⟩) (Or.inr ⟨rfl, hk⟩)⟩)
theorem i_vc_holds {k : Nat} {u : SX} {v : SY} (I : i_Rel k u v) (hk : k + 4 ≤ 2048) (v1 : Int32) : wpX_holds (fun r u' => wpY_holds (fun r' v' => r' = r ∧ i_Rel (k + 4) u' v') v v1) u v1 := by
  obtain ⟨n, a, c, h, K, P, Q, Lf, Rt, St, kk, fp, sp, fi, se, ll, rr, li, ss, ld, fm, kn, cs, ob, po, mo, cl, rfl, rfl, I1, I2, HC, HK⟩ := I
  have ha := st_a I1
  refine xw_holds I1 (fun ld' l hl e => ?_) (fun nl => ?_)
  · refine yw_holds I2 HC HK (fun fm' ob' po' mo' cl' l' hc hk hl' e' => ?_) (fun nl => absurd ⟨l, hl, e⟩ nl)
    have ee := e'.symm.trans e
    rw [nI_eq (by omega) (by omega)] at ee
    rw [ee]
    exact ⟨rfl, re_mk I1 I2 (Or.inr ⟨rfl, hc⟩) (Or.inr ⟨rfl, hk⟩)⟩
  · exact yw_holds I2 HC HK (fun fm' ob' po' mo' cl' l' hc hk hl' e' => absurd ⟨l', hl', e'⟩ nl) (fun _ => ⟨rfl, re_mk I1 I2 HC HK⟩)
theorem i_vc_one {k : Nat} {u : SX} {v : SY} (I : i_Rel k u v) (hk : k + 4 ≤ 2048) (v1 : Int32) (v2 : Int32) : wpX_one (fun r u' => wpY_one (fun r' v' => r' = r ∧ i_Rel (k + 4) u' v') v v1 v2) u v1 v2 := by
  obtain ⟨n, a, c, h, K, P, Q, Lf, Rt, St, kk, fp, sp, fi, se, ll, rr, li, ss, ld, fm, kn, cs, ob, po, mo, cl, rfl, rfl, I1, I2, HC, HK⟩ := I
  have hn := st_n I1
  refine xw_one I1 (fun ld' t u ht hu e1 e2 => ?_) (fun nl => ?_)
  · refine yw_one I2 HC HK (fun fm' ob' po' mo' cl' t' u' hc hk ht' hu' e1' e2' => ?_) (fun nl => absurd ⟨⟨t, ht, e1⟩, ⟨u, hu, e2⟩⟩ nl)
    have ee1 := e1'.symm.trans e1
    rw [nI_eq (by omega) (by omega)] at ee1
    have ee2 := e2'.symm.trans e2
    rw [nI_eq (by omega) (by omega)] at ee2
    rw [ee1, ee2]
    exact ⟨rfl, re_mk I1 I2 (Or.inr ⟨rfl, hc⟩) (Or.inr ⟨rfl, hk⟩)⟩
  · exact yw_one I2 HC HK (fun fm' ob' po' mo' cl' t u hc hk ht hu e1 e2 => absurd ⟨⟨t, ht, e1⟩, ⟨u, hu, e2⟩⟩ nl) (fun _ => ⟨rfl, re_mk I1 I2 HC HK⟩)
theorem i_vc_classes {k : Nat} {u : SX} {v : SY} (I : i_Rel k u v) (hk : k + 4 ≤ 2048) (v1 : Int32) : wpX_classes (fun r u' => wpY_classes (fun r' v' => r' = r ∧ i_Rel (k + 4) u' v') v v1) u v1 := by
  obtain ⟨n, a, c, h, K, P, Q, Lf, Rt, St, kk, fp, sp, fi, se, ll, rr, li, ss, ld, fm, kn, cs, ob, po, mo, cl, rfl, rfl, I1, I2, HC, HK⟩ := I
  refine xw_classes I1 (fun ld' b hb => ?_) (fun n0 n1 => ?_)
  · refine yw_classes I2 HC HK (fun fm' ob' po' mo' cl' b' hc hk hb' => ?_) (fun n0 n1 => ?_)
    · have eb : b' = b := by
        rcases hb with ⟨x, y⟩ | ⟨x, y⟩
        · rcases hb' with ⟨x', y'⟩ | ⟨x', y'⟩
          · rw [x, x']
          · rw [y] at y'; exact absurd y' (by decide)
        · rcases hb' with ⟨x', y'⟩ | ⟨x', y'⟩
          · rw [y] at y'; exact absurd y' (by decide)
          · rw [x, x']
      rw [eb]
      exact ⟨rfl, re_mk I1 I2 (Or.inr ⟨rfl, hc⟩) (Or.inr ⟨rfl, hk⟩)⟩
    · rcases hb with ⟨_, y⟩ | ⟨_, y⟩
      · exact absurd y n0
      · exact absurd y n1
  · refine yw_classes I2 HC HK (fun fm' ob' po' mo' cl' b' hc hk hb => ?_) (fun _ _ => ⟨rfl, re_mk I1 I2 HC HK⟩)
    rcases hb with ⟨_, y⟩ | ⟨_, y⟩
    · exact absurd y n0
    · exact absurd y n1
theorem i_vc_least {k : Nat} {u : SX} {v : SY} (I : i_Rel k u v) (hk : k + 4 ≤ 2048) (v1 : Int32) : wpX_least (fun r u' => wpY_least (fun r' v' => r' = r ∧ i_Rel (k + 4) u' v') v v1) u v1 := by
  obtain ⟨n, a, c, h, K, P, Q, Lf, Rt, St, kk, fp, sp, fi, se, ll, rr, li, ss, ld, fm, kn, cs, ob, po, mo, cl, rfl, rfl, I1, I2, HC, HK⟩ := I
  have hn := st_n I1
  refine xw_least I1 (fun ld' t L ht e X => ?_) (fun nl => ?_)
  · refine yw_least I2 HC (fun ob' po' cl' t' L' hc ht' e' X' => ?_) (fun nl => absurd ⟨t, ht, e⟩ nl)
    have ee := e'.symm.trans e
    rw [nI_eq (by omega) (by omega)] at ee
    rw [ee]
    exact ⟨congrArg nI (cc_uniq X' X t ht), re_mk I1 I2 (Or.inr ⟨rfl, hc⟩) HK⟩
  · exact yw_least I2 HC (fun ob' po' cl' t' L' hc ht' e' X' => absurd ⟨t', ht', e'⟩ nl) (fun _ => ⟨rfl, re_mk I1 I2 HC HK⟩)
theorem i_vc_why {k : Nat} {u : SX} {v : SY} (I : i_Rel k u v) (hk : k + 4 ≤ 2048) (v1 : Int32) (v2 : Int32) : wpX_why (fun r u' => wpY_why (fun r' v' => r' = r ∧ i_Rel (k + 4) u' v') v v1 v2) u v1 v2 := by
  obtain ⟨n, a, c, h, K, P, Q, Lf, Rt, St, kk, fp, sp, fi, se, ll, rr, li, ss, ld, fm, kn, cs, ob, po, mo, cl, rfl, rfl, I1, I2, HC, HK⟩ := I
  have hn := st_n I1
  refine xw_why I1 (fun ld' t u b ht hu e1 e2 A => ?_) (fun nl => ?_)
  · refine yw_why I2 HC (fun ob' po' cl' t' u' b' hc ht' hu' e1' e2' A' => ?_) (fun nl => absurd ⟨⟨t, ht, e1⟩, ⟨u, hu, e2⟩⟩ nl)
    have ee1 := e1'.symm.trans e1
    rw [nI_eq (by omega) (by omega)] at ee1
    have ee2 := e2'.symm.trans e2
    rw [nI_eq (by omega) (by omega)] at ee2
    rw [ee1, ee2] at A'
    exact ⟨am_u (wh_eq (st_h I1) St (fun s => cc_F n K P Q a Lf Rt s t u) A') A, re_mk I1 I2 (Or.inr ⟨rfl, hc⟩) HK⟩
  · exact yw_why I2 HC (fun ob' po' cl' t u b hc ht hu e1 e2 _ => absurd ⟨⟨t, ht, e1⟩, ⟨u, hu, e2⟩⟩ nl) (fun _ => ⟨rfl, re_mk I1 I2 HC HK⟩)
theorem i_vc_blame {k : Nat} {u : SX} {v : SY} (I : i_Rel k u v) (hk : k + 4 ≤ 2048) : wpX_blame (fun r u' => wpY_blame (fun r' v' => r' = r ∧ i_Rel (k + 4) u' v') v) u := by
  obtain ⟨n, a, c, h, K, P, Q, Lf, Rt, St, kk, fp, sp, fi, se, ll, rr, li, ss, ld, fm, kn, cs, ob, po, mo, cl, rfl, rfl, I1, I2, HC, HK⟩ := I
  exact xw_blame I1 (fun ld' b A => yw_blame I2 HC HK (fun fm' ob' po' mo' cl' b' hc hk A' => ⟨am_u A' A, re_mk I1 I2 (Or.inr ⟨rfl, hc⟩) (Or.inr ⟨rfl, hk⟩)⟩))
end
