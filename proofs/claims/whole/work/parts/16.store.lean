section
variable {n a c h : Nat} {K P Q Lf Rt St : Nat → Nat} {kk fp sp ll rr li ss : Nat → Int32}
variable {fm kn cs : Int32} {ob po mo cl ld : Nat → Int32}
/-- a function with one more value -/
def nu_F (L : Nat → Nat) (i v : Nat) : Nat → Nat := fun t => if t = i then v else L t
theorem nu_s {L : Nat → Nat} {i v : Nat} : nu_F L i v i = v := if_pos rfl
theorem nu_n {L : Nat → Nat} {i v t : Nat} (h : ¬ t = i) : nu_F L i v t = L t := if_neg h
theorem nu_A {n : Nat} {arr : Nat → Int32} {L : Nat → Nat} {v : Nat} (h : cc_A n arr L) : cc_A (n + 1) (upd arr n (nI v)) (nu_F L n v) := by
  intro t ht
  by_cases e : t = n
  · rw [e, pk_us, nu_s]
  · rw [pk_un e, nu_n e]
    exact h t (by omega)
/-- what a call of term asks -/
def te_T (n : Nat) (k x y : Int32) : Prop := n < 16 ∧ ∃ κ, κ < 4 ∧ k = nI κ ∧ (κ ≠ 0 → ∃ j, j < n ∧ x = nI j) ∧ (κ = 2 → ∃ j, j < n ∧ y = nI j)
theorem st_term (I : st_I n a c h K P Q Lf Rt St kk fp sp ll rr li ss) {κ pa pb : Nat} (h16 : n < 16) (h4 : κ < 4) {fp' sp' : Nat → Int32} (hpa : κ ≠ 0 → pa < n) (hpb : κ = 2 → pb < n)
    (f1 : ∀ j, ¬ j = n → fp' j = fp j) (f2 : κ ≠ 0 → fp' n = nI pa) (s1 : ∀ j, ¬ j = n → sp' j = sp j) (s2 : κ = 2 → sp' n = nI pb) :
    st_I (n + 1) a c h (nu_F K n κ) (nu_F P n pa) (nu_F Q n pb) Lf Rt St (upd kk n (nI κ)) fp' sp' ll rr li ss := by
  have W := st_W I
  refine ⟨by omega, st_a I, st_c I, st_h I, ⟨?_, ?_, ?_⟩, nu_A (st_K I), ?_, ?_, ?_, st_L I, st_R I, st_S I, st_S2 I, st_C I⟩
  · intro t ht hk
    by_cases e : t = n
    · rw [e, nu_s] at hk
      rw [e, nu_s]
      have := hpa hk
      omega
    · rw [nu_n e] at hk
      rw [nu_n e]
      have := W.1 t (by omega) hk
      omega
  · intro t ht hk
    by_cases e : t = n
    · rw [e, nu_s] at hk
      rw [e, nu_s]
      have := hpb hk
      omega
    · rw [nu_n e] at hk
      rw [nu_n e]
      have := W.2.1 t (by omega) hk
      omega
  · intro i hi
    have := W.2.2 i hi
    omega
  · intro t ht
    by_cases e : t = n
    · rw [e, nu_s]; exact h4
    · rw [nu_n e]; exact st_K4 I t (by omega)
  · intro t ht hk
    by_cases e : t = n
    · rw [e, nu_s] at hk
      rw [e, nu_s]
      exact f2 hk
    · rw [nu_n e] at hk
      rw [nu_n e, f1 t e]
      exact st_P I t (by omega) hk
  · intro t ht hk
    by_cases e : t = n
    · rw [e, nu_s] at hk
      rw [e, nu_s]
      exact s2 hk
    · rw [nu_n e] at hk
      rw [nu_n e, s1 t e]
      exact st_Q I t (by omega) hk
theorem st_atom (I : st_I n a c h K P Q Lf Rt St kk fp sp ll rr li ss) {t u : Nat} (h8 : a < 8) (ht : t < n) (hu : u < n) :
    st_I n (a + 1) c h K P Q (nu_F Lf a t) (nu_F Rt a u) St kk fp sp (upd ll a (nI t)) (upd rr a (nI u)) li ss := by
  have W := st_W I
  refine ⟨st_n I, by omega, st_c I, st_h I, ⟨W.1, W.2.1, ?_⟩, st_K I, st_K4 I, st_P I, st_Q I, nu_A (st_L I), nu_A (st_R I), st_S I, ?_, ?_⟩
  · intro i hi
    by_cases e : i = a
    · rw [e, nu_s, nu_s]; exact ⟨ht, hu⟩
    · rw [nu_n e, nu_n e]; exact W.2.2 i (by omega)
  · intro k hk
    have := st_S2 I k hk
    omega
  · intro j hj
    rcases st_C I j hj with e | ⟨l, hl, e⟩
    · exact Or.inl e
    · exact Or.inr ⟨l, by omega, e⟩
theorem st_clause (I : st_I n a c h K P Q Lf Rt St kk fp sp ll rr li ss) {x y z : Int32} (h12 : c < 12) (hx : x = -1 ∨ ∃ l, l < 2 * a ∧ x = nI l) (hy : y = -1 ∨ ∃ l, l < 2 * a ∧ y = nI l) (hz : z = -1 ∨ ∃ l, l < 2 * a ∧ z = nI l) :
    st_I n a (c + 1) h K P Q Lf Rt St kk fp sp ll rr (upd (upd (upd li (3 * c) x) (3 * c + 1) y) (3 * c + 2) z) ss := by
  refine ⟨st_n I, st_a I, by omega, st_h I, st_W I, st_K I, st_K4 I, st_P I, st_Q I, st_L I, st_R I, st_S I, st_S2 I, ?_⟩
  intro j hj
  by_cases e2 : j = 3 * c + 2
  · rw [e2, pk_us]; exact hz
  · rw [pk_un e2]
    by_cases e1 : j = 3 * c + 1
    · rw [e1, pk_us]; exact hy
    · rw [pk_un e1]
      by_cases e0 : j = 3 * c
      · rw [e0, pk_us]; exact hx
      · rw [pk_un e0]; exact st_C I j (by omega)
theorem st_push (I : st_I n a c h K P Q Lf Rt St kk fp sp ll rr li ss) {l : Nat} (h8 : h < 8) (hl : l < 2 * a) : st_I n a c (h + 1) K P Q Lf Rt (nu_F St h l) kk fp sp ll rr li (upd ss h (nI l)) := by
  refine ⟨st_n I, st_a I, st_c I, by omega, st_W I, st_K I, st_K4 I, st_P I, st_Q I, st_L I, st_R I, nu_A (st_S I), ?_, st_C I⟩
  intro k hk
  by_cases e : k = h
  · rw [e, nu_s]; exact hl
  · rw [nu_n e]; exact st_S2 I k (by omega)
theorem st_low (I : st_I n a c h K P Q Lf Rt St kk fp sp ll rr li ss) {c' h' : Nat} (hc : c' ≤ c) (hh : h' ≤ h) : st_I n a c' h' K P Q Lf Rt St kk fp sp ll rr li ss := by
  have b1 := st_c I
  have b2 := st_h I
  exact ⟨st_n I, st_a I, by omega, by omega, st_W I, st_K I, st_K4 I, st_P I, st_Q I, st_L I, st_R I, fun t ht => st_S I t (by omega), fun k hk => st_S2 I k (by omega), fun j hj => st_C I j (by omega)⟩
theorem st_0 (kk fp sp ll rr li ss : Nat → Int32) (K P Q Lf Rt St : Nat → Nat) : st_I 0 0 0 0 K P Q Lf Rt St kk fp sp ll rr li ss := by
  refine ⟨by decide, by decide, by decide, by decide, ⟨fun t ht => ?_, fun t ht => ?_, fun t ht => ?_⟩, fun t ht => ?_, fun t ht => ?_, fun t ht => ?_, fun t ht => ?_, fun t ht => ?_, fun t ht => ?_, fun t ht => ?_, fun t ht => ?_, fun t ht => ?_⟩ <;> omega
theorem xw_t95 {post : Int32 → SX → Prop} {z0 : Int32} (h16 : n < 16) (H : post (nI n) (nI (n + 1), nI a, nI c, nI h, kk, fp, upd sp n z0, ll, rr, li, ss, ld)) :
    wX_term_95 post z0 (nI n) (nI n) (nI a) (nI c) (nI h) kk fp sp ll rr li ss ld := by
  unfold wX_term_95
  rw [nI_clamp (show n < 2 ^ 31 by omega)]
  refine ⟨pk_in n 16 h16, nm_e (nm_r (nI_1 n) ?_)⟩
  rw [show nI (n + 1) - 1 = nI n from pk_sub (a := n + 1) (b := 1) (by omega)]
  exact H
theorem xw_term {post : Int32 → SX → Prop} {k x y : Int32} (hn : n ≤ 16)
    (H1 : ∀ κ fp' sp', n < 16 → κ < 4 → k = nI κ → (κ ≠ 0 → ∃ j, j < n ∧ x = nI j) → (κ = 2 → ∃ j, j < n ∧ y = nI j) → (∀ j, ¬ j = n → fp' j = fp j) → (κ ≠ 0 → fp' n = x) → (∀ j, ¬ j = n → sp' j = sp j) → (κ = 2 → sp' n = y) →
      post (nI n) (nI (n + 1), nI a, nI c, nI h, upd kk n (nI κ), fp', sp', ll, rr, li, ss, ld))
    (H0 : ¬ te_T n k x y → post (-1) (nI n, nI a, nI c, nI h, kk, fp, sp, ll, rr, li, ss, ld)) : wpX_term post (nI n, nI a, nI c, nI h, kk, fp, sp, ll, rr, li, ss, ld) k x y := by
  unfold wpX_term
  dsimp only
  refine pk_le 16 n (fun z => H0 (fun T => absurd T.1 (by omega))) (fun h16 => ?_)
  rcases pk_ix k (n := 4) (by decide) with hx | hx | ⟨κ, h4, e⟩
  · refine br_t hx (H0 (fun T => ?_))
    obtain ⟨_, κ, h4, e, _⟩ := T
    rw [e] at hx
    exact bi_nn (show κ < 2 ^ 31 by omega) hx
  · have nx : ¬ k < 0 := Int32.not_lt.mpr (Int32.le_trans (bi_0n (n := 4) (by decide)) hx)
    have n3 : ¬ k ≤ 3 := fun z => absurd (Int32.le_trans hx z) (by decide)
    refine br_f nx (br_f n3 (H0 (fun T => ?_)))
    obtain ⟨_, κ, h4, e, _⟩ := T
    rw [e, nI_leI (by decide) (by omega)] at hx
    omega
  · have T49 : (κ ≠ 0 → ∃ j, j < n ∧ x = nI j) → (κ = 2 → ∃ j, j < n ∧ y = nI j) → wX_term_49 post (nI κ) x y (nI n) (nI a) (nI c) (nI h) kk fp sp ll rr li ss ld := by
      intro hx hy
      unfold wX_term_49 wX_term_76
      rw [nI_clamp (show n < 2 ^ 31 by omega)]
      have i16 : vp_in (nI n) 16 := pk_in n 16 h16
      refine ⟨i16, nm_e (pk_eq κ 0 (fun e0 => ⟨i16, nm_e (pk_eq κ 2 (fun e2 => ?_) (fun e2 => ?_))⟩) (fun e0 => ⟨i16, nm_e (pk_eq κ 2 (fun e2 => ?_) (fun e2 => ?_))⟩))⟩
      · omega
      · exact xw_t95 h16 (H1 κ _ _ h16 h4 e hx hy (fun j hj => pk_un hj) (fun z => absurd e0 z) (fun j hj => pk_un hj) (fun z => absurd z e2))
      · exact xw_t95 h16 (H1 κ _ _ h16 h4 e hx hy (fun j hj => pk_un hj) (fun _ => pk_us) (fun j hj => pk_un hj) (fun _ => pk_us))
      · exact xw_t95 h16 (H1 κ _ _ h16 h4 e hx hy (fun j hj => pk_un hj) (fun _ => pk_us) (fun j hj => pk_un hj) (fun z => absurd z e2))
    have T34 : (κ ≠ 0 → ∃ j, j < n ∧ x = nI j) → wX_term_34 post (nI κ) x y (nI n) (nI a) (nI c) (nI h) kk fp sp ll rr li ss ld := by
      intro hx
      unfold wX_term_34
      refine pk_eq κ 2 (fun e2 => ?_) (fun e2 => T49 hx (fun z => absurd z e2))
      refine xw_isTerm hn (fun j hj ej => br_f (by decide) (T49 hx (fun _ => ⟨j, hj, ej⟩))) (fun z => br_t rfl (H0 (fun T => ?_)))
      obtain ⟨_, κ', h4', e', _, t2⟩ := T
      have ee := e.symm.trans e'
      rw [nI_eq (by omega) (by omega)] at ee
      exact z (t2 (by omega))
    rw [e]
    refine br_f (bi_nn (by omega)) (pk_le κ 3 (fun _ => ?_) (fun z => absurd z (by omega)))
    refine pk_eq κ 0 (fun e0 => T34 (fun z => absurd e0 z)) (fun e0 => ?_)
    refine xw_isTerm hn (fun j hj ej => br_f (by decide) (T34 (fun _ => ⟨j, hj, ej⟩))) (fun z => br_t rfl (H0 (fun T => ?_)))
    obtain ⟨_, κ', h4', e', t1, _⟩ := T
    have ee := e.symm.trans e'
    rw [nI_eq (by omega) (by omega)] at ee
    exact z (t1 (fun y => e0 (ee.trans y)))
theorem yw_t96 {post : Int32 → SY → Prop} {z0 : Int32} (h16 : n < 16) (H : post (nI n) (nI (n + 1), nI a, nI c, nI h, fm, 0, 0, kk, fp, upd sp n z0, ll, rr, li, ss, ob, po, mo, cl)) :
    wY_term_96 post z0 (nI n) (nI n) (nI a) (nI c) (nI h) fm kn cs kk fp sp ll rr li ss ob po mo cl := by
  unfold wY_term_96
  rw [nI_clamp (show n < 2 ^ 31 by omega)]
  exact ⟨pk_in n 16 h16, nm_e (nm_r (nI_1 n) H)⟩
theorem yw_term {post : Int32 → SY → Prop} {k x y : Int32} (hn : n ≤ 16)
    (H1 : ∀ κ fp' sp', n < 16 → κ < 4 → k = nI κ → (κ ≠ 0 → ∃ j, j < n ∧ x = nI j) → (κ = 2 → ∃ j, j < n ∧ y = nI j) → (∀ j, ¬ j = n → fp' j = fp j) → (κ ≠ 0 → fp' n = x) → (∀ j, ¬ j = n → sp' j = sp j) → (κ = 2 → sp' n = y) →
      post (nI n) (nI (n + 1), nI a, nI c, nI h, fm, 0, 0, upd kk n (nI κ), fp', sp', ll, rr, li, ss, ob, po, mo, cl))
    (H0 : ¬ te_T n k x y → post (-1) (nI n, nI a, nI c, nI h, fm, kn, cs, kk, fp, sp, ll, rr, li, ss, ob, po, mo, cl)) : wpY_term post (nI n, nI a, nI c, nI h, fm, kn, cs, kk, fp, sp, ll, rr, li, ss, ob, po, mo, cl) k x y := by
  unfold wpY_term
  dsimp only
  refine pk_eq n 16 (fun z => H0 (fun T => absurd T.1 (by omega))) (fun h16 => ?_)
  have h16 : n < 16 := by omega
  refine yw_in (m := 4) rfl (by decide) (fun κ h4 e => br_f (by decide) ?_) (fun z => br_t rfl (H0 (fun T => ?_)))
  · have T50 : (κ ≠ 0 → ∃ j, j < n ∧ x = nI j) → (κ = 2 → ∃ j, j < n ∧ y = nI j) → wY_term_50 post (nI κ) x y (nI n) (nI a) (nI c) (nI h) fm kn cs kk fp sp ll rr li ss ob po mo cl := by
      intro hx hy
      unfold wY_term_50 wY_term_77
      rw [nI_clamp (show n < 2 ^ 31 by omega)]
      have i16 : vp_in (nI n) 16 := pk_in n 16 h16
      refine ⟨i16, nm_e (pk_eq κ 0 (fun e0 => ⟨i16, nm_e (pk_eq κ 2 (fun e2 => ?_) (fun e2 => ?_))⟩) (fun e0 => ⟨i16, nm_e (pk_eq κ 2 (fun e2 => ?_) (fun e2 => ?_))⟩))⟩
      · omega
      · exact yw_t96 h16 (H1 κ _ _ h16 h4 e hx hy (fun j hj => pk_un hj) (fun z => absurd e0 z) (fun j hj => pk_un hj) (fun z => absurd z e2))
      · exact yw_t96 h16 (H1 κ _ _ h16 h4 e hx hy (fun j hj => pk_un hj) (fun _ => pk_us) (fun j hj => pk_un hj) (fun _ => pk_us))
      · exact yw_t96 h16 (H1 κ _ _ h16 h4 e hx hy (fun j hj => pk_un hj) (fun _ => pk_us) (fun j hj => pk_un hj) (fun z => absurd z e2))
    have T32 : (κ ≠ 0 → ∃ j, j < n ∧ x = nI j) → wY_term_32 post (nI κ) x y (nI n) (nI a) (nI c) (nI h) fm kn cs kk fp sp ll rr li ss ob po mo cl := by
      intro hx
      unfold wY_term_32
      refine pk_eq κ 2 (fun e2 => ?_) (fun e2 => T50 hx (fun z => absurd z e2))
      refine yw_within (show n < 2 ^ 31 by omega) (fun j hj ej => br_f (by decide) (T50 hx (fun _ => ⟨j, hj, ej⟩))) (fun z => br_t rfl (H0 (fun T => ?_)))
      obtain ⟨_, κ', h4', e', _, t2⟩ := T
      have ee := e.symm.trans e'
      rw [nI_eq (by omega) (by omega)] at ee
      exact z (t2 (by omega))
    rw [e]
    refine pk_eq κ 0 (fun e0 => T32 (fun z => absurd e0 z)) (fun e0 => ?_)
    refine yw_within (show n < 2 ^ 31 by omega) (fun j hj ej => br_f (by decide) (T32 (fun _ => ⟨j, hj, ej⟩))) (fun z => br_t rfl (H0 (fun T => ?_)))
    obtain ⟨_, κ', h4', e', t1, _⟩ := T
    have ee := e.symm.trans e'
    rw [nI_eq (by omega) (by omega)] at ee
    exact z (t1 (fun y => e0 (ee.trans y)))
  · obtain ⟨_, κ, h4, e, _⟩ := T
    exact z ⟨κ, h4, e⟩
theorem xw_atom {post : Int32 → SX → Prop} {x y : Int32} (hn : n ≤ 16) (ha : a ≤ 8)
    (H1 : ∀ t u, a < 8 → t < n → u < n → x = nI t → y = nI u → post (nI a) (nI n, nI (a + 1), nI c, nI h, kk, fp, sp, upd ll a x, upd rr a y, li, ss, ld))
    (H0 : ¬ (a < 8 ∧ (∃ t, t < n ∧ x = nI t) ∧ (∃ u, u < n ∧ y = nI u)) → post (-1) (nI n, nI a, nI c, nI h, kk, fp, sp, ll, rr, li, ss, ld)) : wpX_atom post (nI n, nI a, nI c, nI h, kk, fp, sp, ll, rr, li, ss, ld) x y := by
  unfold wpX_atom
  dsimp only
  refine pk_le 8 a (fun z => H0 (fun T => absurd T.1 (by omega))) (fun h8 => ?_)
  refine xw_isTerm hn (fun t ht et => br_f (by decide) ?_) (fun z => br_t rfl (H0 (fun T => z T.2.1)))
  refine xw_isTerm hn (fun u hu eu => br_f (by decide) ?_) (fun z => br_t rfl (H0 (fun T => z T.2.2)))
  rw [nI_clamp (show a < 2 ^ 31 by omega)]
  refine ⟨pk_in a 8 h8, nm_e ⟨pk_in a 8 h8, nm_e (nm_r (nI_1 a) ?_)⟩⟩
  rw [show nI (a + 1) - 1 = nI a from pk_sub (a := a + 1) (b := 1) (by omega)]
  exact H1 t u h8 ht hu et eu
theorem yw_atom {post : Int32 → SY → Prop} {x y : Int32} (hn : n ≤ 16) (ha : a ≤ 8)
    (H1 : ∀ t u, a < 8 → t < n → u < n → x = nI t → y = nI u → post (nI a) (nI n, nI (a + 1), nI c, nI h, fm, 0, 0, kk, fp, sp, upd ll a x, upd rr a y, li, ss, ob, po, mo, cl))
    (H0 : ¬ (a < 8 ∧ (∃ t, t < n ∧ x = nI t) ∧ (∃ u, u < n ∧ y = nI u)) → post (-1) (nI n, nI a, nI c, nI h, fm, kn, cs, kk, fp, sp, ll, rr, li, ss, ob, po, mo, cl)) : wpY_atom post (nI n, nI a, nI c, nI h, fm, kn, cs, kk, fp, sp, ll, rr, li, ss, ob, po, mo, cl) x y := by
  unfold wpY_atom
  dsimp only
  refine pk_eq a 8 (fun z => H0 (fun T => absurd T.1 (by omega))) (fun h8 => ?_)
  have h8 : a < 8 := by omega
  refine yw_within (show n < 2 ^ 31 by omega) (fun t ht et => br_f (by decide) ?_) (fun z => br_t rfl (H0 (fun T => z T.2.1)))
  refine yw_within (show n < 2 ^ 31 by omega) (fun u hu eu => br_f (by decide) ?_) (fun z => br_t rfl (H0 (fun T => z T.2.2)))
  rw [nI_clamp (show a < 2 ^ 31 by omega)]
  exact ⟨pk_in a 8 h8, nm_e ⟨pk_in a 8 h8, nm_e (nm_r (nI_1 a) (H1 t u h8 ht hu et eu))⟩⟩
/-- fits a clause -/
def cf_L (a : Nat) (x : Int32) : Prop := x = -1 ∨ ∃ l, l < 2 * a ∧ x = nI l
/-- what a call of clause asks -/
def cf_T (a c : Nat) (x y z : Int32) : Prop := c < 12 ∧ ¬ (x = -1 ∧ y = -1 ∧ z = -1) ∧ cf_L a x ∧ cf_L a y ∧ cf_L a z
theorem xw_clauseM {post : Int32 → SX → Prop} {x y z : Int32} (ha : a ≤ 8) (hc : c ≤ 12)
    (H1 : cf_T a c x y z → post (nI c) (nI n, nI a, nI (c + 1), nI h, kk, fp, sp, ll, rr, upd (upd (upd li (3 * c) x) (3 * c + 1) y) (3 * c + 2) z, ss, ld))
    (H0 : ¬ cf_T a c x y z → post (-1) (nI n, nI a, nI c, nI h, kk, fp, sp, ll, rr, li, ss, ld)) : wpX_clause post (nI n, nI a, nI c, nI h, kk, fp, sp, ll, rr, li, ss, ld) x y z := by
  have T28 : c < 12 → ¬ (x = -1 ∧ y = -1 ∧ z = -1) → wX_clause_28 post x y z (nI n) (nI a) (nI c) (nI h) kk fp sp ll rr li ss ld := by
    intro h12 nall
    unfold wX_clause_28
    refine xw_fits ha (fun hx => br_f (by decide) ?_) (fun hx => br_t rfl (H0 (fun T => hx T.2.2.1)))
    refine xw_fits ha (fun hy => br_f (by decide) ?_) (fun hy => br_t rfl (H0 (fun T => hy T.2.2.2.1)))
    refine xw_fits ha (fun hz => br_f (by decide) ?_) (fun hz => br_t rfl (H0 (fun T => hz T.2.2.2.2)))
    have e3 : nI c * 3 = nI (3 * c) := by
      have := pk_mul c 3
      rw [Nat.mul_comm 3 c]
      exact this
    refine nm_r e3 ?_
    have e1 : nI (3 * c) + 1 = nI (3 * c + 1) := nI_1 (3 * c)
    have e2 : nI (3 * c) + 2 = nI (3 * c + 2) := nI_add (3 * c) 2
    rw [e1, e2, nI_clamp (show 3 * c < 2 ^ 31 by omega), nI_clamp (show 3 * c + 1 < 2 ^ 31 by omega), nI_clamp (show 3 * c + 2 < 2 ^ 31 by omega)]
    refine ⟨pk_in (3 * c) 36 (by omega), nm_e ⟨pk_in (3 * c + 1) 36 (by omega), nm_e ⟨pk_in (3 * c + 2) 36 (by omega), nm_e (nm_r (nI_1 c) ?_)⟩⟩⟩
    rw [show nI (c + 1) - 1 = nI c from pk_sub (a := c + 1) (b := 1) (by omega)]
    exact H1 ⟨h12, nall, hx, hy, hz⟩
  unfold wpX_clause
  dsimp only
  refine pk_lt c 12 (fun h12 => ?_) (fun h12 => H0 (fun T => absurd T.1 (by omega)))
  exact br_c (fun e1 => br_c (fun e2 => br_c (fun e3 => H0 (fun T => T.2.1 ⟨e1, e2, e3⟩)) (fun e3 => T28 h12 (fun q => e3 q.2.2))) (fun e2 => T28 h12 (fun q => e2 q.2.1))) (fun e1 => T28 h12 (fun q => e1 q.1))
theorem yw_clauseM {post : Int32 → SY → Prop} {x y z : Int32} (ha : a ≤ 8) (hc : c ≤ 12)
    (H1 : cf_T a c x y z → post (nI c) (nI n, nI a, nI (c + 1), nI h, fm, 0, cs, kk, fp, sp, ll, rr, upd (upd (upd li (3 * c) x) (3 * c + 1) y) (3 * c + 2) z, ss, ob, po, mo, cl))
    (H0 : ¬ cf_T a c x y z → post (-1) (nI n, nI a, nI c, nI h, fm, kn, cs, kk, fp, sp, ll, rr, li, ss, ob, po, mo, cl)) : wpY_clause post (nI n, nI a, nI c, nI h, fm, kn, cs, kk, fp, sp, ll, rr, li, ss, ob, po, mo, cl) x y z := by
  have T67 : cf_T a c x y z → wY_clause_67 post x y z (nI n) (nI a) (nI c) (nI h) fm kn cs kk fp sp ll rr li ss ob po mo cl := by
    intro T
    have h12 := T.1
    have e3 : 3 * nI c = nI (3 * c) := pk_mul 3 c
    have e1 : nI (3 * c) + 1 = nI (3 * c + 1) := nI_1 (3 * c)
    have e2 : nI (3 * c) + 2 = nI (3 * c + 2) := nI_add (3 * c) 2
    unfold wY_clause_67
    rw [e3, e1, e2, nI_clamp (show 3 * c < 2 ^ 31 by omega), nI_clamp (show 3 * c + 1 < 2 ^ 31 by omega), nI_clamp (show 3 * c + 2 < 2 ^ 31 by omega)]
    exact ⟨pk_in (3 * c) 36 (by omega), nm_e ⟨pk_in (3 * c + 1) 36 (by omega), nm_e ⟨pk_in (3 * c + 2) 36 (by omega), nm_e (nm_r (nI_1 c) (H1 T))⟩⟩⟩
  have T26 : c < 12 → ¬ (x = -1 ∧ y = -1 ∧ z = -1) → wY_clause_26 post x y z (nI n) (nI a) (nI c) (nI h) fm kn cs kk fp sp ll rr li ss ob po mo cl := by
    intro h12 nall
    have T52 : cf_L a x → cf_L a y → wY_clause_52 post x y z (nI n) (nI a) (nI c) (nI h) fm kn cs kk fp sp ll rr li ss ob po mo cl := by
      intro hx hy
      unfold wY_clause_52
      refine br_c (fun e => T67 ⟨h12, nall, hx, hy, Or.inl e⟩) (fun e => ?_)
      exact yw_isLit ha (fun l hl el => br_f (by decide) (T67 ⟨h12, nall, hx, hy, Or.inr ⟨l, hl, el⟩⟩)) (fun q => br_t rfl (H0 (fun T => T.2.2.2.2.elim e q)))
    have T39 : cf_L a x → wY_clause_39 post x y z (nI n) (nI a) (nI c) (nI h) fm kn cs kk fp sp ll rr li ss ob po mo cl := by
      intro hx
      unfold wY_clause_39
      refine br_c (fun e => T52 hx (Or.inl e)) (fun e => ?_)
      exact yw_isLit ha (fun l hl el => br_f (by decide) (T52 hx (Or.inr ⟨l, hl, el⟩))) (fun q => br_t rfl (H0 (fun T => T.2.2.2.1.elim e q)))
    unfold wY_clause_26
    refine br_c (fun e => T39 (Or.inl e)) (fun e => ?_)
    exact yw_isLit ha (fun l hl el => br_f (by decide) (T39 (Or.inr ⟨l, hl, el⟩))) (fun q => br_t rfl (H0 (fun T => T.2.2.1.elim e q)))
  unfold wpY_clause
  dsimp only
  refine pk_eq c 12 (fun h12 => H0 (fun T => absurd T.1 (by omega))) (fun h12 => ?_)
  have h12 : c < 12 := by omega
  exact br_c (fun e1 => br_c (fun e2 => br_c (fun e3 => H0 (fun T => T.2.1 ⟨e1, e2, e3⟩)) (fun e3 => T26 h12 (fun q => e3 q.2.2))) (fun e2 => T26 h12 (fun q => e2 q.2.1))) (fun e1 => T26 h12 (fun q => e1 q.1))
theorem xw_push {post : Int32 → SX → Prop} {x : Int32} (ha : a ≤ 8) (hh : h ≤ 8)
    (H1 : ∀ l, h < 8 → l < 2 * a → x = nI l → post (nI (h + 1)) (nI n, nI a, nI c, nI (h + 1), kk, fp, sp, ll, rr, li, upd ss h x, ld))
    (H0 : ¬ (h < 8 ∧ ∃ l, l < 2 * a ∧ x = nI l) → post (-1) (nI n, nI a, nI c, nI h, kk, fp, sp, ll, rr, li, ss, ld)) : wpX_push post (nI n, nI a, nI c, nI h, kk, fp, sp, ll, rr, li, ss, ld) x := by
  unfold wpX_push
  dsimp only
  refine pk_le 8 h (fun z => H0 (fun T => absurd T.1 (by omega))) (fun h8 => ?_)
  refine xw_isLit ha (fun l hl el => br_f (by decide) ?_) (fun z => br_t rfl (H0 (fun T => z T.2)))
  rw [nI_clamp (show h < 2 ^ 31 by omega)]
  exact ⟨pk_in h 8 h8, nm_e (nm_r (nI_1 h) (H1 l h8 hl el))⟩
theorem yw_push {post : Int32 → SY → Prop} {x : Int32} (ha : a ≤ 8) (hh : h ≤ 8)
    (H1 : ∀ l, h < 8 → l < 2 * a → x = nI l → post (nI (h + 1)) (nI n, nI a, nI c, nI (h + 1), fm, 0, cs, kk, fp, sp, ll, rr, li, upd ss h x, ob, po, mo, cl))
    (H0 : ¬ (h < 8 ∧ ∃ l, l < 2 * a ∧ x = nI l) → post (-1) (nI n, nI a, nI c, nI h, fm, kn, cs, kk, fp, sp, ll, rr, li, ss, ob, po, mo, cl)) : wpY_push post (nI n, nI a, nI c, nI h, fm, kn, cs, kk, fp, sp, ll, rr, li, ss, ob, po, mo, cl) x := by
  unfold wpY_push
  dsimp only
  refine pk_eq h 8 (fun z => H0 (fun T => absurd T.1 (by omega))) (fun h8 => ?_)
  have h8 : h < 8 := by omega
  refine yw_isLit ha (fun l hl el => br_f (by decide) (nm_r (nI_1 h) ?_)) (fun z => br_t rfl (H0 (fun T => z T.2)))
  rw [nI_clamp (show h < 2 ^ 31 by omega)]
  exact ⟨pk_in h 8 h8, nm_e (H1 l h8 hl el)⟩
theorem xw_pop {post : Int32 → SX → Prop} (hh : h ≤ 8) (H1 : 0 < h → post (ss (h - 1)) (nI n, nI a, nI c, nI (h - 1), kk, fp, sp, ll, rr, li, ss, ld)) (H0 : h = 0 → post (-1) (nI n, nI a, nI c, nI h, kk, fp, sp, ll, rr, li, ss, ld)) : wpX_pop post (nI n, nI a, nI c, nI h, kk, fp, sp, ll, rr, li, ss, ld) := by
  unfold wpX_pop
  dsimp only
  refine pk_lt 0 h (fun z => ?_) (fun z => H0 (by omega))
  have e : nI h - 1 = nI (h - 1) := pk_sub (b := 1) z
  refine nm_r e ?_
  rw [nI_clamp (show h - 1 < 2 ^ 31 by omega)]
  exact ⟨pk_in (h - 1) 8 (by omega), H1 z⟩
theorem yw_pop {post : Int32 → SY → Prop} (hh : h ≤ 8) (H1 : 0 < h → post (ss (h - 1)) (nI n, nI a, nI c, nI (h - 1), fm, 0, cs, kk, fp, sp, ll, rr, li, ss, ob, po, mo, cl)) (H0 : h = 0 → post (-1) (nI n, nI a, nI c, nI h, fm, kn, cs, kk, fp, sp, ll, rr, li, ss, ob, po, mo, cl)) :
    wpY_pop post (nI n, nI a, nI c, nI h, fm, kn, cs, kk, fp, sp, ll, rr, li, ss, ob, po, mo, cl) := by
  unfold wpY_pop
  dsimp only
  refine pk_eq h 0 (fun z => H0 z) (fun z => ?_)
  have z : 0 < h := by omega
  have e : nI h - 1 = nI (h - 1) := pk_sub (b := 1) z
  rw [e, nI_clamp (show h - 1 < 2 ^ 31 by omega)]
  exact nm_e ⟨pk_in (h - 1) 8 (by omega), H1 z⟩
end
