section
/-- what both sides keep alike -/
def st_I (n a c h : Nat) (K P Q Lf Rt St : Nat → Nat) (kk fp sp ll rr li ss : Nat → Int32) : Prop :=
  n ≤ 16 ∧ a ≤ 8 ∧ c ≤ 12 ∧ h ≤ 8 ∧ cc_WF n K P Q a Lf Rt ∧ cc_A n kk K ∧ (∀ t, t < n → K t < 4) ∧ (∀ t, t < n → K t ≠ 0 → fp t = nI (P t)) ∧
  (∀ t, t < n → K t = 2 → sp t = nI (Q t)) ∧ cc_A a ll Lf ∧ cc_A a rr Rt ∧ cc_A h ss St ∧ (∀ k, k < h → St k < 2 * a) ∧
  (∀ j, j < 3 * c → li j = -1 ∨ ∃ l, l < 2 * a ∧ li j = nI l)
variable {n a c h : Nat} {K P Q Lf Rt St : Nat → Nat} {kk fp sp ll rr li ss : Nat → Int32}
theorem st_n (I : st_I n a c h K P Q Lf Rt St kk fp sp ll rr li ss) : n ≤ 16 := I.1
theorem st_a (I : st_I n a c h K P Q Lf Rt St kk fp sp ll rr li ss) : a ≤ 8 := I.2.1
theorem st_c (I : st_I n a c h K P Q Lf Rt St kk fp sp ll rr li ss) : c ≤ 12 := I.2.2.1
theorem st_h (I : st_I n a c h K P Q Lf Rt St kk fp sp ll rr li ss) : h ≤ 8 := I.2.2.2.1
theorem st_W (I : st_I n a c h K P Q Lf Rt St kk fp sp ll rr li ss) : cc_WF n K P Q a Lf Rt := I.2.2.2.2.1
theorem st_K (I : st_I n a c h K P Q Lf Rt St kk fp sp ll rr li ss) : cc_A n kk K := I.2.2.2.2.2.1
theorem st_K4 (I : st_I n a c h K P Q Lf Rt St kk fp sp ll rr li ss) : ∀ t, t < n → K t < 4 := I.2.2.2.2.2.2.1
theorem st_P (I : st_I n a c h K P Q Lf Rt St kk fp sp ll rr li ss) : ∀ t, t < n → K t ≠ 0 → fp t = nI (P t) := I.2.2.2.2.2.2.2.1
theorem st_Q (I : st_I n a c h K P Q Lf Rt St kk fp sp ll rr li ss) : ∀ t, t < n → K t = 2 → sp t = nI (Q t) := I.2.2.2.2.2.2.2.2.1
theorem st_L (I : st_I n a c h K P Q Lf Rt St kk fp sp ll rr li ss) : cc_A a ll Lf := I.2.2.2.2.2.2.2.2.2.1
theorem st_R (I : st_I n a c h K P Q Lf Rt St kk fp sp ll rr li ss) : cc_A a rr Rt := I.2.2.2.2.2.2.2.2.2.2.1
theorem st_S (I : st_I n a c h K P Q Lf Rt St kk fp sp ll rr li ss) : cc_A h ss St := I.2.2.2.2.2.2.2.2.2.2.2.1
theorem st_S2 (I : st_I n a c h K P Q Lf Rt St kk fp sp ll rr li ss) : ∀ k, k < h → St k < 2 * a := I.2.2.2.2.2.2.2.2.2.2.2.2.1
theorem st_C (I : st_I n a c h K P Q Lf Rt St kk fp sp ll rr li ss) : ∀ j, j < 3 * c → li j = -1 ∨ ∃ l, l < 2 * a ∧ li j = nI l := I.2.2.2.2.2.2.2.2.2.2.2.2.2
theorem wi_b {x y : Int32} {m : Nat} {A B : Prop} (hy : y = nI m) (hm : m < 2 ^ 31) (h1 : ∀ j, j < m → x = nI j → A) (h0 : (¬ ∃ j, j < m ∧ x = nI j) → B) :
    (x < 0 → B) ∧ (¬ x < 0 → ((y ≤ x → B) ∧ (¬ y ≤ x → A))) := by
  subst hy
  rcases pk_ix x hm with hx | hx | ⟨j, hj, e⟩
  · refine br_t hx (h0 (fun z => ?_))
    obtain ⟨j, hj, e⟩ := z
    rw [e] at hx
    exact bi_nn (show j < 2 ^ 31 by omega) hx
  · have nx : ¬ x < 0 := Int32.not_lt.mpr (Int32.le_trans (bi_0n hm) hx)
    refine br_f nx (br_t hx (h0 (fun z => ?_)))
    obtain ⟨j, hj, e⟩ := z
    rw [e, nI_leI hm (by omega)] at hx
    omega
  · have nx : ¬ x < 0 := by rw [e]; exact bi_nn (by omega)
    have ny : ¬ nI m ≤ x := by rw [e, nI_leI hm (by omega)]; omega
    exact br_f nx (br_f ny (h1 j hj e))
theorem ps_b {r : Int32} {A B : Prop} (hr : r = 1) (b : B) : (r = 0 → A) ∧ (¬ r = 0 → B) := br_f (by rw [hr]; decide) b
theorem mo_num {w l : Nat} : mo_h w l ↔ ¬ w / 2 ^ (l / 2) % 2 = l % 2 := by
  unfold mo_h
  rw [bi_tb]
  have h2 : l % 2 < 2 := Nat.mod_lt _ (by decide)
  by_cases x : w.testBit (l / 2) = true
  · rw [if_pos x]
    constructor
    · intro z; have := z.mp x; omega
    · intro z; exact ⟨fun _ => by omega, fun _ => x⟩
  · rw [if_neg x]
    constructor
    · intro z e; exact x (z.mpr e.symm)
    · intro z; exact ⟨fun y => absurd y x, fun y => absurd y.symm z⟩
theorem bi_d2 {l : Nat} (hl : l < 2 ^ 31) : nI l / 2 = nI (l / 2) := pk_div (d := 2) hl (by decide) (by decide)
theorem bi_r2 {l : Nat} (hl : l < 2 ^ 31) : nI l - nI l / 2 * 2 = nI (l % 2) := pk_rem (d := 2) hl (by decide) (by decide)
theorem bi_s1 {l : Nat} (hl : l < 2 ^ 31) : nI l >>> ((1 : Int32) &&& 31) = nI (l / 2) := pk_shrN hl _ 1 (by decide)
theorem xw_holdsIn {post : Int32 → Prop} {l w : Nat} (hl : l < 16) (hw : w < 256) (h1 : mo_h w l → post 1) (h0 : ¬ mo_h w l → post 0) : wpX_holdsIn post (nI l) (nI w) := by
  unfold wpX_holdsIn
  rw [bi_s1 (show l < 2 ^ 31 by omega), bi_bit (show w < 2 ^ 31 by omega) (show l / 2 < 32 by omega), bi_1]
  have b : w / 2 ^ (l / 2) % 2 < 2 := Nat.mod_lt _ (by decide)
  have b' : l % 2 < 2 := Nat.mod_lt _ (by decide)
  refine nm_e ?_
  exact pk_eq (w / 2 ^ (l / 2) % 2) (l % 2) (fun e => h0 (fun z => mo_num.mp z e)) (fun e => h1 (mo_num.mpr e))
theorem yw_holdsIn {post : Int32 → Prop} {l w : Nat} (hl : l < 16) (hw : w < 256) (h1 : mo_h w l → post 1) (h0 : ¬ mo_h w l → post 0) : wpY_holdsIn post (nI w) (nI l) := by
  unfold wpY_holdsIn
  rw [bi_r2 (show l < 2 ^ 31 by omega), bi_d2 (show l < 2 ^ 31 by omega), bi_bit (show w < 2 ^ 31 by omega) (show l / 2 < 32 by omega)]
  have b : w / 2 ^ (l / 2) % 2 < 2 := Nat.mod_lt _ (by decide)
  have b' : l % 2 < 2 := Nat.mod_lt _ (by decide)
  refine ⟨by decide, by decide, ?_⟩
  exact pk_eq (w / 2 ^ (l / 2) % 2) (l % 2) (fun e => h0 (fun z => mo_num.mp z e)) (fun e => h1 (mo_num.mpr e))
theorem xw_isTerm {post : Int32 → Prop} {x f2 f3 f4 : Int32} {ld : Nat → Int32} (hn : n ≤ 16) (h1 : ∀ j, j < n → x = nI j → post 1) (h0 : (¬ ∃ j, j < n ∧ x = nI j) → post 0) :
    wpX_isTerm post (nI n, f2, f3, f4, kk, fp, sp, ll, rr, li, ss, ld) x := wi_b (m := n) rfl (by omega) h1 h0
theorem xw_isLit {post : Int32 → Prop} {x f1 f3 f4 : Int32} {ld : Nat → Int32} (ha : a ≤ 8) (h1 : ∀ j, j < 2 * a → x = nI j → post 1) (h0 : (¬ ∃ j, j < 2 * a ∧ x = nI j) → post 0) :
    wpX_isLiteral post (f1, nI a, f3, f4, kk, fp, sp, ll, rr, li, ss, ld) x := wi_b (m := 2 * a) (pk_mul 2 a) (by omega) h1 h0
theorem yw_within {post : Int32 → Prop} {x : Int32} {m : Nat} (hm : m < 2 ^ 31) (h1 : ∀ j, j < m → x = nI j → post 1) (h0 : (¬ ∃ j, j < m ∧ x = nI j) → post 0) :
    wpY_within post x (nI m) := wi_b (m := m) rfl hm h1 h0
theorem xw_fits {post : Int32 → Prop} {x f1 f3 f4 : Int32} {ld : Nat → Int32} (ha : a ≤ 8) (h1 : (x = -1 ∨ ∃ j, j < 2 * a ∧ x = nI j) → post 1) (h0 : ¬ (x = -1 ∨ ∃ j, j < 2 * a ∧ x = nI j) → post 0) :
    wpX_fitsClause post (f1, nI a, f3, f4, kk, fp, sp, ll, rr, li, ss, ld) x := by
  unfold wpX_fitsClause
  dsimp only
  refine br_c (fun e => h1 (Or.inl e)) (fun e => ?_)
  refine xw_isLit ha (fun j hj ej => ?_) (fun z => ?_)
  · exact br_f (by decide) (h1 (Or.inr ⟨j, hj, ej⟩))
  · exact br_t rfl (h0 (fun y => y.elim e z))
theorem xw_stack {post : Int32 → Prop} {w : Nat} {ld : Nat → Int32} (I : st_I n a c h K P Q Lf Rt St kk fp sp ll rr li ss) (hw : w < 256) (h1 : mo_S h St w → post 1) (h0 : ¬ mo_S h St w → post 0) :
    wpX_stackHolds post (nI n, nI a, nI c, nI h, kk, fp, sp, ll, rr, li, ss, ld) (nI w) := by
  have hh := st_h I
  have ha := st_a I
  refine loop_0 (σ := Unit) (fun m i _ => wX_stackHolds_2 post (nI w) (nI n) (nI a) (nI c) (nI h) kk fp sp ll rr li ss ld m (nI i)) (fun i _ => ∀ k, k < i → mo_h w (St k)) h () (fun k hk => absurd hk (Nat.not_lt_zero k)) ?_ ?_
  · intro m _ H
    exact pk_le h h (fun _ => h1 H) (fun z => absurd z (by omega))
  · intro m i _ hi H ih
    refine pk_le h i (fun z => absurd z (by omega)) (fun _ => And.intro (pk_in i 8 (by omega)) ?_)
    have hs := st_S2 I i hi
    rw [nI_clamp (show i < 2 ^ 31 by omega), st_S I i hi]
    refine xw_holdsIn (by omega) hw (fun z => ?_) (fun z => ?_)
    · refine br_f (by decide) (nm_r (nI_1 i) (ih () (fun k hk => ?_)))
      by_cases e : k = i
      · rw [e]; exact z
      · exact H k (by omega)
    · exact br_t rfl (h0 (fun q => z (q i hi)))
theorem xw_clause {post : Int32 → Prop} {w j : Nat} {ld : Nat → Int32} (I : st_I n a c h K P Q Lf Rt St kk fp sp ll rr li ss) (hw : w < 256) (hj : j < c) (h1 : mo_D li w j → post 1) (h0 : ¬ mo_D li w j → post 0) :
    wpX_clauseHolds post (nI n, nI a, nI c, nI h, kk, fp, sp, ll, rr, li, ss, ld) (nI j) (nI w) := by
  have hc := st_c I
  have ha := st_a I
  unfold wpX_clauseHolds
  dsimp only
  have e3 : nI j * 3 = nI (3 * j) := by
    have := pk_mul j 3
    rw [Nat.mul_comm 3 j]
    exact this
  refine nm_r e3 ?_
  refine loop_0 (σ := Unit) (fun m i _ => wX_clauseHolds_7 post (nI w) (nI (3 * j)) (nI n) (nI a) (nI c) (nI h) kk fp sp ll rr li ss ld m (nI i)) (fun i _ => ∀ k, k < i → ¬ mo_L w (li (3 * j + k))) 3 () (fun k hk => absurd hk (Nat.not_lt_zero k)) ?_ ?_
  · intro m _ H
    refine pk_le 3 3 (fun _ => h0 (fun z => ?_)) (fun z => absurd z (by omega))
    obtain ⟨i, hi, z⟩ := z
    exact H i hi z
  · intro m i _ hi H ih
    refine pk_le 3 i (fun z => absurd z (by omega)) (fun _ => ?_)
    rw [nI_add]
    refine And.intro (pk_in (3 * j + i) 36 (by omega)) ?_
    rw [nI_clamp (show 3 * j + i < 2 ^ 31 by omega)]
    have go : ∀ z : ¬ mo_L w (li (3 * j + i)), ∀ k, k < i + 1 → ¬ mo_L w (li (3 * j + k)) := by
      intro z k hk
      by_cases e : k = i
      · rw [e]; exact z
      · exact H k (by omega)
    rcases st_C I (3 * j + i) (by omega) with e | ⟨l, hl, e⟩
    · refine nm_r e (br_t rfl (nm_r (nI_1 i) (ih () (go (fun z => ?_)))))
      obtain ⟨l, hl, e', _⟩ := z
      exact bi_m1 l (by omega) (e'.symm.trans e)
    · refine nm_r e (br_f (bi_m1 l (by omega)) ?_)
      refine xw_holdsIn (by omega) hw (fun z => ?_) (fun z => ?_)
      · exact br_f (by decide) (h1 ⟨i, hi, l, by omega, e, z⟩)
      · refine br_t rfl (nm_r (nI_1 i) (ih () (go (fun q => ?_))))
        obtain ⟨l', hl', e', q⟩ := q
        have x := e.symm.trans e'
        rw [nI_eq (by omega) (by omega)] at x
        rw [x] at z
        exact z q
theorem xw_clauses {post : Int32 → Prop} {w : Nat} {ld : Nat → Int32} (I : st_I n a c h K P Q Lf Rt St kk fp sp ll rr li ss) (hw : w < 256) (h1 : mo_C c li w → post 1) (h0 : ¬ mo_C c li w → post 0) :
    wpX_clausesHold post (nI n, nI a, nI c, nI h, kk, fp, sp, ll, rr, li, ss, ld) (nI w) := by
  have hc := st_c I
  refine loop_0 (σ := Unit) (fun m i _ => wX_clausesHold_2 post (nI w) (nI n) (nI a) (nI c) (nI h) kk fp sp ll rr li ss ld m (nI i)) (fun i _ => ∀ k, k < i → mo_D li w k) c () (fun k hk => absurd hk (Nat.not_lt_zero k)) ?_ ?_
  · intro m _ H
    exact pk_le c c (fun _ => h1 H) (fun z => absurd z (by omega))
  · intro m i _ hi H ih
    refine pk_le c i (fun z => absurd z (by omega)) (fun _ => ?_)
    refine xw_clause I hw hi (fun z => ?_) (fun z => ?_)
    · refine br_f (by decide) (nm_r (nI_1 i) (ih () (fun k hk => ?_)))
      by_cases e : k = i
      · rw [e]; exact z
      · exact H k (by omega)
    · exact br_t rfl (h0 (fun q => z (q i hi)))
end
