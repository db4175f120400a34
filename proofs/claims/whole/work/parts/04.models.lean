section
/-- a literal holds in a way -/
def mo_h (w l : Nat) : Prop := w.testBit (l / 2) = true ↔ l % 2 = 0
/-- a way is possible -/
def mo_P (n : Nat) (K P Q : Nat → Nat) (a : Nat) (Lf Rt : Nat → Nat) (w : Nat) : Prop :=
  ∀ i, i < a → ¬ w.testBit i = true → ¬ cc_F n K P Q a Lf Rt w (Lf i) (Rt i)
def mo_S (h : Nat) (St : Nat → Nat) (w : Nat) : Prop := ∀ k, k < h → mo_h w (St k)
def mo_L (w : Nat) (x : Int32) : Prop := ∃ l, l < 16 ∧ x = nI l ∧ mo_h w l
def mo_D (li : Nat → Int32) (w j : Nat) : Prop := ∃ i, i < 3 ∧ mo_L w (li (3 * j + i))
def mo_C (c : Nat) (li : Nat → Int32) (w : Nat) : Prop := ∀ j, j < c → mo_D li w j
/-- a way is a model -/
def mo_M (n : Nat) (K P Q : Nat → Nat) (a : Nat) (Lf Rt : Nat → Nat) (c : Nat) (li : Nat → Int32) (h : Nat) (St : Nat → Nat) (w : Nat) : Prop :=
  mo_S h St w ∧ mo_C c li w ∧ mo_P n K P Q a Lf Rt w
/-- the atoms that follow, by leaders -/
def fo_n (L Lf Rt : Nat → Nat) : Nat → Nat
  | 0 => 0
  | i + 1 => if L (Lf i) = L (Rt i) then fo_n L Lf Rt i ||| 2 ^ i else fo_n L Lf Rt i
theorem fo_t {L Lf Rt : Nat → Nat} {i : Nat} (h : L (Lf i) = L (Rt i)) : fo_n L Lf Rt (i + 1) = fo_n L Lf Rt i ||| 2 ^ i := by
  show (if L (Lf i) = L (Rt i) then fo_n L Lf Rt i ||| 2 ^ i else fo_n L Lf Rt i) = _
  exact if_pos h
theorem fo_f {L Lf Rt : Nat → Nat} {i : Nat} (h : ¬ L (Lf i) = L (Rt i)) : fo_n L Lf Rt (i + 1) = fo_n L Lf Rt i := by
  show (if L (Lf i) = L (Rt i) then fo_n L Lf Rt i ||| 2 ^ i else fo_n L Lf Rt i) = _
  exact if_neg h
theorem fo_lt (L Lf Rt : Nat → Nat) (k : Nat) : fo_n L Lf Rt k < 2 ^ k := by
  induction k with
  | zero => exact Nat.two_pow_pos 0
  | succ k ih =>
    have p2 : 2 ^ (k + 1) = 2 ^ k + 2 ^ k := by rw [Nat.pow_succ]; omega
    by_cases x : L (Lf k) = L (Rt k)
    · rw [fo_t x]
      exact Nat.or_lt_two_pow (by omega) (Nat.pow_lt_pow_right (by decide) (by omega))
    · rw [fo_f x]; omega
theorem fo_bit {L Lf Rt : Nat → Nat} (k i : Nat) : (fo_n L Lf Rt k).testBit i = true ↔ i < k ∧ L (Lf i) = L (Rt i) := by
  induction k with
  | zero =>
    constructor
    · intro h
      have h' : (0 : Nat).testBit i = true := h
      rw [Nat.zero_testBit] at h'
      exact absurd h' (by decide)
    · intro h
      exact absurd h.1 (Nat.not_lt_zero i)
  | succ k ih =>
    by_cases x : L (Lf k) = L (Rt k)
    · rw [fo_t x, Nat.testBit_or, Bool.or_eq_true, ih, Nat.testBit_two_pow, decide_eq_true_eq]
      constructor
      · intro h
        rcases h with h | h
        · exact ⟨by omega, h.2⟩
        · rw [← h]; exact ⟨by omega, x⟩
      · intro h
        by_cases e : k = i
        · exact Or.inr e
        · exact Or.inl ⟨by omega, h.2⟩
    · rw [fo_f x, ih]
      constructor
      · intro h
        exact ⟨by omega, h.2⟩
      · intro h
        by_cases e : i = k
        · rw [e] at h; exact absurd h.2 x
        · exact ⟨by omega, h.2⟩
theorem ps_iff {n : Nat} {K P Q : Nat → Nat} {a : Nat} {Lf Rt : Nat → Nat} {w : Nat} {L : Nat → Nat} (W : cc_WF n K P Q a Lf Rt) (hw : w < 2 ^ a) (X : cc_Ex n K P Q (cc_E a Lf Rt w) L) :
    fo_n L Lf Rt a = w ↔ mo_P n K P Q a Lf Rt w := by
  constructor
  · intro e i hi hb f
    have b := fo_bit (L := L) (Lf := Lf) (Rt := Rt) a i
    rw [e] at b
    exact hb (b.mpr ⟨hi, (X.2 _ _ (W.2.2 i hi).1 (W.2.2 i hi).2).mpr f⟩)
  · intro h
    refine bs_eq (fo_lt L Lf Rt a) hw (fun i hi => ?_)
    rw [fo_bit]
    constructor
    · intro z
      apply Classical.byContradiction
      intro nb
      exact h i hi nb ((X.2 _ _ (W.2.2 i hi).1 (W.2.2 i hi).2).mp z.2)
    · intro b
      exact ⟨hi, (X.2 _ _ (W.2.2 i hi).1 (W.2.2 i hi).2).mpr (cc_fol_E ⟨i, hi, b, rfl, rfl⟩)⟩
/-- some possible way has all literals at the places -/
def mo_B (n : Nat) (K P Q : Nat → Nat) (a : Nat) (Lf Rt : Nat → Nat) (h : Nat) (St : Nat → Nat) (p : Nat) : Prop :=
  ∃ w, w < 2 ^ a ∧ mo_P n K P Q a Lf Rt w ∧ ∀ k, k < h → p.testBit k = true → mo_h w (St k)
theorem bl_iff {n : Nat} {K P Q : Nat → Nat} {a : Nat} {Lf Rt : Nat → Nat} {h : Nat} {St : Nat → Nat} (hS : ∀ k, k < h → St k < 2 * a) (p : Nat) :
    ¬ mo_B n K P Q a Lf Rt h St p ↔ ∃ i, i < a ∧ cc_F n K P Q a Lf Rt (as_n St 0 p h) (Lf i) (Rt i) ∧ (as_n St 1 p h).testBit i = true := by
  constructor
  · intro nb
    apply Classical.byContradiction
    intro nc
    apply nb
    obtain ⟨w, hw, hb⟩ := bs_ex (fun i => cc_F n K P Q a Lf Rt (as_n St 0 p h) (Lf i) (Rt i)) a
    refine ⟨w, hw, ?_, ?_⟩
    · intro i hi hz f
      apply hz
      refine (hb i hi).mpr (cc_fol_cut ?_ f)
      intro x y exy
      obtain ⟨j, hj, hjb, e1, e2⟩ := exy
      rw [← e1, ← e2]
      exact (hb j hj).mp hjb
    · intro k hk hp
      have hs := hS k hk
      have hd : St k / 2 < a := by omega
      by_cases e : St k % 2 = 0
      · refine ⟨fun _ => e, fun _ => (hb _ hd).mpr (cc_fol_E ⟨St k / 2, hd, ?_, rfl, rfl⟩)⟩
        exact (as_bit h (St k / 2)).mpr ⟨k, hk, hp, e, rfl⟩
      · refine ⟨fun z => absurd ⟨St k / 2, hd, (hb _ hd).mp z, ?_⟩ nc, fun z => absurd z e⟩
        exact (as_bit h (St k / 2)).mpr ⟨k, hk, hp, by omega, rfl⟩
  · intro hc hB
    obtain ⟨i, hi, f, hb⟩ := hc
    obtain ⟨w, hw, hP, hl⟩ := hB
    obtain ⟨k, hk, hp, ho, he⟩ := (as_bit h i).mp hb
    have hk' := hl k hk hp
    have nb : ¬ w.testBit i = true := by
      intro z
      rw [← he] at z
      have := hk'.mp z
      omega
    refine hP i hi nb (cc_fol_mono ?_ f)
    intro x y exy
    obtain ⟨j, hj, hjb, e1, e2⟩ := exy
    obtain ⟨k', hk1, hp1, ho1, he1⟩ := (as_bit h j).mp hjb
    refine ⟨j, hj, ?_, e1, e2⟩
    have := (hl k' hk1 hp1).mpr ho1
    rw [he1] at this
    exact this
theorem an_ex {x y : Nat} : ¬ (x &&& y) = 0 ↔ ∃ i, x.testBit i = true ∧ y.testBit i = true := by
  constructor
  · intro h
    obtain ⟨i, hi⟩ := Nat.exists_testBit_of_ne_zero h
    rw [Nat.testBit_and, Bool.and_eq_true] at hi
    exact ⟨i, hi⟩
  · intro h e
    obtain ⟨i, h1, h2⟩ := h
    have z : (x &&& y).testBit i = true := by rw [Nat.testBit_and, h1, h2]; rfl
    rw [e, Nat.zero_testBit] at z
    exact absurd z (by decide)
/-- only atoms at the places -/
def wh_A (h : Nat) (St : Nat → Nat) (p : Nat) : Prop := ∀ k, k < h → p.testBit k = true → St k % 2 = 0
theorem wh_strip {h : Nat} (h8 : h ≤ 8) (St : Nat → Nat) {p : Nat} (hp : p < 2 ^ h) :
    ∃ q, q < 2 ^ h ∧ wh_A h St q ∧ as_n St 0 q h = as_n St 0 p h ∧ (sz_n q 8 < sz_n p 8 ∨ q = p) := by
  obtain ⟨q, hq, hb⟩ := bs_ex (fun k => p.testBit k = true ∧ St k % 2 = 0) h
  have sub : ∀ i, i < 8 → q.testBit i = true → p.testBit i = true := by
    intro i _ hi
    by_cases x : i < h
    · exact ((hb i x).mp hi).1
    · have b : 2 ^ h ≤ 2 ^ i := Nat.pow_le_pow_right (by decide) (by omega)
      rw [Nat.testBit_lt_two_pow (show q < 2 ^ i by omega)] at hi
      exact absurd hi (by decide)
  refine ⟨q, hq, fun k hk hk' => ((hb k hk).mp hk').2, ?_, ?_⟩
  · exact as_cg h (fun j hj ho => ⟨fun z => ((hb j hj).mp z).1, fun z => (hb j hj).mpr ⟨z, ho⟩⟩)
  · by_cases x : ∀ k, k < h → (q.testBit k = true ↔ p.testBit k = true)
    · exact Or.inr (bs_eq hq hp x)
    · refine Or.inl ?_
      apply Classical.byContradiction
      intro nl
      apply x
      intro k hk
      refine ⟨sub k (by omega), fun z => ?_⟩
      apply Classical.byContradiction
      intro nq
      exact nl (sz_lt 8 sub k (by omega) nq z)
theorem wh_eq {h : Nat} (h8 : h ≤ 8) (St : Nat → Nat) (F : Nat → Prop) {b : Int32}
    (H : am_P (fun p => wh_A h St p ∧ F (as_n St 0 p h)) (2 ^ h) b) : am_P (fun p => F (as_n St 0 p h)) (2 ^ h) b := by
  refine am_c (fun p _ z => z.2) ?_ H
  intro p hp hF
  obtain ⟨q, hq, h1, h2, h3⟩ := wh_strip h8 St hp
  refine ⟨q, hq, ⟨h1, ?_⟩, h3⟩
  rw [h2]
  exact hF
/-- how many classes -/
noncomputable def cl_N (n : Nat) (K P Q : Nat → Nat) (a : Nat) (Lf Rt : Nat → Nat) (w : Nat) : Nat :=
  cc_cnt (fun t => @decide (∀ u, u < t → ¬ cc_F n K P Q a Lf Rt w t u) (Classical.propDecidable _)) n
theorem cl_eq {n : Nat} {K P Q : Nat → Nat} {a : Nat} {Lf Rt : Nat → Nat} {w : Nat} {L : Nat → Nat} (X : cc_Ex n K P Q (cc_E a Lf Rt w) L) : cc_nl n L = cl_N n K P Q a Lf Rt w := by
  apply Nat.le_antisymm
  · refine cc_cnt_le n (fun t ht h => ?_)
    have e : L t = t := of_decide_eq_true h
    refine @decide_eq_true _ (Classical.propDecidable _) (fun u hu f => ?_)
    have z := (X.2 t u ht (by omega)).mpr f
    have := (X.1 u (by omega)).1
    omega
  · refine cc_cnt_le n (fun t ht h => ?_)
    have hh : ∀ u, u < t → ¬ cc_F n K P Q a Lf Rt w t u := @of_decide_eq_true _ (Classical.propDecidable _) h
    refine decide_eq_true ?_
    have i := X.1 t ht
    by_cases e : L t = t
    · exact e
    · exact absurd ((X.2 t (L t) ht (by omega)).mp i.2.symm) (hh (L t) (by omega))
theorem cl_le (n : Nat) (K P Q : Nat → Nat) (a : Nat) (Lf Rt : Nat → Nat) (w : Nat) : cl_N n K P Q a Lf Rt w ≤ n := cc_cnt_n n
/-- the answer of a count of models -/
def ve_N (m f : Nat) : Int32 := if f = 0 then -2 else if m = f then 1 else if m = 0 then 0 else 2
/-- one more where it has Q -/
noncomputable def gq_N (Q : Nat → Prop) (w s : Nat) : Nat := @ite Nat (Q w) (Classical.propDecidable (Q w)) (s + 1) s
theorem gq_t {Q : Nat → Prop} {w s : Nat} (h : Q w) : gq_N Q w s = s + 1 := if_pos h
theorem gq_f {Q : Nat → Prop} {w s : Nat} (h : ¬ Q w) : gq_N Q w s = s := if_neg h
theorem gq_pc (P Q : Nat → Prop) (w : Nat) : xf_s P (gq_N Q) 0 w = pc_n (fun x => P x ∧ Q x) w := by
  induction w with
  | zero => rfl
  | succ w ih =>
    by_cases x : P w
    · rw [xf_t x, ih]
      by_cases y : Q w
      · rw [gq_t y, pc_t (P := fun x => P x ∧ Q x) ⟨x, y⟩]
      · rw [gq_f y, pc_f (P := fun x => P x ∧ Q x) (fun z => y z.2)]
    · rw [xf_f x, ih, pc_f (P := fun x => P x ∧ Q x) (fun z => x z.1)]
/-- the best of two counts -/
def bt_O (least : Bool) (c : Nat) : Option Nat → Option Nat
  | none => some c
  | some b => if least = true then (if c < b then some c else some b) else (if b < c then some c else some b)
def bt_I : Option Nat → Int32
  | none => -2
  | some b => nI b
end
