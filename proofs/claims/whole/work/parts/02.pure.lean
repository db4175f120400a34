section
/-- a congruence: an equivalence, and functions of equal parts (kind 0: a constant; kind 2: two parts) are equal -/
def cc_Cong (n : Nat) (k p q : Nat → Nat) (R : Nat → Nat → Prop) : Prop :=
  (∀ t, R t t) ∧ (∀ t u, R t u → R u t) ∧ (∀ t u v, R t u → R u v → R t v) ∧
  (∀ t u, t < n → u < n → k t = k u → k t ≠ 0 → R (p t) (p u) → (k t = 2 → R (q t) (q u)) → R t u)
/-- what follows from the equalities E: what every congruence that has them has -/
def cc_Fol (n : Nat) (k p q : Nat → Nat) (E : Nat → Nat → Prop) (t u : Nat) : Prop :=
  ∀ R : Nat → Nat → Prop, cc_Cong n k p q R → (∀ a b, E a b → R a b) → R t u
theorem cc_fol_cong (n : Nat) (k p q : Nat → Nat) (E : Nat → Nat → Prop) : cc_Cong n k p q (cc_Fol n k p q E) :=
  ⟨fun t R hR _ => hR.1 t, fun t u h R hR hE => hR.2.1 _ _ (h R hR hE),
   fun t u v h h' R hR hE => hR.2.2.1 _ _ _ (h R hR hE) (h' R hR hE),
   fun t u ht hu hk h0 hp hq R hR hE => hR.2.2.2 t u ht hu hk h0 (hp R hR hE) (fun h2 => hq h2 R hR hE)⟩
theorem cc_fol_E {n : Nat} {k p q : Nat → Nat} {E : Nat → Nat → Prop} {a b : Nat} (h : E a b) : cc_Fol n k p q E a b :=
  fun _ _ hE => hE a b h
theorem cc_fol_cut {n : Nat} {k p q : Nat → Nat} {E E' : Nat → Nat → Prop} (h : ∀ a b, E' a b → cc_Fol n k p q E a b) {t u : Nat}
    (f : cc_Fol n k p q E' t u) : cc_Fol n k p q E t u := f _ (cc_fol_cong n k p q E) h
theorem cc_fol_mono {n : Nat} {k p q : Nat → Nat} {E E' : Nat → Nat → Prop} (h : ∀ a b, E' a b → E a b) {t u : Nat}
    (f : cc_Fol n k p q E' t u) : cc_Fol n k p q E t u := cc_fol_cut (fun a b e => cc_fol_E (h a b e)) f
/-- a leader array: each term below n has a leader not above it, that leads itself -/
def cc_LI (n : Nat) (L : Nat → Nat) : Prop := ∀ t, t < n → L t ≤ t ∧ L (L t) = L t
/-- the leaders say no more than what follows -/
def cc_So (n : Nat) (k p q : Nat → Nat) (E : Nat → Nat → Prop) (L : Nat → Nat) : Prop :=
  ∀ t u, t < n → u < n → L t = L u → cc_Fol n k p q E t u
/-- the leaders say just what follows -/
def cc_Ex (n : Nat) (k p q : Nat → Nat) (E : Nat → Nat → Prop) (L : Nat → Nat) : Prop :=
  cc_LI n L ∧ ∀ t u, t < n → u < n → (L t = L u ↔ cc_Fol n k p q E t u)
/-- joined: who is led by d below n is led by c -/
def cc_jo (n : Nat) (L : Nat → Nat) (c d : Nat) : Nat → Nat := fun v => if v < n ∧ L v = d then c else L v
theorem cc_jo_t {n : Nat} {L : Nat → Nat} {c d v : Nat} (hv : v < n) (h : L v = d) : cc_jo n L c d v = c := if_pos ⟨hv, h⟩
theorem cc_jo_f {n : Nat} {L : Nat → Nat} {c d v : Nat} (h : ¬ L v = d) : cc_jo n L c d v = L v := if_neg (fun z => h z.2)
theorem cc_jo_LI {n : Nat} {L : Nat → Nat} (h : cc_LI n L) {c d : Nat} (hcd : c < d) (hc : L c = c) :
    cc_LI n (cc_jo n L c d) := by
  intro t ht
  obtain ⟨h1, h2⟩ := h t ht
  by_cases e : L t = d
  · have e1 : cc_jo n L c d t = c := cc_jo_t ht e
    have e2 : cc_jo n L c d c = L c := cc_jo_f (by omega)
    rw [e1, e2]; exact ⟨by omega, hc⟩
  · have e1 : cc_jo n L c d t = L t := cc_jo_f e
    have e2 : cc_jo n L c d (L t) = L (L t) := cc_jo_f (by omega)
    rw [e1, e2]; exact ⟨h1, h2⟩
theorem cc_jo_So {n : Nat} {k p q : Nat → Nat} {E : Nat → Nat → Prop} {L : Nat → Nat} (h : cc_So n k p q E L) {c d t u : Nat}
    (ht : t < n) (hu : u < n) (hc : L t = c) (hd : L u = d) (f : cc_Fol n k p q E t u) : cc_So n k p q E (cc_jo n L c d) := by
  have C := cc_fol_cong n k p q E
  intro a b ha hb e
  by_cases xa : L a = d
  · by_cases xb : L b = d
    · exact h a b ha hb (xa.trans xb.symm)
    · rw [cc_jo_t ha xa, cc_jo_f xb] at e
      exact C.2.2.1 _ _ _ (h a u ha hu (xa.trans hd.symm)) (C.2.2.1 _ _ _ (C.2.1 _ _ f) (h t b ht hb (hc.trans e)))
  · by_cases xb : L b = d
    · rw [cc_jo_f xa, cc_jo_t hb xb] at e
      exact C.2.2.1 _ _ _ (h a t ha ht (e.trans hc.symm)) (C.2.2.1 _ _ _ f (h u b hu hb (hd.trans xb.symm)))
    · rw [cc_jo_f xa, cc_jo_f xb] at e
      exact h a b ha hb e
/-- complete: the leaders are closed and have the equalities -/
theorem cc_done {n : Nat} {k p q : Nat → Nat} {E : Nat → Nat → Prop} {L : Nat → Nat} (hI : cc_LI n L) (hS : cc_So n k p q E L)
    (hE : ∀ a b, E a b → a < n ∧ b < n ∧ L a = L b)
    (hC : ∀ t u, t < n → u < n → k t = k u → k t ≠ 0 → L (p t) = L (p u) → (k t = 2 → L (q t) = L (q u)) → L t = L u) :
    cc_Ex n k p q E L := by
  refine ⟨hI, fun t u ht hu => ⟨hS t u ht hu, fun f => ?_⟩⟩
  have H := f (fun a b => a = b ∨ (a < n ∧ b < n ∧ L a = L b)) ?_ (fun a b e => Or.inr (hE a b e))
  · rcases H with e | e
    · rw [e]
    · exact e.2.2
  · refine ⟨fun _ => Or.inl rfl, ?_, ?_, ?_⟩
    · intro a b h
      rcases h with e | e
      · exact Or.inl e.symm
      · exact Or.inr ⟨e.2.1, e.1, e.2.2.symm⟩
    · intro a b c h h'
      rcases h with e | e
      · rw [e]; exact h'
      · rcases h' with e' | e'
        · rw [← e']; exact Or.inr e
        · exact Or.inr ⟨e.1, e'.2.1, e.2.2.trans e'.2.2⟩
    · intro a b ha hb hk h0 h1 h2
      refine Or.inr ⟨ha, hb, hC a b ha hb hk h0 ?_ ?_⟩
      · rcases h1 with e | e
        · rw [e]
        · exact e.2.2
      · intro z
        rcases h2 z with e | e
        · rw [e]
        · exact e.2.2
/-- two exact leader arrays of the same equalities agree below n -/
theorem cc_uniq {n : Nat} {k p q : Nat → Nat} {E : Nat → Nat → Prop} {L M : Nat → Nat} (hL : cc_Ex n k p q E L) (hM : cc_Ex n k p q E M) :
    ∀ t, t < n → L t = M t := by
  intro t ht
  obtain ⟨a1, a2⟩ := hL.1 t ht
  obtain ⟨b1, b2⟩ := hM.1 t ht
  have x : M (L t) = M t := (hM.2 (L t) t (by omega) ht).mpr ((hL.2 (L t) t (by omega) ht).mp a2)
  have y : L (M t) = L t := (hL.2 (M t) t (by omega) ht).mpr ((hM.2 (M t) t (by omega) ht).mp b2)
  have x1 := (hM.1 (L t) (by omega)).1
  have y1 := (hL.1 (M t) (by omega)).1
  omega
/-- how many below i have the property -/
def cc_cnt (P : Nat → Bool) : Nat → Nat
  | 0 => 0
  | i + 1 => cc_cnt P i + (if P i = true then 1 else 0)
theorem cc_cnt_t {P : Nat → Bool} {i : Nat} (h : P i = true) : cc_cnt P (i + 1) = cc_cnt P i + 1 := by
  show cc_cnt P i + (if P i = true then 1 else 0) = _
  rw [if_pos h]
theorem cc_cnt_f {P : Nat → Bool} {i : Nat} (h : ¬ P i = true) : cc_cnt P (i + 1) = cc_cnt P i := by
  show cc_cnt P i + (if P i = true then 1 else 0) = _
  rw [if_neg h]
  rfl
theorem cc_cnt_le {P Q : Nat → Bool} (i : Nat) (h : ∀ j, j < i → P j = true → Q j = true) : cc_cnt P i ≤ cc_cnt Q i := by
  induction i with
  | zero => exact Nat.le_refl _
  | succ i ih =>
    have ih := ih (fun j hj => h j (by omega))
    by_cases x : P i = true
    · rw [cc_cnt_t x, cc_cnt_t (h i (by omega) x)]; omega
    · rw [cc_cnt_f x]
      by_cases y : Q i = true
      · rw [cc_cnt_t y]; omega
      · rw [cc_cnt_f y]; exact ih
theorem cc_cnt_lt {P Q : Nat → Bool} (i : Nat) (h : ∀ j, j < i → P j = true → Q j = true) (d : Nat) (hd : d < i) (hp : ¬ P d = true) (hq : Q d = true) : cc_cnt P i < cc_cnt Q i := by
  induction i with
  | zero => omega
  | succ i ih =>
    by_cases e : d = i
    · rw [e] at hp hq
      have ih := cc_cnt_le (P := P) (Q := Q) i (fun j hj => h j (by omega))
      rw [cc_cnt_f hp, cc_cnt_t hq]; omega
    · have ih := ih (fun j hj => h j (by omega)) (by omega)
      by_cases x : P i = true
      · rw [cc_cnt_t x, cc_cnt_t (h i (by omega) x)]; omega
      · rw [cc_cnt_f x]
        by_cases y : Q i = true
        · rw [cc_cnt_t y]; omega
        · rw [cc_cnt_f y]; exact ih
theorem cc_cnt_pos {P : Nat → Bool} {i d : Nat} (hd : d < i) (h : P d = true) : 0 < cc_cnt P i := by
  have := cc_cnt_lt (P := fun _ => false) (Q := P) i (fun j _ z => absurd (show false = true from z) (by decide)) d hd (fun z => absurd (show false = true from z) (by decide)) h
  omega
theorem cc_cnt_n {P : Nat → Bool} (i : Nat) : cc_cnt P i ≤ i := by
  induction i with
  | zero => exact Nat.le_refl _
  | succ i ih =>
    by_cases x : P i = true
    · rw [cc_cnt_t x]; omega
    · rw [cc_cnt_f x]; omega
/-- how many lead themselves -/
def cc_nl (n : Nat) (L : Nat → Nat) : Nat := cc_cnt (fun t => decide (L t = t)) n
theorem cc_jo_nl {n : Nat} {L : Nat → Nat} {c d : Nat} (hcd : c < d) (hc : L c = c) (hd : L d = d) (hdn : d < n) :
    cc_nl n (cc_jo n L c d) < cc_nl n L := by
  refine cc_cnt_lt n ?_ d hdn ?_ ?_
  · intro j hj h
    have h1 : cc_jo n L c d j = j := of_decide_eq_true h
    refine decide_eq_true ?_
    by_cases e : L j = d
    · rw [cc_jo_t hj e] at h1
      rw [← h1]; exact hc
    · rw [cc_jo_f e] at h1
      exact h1
  · intro h
    have h1 : cc_jo n L c d d = d := of_decide_eq_true h
    rw [cc_jo_t hdn hd] at h1
    omega
  · exact decide_eq_true hd
theorem cc_nl_le (n : Nat) (L : Nat → Nat) : cc_nl n L ≤ n := cc_cnt_n n
theorem cc_nl_pos {n : Nat} {L : Nat → Nat} (h : cc_LI n L) (hn : 0 < n) : 0 < cc_nl n L :=
  cc_cnt_pos (d := 0) hn (decide_eq_true (by have := (h 0 hn).1; omega))
/-- the atoms of a set -/
def cc_E (a : Nat) (Lf Rt : Nat → Nat) (s x y : Nat) : Prop := ∃ i, i < a ∧ s.testBit i = true ∧ Lf i = x ∧ Rt i = y
def cc_F (n : Nat) (K P Q : Nat → Nat) (a : Nat) (Lf Rt : Nat → Nat) (s t u : Nat) : Prop := cc_Fol n K P Q (cc_E a Lf Rt s) t u
def cc_WF (n : Nat) (K P Q : Nat → Nat) (a : Nat) (Lf Rt : Nat → Nat) : Prop :=
  (∀ t, t < n → K t ≠ 0 → P t < n) ∧ (∀ t, t < n → K t = 2 → Q t < n) ∧ (∀ i, i < a → Lf i < n ∧ Rt i < n)
def cc_jn (n : Nat) (L : Nat → Nat) (t u : Nat) : Nat → Nat := cc_jo n L (if L t < L u then L t else L u) (if L t < L u then L u else L t)
theorem cc_jn_lt {n : Nat} {L : Nat → Nat} {t u : Nat} (h : L t < L u) : cc_jn n L t u = cc_jo n L (L t) (L u) := by
  unfold cc_jn
  rw [if_pos h, if_pos h]
theorem cc_jn_ge {n : Nat} {L : Nat → Nat} {t u : Nat} (h : ¬ L t < L u) : cc_jn n L t u = cc_jo n L (L u) (L t) := by
  unfold cc_jn
  rw [if_neg h, if_neg h]
theorem cc_jo_same (n : Nat) (L : Nat → Nat) (c : Nat) : cc_jo n L c c = L := by
  funext v
  by_cases h : L v = c
  · by_cases hv : v < n
    · rw [cc_jo_t hv h, h]
    · exact if_neg (fun z => hv z.1)
  · exact cc_jo_f h
theorem cc_jo_m {n : Nat} {L : Nat → Nat} {c d a b : Nat} (ha : a < n) (hb : b < n) (e : L a = L b) : cc_jo n L c d a = cc_jo n L c d b := by
  by_cases h : L a = d
  · rw [cc_jo_t ha h, cc_jo_t hb (e.symm.trans h)]
  · rw [cc_jo_f h, cc_jo_f (fun z => h (e.trans z)), e]
theorem cc_jn_ok {n : Nat} {K P Q : Nat → Nat} {E : Nat → Nat → Prop} {L : Nat → Nat} (hI : cc_LI n L) (hS : cc_So n K P Q E L) {t u : Nat}
    (ht : t < n) (hu : u < n) (f : cc_Fol n K P Q E t u) :
    cc_LI n (cc_jn n L t u) ∧ cc_So n K P Q E (cc_jn n L t u) ∧ cc_jn n L t u t = cc_jn n L t u u ∧
    (∀ a b, a < n → b < n → L a = L b → cc_jn n L t u a = cc_jn n L t u b) ∧ (L t ≠ L u → cc_nl n (cc_jn n L t u) < cc_nl n L) := by
  have it := hI t ht
  have iu := hI u hu
  rcases Nat.lt_trichotomy (L t) (L u) with h | h | h
  · rw [cc_jn_lt h]
    refine ⟨cc_jo_LI hI h it.2, cc_jo_So hS ht hu rfl rfl f, ?_, fun a b ha hb e => cc_jo_m ha hb e, fun _ => cc_jo_nl h it.2 iu.2 (by omega)⟩
    have x : ¬ L t = L u := by omega
    rw [cc_jo_f x, cc_jo_t hu rfl]
  · have e : cc_jn n L t u = L := by
      have x : ¬ L t < L u := by omega
      rw [cc_jn_ge x, h]
      exact cc_jo_same n L (L u)
    rw [e]
    exact ⟨hI, hS, h, fun _ _ _ _ z => z, fun z => absurd h z⟩
  · have x : ¬ L t < L u := by omega
    rw [cc_jn_ge x]
    refine ⟨cc_jo_LI hI h iu.2, cc_jo_So hS hu ht rfl rfl ((cc_fol_cong n K P Q E).2.1 _ _ f), ?_, fun a b ha hb e => cc_jo_m ha hb e, fun _ => cc_jo_nl h iu.2 it.2 (by omega)⟩
    have y : ¬ L u = L t := by omega
    rw [cc_jo_t ht rfl, cc_jo_f y]
/-- two terms are the same function of equal parts -/
def cc_al (K P Q L : Nat → Nat) (t u : Nat) : Prop := K t = K u ∧ K t ≠ 0 ∧ L (P t) = L (P u) ∧ (K t = 2 → L (Q t) = L (Q u))
theorem cc_al_s {K P Q L : Nat → Nat} {t u : Nat} (h : cc_al K P Q L t u) : cc_al K P Q L u t :=
  ⟨h.1.symm, fun z => h.2.1 (h.1.trans z), h.2.2.1.symm, fun z => (h.2.2.2 (h.1.trans z)).symm⟩
theorem cc_al_fol {n a : Nat} {K P Q Lf Rt : Nat → Nat} {s : Nat} {L : Nat → Nat} (W : cc_WF n K P Q a Lf Rt) (hS : cc_So n K P Q (cc_E a Lf Rt s) L) {t u : Nat}
    (ht : t < n) (hu : u < n) (h : cc_al K P Q L t u) : cc_F n K P Q a Lf Rt s t u :=
  (cc_fol_cong n K P Q (cc_E a Lf Rt s)).2.2.2 t u ht hu h.1 h.2.1
    (hS _ _ (W.1 t ht h.2.1) (W.1 u hu (fun z => h.2.1 (h.1.trans z))) h.2.2.1)
    (fun z => hS _ _ (W.2.1 t ht z) (W.2.1 u hu (h.1.symm.trans z)) (h.2.2.2 z))
/-- the leaders while the first m atoms have been joined -/
def cc_AI (n : Nat) (K P Q : Nat → Nat) (a : Nat) (Lf Rt : Nat → Nat) (s m : Nat) (L : Nat → Nat) : Prop :=
  cc_LI n L ∧ cc_So n K P Q (cc_E a Lf Rt s) L ∧ ∀ i, i < m → s.testBit i = true → L (Lf i) = L (Rt i)
theorem cc_AI_0 (n : Nat) (K P Q : Nat → Nat) (a : Nat) (Lf Rt : Nat → Nat) (s : Nat) : cc_AI n K P Q a Lf Rt s 0 (fun t => t) := by
  refine ⟨fun t _ => ⟨Nat.le_refl t, rfl⟩, ?_, fun i hi => absurd hi (Nat.not_lt_zero i)⟩
  intro t u _ _ e
  have e' : t = u := e
  rw [e']
  exact (cc_fol_cong n K P Q (cc_E a Lf Rt s)).1 u
theorem cc_AI_skip {n : Nat} {K P Q : Nat → Nat} {a : Nat} {Lf Rt : Nat → Nat} {s m : Nat} {L : Nat → Nat} (h : cc_AI n K P Q a Lf Rt s m L) (hb : ¬ s.testBit m = true) :
    cc_AI n K P Q a Lf Rt s (m + 1) L := by
  refine ⟨h.1, h.2.1, fun i hi hs => ?_⟩
  by_cases e : i = m
  · rw [e] at hs; exact absurd hs hb
  · exact h.2.2 i (by omega) hs
theorem cc_AI_join {n : Nat} {K P Q : Nat → Nat} {a : Nat} {Lf Rt : Nat → Nat} {s m : Nat} {L : Nat → Nat} (W : cc_WF n K P Q a Lf Rt) (h : cc_AI n K P Q a Lf Rt s m L) (hm : m < a) (hb : s.testBit m = true) :
    cc_AI n K P Q a Lf Rt s (m + 1) (cc_jn n L (Lf m) (Rt m)) := by
  have w := W.2.2 m hm
  have J := cc_jn_ok (E := cc_E a Lf Rt s) h.1 h.2.1 w.1 w.2 (cc_fol_E ⟨m, hm, hb, rfl, rfl⟩)
  refine ⟨J.1, J.2.1, fun i hi hs => ?_⟩
  by_cases e : i = m
  · rw [e]; exact J.2.2.1
  · have wi := W.2.2 i (by omega)
    exact J.2.2.2.1 _ _ wi.1 wi.2 (h.2.2 i (by omega) hs)
theorem cc_RI_join {n : Nat} {K P Q : Nat → Nat} {a : Nat} {Lf Rt : Nat → Nat} {s : Nat} {L : Nat → Nat} (W : cc_WF n K P Q a Lf Rt) (h : cc_AI n K P Q a Lf Rt s a L) {t u : Nat} (ht : t < n) (hu : u < n) (hl : cc_al K P Q L t u) :
    cc_AI n K P Q a Lf Rt s a (cc_jn n L t u) ∧ (L t ≠ L u → cc_nl n (cc_jn n L t u) < cc_nl n L) := by
  have J := cc_jn_ok (E := cc_E a Lf Rt s) h.1 h.2.1 ht hu (cc_al_fol W h.2.1 ht hu hl)
  exact ⟨⟨J.1, J.2.1, fun i hi hs => J.2.2.2.1 _ _ (W.2.2 i hi).1 (W.2.2 i hi).2 (h.2.2 i hi hs)⟩, J.2.2.2.2⟩
theorem cc_fin {n : Nat} {K P Q : Nat → Nat} {a : Nat} {Lf Rt : Nat → Nat} {s : Nat} {L : Nat → Nat} (W : cc_WF n K P Q a Lf Rt) (h : cc_AI n K P Q a Lf Rt s a L)
    (hc : ∀ t u, t < n → u < n → cc_al K P Q L t u → L t = L u) : cc_Ex n K P Q (cc_E a Lf Rt s) L := by
  refine cc_done h.1 h.2.1 ?_ (fun t u ht hu e0 e1 e2 e3 => hc t u ht hu ⟨e0, e1, e2, e3⟩)
  intro x y hxy
  obtain ⟨i, hi, hb, e1, e2⟩ := hxy
  have w := W.2.2 i hi
  have z := h.2.2 i hi hb
  rw [e1, e2] at z
  rw [e1, e2] at w
  exact ⟨w.1, w.2, z⟩
end
