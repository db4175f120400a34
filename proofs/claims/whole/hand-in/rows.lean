section
theorem pk_us {f : Nat → Int32} {k : Nat} {x : Int32} : upd f k x k = x := if_pos rfl
theorem pk_un {f : Nat → Int32} {k j : Nat} {x : Int32} (h : j ≠ k) : upd f k x j = f j := if_neg h
theorem pk_sub {a b : Nat} (h : b ≤ a) : nI a - nI b = nI (a - b) := by
  obtain ⟨c, rfl⟩ : ∃ c, a = c + b := ⟨a - b, by omega⟩
  rw [← nI_add, Int32.add_sub_cancel, Nat.add_sub_cancel]
theorem pk_m1 (n : Nat) : nI (n + 1) + (-1) = nI n := by
  rw [← nI_1, Int32.add_assoc, show (1 : Int32) + (-1) = 0 from rfl, Int32.add_zero]
theorem pk_mul (a b : Nat) : nI a * nI b = nI (a * b) := (Int32.ofNat_mul a b).symm
theorem pk_div {a d : Nat} (ha : a < 2 ^ 31) (h0 : 0 < d) (hd : d < 2 ^ 31) : nI a / nI d = nI (a / d) := by
  apply Int32.toInt_inj.mp
  rw [lg_idiv_nonneg (by rw [nI_toInt ha]; omega) (by rw [nI_toInt hd]; omega), nI_toInt ha, nI_toInt hd, nI_toInt (Nat.lt_of_le_of_lt (Nat.div_le_self a d) ha)]
  first | rfl | exact (Int.natCast_ediv _ _).symm
theorem pk_rem {a d : Nat} (ha : a < 2 ^ 31) (h0 : 0 < d) (hd : d < 2 ^ 31) : nI a - nI a / nI d * nI d = nI (a % d) := by
  rw [pk_div ha h0 hd, pk_mul, pk_sub (Nat.div_mul_le_self a d)]
  exact congrArg nI (by have := Nat.div_add_mod' a d; omega)
theorem pk_ix (x : Int32) {n : Nat} (hn : n < 2 ^ 31) : x < 0 ∨ nI n ≤ x ∨ ∃ j : Nat, j < n ∧ x = nI j := by
  by_cases h : x < 0
  · exact Or.inl h
  · obtain ⟨j, hj, rfl⟩ := nI_of h
    by_cases h2 : j < n
    · exact Or.inr (Or.inr ⟨j, h2, rfl⟩)
    · exact Or.inr (Or.inl (nI_le (by omega) hj))
theorem pk_le {x y : Int32} {A B : Prop} (a b : Nat) (f : a ≤ b → A) (g : b < a → B) (hx : x = nI a := by rfl) (hy : y = nI b := by rfl) (ha : a < 2 ^ 31 := by omega) (hb : b < 2 ^ 31 := by omega) : (x ≤ y → A) ∧ (¬ x ≤ y → B) := by
  subst hx hy
  rw [nI_leI ha hb]
  exact ⟨f, fun z => g (by omega)⟩
theorem pk_lt {x y : Int32} {A B : Prop} (a b : Nat) (f : a < b → A) (g : b ≤ a → B) (hx : x = nI a := by rfl) (hy : y = nI b := by rfl) (ha : a < 2 ^ 31 := by omega) (hb : b < 2 ^ 31 := by omega) : (x < y → A) ∧ (¬ x < y → B) := by
  subst hx hy
  rw [nI_ltI ha hb]
  exact ⟨f, fun z => g (by omega)⟩
theorem pk_eq {x y : Int32} {A B : Prop} (a b : Nat) (f : a = b → A) (g : a ≠ b → B) (hx : x = nI a := by rfl) (hy : y = nI b := by rfl) (ha : a < 2 ^ 31 := by omega) (hb : b < 2 ^ 31 := by omega) : (x = y → A) ∧ (¬ x = y → B) := by
  subst hx hy
  rw [nI_eq ha hb]
  exact ⟨f, g⟩
theorem pk_in {x : Int32} (n N : Nat) (h : n < N) (hx : x = nI n := by rfl) (hN : N < 2 ^ 31 := by omega) : vp_in x N := by
  subst hx
  exact vp_in_nI h hN
theorem pk_cl {x : Int32} (n : Nat) (hx : x = nI n := by rfl) (h : n < 2 ^ 31 := by omega) : x.toNatClampNeg = n := by
  subst hx
  exact nI_clamp h
theorem pk_tn {n : Nat} (h : n < 2 ^ 32) : (nI n).toBitVec.toNat = n := Nat.mod_eq_of_lt h
theorem pk_and (x : Int32) {m : Int32} (k : Nat) (hm : m.toBitVec.toNat = 2 ^ k - 1) : x &&& m = nI (x.toBitVec.toNat % 2 ^ k) := by
  apply Int32.toBitVec_inj.mp
  apply BitVec.eq_of_toNat_eq
  rw [Int32.toBitVec_and, BitVec.toNat_and, hm, Nat.and_two_pow_sub_one_eq_mod]
  show _ = (BitVec.ofNat 32 _).toNat
  rw [BitVec.toNat_ofNat]
  exact (Nat.mod_eq_of_lt (Nat.lt_of_le_of_lt (Nat.mod_le _ _) x.toBitVec.isLt)).symm
theorem pk_andN {n : Nat} (h : n < 2 ^ 32) {m : Int32} (k : Nat) (hm : m.toBitVec.toNat = 2 ^ k - 1) : nI n &&& m = nI (n % 2 ^ k) := by
  rw [pk_and _ k hm, pk_tn h]
theorem pk_shl (a s : Int32) (k : Nat) (hs : (s.toBitVec.smod 32).toNat = k) : (a <<< s).toBitVec.toNat = a.toBitVec.toNat * 2 ^ k % 2 ^ 32 := by
  show (a.toBitVec <<< (s.toBitVec.smod 32).toNat).toNat = _
  rw [hs, BitVec.toNat_shiftLeft, Nat.shiftLeft_eq]
theorem pk_shlN {n : Nat} (s : Int32) (k : Nat) (hs : (s.toBitVec.smod 32).toNat = k) (h : n * 2 ^ k < 2 ^ 32) : nI n <<< s = nI (n * 2 ^ k) := by
  apply Int32.toBitVec_inj.mp
  apply BitVec.eq_of_toNat_eq
  have hn : n < 2 ^ 32 := Nat.lt_of_le_of_lt (Nat.le_mul_of_pos_right n (Nat.two_pow_pos k)) h
  rw [pk_shl _ _ k hs, pk_tn hn, pk_tn h, Nat.mod_eq_of_lt h]
theorem pk_shr (a s : Int32) (k : Nat) (hs : (s.toBitVec.smod 32).toNat = k) : (a >>> s).toInt = a.toInt >>> k := by
  show (a.toBitVec.sshiftRight (s.toBitVec.smod 32).toNat).toInt = _
  rw [hs, BitVec.toInt_sshiftRight]
  rfl
theorem pk_shrN {n : Nat} (h : n < 2 ^ 31) (s : Int32) (k : Nat) (hs : (s.toBitVec.smod 32).toNat = k) : nI n >>> s = nI (n / 2 ^ k) := by
  apply Int32.toInt_inj.mp
  have h2 : n / 2 ^ k ≤ n := Nat.div_le_self _ _
  rw [pk_shr _ _ k hs, nI_toInt h, nI_toInt (by omega), Int.shiftRight_eq_div_pow]
  rfl
theorem pk_loop {σ : Type} (W : Nat → Nat → σ → Prop) (I : Nat → σ → Prop) (e i0 : Nat) (s : σ) (hi : i0 ≤ e) (h0 : I i0 s) (hx : ∀ n s, I e s → W (n + 1) e s)
    (hs : ∀ n i s, i < e → I i s → (∀ s', I (i + 1) s' → W n (i + 1) s') → W (n + 1) i s) : ∃ n, W n i0 s :=
  ⟨e + 1, loop_i W I e hx hs (e + 1) i0 s hi (by omega) h0⟩
theorem ek_if {c d A B : Prop} (e : c ↔ d) (f : d → A) (g : ¬ d → B) : (c → A) ∧ (¬ c → B) :=
  ⟨fun z => f (e.mp z), fun z => g (fun y => z (e.mpr y))⟩
theorem ek_v {α : Sort _} {P : α → Prop} {a b : α} (e : a = b) (h : P b) : P a := e ▸ h
theorem s_l : ∀ n, n < 32 → ((nI n &&& 31).toBitVec.smod 32).toNat = n := by decide +kernel
theorem nx_and (a b : Nat) : nI a &&& nI b = nI (a &&& b) := by
  apply Int32.toBitVec_inj.1
  show BitVec.ofNat 32 a &&& BitVec.ofNat 32 b = BitVec.ofNat 32 (a &&& b)
  apply BitVec.eq_of_getLsbD_eq
  intro i hi
  simp [hi]
theorem bi_or (a b : Nat) : nI a ||| nI b = nI (a ||| b) := by
  apply Int32.toBitVec_inj.1
  show BitVec.ofNat 32 a ||| BitVec.ofNat 32 b = BitVec.ofNat 32 (a ||| b)
  apply BitVec.eq_of_getLsbD_eq
  intro i hi
  simp [hi]
theorem bi_1 (a : Nat) : nI a &&& 1 = nI (a % 2) := by
  have h := nx_and a 1
  rw [Nat.and_one_is_mod] at h
  exact h
theorem bi_shr {n k : Nat} (hn : n < 2 ^ 31) (hk : k < 32) : nI n >>> (nI k &&& 31) = nI (n / 2 ^ k) := pk_shrN hn _ k (s_l k hk)
theorem bi_bit {n k : Nat} (hn : n < 2 ^ 31) (hk : k < 32) : (nI n >>> (nI k &&& 31)) &&& 1 = nI (n / 2 ^ k % 2) := by
  rw [bi_shr hn hk, bi_1]
theorem bi_shl1 {k : Nat} (hk : k < 31) : (1 : Int32) <<< (nI k &&& 31) = nI (2 ^ k) := by
  have h := pk_shlN (n := 1) (nI k &&& 31) k (s_l k (by omega)) (by rw [Nat.one_mul]; exact Nat.pow_lt_pow_right (by decide) (by omega))
  rw [Nat.one_mul] at h
  exact h
theorem bi_tb (n k : Nat) : n / 2 ^ k % 2 = if n.testBit k = true then 1 else 0 := by
  rw [Nat.testBit_eq_decide_div_mod_eq]
  have h : n / 2 ^ k % 2 < 2 := Nat.mod_lt _ (by decide)
  by_cases e : n / 2 ^ k % 2 = 1
  · rw [e]; rfl
  · have e0 : n / 2 ^ k % 2 = 0 := by omega
    rw [e0]; rfl
theorem bi_b1 {n k : Nat} (h : n.testBit k = true) : n / 2 ^ k % 2 = 1 := by rw [bi_tb, if_pos h]
theorem bi_b0 {n k : Nat} (h : n.testBit k = false) : n / 2 ^ k % 2 = 0 := by
  have h' : ¬ n.testBit k = true := by rw [h]; decide
  rw [bi_tb, if_neg h']
theorem bi_ft {x : Bool} (h : ¬ x = true) : x = false := by cases x <;> first | rfl | exact absurd rfl h
theorem bi_pw {k m : Nat} (h : k < m) : 2 ^ k < 2 ^ m := Nat.pow_lt_pow_right (by decide) h
theorem bi_p8 {a : Nat} (h : a ≤ 8) : 2 ^ a ≤ 256 := Nat.pow_le_pow_right (n := 2) (by decide) h
theorem bi_m1 (n : Nat) (h : n < 2 ^ 31) : ¬ nI n = -1 := by
  intro e
  have h1 : (nI n).toInt = (n : Int) := nI_toInt h
  rw [e] at h1
  have h2 : (-1 : Int32).toInt = -1 := by decide
  omega
theorem bi_nn {n : Nat} (h : n < 2 ^ 31) : ¬ nI n < 0 := by
  have h1 : (nI n).toInt = (n : Int) := nI_toInt h
  have h2 : (0 : Int32).toInt = 0 := by decide
  rw [Int32.lt_iff_toInt_lt, h1, h2]
  omega
theorem bi_0n {n : Nat} (h : n < 2 ^ 31) : (0 : Int32) ≤ nI n := Int32.not_lt.mp (bi_nn h)
end
section
section
/-- a congruence: an equivalence, and functions of equal parts (kind 0: a constant; kind 2: two parts) are equal -/
def cc_Cong (n : Nat) (k p q : Nat → Nat) (R : Nat → Nat → Prop) : Prop :=
  (∀ t, R t t) ∧ (∀ t u, R t u → R u t) ∧ (∀ t u v, R t u → R u v → R t v) ∧
  (∀ t u, t < n → u < n → k t = k u → k t ≠ 0 → R (p t) (p u) → (k t = 2 → R (q t) (q u)) → R t u)
/-- what follows from the equalities E: what every congruence that has them has -/
def cc_Fol (n : Nat) (k p q : Nat → Nat) (E : Nat → Nat → Prop) (t u : Nat) : Prop :=
  ∀ R : Nat → Nat → Prop, cc_Cong n k p q R → (∀ a b, E a b → R a b) → R t u
theorem cc_fol_cong (n : Nat) (k p q : Nat → Nat) (E : Nat → Nat → Prop) : cc_Cong n k p q (cc_Fol n k p q E) :=
  ⟨fun t R hR _ => hR.1 t, fun t u h R hR hE => hR.2.1 _ _ (h R hR hE),
   fun t u v h h' R hR hE => hR.2.2.1 _ _ _ (h R hR hE) (h' R hR hE),
   fun t u ht hu hk h0 hp hq R hR hE => hR.2.2.2 t u ht hu hk h0 (hp R hR hE) (fun h2 => hq h2 R hR hE)⟩
theorem cc_fol_E {n : Nat} {k p q : Nat → Nat} {E : Nat → Nat → Prop} {a b : Nat} (h : E a b) : cc_Fol n k p q E a b :=
  fun _ _ hE => hE a b h
theorem cc_fol_cut {n : Nat} {k p q : Nat → Nat} {E E' : Nat → Nat → Prop} (h : ∀ a b, E' a b → cc_Fol n k p q E a b) {t u : Nat}
    (f : cc_Fol n k p q E' t u) : cc_Fol n k p q E t u := f _ (cc_fol_cong n k p q E) h
theorem cc_fol_mono {n : Nat} {k p q : Nat → Nat} {E E' : Nat → Nat → Prop} (h : ∀ a b, E' a b → E a b) {t u : Nat}
    (f : cc_Fol n k p q E' t u) : cc_Fol n k p q E t u := cc_fol_cut (fun a b e => cc_fol_E (h a b e)) f
/-- a leader array: each term below n has a leader not above it, that leads itself -/
def cc_LI (n : Nat) (L : Nat → Nat) : Prop := ∀ t, t < n → L t ≤ t ∧ L (L t) = L t
/-- the leaders say no more than what follows -/
def cc_So (n : Nat) (k p q : Nat → Nat) (E : Nat → Nat → Prop) (L : Nat → Nat) : Prop :=
  ∀ t u, t < n → u < n → L t = L u → cc_Fol n k p q E t u
/-- the leaders say just what follows -/
def cc_Ex (n : Nat) (k p q : Nat → Nat) (E : Nat → Nat → Prop) (L : Nat → Nat) : Prop :=
  cc_LI n L ∧ ∀ t u, t < n → u < n → (L t = L u ↔ cc_Fol n k p q E t u)
/-- joined: who is led by d below n is led by c -/
def cc_jo (n : Nat) (L : Nat → Nat) (c d : Nat) : Nat → Nat := fun v => if v < n ∧ L v = d then c else L v
theorem cc_jo_t {n : Nat} {L : Nat → Nat} {c d v : Nat} (hv : v < n) (h : L v = d) : cc_jo n L c d v = c := if_pos ⟨hv, h⟩
theorem cc_jo_f {n : Nat} {L : Nat → Nat} {c d v : Nat} (h : ¬ L v = d) : cc_jo n L c d v = L v := if_neg (fun z => h z.2)
theorem cc_jo_LI {n : Nat} {L : Nat → Nat} (h : cc_LI n L) {c d : Nat} (hcd : c < d) (hc : L c = c) :
    cc_LI n (cc_jo n L c d) := by
  intro t ht
  obtain ⟨h1, h2⟩ := h t ht
  by_cases e : L t = d
  · have e1 : cc_jo n L c d t = c := cc_jo_t ht e
    have e2 : cc_jo n L c d c = L c := cc_jo_f (by omega)
    rw [e1, e2]; exact ⟨by omega, hc⟩
  · have e1 : cc_jo n L c d t = L t := cc_jo_f e
    have e2 : cc_jo n L c d (L t) = L (L t) := cc_jo_f (by omega)
    rw [e1, e2]; exact ⟨h1, h2⟩
theorem cc_jo_So {n : Nat} {k p q : Nat → Nat} {E : Nat → Nat → Prop} {L : Nat → Nat} (h : cc_So n k p q E L) {c d t u : Nat}
    (ht : t < n) (hu : u < n) (hc : L t = c) (hd : L u = d) (f : cc_Fol n k p q E t u) : cc_So n k p q E (cc_jo n L c d) := by
  have C := cc_fol_cong n k p q E
  intro a b ha hb e
  by_cases xa : L a = d
  · by_cases xb : L b = d
    · exact h a b ha hb (xa.trans xb.symm)
    · rw [cc_jo_t ha xa, cc_jo_f xb] at e
      exact C.2.2.1 _ _ _ (h a u ha hu (xa.trans hd.symm)) (C.2.2.1 _ _ _ (C.2.1 _ _ f) (h t b ht hb (hc.trans e)))
  · by_cases xb : L b = d
    · rw [cc_jo_f xa, cc_jo_t hb xb] at e
      exact C.2.2.1 _ _ _ (h a t ha ht (e.trans hc.symm)) (C.2.2.1 _ _ _ f (h u b hu hb (hd.trans xb.symm)))
    · rw [cc_jo_f xa, cc_jo_f xb] at e
      exact h a b ha hb e
/-- complete: the leaders are closed and have the equalities -/
theorem cc_done {n : Nat} {k p q : Nat → Nat} {E : Nat → Nat → Prop} {L : Nat → Nat} (hI : cc_LI n L) (hS : cc_So n k p q E L)
    (hE : ∀ a b, E a b → a < n ∧ b < n ∧ L a = L b)
    (hC : ∀ t u, t < n → u < n → k t = k u → k t ≠ 0 → L (p t) = L (p u) → (k t = 2 → L (q t) = L (q u)) → L t = L u) :
    cc_Ex n k p q E L := by
  refine ⟨hI, fun t u ht hu => ⟨hS t u ht hu, fun f => ?_⟩⟩
  have H := f (fun a b => a = b ∨ (a < n ∧ b < n ∧ L a = L b)) ?_ (fun a b e => Or.inr (hE a b e))
  · rcases H with e | e
    · rw [e]
    · exact e.2.2
  · refine ⟨fun _ => Or.inl rfl, ?_, ?_, ?_⟩
    · intro a b h
      rcases h with e | e
      · exact Or.inl e.symm
      · exact Or.inr ⟨e.2.1, e.1, e.2.2.symm⟩
    · intro a b c h h'
      rcases h with e | e
      · rw [e]; exact h'
      · rcases h' with e' | e'
        · rw [← e']; exact Or.inr e
        · exact Or.inr ⟨e.1, e'.2.1, e.2.2.trans e'.2.2⟩
    · intro a b ha hb hk h0 h1 h2
      refine Or.inr ⟨ha, hb, hC a b ha hb hk h0 ?_ ?_⟩
      · rcases h1 with e | e
        · rw [e]
        · exact e.2.2
      · intro z
        rcases h2 z with e | e
        · rw [e]
        · exact e.2.2
/-- two exact leader arrays of the same equalities agree below n -/
theorem cc_uniq {n : Nat} {k p q : Nat → Nat} {E : Nat → Nat → Prop} {L M : Nat → Nat} (hL : cc_Ex n k p q E L) (hM : cc_Ex n k p q E M) :
    ∀ t, t < n → L t = M t := by
  intro t ht
  obtain ⟨a1, a2⟩ := hL.1 t ht
  obtain ⟨b1, b2⟩ := hM.1 t ht
  have x : M (L t) = M t := (hM.2 (L t) t (by omega) ht).mpr ((hL.2 (L t) t (by omega) ht).mp a2)
  have y : L (M t) = L t := (hL.2 (M t) t (by omega) ht).mpr ((hM.2 (M t) t (by omega) ht).mp b2)
  have x1 := (hM.1 (L t) (by omega)).1
  have y1 := (hL.1 (M t) (by omega)).1
  omega
/-- how many below i have the property -/
def cc_cnt (P : Nat → Bool) : Nat → Nat
  | 0 => 0
  | i + 1 => cc_cnt P i + (if P i = true then 1 else 0)
theorem cc_cnt_t {P : Nat → Bool} {i : Nat} (h : P i = true) : cc_cnt P (i + 1) = cc_cnt P i + 1 := by
  show cc_cnt P i + (if P i = true then 1 else 0) = _
  rw [if_pos h]
theorem cc_cnt_f {P : Nat → Bool} {i : Nat} (h : ¬ P i = true) : cc_cnt P (i + 1) = cc_cnt P i := by
  show cc_cnt P i + (if P i = true then 1 else 0) = _
  rw [if_neg h]
  rfl
theorem cc_cnt_le {P Q : Nat → Bool} (i : Nat) (h : ∀ j, j < i → P j = true → Q j = true) : cc_cnt P i ≤ cc_cnt Q i := by
  induction i with
  | zero => exact Nat.le_refl _
  | succ i ih =>
    have ih := ih (fun j hj => h j (by omega))
    by_cases x : P i = true
    · rw [cc_cnt_t x, cc_cnt_t (h i (by omega) x)]; omega
    · rw [cc_cnt_f x]
      by_cases y : Q i = true
      · rw [cc_cnt_t y]; omega
      · rw [cc_cnt_f y]; exact ih
theorem cc_cnt_lt {P Q : Nat → Bool} (i : Nat) (h : ∀ j, j < i → P j = true → Q j = true) (d : Nat) (hd : d < i) (hp : ¬ P d = true) (hq : Q d = true) : cc_cnt P i < cc_cnt Q i := by
  induction i with
  | zero => omega
  | succ i ih =>
    by_cases e : d = i
    · rw [e] at hp hq
      have ih := cc_cnt_le (P := P) (Q := Q) i (fun j hj => h j (by omega))
      rw [cc_cnt_f hp, cc_cnt_t hq]; omega
    · have ih := ih (fun j hj => h j (by omega)) (by omega)
      by_cases x : P i = true
      · rw [cc_cnt_t x, cc_cnt_t (h i (by omega) x)]; omega
      · rw [cc_cnt_f x]
        by_cases y : Q i = true
        · rw [cc_cnt_t y]; omega
        · rw [cc_cnt_f y]; exact ih
theorem cc_cnt_pos {P : Nat → Bool} {i d : Nat} (hd : d < i) (h : P d = true) : 0 < cc_cnt P i := by
  have := cc_cnt_lt (P := fun _ => false) (Q := P) i (fun j _ z => absurd (show false = true from z) (by decide)) d hd (fun z => absurd (show false = true from z) (by decide)) h
  omega
theorem cc_cnt_n {P : Nat → Bool} (i : Nat) : cc_cnt P i ≤ i := by
  induction i with
  | zero => exact Nat.le_refl _
  | succ i ih =>
    by_cases x : P i = true
    · rw [cc_cnt_t x]; omega
    · rw [cc_cnt_f x]; omega
/-- how many lead themselves -/
def cc_nl (n : Nat) (L : Nat → Nat) : Nat := cc_cnt (fun t => decide (L t = t)) n
theorem cc_jo_nl {n : Nat} {L : Nat → Nat} {c d : Nat} (hcd : c < d) (hc : L c = c) (hd : L d = d) (hdn : d < n) :
    cc_nl n (cc_jo n L c d) < cc_nl n L := by
  refine cc_cnt_lt n ?_ d hdn ?_ ?_
  · intro j hj h
    have h1 : cc_jo n L c d j = j := of_decide_eq_true h
    refine decide_eq_true ?_
    by_cases e : L j = d
    · rw [cc_jo_t hj e] at h1
      rw [← h1]; exact hc
    · rw [cc_jo_f e] at h1
      exact h1
  · intro h
    have h1 : cc_jo n L c d d = d := of_decide_eq_true h
    rw [cc_jo_t hdn hd] at h1
    omega
  · exact decide_eq_true hd
theorem cc_nl_le (n : Nat) (L : Nat → Nat) : cc_nl n L ≤ n := cc_cnt_n n
theorem cc_nl_pos {n : Nat} {L : Nat → Nat} (h : cc_LI n L) (hn : 0 < n) : 0 < cc_nl n L :=
  cc_cnt_pos (d := 0) hn (decide_eq_true (by have := (h 0 hn).1; omega))
/-- the atoms of a set -/
def cc_E (a : Nat) (Lf Rt : Nat → Nat) (s x y : Nat) : Prop := ∃ i, i < a ∧ s.testBit i = true ∧ Lf i = x ∧ Rt i = y
def cc_F (n : Nat) (K P Q : Nat → Nat) (a : Nat) (Lf Rt : Nat → Nat) (s t u : Nat) : Prop := cc_Fol n K P Q (cc_E a Lf Rt s) t u
def cc_WF (n : Nat) (K P Q : Nat → Nat) (a : Nat) (Lf Rt : Nat → Nat) : Prop :=
  (∀ t, t < n → K t ≠ 0 → P t < n) ∧ (∀ t, t < n → K t = 2 → Q t < n) ∧ (∀ i, i < a → Lf i < n ∧ Rt i < n)
def cc_jn (n : Nat) (L : Nat → Nat) (t u : Nat) : Nat → Nat := cc_jo n L (if L t < L u then L t else L u) (if L t < L u then L u else L t)
theorem cc_jn_lt {n : Nat} {L : Nat → Nat} {t u : Nat} (h : L t < L u) : cc_jn n L t u = cc_jo n L (L t) (L u) := by
  unfold cc_jn
  rw [if_pos h, if_pos h]
theorem cc_jn_ge {n : Nat} {L : Nat → Nat} {t u : Nat} (h : ¬ L t < L u) : cc_jn n L t u = cc_jo n L (L u) (L t) := by
  unfold cc_jn
  rw [if_neg h, if_neg h]
theorem cc_jo_same (n : Nat) (L : Nat → Nat) (c : Nat) : cc_jo n L c c = L := by
  funext v
  by_cases h : L v = c
  · by_cases hv : v < n
    · rw [cc_jo_t hv h, h]
    · exact if_neg (fun z => hv z.1)
  · exact cc_jo_f h
theorem cc_jo_m {n : Nat} {L : Nat → Nat} {c d a b : Nat} (ha : a < n) (hb : b < n) (e : L a = L b) : cc_jo n L c d a = cc_jo n L c d b := by
  by_cases h : L a = d
  · rw [cc_jo_t ha h, cc_jo_t hb (e.symm.trans h)]
  · rw [cc_jo_f h, cc_jo_f (fun z => h (e.trans z)), e]
theorem cc_jn_ok {n : Nat} {K P Q : Nat → Nat} {E : Nat → Nat → Prop} {L : Nat → Nat} (hI : cc_LI n L) (hS : cc_So n K P Q E L) {t u : Nat}
    (ht : t < n) (hu : u < n) (f : cc_Fol n K P Q E t u) :
    cc_LI n (cc_jn n L t u) ∧ cc_So n K P Q E (cc_jn n L t u) ∧ cc_jn n L t u t = cc_jn n L t u u ∧
    (∀ a b, a < n → b < n → L a = L b → cc_jn n L t u a = cc_jn n L t u b) ∧ (L t ≠ L u → cc_nl n (cc_jn n L t u) < cc_nl n L) := by
  have it := hI t ht
  have iu := hI u hu
  rcases Nat.lt_trichotomy (L t) (L u) with h | h | h
  · rw [cc_jn_lt h]
    refine ⟨cc_jo_LI hI h it.2, cc_jo_So hS ht hu rfl rfl f, ?_, fun a b ha hb e => cc_jo_m ha hb e, fun _ => cc_jo_nl h it.2 iu.2 (by omega)⟩
    have x : ¬ L t = L u := by omega
    rw [cc_jo_f x, cc_jo_t hu rfl]
  · have e : cc_jn n L t u = L := by
      have x : ¬ L t < L u := by omega
      rw [cc_jn_ge x, h]
      exact cc_jo_same n L (L u)
    rw [e]
    exact ⟨hI, hS, h, fun _ _ _ _ z => z, fun z => absurd h z⟩
  · have x : ¬ L t < L u := by omega
    rw [cc_jn_ge x]
    refine ⟨cc_jo_LI hI h iu.2, cc_jo_So hS hu ht rfl rfl ((cc_fol_cong n K P Q E).2.1 _ _ f), ?_, fun a b ha hb e => cc_jo_m ha hb e, fun _ => cc_jo_nl h iu.2 it.2 (by omega)⟩
    have y : ¬ L u = L t := by omega
    rw [cc_jo_t ht rfl, cc_jo_f y]
/-- two terms are the same function of equal parts -/
def cc_al (K P Q L : Nat → Nat) (t u : Nat) : Prop := K t = K u ∧ K t ≠ 0 ∧ L (P t) = L (P u) ∧ (K t = 2 → L (Q t) = L (Q u))
theorem cc_al_s {K P Q L : Nat → Nat} {t u : Nat} (h : cc_al K P Q L t u) : cc_al K P Q L u t :=
  ⟨h.1.symm, fun z => h.2.1 (h.1.trans z), h.2.2.1.symm, fun z => (h.2.2.2 (h.1.trans z)).symm⟩
theorem cc_al_fol {n a : Nat} {K P Q Lf Rt : Nat → Nat} {s : Nat} {L : Nat → Nat} (W : cc_WF n K P Q a Lf Rt) (hS : cc_So n K P Q (cc_E a Lf Rt s) L) {t u : Nat}
    (ht : t < n) (hu : u < n) (h : cc_al K P Q L t u) : cc_F n K P Q a Lf Rt s t u :=
  (cc_fol_cong n K P Q (cc_E a Lf Rt s)).2.2.2 t u ht hu h.1 h.2.1
    (hS _ _ (W.1 t ht h.2.1) (W.1 u hu (fun z => h.2.1 (h.1.trans z))) h.2.2.1)
    (fun z => hS _ _ (W.2.1 t ht z) (W.2.1 u hu (h.1.symm.trans z)) (h.2.2.2 z))
/-- the leaders while the first m atoms have been joined -/
def cc_AI (n : Nat) (K P Q : Nat → Nat) (a : Nat) (Lf Rt : Nat → Nat) (s m : Nat) (L : Nat → Nat) : Prop :=
  cc_LI n L ∧ cc_So n K P Q (cc_E a Lf Rt s) L ∧ ∀ i, i < m → s.testBit i = true → L (Lf i) = L (Rt i)
theorem cc_AI_0 (n : Nat) (K P Q : Nat → Nat) (a : Nat) (Lf Rt : Nat → Nat) (s : Nat) : cc_AI n K P Q a Lf Rt s 0 (fun t => t) := by
  refine ⟨fun t _ => ⟨Nat.le_refl t, rfl⟩, ?_, fun i hi => absurd hi (Nat.not_lt_zero i)⟩
  intro t u _ _ e
  have e' : t = u := e
  rw [e']
  exact (cc_fol_cong n K P Q (cc_E a Lf Rt s)).1 u
theorem cc_AI_skip {n : Nat} {K P Q : Nat → Nat} {a : Nat} {Lf Rt : Nat → Nat} {s m : Nat} {L : Nat → Nat} (h : cc_AI n K P Q a Lf Rt s m L) (hb : ¬ s.testBit m = true) :
    cc_AI n K P Q a Lf Rt s (m + 1) L := by
  refine ⟨h.1, h.2.1, fun i hi hs => ?_⟩
  by_cases e : i = m
  · rw [e] at hs; exact absurd hs hb
  · exact h.2.2 i (by omega) hs
theorem cc_AI_join {n : Nat} {K P Q : Nat → Nat} {a : Nat} {Lf Rt : Nat → Nat} {s m : Nat} {L : Nat → Nat} (W : cc_WF n K P Q a Lf Rt) (h : cc_AI n K P Q a Lf Rt s m L) (hm : m < a) (hb : s.testBit m = true) :
    cc_AI n K P Q a Lf Rt s (m + 1) (cc_jn n L (Lf m) (Rt m)) := by
  have w := W.2.2 m hm
  have J := cc_jn_ok (E := cc_E a Lf Rt s) h.1 h.2.1 w.1 w.2 (cc_fol_E ⟨m, hm, hb, rfl, rfl⟩)
  refine ⟨J.1, J.2.1, fun i hi hs => ?_⟩
  by_cases e : i = m
  · rw [e]; exact J.2.2.1
  · have wi := W.2.2 i (by omega)
    exact J.2.2.2.1 _ _ wi.1 wi.2 (h.2.2 i (by omega) hs)
theorem cc_RI_join {n : Nat} {K P Q : Nat → Nat} {a : Nat} {Lf Rt : Nat → Nat} {s : Nat} {L : Nat → Nat} (W : cc_WF n K P Q a Lf Rt) (h : cc_AI n K P Q a Lf Rt s a L) {t u : Nat} (ht : t < n) (hu : u < n) (hl : cc_al K P Q L t u) :
    cc_AI n K P Q a Lf Rt s a (cc_jn n L t u) ∧ (L t ≠ L u → cc_nl n (cc_jn n L t u) < cc_nl n L) := by
  have J := cc_jn_ok (E := cc_E a Lf Rt s) h.1 h.2.1 ht hu (cc_al_fol W h.2.1 ht hu hl)
  exact ⟨⟨J.1, J.2.1, fun i hi hs => J.2.2.2.1 _ _ (W.2.2 i hi).1 (W.2.2 i hi).2 (h.2.2 i hi hs)⟩, J.2.2.2.2⟩
theorem cc_fin {n : Nat} {K P Q : Nat → Nat} {a : Nat} {Lf Rt : Nat → Nat} {s : Nat} {L : Nat → Nat} (W : cc_WF n K P Q a Lf Rt) (h : cc_AI n K P Q a Lf Rt s a L)
    (hc : ∀ t u, t < n → u < n → cc_al K P Q L t u → L t = L u) : cc_Ex n K P Q (cc_E a Lf Rt s) L := by
  refine cc_done h.1 h.2.1 ?_ (fun t u ht hu e0 e1 e2 e3 => hc t u ht hu ⟨e0, e1, e2, e3⟩)
  intro x y hxy
  obtain ⟨i, hi, hb, e1, e2⟩ := hxy
  have w := W.2.2 i hi
  have z := h.2.2 i hi hb
  rw [e1, e2] at z
  rw [e1, e2] at w
  exact ⟨w.1, w.2, z⟩
end
end
section
section
/-- how many below i have P -/
noncomputable def pc_n (P : Nat → Prop) : Nat → Nat
  | 0 => 0
  | i + 1 => @ite Nat (P i) (Classical.propDecidable (P i)) (pc_n P i + 1) (pc_n P i)
theorem pc_t {P : Nat → Prop} {i : Nat} (h : P i) : pc_n P (i + 1) = pc_n P i + 1 := by
  show @ite Nat (P i) (Classical.propDecidable (P i)) (pc_n P i + 1) (pc_n P i) = _
  exact if_pos h
theorem pc_f {P : Nat → Prop} {i : Nat} (h : ¬ P i) : pc_n P (i + 1) = pc_n P i := by
  show @ite Nat (P i) (Classical.propDecidable (P i)) (pc_n P i + 1) (pc_n P i) = _
  exact if_neg h
theorem pc_s (P : Nat → Prop) (i : Nat) : pc_n P i ≤ pc_n P (i + 1) ∧ pc_n P (i + 1) ≤ pc_n P i + 1 := by
  by_cases h : P i
  · rw [pc_t h]; omega
  · rw [pc_f h]; omega
theorem pc_le (P : Nat → Prop) (i : Nat) : pc_n P i ≤ i := by
  induction i with
  | zero => exact Nat.le_refl _
  | succ i ih => have := (pc_s P i).2; omega
theorem pc_mono (P : Nat → Prop) {i j : Nat} (h : i ≤ j) : pc_n P i ≤ pc_n P j := by
  induction j with
  | zero => have e : i = 0 := by omega
            rw [e]; exact Nat.le_refl _
  | succ j ih =>
    by_cases e : i = j + 1
    · rw [e]; exact Nat.le_refl _
    · have := ih (by omega)
      have := (pc_s P j).1
      omega
theorem pc_ex (P : Nat → Prop) {k : Nat} (N : Nat) (h : k < pc_n P N) : ∃ w, w < N ∧ P w ∧ pc_n P w = k := by
  induction N with
  | zero => exact absurd h (Nat.not_lt_zero k)
  | succ N ih =>
    by_cases x : P N
    · rw [pc_t x] at h
      by_cases e : pc_n P N = k
      · exact ⟨N, by omega, x, e⟩
      · obtain ⟨w, hw, h1, h2⟩ := ih (by omega)
        exact ⟨w, by omega, h1, h2⟩
    · rw [pc_f x] at h
      obtain ⟨w, hw, h1, h2⟩ := ih h
      exact ⟨w, by omega, h1, h2⟩
theorem pc_inj (P : Nat → Prop) {w w' : Nat} (h : P w) (h' : P w') (e : pc_n P w = pc_n P w') : w = w' := by
  rcases Nat.lt_trichotomy w w' with x | x | x
  · have := pc_mono P (show w + 1 ≤ w' from x)
    rw [pc_t h] at this; omega
  · exact x
  · have := pc_mono P (show w' + 1 ≤ w from x)
    rw [pc_t h'] at this; omega
/-- a walk over those that have P -/
noncomputable def xf_s {σ : Type} (P : Nat → Prop) (g : Nat → σ → σ) (s : σ) : Nat → σ
  | 0 => s
  | i + 1 => @ite σ (P i) (Classical.propDecidable (P i)) (g i (xf_s P g s i)) (xf_s P g s i)
theorem xf_t {σ : Type} {P : Nat → Prop} {g : Nat → σ → σ} {s : σ} {i : Nat} (h : P i) : xf_s P g s (i + 1) = g i (xf_s P g s i) := by
  show @ite σ (P i) (Classical.propDecidable (P i)) (g i (xf_s P g s i)) (xf_s P g s i) = _
  exact if_pos h
theorem xf_f {σ : Type} {P : Nat → Prop} {g : Nat → σ → σ} {s : σ} {i : Nat} (h : ¬ P i) : xf_s P g s (i + 1) = xf_s P g s i := by
  show @ite σ (P i) (Classical.propDecidable (P i)) (g i (xf_s P g s i)) (xf_s P g s i) = _
  exact if_neg h
theorem xf_up {σ : Type} (P : Nat → Prop) (g : Nat → σ → σ) (s : σ) {w : Nat} (w' : Nat) (hw : w ≤ w') (e : pc_n P w' = pc_n P w) : xf_s P g s w' = xf_s P g s w := by
  induction w' with
  | zero => have e : w = 0 := by omega
            rw [e]
  | succ j ih =>
    by_cases x : w = j + 1
    · rw [x]
    · have m := pc_mono P (show w ≤ j by omega)
      by_cases y : P j
      · rw [pc_t y] at e; omega
      · rw [pc_f y] at e
        rw [xf_f y]; exact ih (by omega) e
theorem xf_eq {σ : Type} (P : Nat → Prop) (g : Nat → σ → σ) (s : σ) {w w' : Nat} (e : pc_n P w = pc_n P w') : xf_s P g s w = xf_s P g s w' := by
  rcases Nat.le_total w w' with h | h
  · exact (xf_up P g s w' h e.symm).symm
  · exact xf_up P g s w h e
/-- the bits of a number may be chosen -/
theorem bs_ex (f : Nat → Prop) (N : Nat) : ∃ q, q < 2 ^ N ∧ ∀ k, k < N → (q.testBit k = true ↔ f k) := by
  induction N with
  | zero => exact ⟨0, by decide, fun k hk => absurd hk (Nat.not_lt_zero k)⟩
  | succ N ih =>
    obtain ⟨q, hq, hb⟩ := ih
    have p2 : 2 ^ (N + 1) = 2 ^ N + 2 ^ N := by rw [Nat.pow_succ]; omega
    by_cases x : f N
    · refine ⟨2 ^ N + q, by omega, fun k hk => ?_⟩
      by_cases e : k = N
      · rw [e, Nat.testBit_two_pow_add_eq, Nat.testBit_lt_two_pow hq]
        exact ⟨fun _ => x, fun _ => rfl⟩
      · rw [Nat.testBit_two_pow_add_gt (show k < N by omega)]
        exact hb k (by omega)
    · refine ⟨q, by omega, fun k hk => ?_⟩
      by_cases e : k = N
      · rw [e, Nat.testBit_lt_two_pow hq]
        exact ⟨fun z => absurd z (by decide), fun z => absurd z x⟩
      · exact hb k (by omega)
theorem bs_eq {p q N : Nat} (hp : p < 2 ^ N) (hq : q < 2 ^ N) (h : ∀ k, k < N → (p.testBit k = true ↔ q.testBit k = true)) : p = q := by
  apply Nat.eq_of_testBit_eq
  intro i
  by_cases hi : i < N
  · exact Bool.eq_iff_iff.mpr (h i hi)
  · have b : 2 ^ N ≤ 2 ^ i := Nat.pow_le_pow_right (by decide) (by omega)
    rw [Nat.testBit_lt_two_pow (show p < 2 ^ i by omega), Nat.testBit_lt_two_pow (show q < 2 ^ i by omega)]
/-- how many places -/
def sz_n (p : Nat) : Nat → Nat
  | 0 => 0
  | k + 1 => sz_n p k + p / 2 ^ k % 2
theorem sz_bd (p k : Nat) : sz_n p k ≤ k := by
  induction k with
  | zero => exact Nat.le_refl _
  | succ k ih =>
    show sz_n p k + p / 2 ^ k % 2 ≤ k + 1
    have : p / 2 ^ k % 2 < 2 := Nat.mod_lt _ (by decide)
    omega
theorem sz_sub {p q : Nat} (k : Nat) (h : ∀ i, i < k → q.testBit i = true → p.testBit i = true) : sz_n q k ≤ sz_n p k := by
  induction k with
  | zero => exact Nat.le_refl _
  | succ k ih =>
    have ih := ih (fun i hi => h i (by omega))
    show sz_n q k + q / 2 ^ k % 2 ≤ sz_n p k + p / 2 ^ k % 2
    by_cases x : q.testBit k = true
    · rw [bi_b1 x, bi_b1 (h k (by omega) x)]; omega
    · rw [bi_b0 (bi_ft x)]; omega
theorem sz_lt {p q : Nat} (k : Nat) (h : ∀ i, i < k → q.testBit i = true → p.testBit i = true) (d : Nat) (hd : d < k) (hq : ¬ q.testBit d = true) (hp : p.testBit d = true) : sz_n q k < sz_n p k := by
  induction k with
  | zero => omega
  | succ k ih =>
    show sz_n q k + q / 2 ^ k % 2 < sz_n p k + p / 2 ^ k % 2
    by_cases e : d = k
    · rw [e] at hq hp
      have := sz_sub k (fun i hi => h i (by omega))
      rw [bi_b1 hp, bi_b0 (bi_ft hq)]; omega
    · have ih := ih (fun i hi => h i (by omega)) (by omega)
      by_cases x : q.testBit k = true
      · rw [bi_b1 x, bi_b1 (h k (by omega) x)]; omega
      · rw [bi_b0 (bi_ft x)]; omega
/-- the best of those below i that have R: fewest places, then the least number; -2 if there is none -/
def am_P (R : Nat → Prop) (i : Nat) (b : Int32) : Prop :=
  (b = -2 ∧ ∀ p, p < i → ¬ R p) ∨ ∃ m, m < i ∧ b = nI m ∧ R m ∧ ∀ p, p < i → R p → sz_n m 8 < sz_n p 8 ∨ (sz_n m 8 = sz_n p 8 ∧ m ≤ p)
theorem am_0 (R : Nat → Prop) : am_P R 0 (-2) := Or.inl ⟨rfl, fun p hp => absurd hp (Nat.not_lt_zero p)⟩
theorem am_n {R : Nat → Prop} {i : Nat} {b : Int32} (h : am_P R i b) (x : ¬ R i) : am_P R (i + 1) b := by
  rcases h with ⟨e, h⟩ | ⟨m, hm, e, hr, h⟩
  · refine Or.inl ⟨e, fun p hp => ?_⟩
    by_cases z : p = i
    · rw [z]; exact x
    · exact h p (by omega)
  · refine Or.inr ⟨m, by omega, e, hr, fun p hp hR => ?_⟩
    by_cases z : p = i
    · rw [z] at hR; exact absurd hR x
    · exact h p (by omega) hR
theorem am_first {R : Nat → Prop} {i : Nat} (h : ∀ p, p < i → ¬ R p) (x : R i) : am_P R (i + 1) (nI i) := by
  refine Or.inr ⟨i, by omega, rfl, x, fun p hp hR => ?_⟩
  by_cases z : p = i
  · rw [z]; exact Or.inr ⟨rfl, Nat.le_refl _⟩
  · exact absurd hR (h p (by omega))
theorem am_new {R : Nat → Prop} {i m : Nat} (h : ∀ p, p < i → R p → sz_n m 8 < sz_n p 8 ∨ (sz_n m 8 = sz_n p 8 ∧ m ≤ p)) (x : R i) (l : sz_n i 8 < sz_n m 8) : am_P R (i + 1) (nI i) := by
  refine Or.inr ⟨i, by omega, rfl, x, fun p hp hR => ?_⟩
  by_cases z : p = i
  · rw [z]; exact Or.inr ⟨rfl, Nat.le_refl _⟩
  · have := h p (by omega) hR
    exact Or.inl (by omega)
theorem am_old {R : Nat → Prop} {i m : Nat} (hm : m < i) (hr : R m) (h : ∀ p, p < i → R p → sz_n m 8 < sz_n p 8 ∨ (sz_n m 8 = sz_n p 8 ∧ m ≤ p)) (l : ¬ sz_n i 8 < sz_n m 8) : am_P R (i + 1) (nI m) := by
  refine Or.inr ⟨m, by omega, rfl, hr, fun p hp hR => ?_⟩
  by_cases z : p = i
  · rw [z]
    by_cases e : sz_n m 8 = sz_n i 8
    · exact Or.inr ⟨e, by omega⟩
    · exact Or.inl (by omega)
  · exact h p (by omega) hR
theorem am_u {R : Nat → Prop} {N : Nat} {b c : Int32} (h : am_P R N b) (h' : am_P R N c) : b = c := by
  rcases h with ⟨e, h⟩ | ⟨m, hm, e, hr, h⟩
  · rcases h' with ⟨e', h'⟩ | ⟨m', hm', e', hr', h'⟩
    · rw [e, e']
    · exact absurd hr' (h m' hm')
  · rcases h' with ⟨e', h'⟩ | ⟨m', hm', e', hr', h'⟩
    · exact absurd hr (h' m hm)
    · have x := h m' hm' hr'
      have y := h' m hm hr
      have z : m = m' := by omega
      rw [e, e', z]
theorem am_c {R R' : Nat → Prop} {N : Nat} {b : Int32} (hs : ∀ p, p < N → R' p → R p) (hc : ∀ p, p < N → R p → ∃ p', p' < N ∧ R' p' ∧ (sz_n p' 8 < sz_n p 8 ∨ p' = p)) (h : am_P R' N b) : am_P R N b := by
  rcases h with ⟨e, h⟩ | ⟨m, hm, e, hr, h⟩
  · refine Or.inl ⟨e, fun p hp hR => ?_⟩
    obtain ⟨p', hp', hr', _⟩ := hc p hp hR
    exact h p' hp' hr'
  · refine Or.inr ⟨m, hm, e, hs m hm hr, fun p hp hR => ?_⟩
    obtain ⟨p', hp', hr', x⟩ := hc p hp hR
    have y := h p' hp' hr'
    rcases x with x | x
    · exact Or.inl (by omega)
    · rw [x] at y; exact y
/-- the atoms whose literals at the places are of the kind o: 0 asserted, 1 denied -/
def as_n (St : Nat → Nat) (o p : Nat) : Nat → Nat
  | 0 => 0
  | k + 1 => if p.testBit k = true ∧ St k % 2 = o then as_n St o p k ||| 2 ^ (St k / 2) else as_n St o p k
theorem as_t {St : Nat → Nat} {o p k : Nat} (h : p.testBit k = true) (h' : St k % 2 = o) : as_n St o p (k + 1) = as_n St o p k ||| 2 ^ (St k / 2) := by
  show (if p.testBit k = true ∧ St k % 2 = o then as_n St o p k ||| 2 ^ (St k / 2) else as_n St o p k) = _
  exact if_pos ⟨h, h'⟩
theorem as_f {St : Nat → Nat} {o p k : Nat} (h : ¬ (p.testBit k = true ∧ St k % 2 = o)) : as_n St o p (k + 1) = as_n St o p k := by
  show (if p.testBit k = true ∧ St k % 2 = o then as_n St o p k ||| 2 ^ (St k / 2) else as_n St o p k) = _
  exact if_neg h
theorem as_lt {St : Nat → Nat} {o p a : Nat} (k : Nat) (h : ∀ j, j < k → St j < 2 * a) : as_n St o p k < 2 ^ a := by
  induction k with
  | zero => exact Nat.two_pow_pos a
  | succ k ih =>
    have ih := ih (fun j hj => h j (by omega))
    by_cases x : p.testBit k = true ∧ St k % 2 = o
    · rw [as_t x.1 x.2]
      have := h k (by omega)
      exact Nat.or_lt_two_pow ih (Nat.pow_lt_pow_right (by decide) (by omega))
    · rw [as_f x]; exact ih
theorem as_bit {St : Nat → Nat} {o p : Nat} (k i : Nat) : (as_n St o p k).testBit i = true ↔ ∃ j, j < k ∧ p.testBit j = true ∧ St j % 2 = o ∧ St j / 2 = i := by
  induction k with
  | zero =>
    constructor
    · intro h
      have h' : (0 : Nat).testBit i = true := h
      rw [Nat.zero_testBit] at h'
      exact absurd h' (by decide)
    · intro h
      obtain ⟨j, hj, _⟩ := h
      exact absurd hj (Nat.not_lt_zero j)
  | succ k ih =>
    by_cases x : p.testBit k = true ∧ St k % 2 = o
    · rw [as_t x.1 x.2, Nat.testBit_or, Bool.or_eq_true, ih, Nat.testBit_two_pow, decide_eq_true_eq]
      constructor
      · intro h
        rcases h with ⟨j, hj, h1⟩ | h
        · exact ⟨j, by omega, h1⟩
        · exact ⟨k, by omega, x.1, x.2, h⟩
      · intro h
        obtain ⟨j, hj, h1, h2, h3⟩ := h
        by_cases e : j = k
        · rw [e] at h3; exact Or.inr h3
        · exact Or.inl ⟨j, by omega, h1, h2, h3⟩
    · rw [as_f x, ih]
      constructor
      · intro h
        obtain ⟨j, hj, h1⟩ := h
        exact ⟨j, by omega, h1⟩
      · intro h
        obtain ⟨j, hj, h1, h2, h3⟩ := h
        by_cases e : j = k
        · rw [e] at h1 h2; exact absurd ⟨h1, h2⟩ x
        · exact ⟨j, by omega, h1, h2, h3⟩
theorem as_cg {St : Nat → Nat} {o p q : Nat} (k : Nat) (h : ∀ j, j < k → St j % 2 = o → (p.testBit j = true ↔ q.testBit j = true)) : as_n St o p k = as_n St o q k := by
  induction k with
  | zero => rfl
  | succ k ih =>
    have ih := ih (fun j hj => h j (by omega))
    have hk := h k (by omega)
    by_cases y : St k % 2 = o
    · by_cases x : p.testBit k = true
      · rw [as_t x y, as_t ((hk y).mp x) y, ih]
      · rw [as_f (fun z => x z.1), as_f (fun z => x ((hk y).mpr z.1)), ih]
    · rw [as_f (fun z => y z.2), as_f (fun z => y z.2), ih]
end
end
section
section
/-- a literal holds in a way -/
def mo_h (w l : Nat) : Prop := w.testBit (l / 2) = true ↔ l % 2 = 0
/-- a way is possible -/
def mo_P (n : Nat) (K P Q : Nat → Nat) (a : Nat) (Lf Rt : Nat → Nat) (w : Nat) : Prop :=
  ∀ i, i < a → ¬ w.testBit i = true → ¬ cc_F n K P Q a Lf Rt w (Lf i) (Rt i)
def mo_S (h : Nat) (St : Nat → Nat) (w : Nat) : Prop := ∀ k, k < h → mo_h w (St k)
def mo_L (w : Nat) (x : Int32) : Prop := ∃ l, l < 16 ∧ x = nI l ∧ mo_h w l
def mo_D (li : Nat → Int32) (w j : Nat) : Prop := ∃ i, i < 3 ∧ mo_L w (li (3 * j + i))
def mo_C (c : Nat) (li : Nat → Int32) (w : Nat) : Prop := ∀ j, j < c → mo_D li w j
/-- a way is a model -/
def mo_M (n : Nat) (K P Q : Nat → Nat) (a : Nat) (Lf Rt : Nat → Nat) (c : Nat) (li : Nat → Int32) (h : Nat) (St : Nat → Nat) (w : Nat) : Prop :=
  mo_S h St w ∧ mo_C c li w ∧ mo_P n K P Q a Lf Rt w
/-- the atoms that follow, by leaders -/
def fo_n (L Lf Rt : Nat → Nat) : Nat → Nat
  | 0 => 0
  | i + 1 => if L (Lf i) = L (Rt i) then fo_n L Lf Rt i ||| 2 ^ i else fo_n L Lf Rt i
theorem fo_t {L Lf Rt : Nat → Nat} {i : Nat} (h : L (Lf i) = L (Rt i)) : fo_n L Lf Rt (i + 1) = fo_n L Lf Rt i ||| 2 ^ i := by
  show (if L (Lf i) = L (Rt i) then fo_n L Lf Rt i ||| 2 ^ i else fo_n L Lf Rt i) = _
  exact if_pos h
theorem fo_f {L Lf Rt : Nat → Nat} {i : Nat} (h : ¬ L (Lf i) = L (Rt i)) : fo_n L Lf Rt (i + 1) = fo_n L Lf Rt i := by
  show (if L (Lf i) = L (Rt i) then fo_n L Lf Rt i ||| 2 ^ i else fo_n L Lf Rt i) = _
  exact if_neg h
theorem fo_lt (L Lf Rt : Nat → Nat) (k : Nat) : fo_n L Lf Rt k < 2 ^ k := by
  induction k with
  | zero => exact Nat.two_pow_pos 0
  | succ k ih =>
    have p2 : 2 ^ (k + 1) = 2 ^ k + 2 ^ k := by rw [Nat.pow_succ]; omega
    by_cases x : L (Lf k) = L (Rt k)
    · rw [fo_t x]
      exact Nat.or_lt_two_pow (by omega) (Nat.pow_lt_pow_right (by decide) (by omega))
    · rw [fo_f x]; omega
theorem fo_bit {L Lf Rt : Nat → Nat} (k i : Nat) : (fo_n L Lf Rt k).testBit i = true ↔ i < k ∧ L (Lf i) = L (Rt i) := by
  induction k with
  | zero =>
    constructor
    · intro h
      have h' : (0 : Nat).testBit i = true := h
      rw [Nat.zero_testBit] at h'
      exact absurd h' (by decide)
    · intro h
      exact absurd h.1 (Nat.not_lt_zero i)
  | succ k ih =>
    by_cases x : L (Lf k) = L (Rt k)
    · rw [fo_t x, Nat.testBit_or, Bool.or_eq_true, ih, Nat.testBit_two_pow, decide_eq_true_eq]
      constructor
      · intro h
        rcases h with h | h
        · exact ⟨by omega, h.2⟩
        · rw [← h]; exact ⟨by omega, x⟩
      · intro h
        by_cases e : k = i
        · exact Or.inr e
        · exact Or.inl ⟨by omega, h.2⟩
    · rw [fo_f x, ih]
      constructor
      · intro h
        exact ⟨by omega, h.2⟩
      · intro h
        by_cases e : i = k
        · rw [e] at h; exact absurd h.2 x
        · exact ⟨by omega, h.2⟩
theorem ps_iff {n : Nat} {K P Q : Nat → Nat} {a : Nat} {Lf Rt : Nat → Nat} {w : Nat} {L : Nat → Nat} (W : cc_WF n K P Q a Lf Rt) (hw : w < 2 ^ a) (X : cc_Ex n K P Q (cc_E a Lf Rt w) L) :
    fo_n L Lf Rt a = w ↔ mo_P n K P Q a Lf Rt w := by
  constructor
  · intro e i hi hb f
    have b := fo_bit (L := L) (Lf := Lf) (Rt := Rt) a i
    rw [e] at b
    exact hb (b.mpr ⟨hi, (X.2 _ _ (W.2.2 i hi).1 (W.2.2 i hi).2).mpr f⟩)
  · intro h
    refine bs_eq (fo_lt L Lf Rt a) hw (fun i hi => ?_)
    rw [fo_bit]
    constructor
    · intro z
      apply Classical.byContradiction
      intro nb
      exact h i hi nb ((X.2 _ _ (W.2.2 i hi).1 (W.2.2 i hi).2).mp z.2)
    · intro b
      exact ⟨hi, (X.2 _ _ (W.2.2 i hi).1 (W.2.2 i hi).2).mpr (cc_fol_E ⟨i, hi, b, rfl, rfl⟩)⟩
/-- some possible way has all literals at the places -/
def mo_B (n : Nat) (K P Q : Nat → Nat) (a : Nat) (Lf Rt : Nat → Nat) (h : Nat) (St : Nat → Nat) (p : Nat) : Prop :=
  ∃ w, w < 2 ^ a ∧ mo_P n K P Q a Lf Rt w ∧ ∀ k, k < h → p.testBit k = true → mo_h w (St k)
theorem bl_iff {n : Nat} {K P Q : Nat → Nat} {a : Nat} {Lf Rt : Nat → Nat} {h : Nat} {St : Nat → Nat} (hS : ∀ k, k < h → St k < 2 * a) (p : Nat) :
    ¬ mo_B n K P Q a Lf Rt h St p ↔ ∃ i, i < a ∧ cc_F n K P Q a Lf Rt (as_n St 0 p h) (Lf i) (Rt i) ∧ (as_n St 1 p h).testBit i = true := by
  constructor
  · intro nb
    apply Classical.byContradiction
    intro nc
    apply nb
    obtain ⟨w, hw, hb⟩ := bs_ex (fun i => cc_F n K P Q a Lf Rt (as_n St 0 p h) (Lf i) (Rt i)) a
    refine ⟨w, hw, ?_, ?_⟩
    · intro i hi hz f
      apply hz
      refine (hb i hi).mpr (cc_fol_cut ?_ f)
      intro x y exy
      obtain ⟨j, hj, hjb, e1, e2⟩ := exy
      rw [← e1, ← e2]
      exact (hb j hj).mp hjb
    · intro k hk hp
      have hs := hS k hk
      have hd : St k / 2 < a := by omega
      by_cases e : St k % 2 = 0
      · refine ⟨fun _ => e, fun _ => (hb _ hd).mpr (cc_fol_E ⟨St k / 2, hd, ?_, rfl, rfl⟩)⟩
        exact (as_bit h (St k / 2)).mpr ⟨k, hk, hp, e, rfl⟩
      · refine ⟨fun z => absurd ⟨St k / 2, hd, (hb _ hd).mp z, ?_⟩ nc, fun z => absurd z e⟩
        exact (as_bit h (St k / 2)).mpr ⟨k, hk, hp, by omega, rfl⟩
  · intro hc hB
    obtain ⟨i, hi, f, hb⟩ := hc
    obtain ⟨w, hw, hP, hl⟩ := hB
    obtain ⟨k, hk, hp, ho, he⟩ := (as_bit h i).mp hb
    have hk' := hl k hk hp
    have nb : ¬ w.testBit i = true := by
      intro z
      rw [← he] at z
      have := hk'.mp z
      omega
    refine hP i hi nb (cc_fol_mono ?_ f)
    intro x y exy
    obtain ⟨j, hj, hjb, e1, e2⟩ := exy
    obtain ⟨k', hk1, hp1, ho1, he1⟩ := (as_bit h j).mp hjb
    refine ⟨j, hj, ?_, e1, e2⟩
    have := (hl k' hk1 hp1).mpr ho1
    rw [he1] at this
    exact this
theorem an_ex {x y : Nat} : ¬ (x &&& y) = 0 ↔ ∃ i, x.testBit i = true ∧ y.testBit i = true := by
  constructor
  · intro h
    obtain ⟨i, hi⟩ := Nat.exists_testBit_of_ne_zero h
    rw [Nat.testBit_and, Bool.and_eq_true] at hi
    exact ⟨i, hi⟩
  · intro h e
    obtain ⟨i, h1, h2⟩ := h
    have z : (x &&& y).testBit i = true := by rw [Nat.testBit_and, h1, h2]; rfl
    rw [e, Nat.zero_testBit] at z
    exact absurd z (by decide)
/-- only atoms at the places -/
def wh_A (h : Nat) (St : Nat → Nat) (p : Nat) : Prop := ∀ k, k < h → p.testBit k = true → St k % 2 = 0
theorem wh_strip {h : Nat} (h8 : h ≤ 8) (St : Nat → Nat) {p : Nat} (hp : p < 2 ^ h) :
    ∃ q, q < 2 ^ h ∧ wh_A h St q ∧ as_n St 0 q h = as_n St 0 p h ∧ (sz_n q 8 < sz_n p 8 ∨ q = p) := by
  obtain ⟨q, hq, hb⟩ := bs_ex (fun k => p.testBit k = true ∧ St k % 2 = 0) h
  have sub : ∀ i, i < 8 → q.testBit i = true → p.testBit i = true := by
    intro i _ hi
    by_cases x : i < h
    · exact ((hb i x).mp hi).1
    · have b : 2 ^ h ≤ 2 ^ i := Nat.pow_le_pow_right (by decide) (by omega)
      rw [Nat.testBit_lt_two_pow (show q < 2 ^ i by omega)] at hi
      exact absurd hi (by decide)
  refine ⟨q, hq, fun k hk hk' => ((hb k hk).mp hk').2, ?_, ?_⟩
  · exact as_cg h (fun j hj ho => ⟨fun z => ((hb j hj).mp z).1, fun z => (hb j hj).mpr ⟨z, ho⟩⟩)
  · by_cases x : ∀ k, k < h → (q.testBit k = true ↔ p.testBit k = true)
    · exact Or.inr (bs_eq hq hp x)
    · refine Or.inl ?_
      apply Classical.byContradiction
      intro nl
      apply x
      intro k hk
      refine ⟨sub k (by omega), fun z => ?_⟩
      apply Classical.byContradiction
      intro nq
      exact nl (sz_lt 8 sub k (by omega) nq z)
theorem wh_eq {h : Nat} (h8 : h ≤ 8) (St : Nat → Nat) (F : Nat → Prop) {b : Int32}
    (H : am_P (fun p => wh_A h St p ∧ F (as_n St 0 p h)) (2 ^ h) b) : am_P (fun p => F (as_n St 0 p h)) (2 ^ h) b := by
  refine am_c (fun p _ z => z.2) ?_ H
  intro p hp hF
  obtain ⟨q, hq, h1, h2, h3⟩ := wh_strip h8 St hp
  refine ⟨q, hq, ⟨h1, ?_⟩, h3⟩
  rw [h2]
  exact hF
/-- how many classes -/
noncomputable def cl_N (n : Nat) (K P Q : Nat → Nat) (a : Nat) (Lf Rt : Nat → Nat) (w : Nat) : Nat :=
  cc_cnt (fun t => @decide (∀ u, u < t → ¬ cc_F n K P Q a Lf Rt w t u) (Classical.propDecidable _)) n
theorem cl_eq {n : Nat} {K P Q : Nat → Nat} {a : Nat} {Lf Rt : Nat → Nat} {w : Nat} {L : Nat → Nat} (X : cc_Ex n K P Q (cc_E a Lf Rt w) L) : cc_nl n L = cl_N n K P Q a Lf Rt w := by
  apply Nat.le_antisymm
  · refine cc_cnt_le n (fun t ht h => ?_)
    have e : L t = t := of_decide_eq_true h
    refine @decide_eq_true _ (Classical.propDecidable _) (fun u hu f => ?_)
    have z := (X.2 t u ht (by omega)).mpr f
    have := (X.1 u (by omega)).1
    omega
  · refine cc_cnt_le n (fun t ht h => ?_)
    have hh : ∀ u, u < t → ¬ cc_F n K P Q a Lf Rt w t u := @of_decide_eq_true _ (Classical.propDecidable _) h
    refine decide_eq_true ?_
    have i := X.1 t ht
    by_cases e : L t = t
    · exact e
    · exact absurd ((X.2 t (L t) ht (by omega)).mp i.2.symm) (hh (L t) (by omega))
theorem cl_le (n : Nat) (K P Q : Nat → Nat) (a : Nat) (Lf Rt : Nat → Nat) (w : Nat) : cl_N n K P Q a Lf Rt w ≤ n := cc_cnt_n n
/-- the answer of a count of models -/
def ve_N (m f : Nat) : Int32 := if f = 0 then -2 else if m = f then 1 else if m = 0 then 0 else 2
/-- one more where it has Q -/
noncomputable def gq_N (Q : Nat → Prop) (w s : Nat) : Nat := @ite Nat (Q w) (Classical.propDecidable (Q w)) (s + 1) s
theorem gq_t {Q : Nat → Prop} {w s : Nat} (h : Q w) : gq_N Q w s = s + 1 := if_pos h
theorem gq_f {Q : Nat → Prop} {w s : Nat} (h : ¬ Q w) : gq_N Q w s = s := if_neg h
theorem gq_pc (P Q : Nat → Prop) (w : Nat) : xf_s P (gq_N Q) 0 w = pc_n (fun x => P x ∧ Q x) w := by
  induction w with
  | zero => rfl
  | succ w ih =>
    by_cases x : P w
    · rw [xf_t x, ih]
      by_cases y : Q w
      · rw [gq_t y, pc_t (P := fun x => P x ∧ Q x) ⟨x, y⟩]
      · rw [gq_f y, pc_f (P := fun x => P x ∧ Q x) (fun z => y z.2)]
    · rw [xf_f x, ih, pc_f (P := fun x => P x ∧ Q x) (fun z => x z.1)]
/-- the best of two counts -/
def bt_O (least : Bool) (c : Nat) : Option Nat → Option Nat
  | none => some c
  | some b => if least = true then (if c < b then some c else some b) else (if b < c then some c else some b)
def bt_I : Option Nat → Int32
  | none => -2
  | some b => nI b
end
end
section
section
/-- an array holds these numbers below n -/
def cc_A (n : Nat) (arr : Nat → Int32) (L : Nat → Nat) : Prop := ∀ t, t < n → arr t = nI (L t)
/-- the leaders while a join has gone over those below i -/
def jl_m (n : Nat) (L : Nat → Nat) (c d i : Nat) : Nat → Nat := fun t => if t < i then cc_jo n L c d t else L t
theorem jl_at {n : Nat} {L : Nat → Nat} {c d i : Nat} {arr : Nat → Int32} (h : cc_A n arr (jl_m n L c d i)) (hi : i < n) : arr i = nI (L i) := by
  have e : jl_m n L c d i i = L i := if_neg (Nat.lt_irrefl i)
  rw [h i hi, e]
theorem jl_0 {n : Nat} {L : Nat → Nat} {c d : Nat} {arr : Nat → Int32} (h : cc_A n arr L) : cc_A n arr (jl_m n L c d 0) := by
  intro t ht
  have e : jl_m n L c d 0 t = L t := if_neg (Nat.not_lt_zero t)
  rw [h t ht, e]
theorem jl_n {n : Nat} {L : Nat → Nat} {c d : Nat} {arr : Nat → Int32} (h : cc_A n arr (jl_m n L c d n)) : cc_A n arr (cc_jo n L c d) := by
  intro t ht
  have e : jl_m n L c d n t = cc_jo n L c d t := if_pos ht
  rw [h t ht, e]
theorem jl_set {n : Nat} {L : Nat → Nat} {c d i v : Nat} {arr : Nat → Int32} (h : cc_A n arr (jl_m n L c d i)) (e : cc_jo n L c d i = v) : cc_A n (upd arr i (nI v)) (jl_m n L c d (i + 1)) := by
  intro t ht
  by_cases x : t = i
  · have e1 : jl_m n L c d (i + 1) t = cc_jo n L c d t := if_pos (by omega)
    rw [e1, x, pk_us, e]
  · have e1 : jl_m n L c d (i + 1) t = jl_m n L c d i t := by
      by_cases y : t < i
      · exact (if_pos (show t < i + 1 by omega)).trans (if_pos y).symm
      · exact (if_neg (show ¬ t < i + 1 by omega)).trans (if_neg y).symm
    rw [pk_un x, h t ht, e1]
theorem jl_keep {n : Nat} {L : Nat → Nat} {c d i : Nat} {arr : Nat → Int32} (h : cc_A n arr (jl_m n L c d i)) (e : cc_jo n L c d i = L i) : cc_A n arr (jl_m n L c d (i + 1)) := by
  intro t ht
  by_cases x : t = i
  · have e1 : jl_m n L c d (i + 1) t = cc_jo n L c d t := if_pos (by omega)
    have e2 : jl_m n L c d i t = L t := if_neg (by omega)
    rw [h t ht, e1, e2, x, e]
  · have e1 : jl_m n L c d (i + 1) t = jl_m n L c d i t := by
      by_cases y : t < i
      · exact (if_pos (show t < i + 1 by omega)).trans (if_pos y).symm
      · exact (if_neg (show ¬ t < i + 1 by omega)).trans (if_neg y).symm
    rw [h t ht, e1]
/-- a round of joins from the leaders L0, over the pairs D so far: nothing joined (0), or joined (1) -/
def rd_R (n : Nat) (K P Q : Nat → Nat) (a : Nat) (Lf Rt : Nat → Nat) (s : Nat) (D : Nat → Nat → Prop) (L0 L : Nat → Nat) (m : Int32) : Prop :=
  cc_AI n K P Q a Lf Rt s a L ∧ ((m = 0 ∧ L = L0 ∧ ∀ t u, D t u → cc_al K P Q L0 t u → L0 t = L0 u) ∨ (m = 1 ∧ cc_nl n L < cc_nl n L0))
theorem rd_0 {n : Nat} {K P Q : Nat → Nat} {a : Nat} {Lf Rt : Nat → Nat} {s : Nat} {L : Nat → Nat} {D : Nat → Nat → Prop} (h : cc_AI n K P Q a Lf Rt s a L) (hD : ∀ t u, ¬ D t u) : rd_R n K P Q a Lf Rt s D L L 0 :=
  ⟨h, Or.inl ⟨rfl, rfl, fun t u z => absurd z (hD t u)⟩⟩
theorem rd_skip {n : Nat} {K P Q : Nat → Nat} {a : Nat} {Lf Rt : Nat → Nat} {s : Nat} {D D' : Nat → Nat → Prop} {L0 L : Nat → Nat} {m : Int32} (h : rd_R n K P Q a Lf Rt s D L0 L m) (t1 u1 : Nat)
    (hD : ∀ t u, D' t u → D t u ∨ (t = t1 ∧ u = u1)) (hn : cc_al K P Q L t1 u1 → L t1 = L u1) : rd_R n K P Q a Lf Rt s D' L0 L m := by
  refine ⟨h.1, ?_⟩
  rcases h.2 with ⟨e, eL, hh⟩ | hh
  · refine Or.inl ⟨e, eL, fun t u d al => ?_⟩
    rcases hD t u d with d | d
    · exact hh t u d al
    · rw [eL] at hn
      rw [d.1, d.2] at al
      rw [d.1, d.2]
      exact hn al
  · exact Or.inr hh
theorem rd_same {n : Nat} {K P Q : Nat → Nat} {a : Nat} {Lf Rt : Nat → Nat} {s : Nat} {D D' : Nat → Nat → Prop} {L0 L : Nat → Nat} {m : Int32} (h : rd_R n K P Q a Lf Rt s D L0 L m)
    (hD : ∀ t u, D' t u → D t u) : rd_R n K P Q a Lf Rt s D' L0 L m := by
  refine ⟨h.1, ?_⟩
  rcases h.2 with ⟨e, eL, hh⟩ | hh
  · exact Or.inl ⟨e, eL, fun t u d al => hh t u (hD t u d) al⟩
  · exact Or.inr hh
theorem rd_join {n : Nat} {K P Q : Nat → Nat} {a : Nat} {Lf Rt : Nat → Nat} {s : Nat} {D : Nat → Nat → Prop} (D' : Nat → Nat → Prop) {L0 L : Nat → Nat} {m : Int32} (W : cc_WF n K P Q a Lf Rt) (h : rd_R n K P Q a Lf Rt s D L0 L m) {t u : Nat}
    (ht : t < n) (hu : u < n) (hne : ¬ L t = L u) (al : cc_al K P Q L t u) : rd_R n K P Q a Lf Rt s D' L0 (cc_jn n L t u) 1 := by
  have J := cc_RI_join W h.1 ht hu al
  refine ⟨J.1, Or.inr ⟨rfl, ?_⟩⟩
  have x := J.2 hne
  rcases h.2 with ⟨_, e, _⟩ | z
  · rw [← e]; exact x
  · exact Nat.lt_trans x z.2
theorem rd_end {n : Nat} {K P Q : Nat → Nat} {a : Nat} {Lf Rt : Nat → Nat} {s : Nat} {D : Nat → Nat → Prop} {L0 L : Nat → Nat} {m : Int32} (W : cc_WF n K P Q a Lf Rt) (h : rd_R n K P Q a Lf Rt s D L0 L m) (hm : m = 0)
    (hD : ∀ t u, t < n → u < n → D t u ∨ D u t ∨ t = u) : cc_Ex n K P Q (cc_E a Lf Rt s) L := by
  rcases h.2 with ⟨_, e, hh⟩ | ⟨e, _⟩
  · refine cc_fin W h.1 (fun t u ht hu al => ?_)
    rw [e] at al
    rw [e]
    rcases hD t u ht hu with d | d | d
    · exact hh t u d al
    · exact (hh u t d (cc_al_s al)).symm
    · rw [d]
  · rw [hm] at e
    exact absurd e (by decide)
/-- X's rounds: at the head of round i -/
def rd_X (n : Nat) (K P Q : Nat → Nat) (a : Nat) (Lf Rt : Nat → Nat) (s i : Nat) (L : Nat → Nat) (j : Int32) : Prop :=
  (j = 1 ∧ cc_AI n K P Q a Lf Rt s a L ∧ cc_nl n L + i ≤ n) ∨ (j = 0 ∧ cc_Ex n K P Q (cc_E a Lf Rt s) L)
theorem rd_X16 {n : Nat} {K P Q : Nat → Nat} {a : Nat} {Lf Rt : Nat → Nat} {s : Nat} {L : Nat → Nat} {j : Int32} (hn : n ≤ 16) (h : rd_X n K P Q a Lf Rt s 16 L j) : cc_Ex n K P Q (cc_E a Lf Rt s) L := by
  rcases h with ⟨_, h, z⟩ | ⟨_, h⟩
  · have := cc_nl_pos h.1 (show 0 < n by omega)
    omega
  · exact h
theorem rd_Xs {n : Nat} {K P Q : Nat → Nat} {a : Nat} {Lf Rt : Nat → Nat} {s i : Nat} {D : Nat → Nat → Prop} {L0 L : Nat → Nat} {m : Int32} (W : cc_WF n K P Q a Lf Rt) (h0 : cc_nl n L0 + i ≤ n) (h : rd_R n K P Q a Lf Rt s D L0 L m)
    (hD : ∀ t u, t < n → u < n → D t u ∨ D u t ∨ t = u) : rd_X n K P Q a Lf Rt s (i + 1) L m := by
  rcases h.2 with z | z
  · exact Or.inr ⟨z.1, rd_end W h z.1 hD⟩
  · exact Or.inl ⟨z.1, h.1, by have := z.2; omega⟩
end
end
section
section
/-- the walk over the models, by their numbers: the state at k -/
def yk_I {σ : Type} (M : Nat → Prop) (g : Nat → σ → σ) (s0 : σ) (k : Nat) (s : σ) : Prop := ∀ w, pc_n M w = k → s = xf_s M g s0 w
theorem yk_0 {σ : Type} (M : Nat → Prop) (g : Nat → σ → σ) (s0 : σ) : yk_I M g s0 0 s0 :=
  fun w h => xf_eq M g s0 (w := 0) (w' := w) h.symm
theorem yk_s {σ : Type} {M : Nat → Prop} {g : Nat → σ → σ} {s0 : σ} {k : Nat} {s s' : σ} (h : yk_I M g s0 k s) {w : Nat} (hw : M w) (e : pc_n M w = k) (es : s' = g w s) : yk_I M g s0 (k + 1) s' := by
  intro v hv
  have e1 : pc_n M (w + 1) = pc_n M v := by rw [pc_t hw, e, hv]
  rw [← xf_eq M g s0 e1, xf_t hw, es, h w e]
/-- the models in their order -/
def kn_C (M : Nat → Prop) (N : Nat) (f_models : Int32) (mo : Nat → Int32) : Prop :=
  f_models = nI (pc_n M N) ∧ ∀ w, w < N → M w → mo (pc_n M w) = nI w
theorem kn_at {M : Nat → Prop} {N : Nat} {f : Int32} {mo : Nat → Int32} (h : kn_C M N f mo) {k : Nat} (hk : k < pc_n M N) : ∃ w, w < N ∧ M w ∧ pc_n M w = k ∧ mo k = nI w := by
  obtain ⟨w, h1, h2, h3⟩ := pc_ex M N hk
  exact ⟨w, h1, h2, h3, by rw [← h3]; exact h.2 w h1 h2⟩
/-- what the ways give: possible or not, and the leaders of each -/
def cl_W (n : Nat) (K P Q : Nat → Nat) (a : Nat) (Lf Rt : Nat → Nat) (po cl : Nat → Int32) (w : Nat) : Prop :=
  (mo_P n K P Q a Lf Rt w → po w = 1) ∧ (¬ mo_P n K P Q a Lf Rt w → po w = 0) ∧
  ∃ L, cc_Ex n K P Q (cc_E a Lf Rt w) L ∧ ∀ t, t < n → cl (16 * w + t) = nI (L t)
def cl_C (n : Nat) (K P Q : Nat → Nat) (a : Nat) (Lf Rt : Nat → Nat) (po cl : Nat → Int32) : Prop :=
  ∀ w, w < 2 ^ a → cl_W n K P Q a Lf Rt po cl w
/-- of two terms by exact leaders -/
theorem ex_iff {n : Nat} {K P Q : Nat → Nat} {a : Nat} {Lf Rt : Nat → Nat} {w : Nat} {L : Nat → Nat} (X : cc_Ex n K P Q (cc_E a Lf Rt w) L) {t u : Nat} (ht : t < n) (hu : u < n) (hn : n ≤ 16) : nI (L t) = nI (L u) ↔ cc_F n K P Q a Lf Rt w t u := by
  have i1 := (X.1 t ht).1
  have i2 := (X.1 u hu).1
  rw [nI_eq (by omega) (by omega)]
  exact X.2 t u ht hu
theorem bt_bd {M : Nat → Prop} {b : Bool} {N : Nat → Nat} {n : Nat} (hN : ∀ w, N w ≤ n) : ∀ (w c : Nat), xf_s M (fun w s => bt_O b (N w) s) none w = some c → c ≤ n := by
  intro w
  induction w with
  | zero =>
    intro c h
    have h' : (none : Option Nat) = some c := h
    cases h'
  | succ w ih =>
    intro c h
    by_cases x : M w
    · rw [xf_t x] at h
      have hw := hN w
      cases e : xf_s M (fun w s => bt_O b (N w) s) none w with
      | none =>
        rw [e] at h
        have h' : some (N w) = some c := h
        injection h' with h'
        omega
      | some d =>
        have hd := ih d e
        rw [e] at h
        have h' : (if b = true then (if N w < d then some (N w) else some d) else (if d < N w then some (N w) else some d)) = some c := h
        have o : (some (N w) = some c) ∨ (some d = some c) := by
          by_cases y : b = true
          · rw [if_pos y] at h'
            by_cases z : N w < d
            · rw [if_pos z] at h'; exact Or.inl h'
            · rw [if_neg z] at h'; exact Or.inr h'
          · rw [if_neg y] at h'
            by_cases z : d < N w
            · rw [if_pos z] at h'; exact Or.inl h'
            · rw [if_neg z] at h'; exact Or.inr h'
        rcases o with o | o
        · injection o with o; omega
        · injection o with o; omega
    · rw [xf_f x] at h
      exact ih c h
end
end
section
section
/-- what both sides keep alike -/
def st_I (n a c h : Nat) (K P Q Lf Rt St : Nat → Nat) (kk fp sp ll rr li ss : Nat → Int32) : Prop :=
  n ≤ 16 ∧ a ≤ 8 ∧ c ≤ 12 ∧ h ≤ 8 ∧ cc_WF n K P Q a Lf Rt ∧ cc_A n kk K ∧ (∀ t, t < n → K t < 4) ∧ (∀ t, t < n → K t ≠ 0 → fp t = nI (P t)) ∧
  (∀ t, t < n → K t = 2 → sp t = nI (Q t)) ∧ cc_A a ll Lf ∧ cc_A a rr Rt ∧ cc_A h ss St ∧ (∀ k, k < h → St k < 2 * a) ∧
  (∀ j, j < 3 * c → li j = -1 ∨ ∃ l, l < 2 * a ∧ li j = nI l)
variable {n a c h : Nat} {K P Q Lf Rt St : Nat → Nat} {kk fp sp ll rr li ss : Nat → Int32}
theorem st_n (I : st_I n a c h K P Q Lf Rt St kk fp sp ll rr li ss) : n ≤ 16 := I.1
theorem st_a (I : st_I n a c h K P Q Lf Rt St kk fp sp ll rr li ss) : a ≤ 8 := I.2.1
theorem st_c (I : st_I n a c h K P Q Lf Rt St kk fp sp ll rr li ss) : c ≤ 12 := I.2.2.1
theorem st_h (I : st_I n a c h K P Q Lf Rt St kk fp sp ll rr li ss) : h ≤ 8 := I.2.2.2.1
theorem st_W (I : st_I n a c h K P Q Lf Rt St kk fp sp ll rr li ss) : cc_WF n K P Q a Lf Rt := I.2.2.2.2.1
theorem st_K (I : st_I n a c h K P Q Lf Rt St kk fp sp ll rr li ss) : cc_A n kk K := I.2.2.2.2.2.1
theorem st_K4 (I : st_I n a c h K P Q Lf Rt St kk fp sp ll rr li ss) : ∀ t, t < n → K t < 4 := I.2.2.2.2.2.2.1
theorem st_P (I : st_I n a c h K P Q Lf Rt St kk fp sp ll rr li ss) : ∀ t, t < n → K t ≠ 0 → fp t = nI (P t) := I.2.2.2.2.2.2.2.1
theorem st_Q (I : st_I n a c h K P Q Lf Rt St kk fp sp ll rr li ss) : ∀ t, t < n → K t = 2 → sp t = nI (Q t) := I.2.2.2.2.2.2.2.2.1
theorem st_L (I : st_I n a c h K P Q Lf Rt St kk fp sp ll rr li ss) : cc_A a ll Lf := I.2.2.2.2.2.2.2.2.2.1
theorem st_R (I : st_I n a c h K P Q Lf Rt St kk fp sp ll rr li ss) : cc_A a rr Rt := I.2.2.2.2.2.2.2.2.2.2.1
theorem st_S (I : st_I n a c h K P Q Lf Rt St kk fp sp ll rr li ss) : cc_A h ss St := I.2.2.2.2.2.2.2.2.2.2.2.1
theorem st_S2 (I : st_I n a c h K P Q Lf Rt St kk fp sp ll rr li ss) : ∀ k, k < h → St k < 2 * a := I.2.2.2.2.2.2.2.2.2.2.2.2.1
theorem st_C (I : st_I n a c h K P Q Lf Rt St kk fp sp ll rr li ss) : ∀ j, j < 3 * c → li j = -1 ∨ ∃ l, l < 2 * a ∧ li j = nI l := I.2.2.2.2.2.2.2.2.2.2.2.2.2
theorem wi_b {x y : Int32} {m : Nat} {A B : Prop} (hy : y = nI m) (hm : m < 2 ^ 31) (h1 : ∀ j, j < m → x = nI j → A) (h0 : (¬ ∃ j, j < m ∧ x = nI j) → B) :
    (x < 0 → B) ∧ (¬ x < 0 → ((y ≤ x → B) ∧ (¬ y ≤ x → A))) := by
  subst hy
  rcases pk_ix x hm with hx | hx | ⟨j, hj, e⟩
  · refine br_t hx (h0 (fun z => ?_))
    obtain ⟨j, hj, e⟩ := z
    rw [e] at hx
    exact bi_nn (show j < 2 ^ 31 by omega) hx
  · have nx : ¬ x < 0 := Int32.not_lt.mpr (Int32.le_trans (bi_0n hm) hx)
    refine br_f nx (br_t hx (h0 (fun z => ?_)))
    obtain ⟨j, hj, e⟩ := z
    rw [e, nI_leI hm (by omega)] at hx
    omega
  · have nx : ¬ x < 0 := by rw [e]; exact bi_nn (by omega)
    have ny : ¬ nI m ≤ x := by rw [e, nI_leI hm (by omega)]; omega
    exact br_f nx (br_f ny (h1 j hj e))
theorem ps_b {r : Int32} {A B : Prop} (hr : r = 1) (b : B) : (r = 0 → A) ∧ (¬ r = 0 → B) := br_f (by rw [hr]; decide) b
theorem mo_num {w l : Nat} : mo_h w l ↔ ¬ w / 2 ^ (l / 2) % 2 = l % 2 := by
  unfold mo_h
  rw [bi_tb]
  have h2 : l % 2 < 2 := Nat.mod_lt _ (by decide)
  by_cases x : w.testBit (l / 2) = true
  · rw [if_pos x]
    constructor
    · intro z; have := z.mp x; omega
    · intro z; exact ⟨fun _ => by omega, fun _ => x⟩
  · rw [if_neg x]
    constructor
    · intro z e; exact x (z.mpr e.symm)
    · intro z; exact ⟨fun y => absurd y x, fun y => absurd y.symm z⟩
theorem bi_d2 {l : Nat} (hl : l < 2 ^ 31) : nI l / 2 = nI (l / 2) := pk_div (d := 2) hl (by decide) (by decide)
theorem bi_r2 {l : Nat} (hl : l < 2 ^ 31) : nI l - nI l / 2 * 2 = nI (l % 2) := pk_rem (d := 2) hl (by decide) (by decide)
theorem bi_s1 {l : Nat} (hl : l < 2 ^ 31) : nI l >>> ((1 : Int32) &&& 31) = nI (l / 2) := pk_shrN hl _ 1 (by decide)
theorem xw_holdsIn {post : Int32 → Prop} {l w : Nat} (hl : l < 16) (hw : w < 256) (h1 : mo_h w l → post 1) (h0 : ¬ mo_h w l → post 0) : wpX_holdsIn post (nI l) (nI w) := by
  unfold wpX_holdsIn
  rw [bi_s1 (show l < 2 ^ 31 by omega), bi_bit (show w < 2 ^ 31 by omega) (show l / 2 < 32 by omega), bi_1]
  have b : w / 2 ^ (l / 2) % 2 < 2 := Nat.mod_lt _ (by decide)
  have b' : l % 2 < 2 := Nat.mod_lt _ (by decide)
  refine nm_e ?_
  exact pk_eq (w / 2 ^ (l / 2) % 2) (l % 2) (fun e => h0 (fun z => mo_num.mp z e)) (fun e => h1 (mo_num.mpr e))
theorem yw_holdsIn {post : Int32 → Prop} {l w : Nat} (hl : l < 16) (hw : w < 256) (h1 : mo_h w l → post 1) (h0 : ¬ mo_h w l → post 0) : wpY_holdsIn post (nI w) (nI l) := by
  unfold wpY_holdsIn
  rw [bi_r2 (show l < 2 ^ 31 by omega), bi_d2 (show l < 2 ^ 31 by omega), bi_bit (show w < 2 ^ 31 by omega) (show l / 2 < 32 by omega)]
  have b : w / 2 ^ (l / 2) % 2 < 2 := Nat.mod_lt _ (by decide)
  have b' : l % 2 < 2 := Nat.mod_lt _ (by decide)
  refine ⟨by decide, by decide, ?_⟩
  exact pk_eq (w / 2 ^ (l / 2) % 2) (l % 2) (fun e => h0 (fun z => mo_num.mp z e)) (fun e => h1 (mo_num.mpr e))
theorem xw_isTerm {post : Int32 → Prop} {x f2 f3 f4 : Int32} {ld : Nat → Int32} (hn : n ≤ 16) (h1 : ∀ j, j < n → x = nI j → post 1) (h0 : (¬ ∃ j, j < n ∧ x = nI j) → post 0) :
    wpX_isTerm post (nI n, f2, f3, f4, kk, fp, sp, ll, rr, li, ss, ld) x := wi_b (m := n) rfl (by omega) h1 h0
theorem xw_isLit {post : Int32 → Prop} {x f1 f3 f4 : Int32} {ld : Nat → Int32} (ha : a ≤ 8) (h1 : ∀ j, j < 2 * a → x = nI j → post 1) (h0 : (¬ ∃ j, j < 2 * a ∧ x = nI j) → post 0) :
    wpX_isLiteral post (f1, nI a, f3, f4, kk, fp, sp, ll, rr, li, ss, ld) x := wi_b (m := 2 * a) (pk_mul 2 a) (by omega) h1 h0
theorem yw_within {post : Int32 → Prop} {x : Int32} {m : Nat} (hm : m < 2 ^ 31) (h1 : ∀ j, j < m → x = nI j → post 1) (h0 : (¬ ∃ j, j < m ∧ x = nI j) → post 0) :
    wpY_within post x (nI m) := wi_b (m := m) rfl hm h1 h0
theorem xw_fits {post : Int32 → Prop} {x f1 f3 f4 : Int32} {ld : Nat → Int32} (ha : a ≤ 8) (h1 : (x = -1 ∨ ∃ j, j < 2 * a ∧ x = nI j) → post 1) (h0 : ¬ (x = -1 ∨ ∃ j, j < 2 * a ∧ x = nI j) → post 0) :
    wpX_fitsClause post (f1, nI a, f3, f4, kk, fp, sp, ll, rr, li, ss, ld) x := by
  unfold wpX_fitsClause
  dsimp only
  refine br_c (fun e => h1 (Or.inl e)) (fun e => ?_)
  refine xw_isLit ha (fun j hj ej => ?_) (fun z => ?_)
  · exact br_f (by decide) (h1 (Or.inr ⟨j, hj, ej⟩))
  · exact br_t rfl (h0 (fun y => y.elim e z))
theorem xw_stack {post : Int32 → Prop} {w : Nat} {ld : Nat → Int32} (I : st_I n a c h K P Q Lf Rt St kk fp sp ll rr li ss) (hw : w < 256) (h1 : mo_S h St w → post 1) (h0 : ¬ mo_S h St w → post 0) :
    wpX_stackHolds post (nI n, nI a, nI c, nI h, kk, fp, sp, ll, rr, li, ss, ld) (nI w) := by
  have hh := st_h I
  have ha := st_a I
  refine loop_0 (σ := Unit) (fun m i _ => wX_stackHolds_2 post (nI w) (nI n) (nI a) (nI c) (nI h) kk fp sp ll rr li ss ld m (nI i)) (fun i _ => ∀ k, k < i → mo_h w (St k)) h () (fun k hk => absurd hk (Nat.not_lt_zero k)) ?_ ?_
  · intro m _ H
    exact pk_le h h (fun _ => h1 H) (fun z => absurd z (by omega))
  · intro m i _ hi H ih
    refine pk_le h i (fun z => absurd z (by omega)) (fun _ => And.intro (pk_in i 8 (by omega)) ?_)
    have hs := st_S2 I i hi
    rw [nI_clamp (show i < 2 ^ 31 by omega), st_S I i hi]
    refine xw_holdsIn (by omega) hw (fun z => ?_) (fun z => ?_)
    · refine br_f (by decide) (nm_r (nI_1 i) (ih () (fun k hk => ?_)))
      by_cases e : k = i
      · rw [e]; exact z
      · exact H k (by omega)
    · exact br_t rfl (h0 (fun q => z (q i hi)))
theorem xw_clause {post : Int32 → Prop} {w j : Nat} {ld : Nat → Int32} (I : st_I n a c h K P Q Lf Rt St kk fp sp ll rr li ss) (hw : w < 256) (hj : j < c) (h1 : mo_D li w j → post 1) (h0 : ¬ mo_D li w j → post 0) :
    wpX_clauseHolds post (nI n, nI a, nI c, nI h, kk, fp, sp, ll, rr, li, ss, ld) (nI j) (nI w) := by
  have hc := st_c I
  have ha := st_a I
  unfold wpX_clauseHolds
  dsimp only
  have e3 : nI j * 3 = nI (3 * j) := by
    have := pk_mul j 3
    rw [Nat.mul_comm 3 j]
    exact this
  refine nm_r e3 ?_
  refine loop_0 (σ := Unit) (fun m i _ => wX_clauseHolds_7 post (nI w) (nI (3 * j)) (nI n) (nI a) (nI c) (nI h) kk fp sp ll rr li ss ld m (nI i)) (fun i _ => ∀ k, k < i → ¬ mo_L w (li (3 * j + k))) 3 () (fun k hk => absurd hk (Nat.not_lt_zero k)) ?_ ?_
  · intro m _ H
    refine pk_le 3 3 (fun _ => h0 (fun z => ?_)) (fun z => absurd z (by omega))
    obtain ⟨i, hi, z⟩ := z
    exact H i hi z
  · intro m i _ hi H ih
    refine pk_le 3 i (fun z => absurd z (by omega)) (fun _ => ?_)
    rw [nI_add]
    refine And.intro (pk_in (3 * j + i) 36 (by omega)) ?_
    rw [nI_clamp (show 3 * j + i < 2 ^ 31 by omega)]
    have go : ∀ z : ¬ mo_L w (li (3 * j + i)), ∀ k, k < i + 1 → ¬ mo_L w (li (3 * j + k)) := by
      intro z k hk
      by_cases e : k = i
      · rw [e]; exact z
      · exact H k (by omega)
    rcases st_C I (3 * j + i) (by omega) with e | ⟨l, hl, e⟩
    · refine nm_r e (br_t rfl (nm_r (nI_1 i) (ih () (go (fun z => ?_)))))
      obtain ⟨l, hl, e', _⟩ := z
      exact bi_m1 l (by omega) (e'.symm.trans e)
    · refine nm_r e (br_f (bi_m1 l (by omega)) ?_)
      refine xw_holdsIn (by omega) hw (fun z => ?_) (fun z => ?_)
      · exact br_f (by decide) (h1 ⟨i, hi, l, by omega, e, z⟩)
      · refine br_t rfl (nm_r (nI_1 i) (ih () (go (fun q => ?_))))
        obtain ⟨l', hl', e', q⟩ := q
        have x := e.symm.trans e'
        rw [nI_eq (by omega) (by omega)] at x
        rw [x] at z
        exact z q
theorem xw_clauses {post : Int32 → Prop} {w : Nat} {ld : Nat → Int32} (I : st_I n a c h K P Q Lf Rt St kk fp sp ll rr li ss) (hw : w < 256) (h1 : mo_C c li w → post 1) (h0 : ¬ mo_C c li w → post 0) :
    wpX_clausesHold post (nI n, nI a, nI c, nI h, kk, fp, sp, ll, rr, li, ss, ld) (nI w) := by
  have hc := st_c I
  refine loop_0 (σ := Unit) (fun m i _ => wX_clausesHold_2 post (nI w) (nI n) (nI a) (nI c) (nI h) kk fp sp ll rr li ss ld m (nI i)) (fun i _ => ∀ k, k < i → mo_D li w k) c () (fun k hk => absurd hk (Nat.not_lt_zero k)) ?_ ?_
  · intro m _ H
    exact pk_le c c (fun _ => h1 H) (fun z => absurd z (by omega))
  · intro m i _ hi H ih
    refine pk_le c i (fun z => absurd z (by omega)) (fun _ => ?_)
    refine xw_clause I hw hi (fun z => ?_) (fun z => ?_)
    · refine br_f (by decide) (nm_r (nI_1 i) (ih () (fun k hk => ?_)))
      by_cases e : k = i
      · rw [e]; exact z
      · exact H k (by omega)
    · exact br_t rfl (h0 (fun q => z (q i hi)))
end
end
section
section
variable {n a c h : Nat} {K P Q Lf Rt St : Nat → Nat} {kk fp sp ll rr li ss : Nat → Int32}
theorem xw_join66 {post : SX → Prop} {x d : Nat} {L : Nat → Nat} {ld : Nat → Int32} (hn : n ≤ 16) (hL : cc_A n ld L) (hB : ∀ t, t < n → L t < 16) (hd : d < 16)
    (H : ∀ ld', cc_A n ld' (cc_jo n L x d) → post (nI n, nI a, nI c, nI h, kk, fp, sp, ll, rr, li, ss, ld')) : ∃ m, wX_join_66 post (nI x) (nI d) (nI n) (nI a) (nI c) (nI h) m 0 kk fp sp ll rr li ss ld := by
  refine loop_0 (σ := Nat → Int32) (fun m i s => wX_join_66 post (nI x) (nI d) (nI n) (nI a) (nI c) (nI h) m (nI i) kk fp sp ll rr li ss s) (fun i s => cc_A n s (jl_m n L x d i)) n ld (jl_0 hL) ?_ ?_
  · intro m s G
    exact pk_le n n (fun _ => H s (jl_n G)) (fun z => absurd z (by omega))
  · intro m i s hi G ih
    refine pk_le n i (fun z => absurd z (by omega)) (fun _ => And.intro (pk_in i 16 (by omega)) ?_)
    have b := hB i hi
    rw [nI_clamp (show i < 2 ^ 31 by omega), jl_at G hi]
    refine pk_eq (L i) d (fun e => And.intro (pk_in i 16 (by omega)) ?_) (fun e => nm_r (nI_1 i) (ih s (jl_keep G (cc_jo_f e))))
    exact nm_e (nm_r (nI_1 i) (ih _ (jl_set G (cc_jo_t hi e))))
theorem xw_join {post : SX → Prop} {t u : Nat} {L : Nat → Nat} {ld : Nat → Int32} (hn : n ≤ 16) (hL : cc_A n ld L) (hB : ∀ t, t < n → L t < 16) (ht : t < n) (hu : u < n)
    (H : ∀ ld', cc_A n ld' (cc_jn n L t u) → post (nI n, nI a, nI c, nI h, kk, fp, sp, ll, rr, li, ss, ld')) : wpX_join post (nI n, nI a, nI c, nI h, kk, fp, sp, ll, rr, li, ss, ld) (nI t) (nI u) := by
  unfold wpX_join
  dsimp only
  have it : vp_in (nI t) 16 := pk_in t 16 (by omega)
  have iu : vp_in (nI u) 16 := pk_in u 16 (by omega)
  have bt := hB t ht
  have bu := hB u hu
  refine ⟨it, iu, ?_⟩
  by_cases z : L u ≤ L t
  · have hc : ld (nI u).toNatClampNeg ≤ ld (nI t).toNatClampNeg := by
      rw [nI_clamp (show t < 2 ^ 31 by omega), nI_clamp (show u < 2 ^ 31 by omega), hL t ht, hL u hu, nI_leI (by omega) (by omega)]
      exact z
    refine br_t hc ⟨iu, ?_⟩
    unfold wX_join_30
    refine ⟨it, iu, br_t hc ⟨it, ?_⟩⟩
    rw [nI_clamp (show t < 2 ^ 31 by omega), nI_clamp (show u < 2 ^ 31 by omega), hL t ht, hL u hu]
    have x : ¬ L t < L u := by omega
    rw [cc_jn_ge x] at H
    exact nm_e (xw_join66 hn hL hB bt H)
  · have hc : ¬ ld (nI u).toNatClampNeg ≤ ld (nI t).toNatClampNeg := by
      rw [nI_clamp (show t < 2 ^ 31 by omega), nI_clamp (show u < 2 ^ 31 by omega), hL t ht, hL u hu, nI_leI (by omega) (by omega)]
      exact z
    refine br_f hc ⟨it, ?_⟩
    unfold wX_join_30
    refine ⟨it, iu, br_f hc ⟨iu, ?_⟩⟩
    rw [nI_clamp (show t < 2 ^ 31 by omega), nI_clamp (show u < 2 ^ 31 by omega), hL t ht, hL u hu]
    have x : L t < L u := by omega
    rw [cc_jn_lt x] at H
    exact nm_e (xw_join66 hn hL hB bu H)
theorem xw_alike {post : Int32 → Prop} {t u : Nat} {L : Nat → Nat} {ld : Nat → Int32} (I : st_I n a c h K P Q Lf Rt St kk fp sp ll rr li ss) (hL : cc_A n ld L) (hB : ∀ t, t < n → L t < 16) (ht : t < n) (hu : u < n)
    (h1 : cc_al K P Q L t u → post 1) (h0 : ¬ cc_al K P Q L t u → post 0) : wpX_areAlike post (nI n, nI a, nI c, nI h, kk, fp, sp, ll, rr, li, ss, ld) (nI t) (nI u) := by
  have hn := st_n I
  have W := st_W I
  have it : vp_in (nI t) 16 := pk_in t 16 (by omega)
  have iu : vp_in (nI u) 16 := pk_in u 16 (by omega)
  have k4 := st_K4 I t ht
  have k4' := st_K4 I u hu
  unfold wpX_areAlike
  dsimp only
  rw [nI_clamp (show t < 2 ^ 31 by omega), nI_clamp (show u < 2 ^ 31 by omega), st_K I t ht, st_K I u hu]
  refine ⟨it, iu, pk_eq (K t) (K u) (fun e => ⟨it, pk_eq (K t) 0 (fun e0 => h0 (fun z => z.2.1 e0)) (fun e0 => ⟨it, ?_⟩)⟩) (fun e => h0 (fun z => e z.1))⟩
  have e0' : K u ≠ 0 := fun z => e0 (e.trans z)
  have p1 := W.1 t ht e0
  have p2 := W.1 u hu e0'
  have b1 := hB _ p1
  have b2 := hB _ p2
  rw [st_P I t ht e0, st_P I u hu e0', nI_clamp (show P t < 2 ^ 31 by omega), nI_clamp (show P u < 2 ^ 31 by omega), hL _ p1, hL _ p2]
  refine ⟨pk_in (P t) 16 (by omega), iu, pk_in (P u) 16 (by omega), ?_⟩
  refine pk_eq (L (P t)) (L (P u)) (fun e1 => ⟨it, ?_⟩) (fun e1 => h0 (fun z => e1 z.2.2.1))
  refine pk_eq (K t) 2 (fun e2 => ⟨it, ?_⟩) (fun e2 => h1 ⟨e, e0, e1, fun z => absurd z e2⟩)
  have q1 := W.2.1 t ht e2
  have q2 := W.2.1 u hu (e.symm.trans e2)
  have c1 := hB _ q1
  have c2 := hB _ q2
  rw [st_Q I t ht e2, st_Q I u hu (e.symm.trans e2), nI_clamp (show Q t < 2 ^ 31 by omega), nI_clamp (show Q u < 2 ^ 31 by omega), hL _ q1, hL _ q2]
  refine ⟨pk_in (Q t) 16 (by omega), iu, pk_in (Q u) 16 (by omega), ?_⟩
  exact pk_eq (L (Q t)) (L (Q u)) (fun e3 => h1 ⟨e, e0, e1, fun _ => e3⟩) (fun e3 => h0 (fun z => e3 (z.2.2.2 e2)))
theorem ai_B {s m : Nat} {L : Nat → Nat} (hn : n ≤ 16) (h : cc_AI n K P Q a Lf Rt s m L) : ∀ t, t < n → L t < 16 := by
  intro t ht
  have := (h.1 t ht).1
  omega
theorem xw_joinAlike {post : Int32 → SX → Prop} {s : Nat} {L0 : Nat → Nat} {ld : Nat → Int32} (I : st_I n a c h K P Q Lf Rt St kk fp sp ll rr li ss) (hL : cc_A n ld L0) (hA : cc_AI n K P Q a Lf Rt s a L0)
    (H : ∀ ld' L x, cc_A n ld' L → rd_R n K P Q a Lf Rt s (fun t u => t < n ∧ u < t) L0 L x → post x (nI n, nI a, nI c, nI h, kk, fp, sp, ll, rr, li, ss, ld')) : wpX_joinAlike post (nI n, nI a, nI c, nI h, kk, fp, sp, ll, rr, li, ss, ld) := by
  have hn := st_n I
  have W := st_W I
  refine loop_0 (σ := Int32 × (Nat → Int32)) (fun m i s => wX_joinAlike_4 post m s.1 (nI i) (nI n) (nI a) (nI c) (nI h) kk fp sp ll rr li ss s.2) (fun i z => ∃ L, cc_A n z.2 L ∧ rd_R n K P Q a Lf Rt s (fun t u => t < i ∧ u < t) L0 L z.1) n (0, ld) ⟨L0, hL, rd_0 hA (fun t u z => absurd z.1 (Nat.not_lt_zero t))⟩ ?_ ?_
  · intro m z G
    obtain ⟨x, ld'⟩ := z
    obtain ⟨L, g1, g2⟩ := G
    refine pk_le n n (fun _ => And.intro ?_ (H ld' L x g1 g2)) (fun z => absurd z (by omega))
    show narrow .boolean (.int x) = .int x
    rcases g2.2 with y | y
    · rw [show x = 0 from y.1]; rfl
    · rw [show x = 1 from y.1]; rfl
  · intro m i z hi G ih
    obtain ⟨x, ld'⟩ := z
    refine pk_le n i (fun z => absurd z (by omega)) (fun _ => ?_)
    refine loop_0 (σ := Int32 × (Nat → Int32)) (fun m' j s => wX_joinAlike_14 post (wX_joinAlike_4 post m) (nI i) m' s.1 (nI j) (nI n) (nI a) (nI c) (nI h) kk fp sp ll rr li ss s.2)
      (fun j z => ∃ L, cc_A n z.2 L ∧ rd_R n K P Q a Lf Rt s (fun t u => (t < i ∧ u < t) ∨ (t = i ∧ u < j)) L0 L z.1) i (x, ld') ?_ ?_ ?_
    · obtain ⟨L, g1, g2⟩ := G
      exact ⟨L, g1, rd_same g2 (fun t u z => by omega)⟩
    · intro m' z G
      obtain ⟨x, ld'⟩ := z
      obtain ⟨L, g1, g2⟩ := G
      refine pk_le i i (fun _ => nm_r (nI_1 i) (ih (x, ld') ⟨L, g1, rd_same g2 (fun t u z => ?_)⟩)) (fun z => absurd z (by omega))
      by_cases e : t = i
      · exact Or.inr ⟨e, by omega⟩
      · exact Or.inl ⟨by omega, z.2⟩
    · intro m' j z hj G ih'
      obtain ⟨x, ld'⟩ := z
      obtain ⟨L, g1, g2⟩ := G
      have g1 : cc_A n ld' L := g1
      have hB := ai_B hn g2.1
      have b1 := hB i hi
      have b2 := hB j (by omega)
      have hD : ∀ t u, ((t < i ∧ u < t) ∨ (t = i ∧ u < j + 1)) → ((t < i ∧ u < t) ∨ (t = i ∧ u < j)) ∨ (t = i ∧ u = j) := by
        intro t u z
        omega
      refine pk_le i j (fun z => absurd z (by omega)) (fun _ => And.intro (pk_in i 16 (by omega)) (And.intro (pk_in j 16 (by omega)) ?_))
      dsimp only
      rw [nI_clamp (show i < 2 ^ 31 by omega), nI_clamp (show j < 2 ^ 31 by omega), g1 i hi, g1 j (by omega)]
      refine pk_eq (L i) (L j) (fun e => nm_r (nI_1 j) (ih' (x, ld') ⟨L, g1, rd_skip g2 i j hD (fun _ => e)⟩)) (fun e => ?_)
      refine xw_alike I g1 hB hi (by omega) (fun al => ?_) (fun al => ?_)
      · refine br_f (by decide) ?_
        refine xw_join hn g1 hB hi (by omega) (fun ld2 g3 => ?_)
        exact nm_r (nI_1 j) (ih' (1, ld2) ⟨_, g3, rd_join _ W g2 hi (by omega) e al⟩)
      · exact br_t rfl (nm_r (nI_1 j) (ih' (x, ld') ⟨L, g1, rd_skip g2 i j hD (fun z => absurd z al)⟩))
theorem xw_close {post : SX → Prop} {s : Nat} {ld : Nat → Int32} (I : st_I n a c h K P Q Lf Rt St kk fp sp ll rr li ss) (hs : s < 256)
    (H : ∀ ld' L, cc_A n ld' L → cc_Ex n K P Q (cc_E a Lf Rt s) L → post (nI n, nI a, nI c, nI h, kk, fp, sp, ll, rr, li, ss, ld')) : wpX_closeUnder post (nI n, nI a, nI c, nI h, kk, fp, sp, ll, rr, li, ss, ld) (nI s) := by
  have hn := st_n I
  have ha := st_a I
  have W := st_W I
  refine loop_0 (σ := Nat → Int32) (fun m i z => wX_closeUnder_2 post (nI s) (nI n) (nI a) (nI c) (nI h) m (nI i) kk fp sp ll rr li ss z) (fun i z => cc_A i z (fun t => t)) n ld (fun t ht => absurd ht (Nat.not_lt_zero t)) ?_ ?_
  · intro m ld1 G
    refine pk_le n n (fun _ => ?_) (fun z => absurd z (by omega))
    refine loop_0 (σ := Nat → Int32) (fun m i z => wX_closeUnder_25 post (nI s) m (nI i) (nI n) (nI a) (nI c) (nI h) kk fp sp ll rr li ss z) (fun i z => ∃ L, cc_A n z L ∧ cc_AI n K P Q a Lf Rt s i L) a ld1 ⟨_, G, cc_AI_0 n K P Q a Lf Rt s⟩ ?_ ?_
    · intro m ld2 G
      obtain ⟨L, g1, g2⟩ := G
      refine pk_le a a (fun _ => ?_) (fun z => absurd z (by omega))
      refine loop_0 (σ := Int32 × (Nat → Int32)) (fun m i z => wX_closeUnder_68 post m z.1 (nI i) (nI n) (nI a) (nI c) (nI h) kk fp sp ll rr li ss z.2) (fun i z => ∃ L, cc_A n z.2 L ∧ rd_X n K P Q a Lf Rt s i L z.1) 16 (1, ld2) ⟨L, g1, Or.inl ⟨rfl, g2, cc_nl_le n L⟩⟩ ?_ ?_
      · intro m z G
        obtain ⟨x, ld3⟩ := z
        obtain ⟨L, g1, g2⟩ := G
        exact br_c (fun _ => H ld3 L g1 (rd_X16 hn g2)) (fun _ => pk_le 16 16 (fun _ => H ld3 L g1 (rd_X16 hn g2)) (fun z => absurd z (by omega)))
      · intro m i z hi G ih
        obtain ⟨x, ld3⟩ := z
        obtain ⟨L, g1, g2⟩ := G
        rcases g2 with ⟨e, g2, g3⟩ | ⟨e, g2⟩
        · have e' : x = 1 := e
          refine br_f (show ¬ x = 0 by rw [e']; decide) (pk_le 16 i (fun z => absurd z (by omega)) (fun _ => ?_))
          refine xw_joinAlike I g1 g2 (fun ld4 L4 x4 g4 g5 => ?_)
          exact nm_r (nI_1 i) (ih (x4, ld4) ⟨L4, g4, rd_Xs W g3 g5 (fun t u ht hu => by omega)⟩)
        · exact br_t e (H ld3 L g1 g2)
    · intro m i ld2 hi G ih
      obtain ⟨L, g1, g2⟩ := G
      have w := W.2.2 i hi
      refine pk_le a i (fun z => absurd z (by omega)) (fun _ => ?_)
      rw [bi_bit (show s < 2 ^ 31 by omega) (show i < 32 by omega)]
      have b : s / 2 ^ i % 2 < 2 := Nat.mod_lt _ (by decide)
      by_cases x : s.testBit i = true
      · refine br_t (by rw [bi_b1 x]; rfl) (And.intro (pk_in i 8 (by omega)) (And.intro (pk_in i 8 (by omega)) ?_))
        rw [nI_clamp (show i < 2 ^ 31 by omega), st_L I i hi, st_R I i hi]
        refine xw_join hn g1 (ai_B hn g2) w.1 w.2 (fun ld3 g3 => ?_)
        exact nm_r (nI_1 i) (ih ld3 ⟨_, g3, cc_AI_join W g2 hi x⟩)
      · refine br_f (by rw [bi_b0 (bi_ft x)]; decide) (nm_r (nI_1 i) (ih ld2 ⟨L, g1, cc_AI_skip g2 x⟩))
  · intro m i ld1 hi G ih
    refine pk_le n i (fun z => absurd z (by omega)) (fun _ => And.intro (pk_in i 16 (by omega)) ?_)
    rw [nI_clamp (show i < 2 ^ 31 by omega)]
    refine nm_e (nm_r (nI_1 i) (ih _ (fun t ht => ?_)))
    by_cases e : t = i
    · rw [e]; exact pk_us
    · rw [pk_un e]; exact G t (by omega)
end
end
section
section
variable {n a c h : Nat} {K P Q Lf Rt St : Nat → Nat} {kk fp sp ll rr li ss : Nat → Int32}
theorem ex_B {w : Nat} {L : Nat → Nat} (hn : n ≤ 16) (h : cc_Ex n K P Q (cc_E a Lf Rt w) L) : ∀ t, t < n → L t < 16 := by
  intro t ht
  have := (h.1 t ht).1
  omega
theorem xw_fol {post : Int32 → Prop} {L : Nat → Nat} {ld : Nat → Int32} (I : st_I n a c h K P Q Lf Rt St kk fp sp ll rr li ss) (hL : cc_A n ld L) (hB : ∀ t, t < n → L t < 16) (H : post (nI (fo_n L Lf Rt a))) :
    wpX_followingAtoms post (nI n, nI a, nI c, nI h, kk, fp, sp, ll, rr, li, ss, ld) := by
  have hn := st_n I
  have ha := st_a I
  have W := st_W I
  refine loop_0 (σ := Int32) (fun m i z => wX_followingAtoms_4 post (nI n) (nI a) (nI c) (nI h) kk fp sp ll rr li ss ld m z (nI i)) (fun i z => z = nI (fo_n L Lf Rt i)) a 0 rfl ?_ ?_
  · intro m z G
    exact pk_le a a (fun _ => by rw [G]; exact H) (fun z => absurd z (by omega))
  · intro m i z hi G ih
    have w := W.2.2 i hi
    have b1 := hB _ w.1
    have b2 := hB _ w.2
    refine pk_le a i (fun z => absurd z (by omega)) (fun _ => And.intro (pk_in i 8 (by omega)) ?_)
    rw [nI_clamp (show i < 2 ^ 31 by omega), st_L I i hi, st_R I i hi, nI_clamp (show Lf i < 2 ^ 31 by omega), nI_clamp (show Rt i < 2 ^ 31 by omega), hL _ w.1, hL _ w.2]
    refine ⟨pk_in (Lf i) 16 (by omega), pk_in i 8 (by omega), pk_in (Rt i) 16 (by omega), ?_⟩
    refine pk_eq (L (Lf i)) (L (Rt i)) (fun e => ?_) (fun e => nm_r (nI_1 i) (ih z (by rw [fo_f e]; exact G)))
    refine nm_e (nm_r (nI_1 i) (ih _ ?_))
    rw [G, bi_shl1 (show i < 31 by omega), bi_or, fo_t e]
theorem xw_model {post : Int32 → SX → Prop} {w : Nat} {ld : Nat → Int32} (I : st_I n a c h K P Q Lf Rt St kk fp sp ll rr li ss) (hw : w < 2 ^ a)
    (h1 : ∀ ld' L, (mo_M n K P Q a Lf Rt c li h St) w → cc_A n ld' L → cc_Ex n K P Q (cc_E a Lf Rt w) L → post 1 (nI n, nI a, nI c, nI h, kk, fp, sp, ll, rr, li, ss, ld')) (h0 : ∀ ld', ¬ (mo_M n K P Q a Lf Rt c li h St) w → post 0 (nI n, nI a, nI c, nI h, kk, fp, sp, ll, rr, li, ss, ld')) : wpX_isModel post (nI n, nI a, nI c, nI h, kk, fp, sp, ll, rr, li, ss, ld) (nI w) := by
  have hn := st_n I
  have p8 := bi_p8 (st_a I)
  have W := st_W I
  have hw' : w < 256 := by omega
  unfold wpX_isModel
  dsimp only
  refine xw_stack I hw' (fun m1 => br_f (by decide) ?_) (fun m1 => br_t rfl (h0 ld (fun z => m1 z.1)))
  refine xw_clauses I hw' (fun m2 => br_f (by decide) ?_) (fun m2 => br_t rfl (h0 ld (fun z => m2 z.2.1)))
  refine xw_close I hw' (fun ld' L g1 g2 => ?_)
  dsimp only
  refine xw_fol I g1 (ex_B hn g2) ?_
  have f := fo_lt L Lf Rt a
  refine pk_eq (fo_n L Lf Rt a) w (fun e => ?_) (fun e => ?_)
  · exact h1 ld' L ⟨m1, m2, (ps_iff W hw g2).mp e⟩ g1 g2
  · exact h0 ld' (fun z => e ((ps_iff W hw g2).mpr z.2.2))
theorem xw_count {post : Int32 → Prop} {L : Nat → Nat} {ld : Nat → Int32} (hn : n ≤ 16) (hL : cc_A n ld L) (hB : ∀ t, t < n → L t < 16) (H : post (nI (cc_nl n L))) :
    wpX_countLeaders post (nI n, nI a, nI c, nI h, kk, fp, sp, ll, rr, li, ss, ld) := by
  refine loop_0 (σ := Int32) (fun m i z => wX_countLeaders_4 post (nI n) (nI a) (nI c) (nI h) kk fp sp ll rr li ss ld m z (nI i)) (fun i z => z = nI (cc_cnt (fun t => decide (L t = t)) i)) n 0 rfl ?_ ?_
  · intro m z G
    exact pk_le n n (fun _ => by rw [G]; exact H) (fun z => absurd z (by omega))
  · intro m i z hi G ih
    have b1 := hB _ hi
    refine pk_le n i (fun z => absurd z (by omega)) (fun _ => And.intro (pk_in i 16 (by omega)) ?_)
    rw [nI_clamp (show i < 2 ^ 31 by omega), hL i hi]
    refine pk_eq (L i) i (fun e => ?_) (fun e => nm_r (nI_1 i) (ih z ?_))
    · refine nm_e (nm_r (nI_1 i) (ih _ ?_))
      rw [G, nI_1, cc_cnt_t (decide_eq_true e)]
    · rw [G, cc_cnt_f (fun y => e (of_decide_eq_true y))]
theorem xw_atomsAt {post : Int32 → Prop} {p : Nat} {ld : Nat → Int32} (I : st_I n a c h K P Q Lf Rt St kk fp sp ll rr li ss) (hp : p < 2 ^ 31) (H : post (nI (as_n St 0 p h))) : wpX_atomsAt post (nI n, nI a, nI c, nI h, kk, fp, sp, ll, rr, li, ss, ld) (nI p) := by
  have hh := st_h I
  have ha := st_a I
  refine loop_0 (σ := Int32) (fun m i z => wX_atomsAt_4 post (nI p) (nI n) (nI a) (nI c) (nI h) kk fp sp ll rr li ss ld m z (nI i)) (fun i z => z = nI (as_n St 0 p i)) h 0 rfl ?_ ?_
  · intro m z G
    exact pk_le h h (fun _ => by rw [G]; exact H) (fun z => absurd z (by omega))
  · intro m i z hi G ih
    have s2 := st_S2 I i hi
    refine pk_le h i (fun z => absurd z (by omega)) (fun _ => ?_)
    rw [bi_bit hp (show i < 32 by omega)]
    by_cases x : p.testBit i = true
    · refine br_t (by rw [bi_b1 x]; rfl) (And.intro (pk_in i 8 (by omega)) ?_)
      rw [nI_clamp (show i < 2 ^ 31 by omega), st_S I i hi, bi_1, bi_s1 (show St i < 2 ^ 31 by omega)]
      have b : St i % 2 < 2 := Nat.mod_lt _ (by decide)
      refine pk_eq (St i % 2) 0 (fun e => And.intro (pk_in i 8 (by omega)) ?_) (fun e => nm_r (nI_1 i) (ih z ?_))
      · refine nm_e (nm_r (nI_1 i) (ih _ ?_))
        rw [G, bi_shl1 (show St i / 2 < 31 by omega), bi_or, as_t x e]
      · rw [G, as_f (fun y => e y.2)]
    · refine br_f (by rw [bi_b0 (bi_ft x)]; decide) (nm_r (nI_1 i) (ih z ?_))
      rw [G, as_f (fun y => x y.1)]
theorem xw_oppsAt {post : Int32 → Prop} {p : Nat} {ld : Nat → Int32} (I : st_I n a c h K P Q Lf Rt St kk fp sp ll rr li ss) (hp : p < 2 ^ 31) (H : post (nI (as_n St 1 p h))) : wpX_oppositesAt post (nI n, nI a, nI c, nI h, kk, fp, sp, ll, rr, li, ss, ld) (nI p) := by
  have hh := st_h I
  have ha := st_a I
  refine loop_0 (σ := Int32) (fun m i z => wX_oppositesAt_4 post (nI p) (nI n) (nI a) (nI c) (nI h) kk fp sp ll rr li ss ld m z (nI i)) (fun i z => z = nI (as_n St 1 p i)) h 0 rfl ?_ ?_
  · intro m z G
    exact pk_le h h (fun _ => by rw [G]; exact H) (fun z => absurd z (by omega))
  · intro m i z hi G ih
    have s2 := st_S2 I i hi
    refine pk_le h i (fun z => absurd z (by omega)) (fun _ => ?_)
    rw [bi_bit hp (show i < 32 by omega)]
    by_cases x : p.testBit i = true
    · refine br_t (by rw [bi_b1 x]; rfl) (And.intro (pk_in i 8 (by omega)) ?_)
      rw [nI_clamp (show i < 2 ^ 31 by omega), st_S I i hi, bi_1, bi_s1 (show St i < 2 ^ 31 by omega)]
      have b : St i % 2 < 2 := Nat.mod_lt _ (by decide)
      refine pk_eq (St i % 2) 1 (fun e => And.intro (pk_in i 8 (by omega)) ?_) (fun e => nm_r (nI_1 i) (ih z ?_))
      · refine nm_e (nm_r (nI_1 i) (ih _ ?_))
        rw [G, bi_shl1 (show St i / 2 < 31 by omega), bi_or, as_t x e]
      · rw [G, as_f (fun y => e y.2)]
    · refine br_f (by rw [bi_b0 (bi_ft x)]; decide) (nm_r (nI_1 i) (ih z ?_))
      rw [G, as_f (fun y => x y.1)]
theorem xw_size {post : Int32 → Prop} {p : Nat} (hp : p < 2 ^ 31) (H : post (nI (sz_n p 8))) : wpX_countPlaces post (nI p) := by
  refine loop_0 (σ := Int32) (fun m i z => wX_countPlaces_4 post (nI p) m z (nI i)) (fun i z => z = nI (sz_n p i)) 8 0 rfl ?_ ?_
  · intro m z G
    exact pk_le 8 8 (fun _ => by rw [G]; exact H) (fun z => absurd z (by omega))
  · intro m i z hi G ih
    refine pk_le 8 i (fun z => absurd z (by omega)) (fun _ => ?_)
    rw [bi_bit hp (show i < 32 by omega)]
    refine nm_e (nm_r (nI_1 i) (ih _ ?_))
    rw [G, nI_add]
    rfl
theorem yw_size {post : Int32 → Prop} {p : Nat} (hp : p < 2 ^ 31) (H : post (nI (sz_n p 8))) : wpY_size post (nI p) := by
  refine loop_0 (σ := Int32) (fun m i z => wY_size_4 post (nI p) m z (nI i)) (fun i z => z = nI (sz_n p i)) 8 0 rfl ?_ ?_
  · intro m z G
    exact pk_le 8 8 (fun _ => by rw [G]; exact H) (fun z => absurd z (by omega))
  · intro m i z hi G ih
    refine pk_le 8 i (fun z => absurd z (by omega)) (fun _ => ?_)
    rw [bi_bit hp (show i < 32 by omega)]
    refine nm_e (nm_r (nI_1 i) (ih _ ?_))
    rw [G, nI_add]
    rfl
theorem xw_clash {post : Int32 → SX → Prop} {p : Nat} {ld : Nat → Int32} (I : st_I n a c h K P Q Lf Rt St kk fp sp ll rr li ss) (hp : p < 2 ^ 31)
    (h1 : ∀ ld', ¬ mo_B n K P Q a Lf Rt h St p → post 1 (nI n, nI a, nI c, nI h, kk, fp, sp, ll, rr, li, ss, ld')) (h0 : ∀ ld', mo_B n K P Q a Lf Rt h St p → post 0 (nI n, nI a, nI c, nI h, kk, fp, sp, ll, rr, li, ss, ld')) : wpX_clash post (nI n, nI a, nI c, nI h, kk, fp, sp, ll, rr, li, ss, ld) (nI p) := by
  have hn := st_n I
  have p8 := bi_p8 (st_a I)
  have W := st_W I
  have l0 := as_lt (o := 0) (p := p) h (st_S2 I)
  have l1 := as_lt (o := 1) (p := p) h (st_S2 I)
  unfold wpX_clash
  dsimp only
  refine xw_atomsAt I hp ?_
  refine xw_oppsAt I hp ?_
  refine xw_close I (by omega) (fun ld' L g1 g2 => ?_)
  dsimp only
  refine xw_fol I g1 (ex_B hn g2) ?_
  have f := fo_lt L Lf Rt a
  rw [nx_and]
  have lt : (fo_n L Lf Rt a &&& as_n St 1 p h) < 2 ^ a := Nat.and_lt_two_pow _ l1
  have key : ¬ (fo_n L Lf Rt a &&& as_n St 1 p h) = 0 ↔ ¬ mo_B n K P Q a Lf Rt h St p := by
    rw [an_ex, bl_iff (st_S2 I)]
    constructor
    · intro z
      obtain ⟨i, z1, z2⟩ := z
      have z3 := (fo_bit a i).mp z1
      exact ⟨i, z3.1, (g2.2 _ _ (W.2.2 i z3.1).1 (W.2.2 i z3.1).2).mp z3.2, z2⟩
    · intro z
      obtain ⟨i, hi, z1, z2⟩ := z
      exact ⟨i, (fo_bit a i).mpr ⟨hi, (g2.2 _ _ (W.2.2 i hi).1 (W.2.2 i hi).2).mpr z1⟩, z2⟩
  refine pk_eq (fo_n L Lf Rt a &&& as_n St 1 p h) 0 (fun e => ?_) (fun e => ?_)
  · exact h0 ld' (Classical.byContradiction (fun z => key.mpr z e))
  · exact h1 ld' (key.mp e)
end
end
section
section
variable {n a c h : Nat} {K P Q Lf Rt St : Nat → Nat} {kk fp sp ll rr li ss : Nat → Int32}
theorem ve_b {x y : Int32} {m f : Nat} {A : Int32 → Prop} (hx : x = nI m) (hy : y = nI f) (hm : m < 2 ^ 31) (hf : f < 2 ^ 31) (H : A (ve_N m f)) :
    (y = 0 → A (-2)) ∧ (¬ y = 0 → ((x = y → A 1) ∧ (¬ x = y → ((x = 0 → A 0) ∧ (¬ x = 0 → A 2))))) := by
  unfold ve_N at H
  refine pk_eq f 0 (fun e => ?_) (fun e => pk_eq m f (fun e1 => ?_) (fun e1 => pk_eq m 0 (fun e2 => ?_) (fun e2 => ?_) hx rfl) hx hy) hy rfl
  · rw [if_pos e] at H; exact H
  · rw [if_neg e, if_pos e1] at H; exact H
  · rw [if_neg e, if_neg e1, if_pos e2] at H; exact H
  · rw [if_neg e, if_neg e1, if_neg e2] at H; exact H
theorem xw_models {post : Int32 → SX → Prop} {ld : Nat → Int32} (I : st_I n a c h K P Q Lf Rt St kk fp sp ll rr li ss) (H : ∀ ld', post (nI (pc_n (mo_M n K P Q a Lf Rt c li h St) (2 ^ a))) (nI n, nI a, nI c, nI h, kk, fp, sp, ll, rr, li, ss, ld')) : wpX_models post (nI n, nI a, nI c, nI h, kk, fp, sp, ll, rr, li, ss, ld) := by
  have ha := st_a I
  have p8 := bi_p8 ha
  unfold wpX_models
  dsimp only
  refine nm_r (bi_shl1 (show a < 31 by omega)) ?_
  refine loop_0 (σ := Int32 × (Nat → Int32)) (fun m i z => wX_models_11 post (nI (2 ^ a)) m z.1 (nI i) (nI n) (nI a) (nI c) (nI h) kk fp sp ll rr li ss z.2) (fun i z => z.1 = nI (pc_n (mo_M n K P Q a Lf Rt c li h St) i)) (2 ^ a) (0, ld) rfl ?_ ?_
  · intro m z G
    obtain ⟨x, ld'⟩ := z
    have G' : x = nI (pc_n (mo_M n K P Q a Lf Rt c li h St) (2 ^ a)) := G
    exact pk_le (2 ^ a) (2 ^ a) (fun _ => by dsimp only; rw [G']; exact H ld') (fun z => absurd z (by omega))
  · intro m i z hi G ih
    obtain ⟨x, ld'⟩ := z
    have G' : x = nI (pc_n (mo_M n K P Q a Lf Rt c li h St) i) := G
    refine pk_le (2 ^ a) i (fun z => absurd z (by omega)) (fun _ => ?_)
    refine xw_model I hi (fun ld2 L mm g1 g2 => ?_) (fun ld2 mm => ?_)
    · refine br_f (by decide) (nm_e (nm_r (nI_1 i) (ih (x + 1, ld2) ?_)))
      show x + 1 = _
      rw [G', nI_1, pc_t mm]
    · refine br_t rfl (nm_r (nI_1 i) (ih (x, ld2) ?_))
      show x = _
      rw [G', pc_f mm]
theorem xw_kth {post : Int32 → SX → Prop} {k : Int32} {ld : Nat → Int32} (I : st_I n a c h K P Q Lf Rt St kk fp sp ll rr li ss) (H1 : ∀ ld' w, w < 2 ^ a → (mo_M n K P Q a Lf Rt c li h St) w → k = nI (pc_n (mo_M n K P Q a Lf Rt c li h St) w) → post (nI w) (nI n, nI a, nI c, nI h, kk, fp, sp, ll, rr, li, ss, ld'))
    (H0 : ∀ ld', (∀ w, w < 2 ^ a → (mo_M n K P Q a Lf Rt c li h St) w → ¬ k = nI (pc_n (mo_M n K P Q a Lf Rt c li h St) w)) → post (-1) (nI n, nI a, nI c, nI h, kk, fp, sp, ll, rr, li, ss, ld')) : wpX_model post (nI n, nI a, nI c, nI h, kk, fp, sp, ll, rr, li, ss, ld) k := by
  have ha := st_a I
  have p8 := bi_p8 ha
  unfold wpX_model
  dsimp only
  refine nm_r (bi_shl1 (show a < 31 by omega)) ?_
  refine loop_0 (σ := Int32 × (Nat → Int32)) (fun m i z => wX_model_12 post k (nI (2 ^ a)) m z.1 (nI i) (nI n) (nI a) (nI c) (nI h) kk fp sp ll rr li ss z.2) (fun i z => z.1 = nI (pc_n (mo_M n K P Q a Lf Rt c li h St) i) ∧ ∀ w, w < i → (mo_M n K P Q a Lf Rt c li h St) w → ¬ k = nI (pc_n (mo_M n K P Q a Lf Rt c li h St) w)) (2 ^ a) (0, ld) ⟨rfl, fun w hw => absurd hw (Nat.not_lt_zero w)⟩ ?_ ?_
  · intro m z G
    obtain ⟨x, ld'⟩ := z
    exact pk_le (2 ^ a) (2 ^ a) (fun _ => H0 ld' G.2) (fun z => absurd z (by omega))
  · intro m i z hi G ih
    obtain ⟨x, ld'⟩ := z
    obtain ⟨G', G2⟩ := G
    have G' : x = nI (pc_n (mo_M n K P Q a Lf Rt c li h St) i) := G'
    refine pk_le (2 ^ a) i (fun z => absurd z (by omega)) (fun _ => ?_)
    refine xw_model I hi (fun ld2 L mm g1 g2 => ?_) (fun ld2 mm => ?_)
    · refine br_f (by decide) (br_c (fun e => ?_) (fun e => nm_e (nm_r (nI_1 i) (ih (x + 1, ld2) ⟨?_, fun w hw mw => ?_⟩))))
      · exact H1 ld2 i hi mm (by rw [← G']; exact e.symm)
      · show x + 1 = _
        rw [G', nI_1, pc_t mm]
      · by_cases ew : w = i
        · rw [ew, ← G']; exact fun z => e z.symm
        · exact G2 w (by omega) mw
    · refine br_t rfl (nm_r (nI_1 i) (ih (x, ld2) ⟨?_, fun w hw mw => ?_⟩))
      · show x = _
        rw [G', pc_f mm]
      · by_cases ew : w = i
        · rw [ew] at mw; exact absurd mw mm
        · exact G2 w (by omega) mw
theorem xw_holds {post : Int32 → SX → Prop} {v : Int32} {ld : Nat → Int32} (I : st_I n a c h K P Q Lf Rt St kk fp sp ll rr li ss) (H1 : ∀ ld' l, l < 2 * a → v = nI l → post (ve_N (pc_n (fun w => (mo_M n K P Q a Lf Rt c li h St) w ∧ mo_h w l) (2 ^ a)) (pc_n (mo_M n K P Q a Lf Rt c li h St) (2 ^ a))) (nI n, nI a, nI c, nI h, kk, fp, sp, ll, rr, li, ss, ld'))
    (H0 : (¬ ∃ l, l < 2 * a ∧ v = nI l) → post (-1) (nI n, nI a, nI c, nI h, kk, fp, sp, ll, rr, li, ss, ld)) : wpX_holds post (nI n, nI a, nI c, nI h, kk, fp, sp, ll, rr, li, ss, ld) v := by
  have ha := st_a I
  have p8 := bi_p8 ha
  unfold wpX_holds
  dsimp only
  refine xw_isLit ha (fun l hl el => ?_) (fun z => br_t rfl (H0 z))
  refine br_f (by decide) (nm_r (bi_shl1 (show a < 31 by omega)) ?_)
  rw [el]
  refine loop_0 (σ := Int32 × Int32 × (Nat → Int32)) (fun m i z => wX_holds_25 post (nI l) (nI (2 ^ a)) m z.1 z.2.1 (nI i) (nI n) (nI a) (nI c) (nI h) kk fp sp ll rr li ss z.2.2) (fun i z => z.1 = nI (pc_n (mo_M n K P Q a Lf Rt c li h St) i) ∧ z.2.1 = nI (pc_n (fun w => (mo_M n K P Q a Lf Rt c li h St) w ∧ mo_h w l) i)) (2 ^ a) (0, 0, ld) ⟨rfl, rfl⟩ ?_ ?_
  · intro m z G
    obtain ⟨x, y, ld'⟩ := z
    obtain ⟨G1, G2⟩ := G
    have b1 := pc_le (mo_M n K P Q a Lf Rt c li h St) (2 ^ a)
    have b2 := pc_le (fun w => (mo_M n K P Q a Lf Rt c li h St) w ∧ mo_h w l) (2 ^ a)
    refine pk_le (2 ^ a) (2 ^ a) (fun _ => ?_) (fun z => absurd z (by omega))
    exact ve_b (A := fun r => post r (nI n, nI a, nI c, nI h, kk, fp, sp, ll, rr, li, ss, ld')) G2 G1 (by omega) (by omega) (H1 ld' l hl el)
  · intro m i z hi G ih
    obtain ⟨x, y, ld'⟩ := z
    obtain ⟨G1, G2⟩ := G
    have G1 : x = nI (pc_n (mo_M n K P Q a Lf Rt c li h St) i) := G1
    have G2 : y = nI (pc_n (fun w => (mo_M n K P Q a Lf Rt c li h St) w ∧ mo_h w l) i) := G2
    refine pk_le (2 ^ a) i (fun z => absurd z (by omega)) (fun _ => ?_)
    refine xw_model I hi (fun ld2 L mm g1 g2 => ?_) (fun ld2 mm => ?_)
    · refine br_f (by decide) (nm_e ?_)
      have e1 : x + 1 = nI (pc_n (mo_M n K P Q a Lf Rt c li h St) (i + 1)) := by rw [G1, nI_1, pc_t mm]
      refine xw_holdsIn (by omega) (by omega) (fun hh => br_f (by decide) (nm_e (nm_r (nI_1 i) (ih (x + 1, y + 1, ld2) ⟨e1, ?_⟩)))) (fun hh => br_t rfl (nm_r (nI_1 i) (ih (x + 1, y, ld2) ⟨e1, ?_⟩)))
      · show y + 1 = _
        rw [G2, nI_1, pc_t (P := fun w => (mo_M n K P Q a Lf Rt c li h St) w ∧ mo_h w l) ⟨mm, hh⟩]
      · show y = _
        rw [G2, pc_f (P := fun w => (mo_M n K P Q a Lf Rt c li h St) w ∧ mo_h w l) (fun z => hh z.2)]
    · refine br_t rfl (nm_r (nI_1 i) (ih (x, y, ld2) ⟨?_, ?_⟩))
      · show x = _
        rw [G1, pc_f mm]
      · show y = _
        rw [G2, pc_f (P := fun w => (mo_M n K P Q a Lf Rt c li h St) w ∧ mo_h w l) (fun z => mm z.1)]
theorem xw_one {post : Int32 → SX → Prop} {v1 v2 : Int32} {ld : Nat → Int32} (I : st_I n a c h K P Q Lf Rt St kk fp sp ll rr li ss) (H1 : ∀ ld' t u, t < n → u < n → v1 = nI t → v2 = nI u → post (ve_N (pc_n (fun w => (mo_M n K P Q a Lf Rt c li h St) w ∧ cc_F n K P Q a Lf Rt w t u) (2 ^ a)) (pc_n (mo_M n K P Q a Lf Rt c li h St) (2 ^ a))) (nI n, nI a, nI c, nI h, kk, fp, sp, ll, rr, li, ss, ld'))
    (H0 : ¬ ((∃ t, t < n ∧ v1 = nI t) ∧ (∃ u, u < n ∧ v2 = nI u)) → post (-1) (nI n, nI a, nI c, nI h, kk, fp, sp, ll, rr, li, ss, ld)) : wpX_one post (nI n, nI a, nI c, nI h, kk, fp, sp, ll, rr, li, ss, ld) v1 v2 := by
  have hn := st_n I
  have ha := st_a I
  have p8 := bi_p8 ha
  unfold wpX_one
  dsimp only
  refine xw_isTerm hn (fun t ht et => ?_) (fun z => br_t rfl (H0 (fun y => z y.1)))
  refine br_f (by decide) ?_
  refine xw_isTerm hn (fun u hu eu => ?_) (fun z => br_t rfl (H0 (fun y => z y.2)))
  refine br_f (by decide) (nm_r (bi_shl1 (show a < 31 by omega)) ?_)
  rw [et, eu]
  refine loop_0 (σ := Int32 × Int32 × (Nat → Int32)) (fun m i z => wX_one_34 post (nI t) (nI u) (nI (2 ^ a)) m z.1 z.2.1 (nI i) (nI n) (nI a) (nI c) (nI h) kk fp sp ll rr li ss z.2.2) (fun i z => z.1 = nI (pc_n (mo_M n K P Q a Lf Rt c li h St) i) ∧ z.2.1 = nI (pc_n (fun w => (mo_M n K P Q a Lf Rt c li h St) w ∧ cc_F n K P Q a Lf Rt w t u) i)) (2 ^ a) (0, 0, ld) ⟨rfl, rfl⟩ ?_ ?_
  · intro m z G
    obtain ⟨x, y, ld'⟩ := z
    obtain ⟨G1, G2⟩ := G
    have b1 := pc_le (mo_M n K P Q a Lf Rt c li h St) (2 ^ a)
    have b2 := pc_le (fun w => (mo_M n K P Q a Lf Rt c li h St) w ∧ cc_F n K P Q a Lf Rt w t u) (2 ^ a)
    refine pk_le (2 ^ a) (2 ^ a) (fun _ => ?_) (fun z => absurd z (by omega))
    exact ve_b (A := fun r => post r (nI n, nI a, nI c, nI h, kk, fp, sp, ll, rr, li, ss, ld')) G2 G1 (by omega) (by omega) (H1 ld' t u ht hu et eu)
  · intro m i z hi G ih
    obtain ⟨x, y, ld'⟩ := z
    obtain ⟨G1, G2⟩ := G
    have G1 : x = nI (pc_n (mo_M n K P Q a Lf Rt c li h St) i) := G1
    have G2 : y = nI (pc_n (fun w => (mo_M n K P Q a Lf Rt c li h St) w ∧ cc_F n K P Q a Lf Rt w t u) i) := G2
    refine pk_le (2 ^ a) i (fun z => absurd z (by omega)) (fun _ => ?_)
    refine xw_model I hi (fun ld2 L mm g1 g2 => ?_) (fun ld2 mm => ?_)
    · have e1 : x + 1 = nI (pc_n (mo_M n K P Q a Lf Rt c li h St) (i + 1)) := by rw [G1, nI_1, pc_t mm]
      refine br_f (by decide) (nm_e (And.intro (pk_in t 16 (by omega)) (And.intro (pk_in u 16 (by omega)) ?_)))
      rw [nI_clamp (show t < 2 ^ 31 by omega), nI_clamp (show u < 2 ^ 31 by omega), g1 t ht, g1 u hu]
      refine ek_if (ex_iff g2 ht hu hn) (fun hh => nm_e (nm_r (nI_1 i) (ih (x + 1, y + 1, ld2) ⟨e1, ?_⟩))) (fun hh => nm_r (nI_1 i) (ih (x + 1, y, ld2) ⟨e1, ?_⟩))
      · show y + 1 = _
        rw [G2, nI_1, pc_t (P := fun w => (mo_M n K P Q a Lf Rt c li h St) w ∧ cc_F n K P Q a Lf Rt w t u) ⟨mm, hh⟩]
      · show y = _
        rw [G2, pc_f (P := fun w => (mo_M n K P Q a Lf Rt c li h St) w ∧ cc_F n K P Q a Lf Rt w t u) (fun z => hh z.2)]
    · refine br_t rfl (nm_r (nI_1 i) (ih (x, y, ld2) ⟨?_, ?_⟩))
      · show x = _
        rw [G1, pc_f mm]
      · show y = _
        rw [G2, pc_f (P := fun w => (mo_M n K P Q a Lf Rt c li h St) w ∧ cc_F n K P Q a Lf Rt w t u) (fun z => mm z.1)]
theorem bt_m2 {d : Nat} (h : d < 2 ^ 31) : ¬ nI d = -2 := by
  intro e
  have h1 : (nI d).toInt = (d : Int) := nI_toInt h
  rw [e] at h1
  have h2 : (-2 : Int32).toInt = -2 := by decide
  omega
theorem bt_lt {b : Bool} {q d : Nat} (hb : b = true) (h : q < d) : bt_O b q (some d) = some q := by
  show (if b = true then (if q < d then some q else some d) else (if d < q then some q else some d)) = _
  rw [if_pos hb, if_pos h]
theorem bt_ge {b : Bool} {q d : Nat} (hb : b = true) (h : ¬ q < d) : bt_O b q (some d) = some d := by
  show (if b = true then (if q < d then some q else some d) else (if d < q then some q else some d)) = _
  rw [if_pos hb, if_neg h]
theorem bt_gt {b : Bool} {q d : Nat} (hb : ¬ b = true) (h : d < q) : bt_O b q (some d) = some q := by
  show (if b = true then (if q < d then some q else some d) else (if d < q then some q else some d)) = _
  rw [if_neg hb, if_pos h]
theorem bt_le {b : Bool} {q d : Nat} (hb : ¬ b = true) (h : ¬ d < q) : bt_O b q (some d) = some d := by
  show (if b = true then (if q < d then some q else some d) else (if d < q then some q else some d)) = _
  rw [if_neg hb, if_neg h]
theorem xw_better {post : Int32 → SX → Prop} {J : Int32 → Int32 → Int32 → Int32 → Int32 → Int32 → (Nat → Int32) → (Nat → Int32) → (Nat → Int32) → (Nat → Int32) → (Nat → Int32) → (Nat → Int32) → (Nat → Int32) → (Nat → Int32) → Prop}
    {x1 x2 : Int32} {b : Bool} {o : Option Nat} {q i : Nat} {ld : Nat → Int32} (hb : x1 = 0 ↔ b = true) (hd : ∀ d, o = some d → d ≤ 16) (hq : q ≤ 16) (H : J (bt_I (bt_O b q o)) (nI (i + 1)) (nI n) (nI a) (nI c) (nI h) kk fp sp ll rr li ss ld) :
    (x1 = 0 → ((bt_I o ≤ nI q → wX_classes_74 post J x1 x2 (bt_I o) (nI i) (nI q) 0 (nI n) (nI a) (nI c) (nI h) kk fp sp ll rr li ss ld) ∧ (¬ bt_I o ≤ nI q → wX_classes_74 post J x1 x2 (bt_I o) (nI i) (nI q) 1 (nI n) (nI a) (nI c) (nI h) kk fp sp ll rr li ss ld))) ∧
    (¬ x1 = 0 → ((nI q ≤ bt_I o → wX_classes_74 post J x1 x2 (bt_I o) (nI i) (nI q) 0 (nI n) (nI a) (nI c) (nI h) kk fp sp ll rr li ss ld) ∧ (¬ nI q ≤ bt_I o → wX_classes_74 post J x1 x2 (bt_I o) (nI i) (nI q) 1 (nI n) (nI a) (nI c) (nI h) kk fp sp ll rr li ss ld))) := by
  cases o with
  | none =>
    have H' : J (nI q) (nI (i + 1)) (nI n) (nI a) (nI c) (nI h) kk fp sp ll rr li ss ld := H
    have k : ∀ z0, wX_classes_74 post J x1 x2 (-2) (nI i) (nI q) z0 (nI n) (nI a) (nI c) (nI h) kk fp sp ll rr li ss ld := fun z0 => br_t rfl (nm_r (nI_1 i) H')
    exact br_c (fun _ => br_c (fun _ => k 0) (fun _ => k 1)) (fun _ => br_c (fun _ => k 0) (fun _ => k 1))
  | some d =>
    have hd := hd d rfl
    have m2 : ¬ nI d = -2 := bt_m2 (by omega)
    refine br_c (fun e => pk_le d q (fun z => ?_) (fun z => ?_)) (fun e => pk_le q d (fun z => ?_) (fun z => ?_))
    · rw [bt_ge (hb.mp e) (by omega)] at H
      exact br_f m2 (br_t rfl (nm_r (nI_1 i) H))
    · rw [bt_lt (hb.mp e) z] at H
      exact br_f m2 (br_f (by decide) (nm_r (nI_1 i) H))
    · rw [bt_le (fun y => e (hb.mpr y)) (by omega)] at H
      exact br_f m2 (br_t rfl (nm_r (nI_1 i) H))
    · rw [bt_gt (fun y => e (hb.mpr y)) z] at H
      exact br_f m2 (br_f (by decide) (nm_r (nI_1 i) H))
theorem xw_classes11 {post : Int32 → SX → Prop} {x1 : Int32} {b : Bool} {ld : Nat → Int32} (I : st_I n a c h K P Q Lf Rt St kk fp sp ll rr li ss) (hb : x1 = 0 ↔ b = true)
    (H : ∀ ld', post (bt_I (xf_s (mo_M n K P Q a Lf Rt c li h St) (fun w s => bt_O b (cl_N n K P Q a Lf Rt w) s) none (2 ^ a))) (nI n, nI a, nI c, nI h, kk, fp, sp, ll, rr, li, ss, ld')) : wX_classes_11 post x1 (nI n) (nI a) (nI c) (nI h) kk fp sp ll rr li ss ld := by
  have hn := st_n I
  have ha := st_a I
  have p8 := bi_p8 ha
  have bd := bt_bd (M := (mo_M n K P Q a Lf Rt c li h St)) (b := b) (N := fun w => cl_N n K P Q a Lf Rt w) (n := 16) (fun w => Nat.le_trans (cl_le n K P Q a Lf Rt w) hn)
  unfold wX_classes_11
  refine nm_r (bi_shl1 (show a < 31 by omega)) ?_
  refine loop_0 (σ := Int32 × (Nat → Int32)) (fun m i z => wX_classes_24 post x1 (nI (2 ^ a)) m z.1 (nI i) (nI n) (nI a) (nI c) (nI h) kk fp sp ll rr li ss z.2) (fun i z => z.1 = bt_I (xf_s (mo_M n K P Q a Lf Rt c li h St) (fun w s => bt_O b (cl_N n K P Q a Lf Rt w) s) none i)) (2 ^ a) (-2, ld) rfl ?_ ?_
  · intro m z G
    obtain ⟨x, ld'⟩ := z
    have G' : x = bt_I (xf_s (mo_M n K P Q a Lf Rt c li h St) (fun w s => bt_O b (cl_N n K P Q a Lf Rt w) s) none (2 ^ a)) := G
    exact pk_le (2 ^ a) (2 ^ a) (fun _ => by dsimp only; rw [G']; exact H ld') (fun z => absurd z (by omega))
  · intro m i z hi G ih
    obtain ⟨x, ld'⟩ := z
    have G' : x = bt_I (xf_s (mo_M n K P Q a Lf Rt c li h St) (fun w s => bt_O b (cl_N n K P Q a Lf Rt w) s) none i) := G
    refine pk_le (2 ^ a) i (fun z => absurd z (by omega)) (fun _ => ?_)
    refine xw_model I hi (fun ld2 L mm g1 g2 => ?_) (fun ld2 mm => ?_)
    · refine br_f (by decide) ?_
      refine xw_count hn g1 (ex_B hn g2) ?_
      rw [cl_eq g2]
      dsimp only
      rw [G']
      refine xw_better hb (bd i) (Nat.le_trans (cl_le n K P Q a Lf Rt i) hn) ?_
      refine ih (_, ld2) ?_
      show bt_I _ = bt_I _
      rw [xf_t mm]
    · refine br_t rfl (nm_r (nI_1 i) (ih (x, ld2) ?_))
      show x = _
      rw [G', xf_f mm]
end
end
section
section
variable {n a c h : Nat} {K P Q Lf Rt St : Nat → Nat} {kk fp sp ll rr li ss : Nat → Int32}
/-- the best so far, and its size (9: none yet) -/
def am_X (R : Nat → Prop) (i : Nat) (b : Int32) (f : Nat) : Prop :=
  (b = -2 ∧ f = 9 ∧ ∀ p, p < i → ¬ R p) ∨ ∃ m, m < i ∧ b = nI m ∧ f = sz_n m 8 ∧ R m ∧ ∀ p, p < i → R p → sz_n m 8 < sz_n p 8 ∨ (sz_n m 8 = sz_n p 8 ∧ m ≤ p)
theorem am_Xp {R : Nat → Prop} {i f : Nat} {b : Int32} (h : am_X R i b f) : am_P R i b := by
  rcases h with ⟨e, _, h⟩ | ⟨m, hm, e, _, hr, h⟩
  · exact Or.inl ⟨e, h⟩
  · exact Or.inr ⟨m, hm, e, hr, h⟩
theorem am_X9 {R : Nat → Prop} {i f : Nat} {b : Int32} (h : am_X R i b f) : f ≤ 9 := by
  rcases h with ⟨_, e, _⟩ | ⟨m, _, _, e, _⟩
  · omega
  · have := sz_bd m 8
    omega
theorem am_X0 (R : Nat → Prop) : am_X R 0 (-2) 9 := Or.inl ⟨rfl, rfl, fun p hp => absurd hp (Nat.not_lt_zero p)⟩
theorem am_Xn {R : Nat → Prop} {i f : Nat} {b : Int32} (h : am_X R i b f) (x : ¬ R i) : am_X R (i + 1) b f := by
  rcases h with ⟨e, e1, h⟩ | ⟨m, hm, e, e1, hr, h⟩
  · refine Or.inl ⟨e, e1, fun p hp => ?_⟩
    by_cases z : p = i
    · rw [z]; exact x
    · exact h p (by omega)
  · refine Or.inr ⟨m, by omega, e, e1, hr, fun p hp hR => ?_⟩
    by_cases z : p = i
    · rw [z] at hR; exact absurd hR x
    · exact h p (by omega) hR
theorem am_Xs {R : Nat → Prop} {i f : Nat} {b : Int32} (h : am_X R i b f) (l : f ≤ sz_n i 8) : am_X R (i + 1) b f := by
  rcases h with ⟨e, e1, h⟩ | ⟨m, hm, e, e1, hr, h⟩
  · have := sz_bd i 8
    omega
  · refine Or.inr ⟨m, by omega, e, e1, hr, fun p hp hR => ?_⟩
    by_cases z : p = i
    · rw [z]
      by_cases y : sz_n m 8 = sz_n i 8
      · exact Or.inr ⟨y, by omega⟩
      · exact Or.inl (by omega)
    · exact h p (by omega) hR
theorem am_Xy {R : Nat → Prop} {i f : Nat} {b : Int32} (h : am_X R i b f) (l : sz_n i 8 < f) (x : R i) : am_X R (i + 1) (nI i) (sz_n i 8) := by
  refine Or.inr ⟨i, by omega, rfl, rfl, x, fun p hp hR => ?_⟩
  by_cases z : p = i
  · rw [z]; exact Or.inr ⟨rfl, Nat.le_refl _⟩
  · rcases h with ⟨_, _, h⟩ | ⟨m, _, _, e1, _, h⟩
    · exact absurd hR (h p (by omega))
    · have := h p (by omega) hR
      exact Or.inl (by omega)
theorem xw_classes {post : Int32 → SX → Prop} {v : Int32} {ld : Nat → Int32} (I : st_I n a c h K P Q Lf Rt St kk fp sp ll rr li ss)
    (H1 : ∀ ld' b, (b = true ∧ v = 0) ∨ (b = false ∧ v = 1) → post (bt_I (xf_s (mo_M n K P Q a Lf Rt c li h St) (fun w s => bt_O b (cl_N n K P Q a Lf Rt w) s) none (2 ^ a))) (nI n, nI a, nI c, nI h, kk, fp, sp, ll, rr, li, ss, ld'))
    (H0 : ¬ v = 0 → ¬ v = 1 → post (-1) (nI n, nI a, nI c, nI h, kk, fp, sp, ll, rr, li, ss, ld)) : wpX_classes post (nI n, nI a, nI c, nI h, kk, fp, sp, ll, rr, li, ss, ld) v := by
  unfold wpX_classes
  dsimp only
  refine br_c (fun e => ?_) (fun e => br_c (fun e1 => ?_) (fun e1 => H0 e e1))
  · exact xw_classes11 (b := true) I ⟨fun _ => rfl, fun _ => e⟩ (fun ld' => H1 ld' true (Or.inl ⟨rfl, e⟩))
  · exact xw_classes11 (b := false) I ⟨fun z => absurd z e, fun z => absurd z (by decide)⟩ (fun ld' => H1 ld' false (Or.inr ⟨rfl, e1⟩))
theorem xw_least {post : Int32 → SX → Prop} {v : Int32} {ld : Nat → Int32} (I : st_I n a c h K P Q Lf Rt St kk fp sp ll rr li ss)
    (H1 : ∀ ld' t L, t < n → v = nI t → cc_Ex n K P Q (cc_E a Lf Rt (as_n St 0 (2 ^ h - 1) h)) L → post (nI (L t)) (nI n, nI a, nI c, nI h, kk, fp, sp, ll, rr, li, ss, ld'))
    (H0 : (¬ ∃ t, t < n ∧ v = nI t) → post (-1) (nI n, nI a, nI c, nI h, kk, fp, sp, ll, rr, li, ss, ld)) : wpX_least post (nI n, nI a, nI c, nI h, kk, fp, sp, ll, rr, li, ss, ld) v := by
  have hn := st_n I
  have hh := st_h I
  have p8 := bi_p8 (st_a I)
  have p8' := bi_p8 hh
  have l0 := as_lt (o := 0) (p := 2 ^ h - 1) h (st_S2 I)
  unfold wpX_least
  dsimp only
  refine xw_isTerm hn (fun t ht et => ?_) (fun z => br_t rfl (H0 z))
  have e1 : (1 : Int32) <<< (nI h &&& 31) - 1 = nI (2 ^ h - 1) := by
    rw [bi_shl1 (show h < 31 by omega)]
    exact pk_sub (b := 1) (Nat.two_pow_pos h)
  refine br_f (by decide) (nm_r e1 ?_)
  refine xw_atomsAt I (by omega) ?_
  refine xw_close I (by omega) (fun ld' L g1 g2 => ?_)
  dsimp only
  rw [et, nI_clamp (show t < 2 ^ 31 by omega), g1 t ht]
  exact ⟨pk_in t 16 (by omega), H1 ld' t L ht et g2⟩
theorem xw_why {post : Int32 → SX → Prop} {v1 v2 : Int32} {ld : Nat → Int32} (I : st_I n a c h K P Q Lf Rt St kk fp sp ll rr li ss)
    (H1 : ∀ ld' t u b, t < n → u < n → v1 = nI t → v2 = nI u → am_P (fun p => cc_F n K P Q a Lf Rt (as_n St 0 p h) t u) (2 ^ h) b → post b (nI n, nI a, nI c, nI h, kk, fp, sp, ll, rr, li, ss, ld'))
    (H0 : ¬ ((∃ t, t < n ∧ v1 = nI t) ∧ (∃ u, u < n ∧ v2 = nI u)) → post (-1) (nI n, nI a, nI c, nI h, kk, fp, sp, ll, rr, li, ss, ld)) : wpX_why post (nI n, nI a, nI c, nI h, kk, fp, sp, ll, rr, li, ss, ld) v1 v2 := by
  have hn := st_n I
  have hh := st_h I
  have p8 := bi_p8 (st_a I)
  have p8' := bi_p8 hh
  unfold wpX_why
  dsimp only
  refine xw_isTerm hn (fun t ht et => ?_) (fun z => br_t rfl (H0 (fun y => z y.1)))
  refine br_f (by decide) ?_
  refine xw_isTerm hn (fun u hu eu => ?_) (fun z => br_t rfl (H0 (fun y => z y.2)))
  refine br_f (by decide) (nm_r (bi_shl1 (show h < 31 by omega)) ?_)
  have H1 := fun ld' b => H1 ld' t u b ht hu et eu
  rw [et, eu]
  refine loop_0 (σ := Int32 × Int32 × (Nat → Int32)) (fun m i z => wX_why_36 post (nI t) (nI u) (nI (2 ^ h)) m z.1 z.2.1 (nI i) (nI n) (nI a) (nI c) (nI h) kk fp sp ll rr li ss z.2.2) (fun i z => ∃ f, z.2.1 = nI f ∧ am_X (fun p => cc_F n K P Q a Lf Rt (as_n St 0 p h) t u) i z.1 f) (2 ^ h) (-2, 9, ld) ⟨9, rfl, am_X0 _⟩ ?_ ?_
  · intro m z G
    obtain ⟨x, y, ld'⟩ := z
    obtain ⟨f, _, G⟩ := G
    exact pk_le (2 ^ h) (2 ^ h) (fun _ => H1 ld' x (am_Xp G)) (fun z => absurd z (by omega))
  · intro m i z hi G ih
    obtain ⟨x, y, ld'⟩ := z
    obtain ⟨f, e, G⟩ := G
    have e : y = nI f := e
    have G : am_X (fun p => cc_F n K P Q a Lf Rt (as_n St 0 p h) t u) i x f := G
    have f9 := am_X9 G
    have s8 := sz_bd i 8
    have l0 := as_lt (o := 0) (p := i) h (st_S2 I)
    refine pk_le (2 ^ h) i (fun z => absurd z (by omega)) (fun _ => ?_)
    refine xw_size (by omega) ?_
    refine pk_le f (sz_n i 8) (fun l => nm_r (nI_1 i) (ih (x, y, ld') ⟨f, e, am_Xs G l⟩)) (fun l => ?_) e
    refine xw_atomsAt I (by omega) ?_
    refine xw_close I (by omega) (fun ld2 L g1 g2 => ?_)
    dsimp only
    rw [nI_clamp (show t < 2 ^ 31 by omega), nI_clamp (show u < 2 ^ 31 by omega), g1 t ht, g1 u hu]
    refine ⟨pk_in t 16 (by omega), pk_in u 16 (by omega), ?_⟩
    exact ek_if (ex_iff g2 ht hu hn) (fun r => nm_r (nI_1 i) (ih (nI i, nI (sz_n i 8), ld2) ⟨_, rfl, am_Xy G l r⟩)) (fun r => nm_r (nI_1 i) (ih (x, y, ld2) ⟨f, e, am_Xn G r⟩))
theorem xw_blame {post : Int32 → SX → Prop} {ld : Nat → Int32} (I : st_I n a c h K P Q Lf Rt St kk fp sp ll rr li ss)
    (H : ∀ ld' b, am_P (fun p => ¬ mo_B n K P Q a Lf Rt h St p) (2 ^ h) b → post b (nI n, nI a, nI c, nI h, kk, fp, sp, ll, rr, li, ss, ld')) : wpX_blame post (nI n, nI a, nI c, nI h, kk, fp, sp, ll, rr, li, ss, ld) := by
  have hh := st_h I
  have p8' := bi_p8 hh
  unfold wpX_blame
  dsimp only
  refine nm_r (bi_shl1 (show h < 31 by omega)) ?_
  refine loop_0 (σ := Int32 × Int32 × (Nat → Int32)) (fun m i z => wX_blame_16 post (nI (2 ^ h)) m z.1 z.2.1 (nI i) (nI n) (nI a) (nI c) (nI h) kk fp sp ll rr li ss z.2.2) (fun i z => ∃ f, z.2.1 = nI f ∧ am_X (fun p => ¬ mo_B n K P Q a Lf Rt h St p) i z.1 f) (2 ^ h) (-2, 9, ld) ⟨9, rfl, am_X0 _⟩ ?_ ?_
  · intro m z G
    obtain ⟨x, y, ld'⟩ := z
    obtain ⟨f, _, G⟩ := G
    exact pk_le (2 ^ h) (2 ^ h) (fun _ => H ld' x (am_Xp G)) (fun z => absurd z (by omega))
  · intro m i z hi G ih
    obtain ⟨x, y, ld'⟩ := z
    obtain ⟨f, e, G⟩ := G
    have e : y = nI f := e
    have G : am_X (fun p => ¬ mo_B n K P Q a Lf Rt h St p) i x f := G
    have f9 := am_X9 G
    have s8 := sz_bd i 8
    refine pk_le (2 ^ h) i (fun z => absurd z (by omega)) (fun _ => ?_)
    refine xw_size (by omega) ?_
    refine pk_le f (sz_n i 8) (fun l => nm_r (nI_1 i) (ih (x, y, ld') ⟨f, e, am_Xs G l⟩)) (fun l => ?_) e
    refine xw_clash I (by omega) (fun ld2 r => ?_) (fun ld2 r => ?_)
    · exact br_f (by decide) (nm_r (nI_1 i) (ih (nI i, nI (sz_n i 8), ld2) ⟨_, rfl, am_Xy G l r⟩))
    · exact br_t rfl (nm_r (nI_1 i) (ih (x, y, ld2) ⟨f, e, am_Xn G (fun z => z r)⟩))
end
end
section
section
variable {n a c h : Nat} {K P Q Lf Rt St : Nat → Nat} {kk fp sp ll rr li ss : Nat → Int32}
variable {fm kn cs : Int32} {ob po mo cl : Nat → Int32}
theorem jo_x {n : Nat} {L : Nat → Nat} {x d v : Nat} (hv : v < n) (h : L v = x ∨ L v = d) : cc_jo n L x d v = x := by
  by_cases e : L v = d
  · exact cc_jo_t hv e
  · rw [cc_jo_f e]
    rcases h with h | h
    · exact h
    · exact absurd h e
theorem yw_unite32 {post : SY → Prop} {p q x d : Nat} {L : Nat → Nat} (hn : n ≤ 16) (hL : cc_A n ob L) (hB : ∀ t, t < n → L t < 16) (hp : p < 16) (hq : q < 16)
    (hpq : (p = x ∧ q = d) ∨ (p = d ∧ q = x)) (H : ∀ ob', cc_A n ob' (cc_jo n L x d) → post (nI n, nI a, nI c, nI h, fm, kn, cs, kk, fp, sp, ll, rr, li, ss, ob', po, mo, cl)) :
    ∃ m, wY_unite_32 post (nI p) (nI q) (nI x) (nI n) (nI a) (nI c) (nI h) fm kn cs m 0 kk fp sp ll rr li ss ob po mo cl := by
  refine loop_0 (σ := Nat → Int32) (fun m i s => wY_unite_32 post (nI p) (nI q) (nI x) (nI n) (nI a) (nI c) (nI h) fm kn cs m (nI i) kk fp sp ll rr li ss s po mo cl) (fun i s => cc_A n s (jl_m n L x d i)) n ob (jl_0 hL) ?_ ?_
  · intro m s G
    exact pk_le n n (fun _ => H s (jl_n G)) (fun z => absurd z (by omega))
  · intro m i s hi G ih
    refine pk_le n i (fun z => absurd z (by omega)) (fun _ => And.intro (pk_in i 16 (by omega)) ?_)
    have b := hB i hi
    rw [nI_clamp (show i < 2 ^ 31 by omega), jl_at G hi]
    refine pk_eq (L i) p (fun e => And.intro (pk_in i 16 (by omega)) (nm_e (nm_r (nI_1 i) (ih _ (jl_set G (jo_x hi (by omega))))))) (fun e => And.intro (pk_in i 16 (by omega)) ?_)
    refine pk_eq (L i) q (fun e' => And.intro (pk_in i 16 (by omega)) (nm_e (nm_r (nI_1 i) (ih _ (jl_set G (jo_x hi (by omega))))))) (fun e' => nm_r (nI_1 i) (ih s (jl_keep G (cc_jo_f (by omega)))))
theorem yw_unite {post : SY → Prop} {t u : Nat} {L : Nat → Nat} (hn : n ≤ 16) (hL : cc_A n ob L) (hB : ∀ t, t < n → L t < 16) (ht : t < n) (hu : u < n)
    (H : ∀ ob', cc_A n ob' (cc_jn n L t u) → post (nI n, nI a, nI c, nI h, fm, kn, cs, kk, fp, sp, ll, rr, li, ss, ob', po, mo, cl)) : wpY_unite post (nI n, nI a, nI c, nI h, fm, kn, cs, kk, fp, sp, ll, rr, li, ss, ob, po, mo, cl) (nI t) (nI u) := by
  unfold wpY_unite
  dsimp only
  have bt := hB t ht
  have bu := hB u hu
  rw [nI_clamp (show t < 2 ^ 31 by omega), nI_clamp (show u < 2 ^ 31 by omega), hL t ht, hL u hu]
  refine ⟨pk_in t 16 (by omega), nm_e ⟨pk_in u 16 (by omega), nm_e ?_⟩⟩
  refine pk_le (L u) (L t) (fun z => ?_) (fun z => ?_)
  · have x : ¬ L t < L u := by omega
    rw [cc_jn_ge x] at H
    exact yw_unite32 hn hL hB bt bu (Or.inr ⟨rfl, rfl⟩) H
  · rw [cc_jn_lt z] at H
    exact yw_unite32 hn hL hB bt bu (Or.inl ⟨rfl, rfl⟩) H
theorem yw_alike {post : Int32 → Prop} {t u : Nat} {L : Nat → Nat} (I : st_I n a c h K P Q Lf Rt St kk fp sp ll rr li ss) (hL : cc_A n ob L) (hB : ∀ t, t < n → L t < 16) (ht : t < n) (hu : u < n)
    (h1 : cc_al K P Q L t u → post 1) (h0 : ¬ cc_al K P Q L t u → post 0) : wpY_alike post (nI n, nI a, nI c, nI h, fm, kn, cs, kk, fp, sp, ll, rr, li, ss, ob, po, mo, cl) (nI t) (nI u) := by
  have hn := st_n I
  have W := st_W I
  have it : vp_in (nI t) 16 := pk_in t 16 (by omega)
  have iu : vp_in (nI u) 16 := pk_in u 16 (by omega)
  have k4 := st_K4 I t ht
  have k4' := st_K4 I u hu
  unfold wpY_alike
  dsimp only
  rw [nI_clamp (show t < 2 ^ 31 by omega), nI_clamp (show u < 2 ^ 31 by omega), st_K I t ht, st_K I u hu]
  refine ⟨it, iu, pk_eq (K t) (K u) (fun e => ⟨it, pk_eq (K t) 0 (fun e0 => h0 (fun z => z.2.1 e0)) (fun e0 => ⟨it, ?_⟩)⟩) (fun e => h0 (fun z => e z.1))⟩
  have e0' : K u ≠ 0 := fun z => e0 (e.trans z)
  have p1 := W.1 t ht e0
  have p2 := W.1 u hu e0'
  have b1 := hB _ p1
  have b2 := hB _ p2
  rw [st_P I t ht e0, st_P I u hu e0', nI_clamp (show P t < 2 ^ 31 by omega), nI_clamp (show P u < 2 ^ 31 by omega), hL _ p1, hL _ p2]
  refine ⟨pk_in (P t) 16 (by omega), iu, pk_in (P u) 16 (by omega), ?_⟩
  refine pk_eq (L (P t)) (L (P u)) (fun e1 => ⟨it, ?_⟩) (fun e1 => h0 (fun z => e1 z.2.2.1))
  refine pk_eq (K t) 2 (fun e2 => ⟨it, ?_⟩) (fun e2 => h1 ⟨e, e0, e1, fun z => absurd z e2⟩)
  have q1 := W.2.1 t ht e2
  have q2 := W.2.1 u hu (e.symm.trans e2)
  have c1 := hB _ q1
  have c2 := hB _ q2
  rw [st_Q I t ht e2, st_Q I u hu (e.symm.trans e2), nI_clamp (show Q t < 2 ^ 31 by omega), nI_clamp (show Q u < 2 ^ 31 by omega), hL _ q1, hL _ q2]
  refine ⟨pk_in (Q t) 16 (by omega), iu, pk_in (Q u) 16 (by omega), ?_⟩
  exact pk_eq (L (Q t)) (L (Q u)) (fun e3 => h1 ⟨e, e0, e1, fun _ => e3⟩) (fun e3 => h0 (fun z => e3 (z.2.2.2 e2)))
theorem dm_q {n t u i : Nat} (hu : u < n) (e : u + t * n = i) : t = i / n ∧ u = i % n := by
  have h0 : 0 < n := by omega
  rw [← e, Nat.add_mul_div_right u t h0, Nat.div_eq_of_lt hu, Nat.add_mul_mod_self_right, Nat.mod_eq_of_lt hu]
  exact ⟨by omega, rfl⟩
theorem dm_all {n t u : Nat} (ht : t < n) (hu : u < n) : u + t * n < n * n := by
  have h := Nat.mul_le_mul_right n (show t + 1 ≤ n from ht)
  rw [Nat.succ_mul] at h
  omega
theorem dm_sq {n : Nat} (h : n ≤ 16) : n * n ≤ 256 := Nat.mul_le_mul h h
theorem yw_close {post : SY → Prop} {s : Nat} (I : st_I n a c h K P Q Lf Rt St kk fp sp ll rr li ss) (hs : s < 256)
    (H : ∀ ob' L, cc_A n ob' L → cc_Ex n K P Q (cc_E a Lf Rt s) L → post (nI n, nI a, nI c, nI h, fm, kn, cs, kk, fp, sp, ll, rr, li, ss, ob', po, mo, cl)) : wpY_close post (nI n, nI a, nI c, nI h, fm, kn, cs, kk, fp, sp, ll, rr, li, ss, ob, po, mo, cl) (nI s) := by
  have hn := st_n I
  have ha := st_a I
  have W := st_W I
  have sq := dm_sq hn
  refine loop_0 (σ := Nat → Int32) (fun m i z => wY_close_2 post (nI s) (nI n) (nI a) (nI c) (nI h) fm kn cs m (nI i) kk fp sp ll rr li ss z po mo cl) (fun i z => cc_A i z (fun t => t)) n ob (fun t ht => absurd ht (Nat.not_lt_zero t)) ?_ ?_
  · intro m ob1 G
    refine pk_le n n (fun _ => ?_) (fun z => absurd z (by omega))
    refine loop_0 (σ := Nat → Int32) (fun m i z => wY_close_25 post (nI s) m (nI i) (nI n) (nI a) (nI c) (nI h) fm kn cs kk fp sp ll rr li ss z po mo cl) (fun i z => ∃ L, cc_A n z L ∧ cc_AI n K P Q a Lf Rt s i L) a ob1 ⟨_, G, cc_AI_0 n K P Q a Lf Rt s⟩ ?_ ?_
    · intro m ob2 G
      obtain ⟨L, g1, g2⟩ := G
      refine pk_le a a (fun _ => ?_) (fun z => absurd z (by omega))
      refine loop_m (σ := Int32 × (Nat → Int32) × (Nat → Nat)) (fun m z => wY_close_66 post m z.1 (nI n) (nI a) (nI c) (nI h) fm kn cs kk fp sp ll rr li ss z.2.1 po mo cl)
        (fun z => cc_A n z.2.1 z.2.2 ∧ ((z.1 = 1 ∧ cc_AI n K P Q a Lf Rt s a z.2.2) ∨ (z.1 = 0 ∧ cc_Ex n K P Q (cc_E a Lf Rt s) z.2.2)))
        (fun z => if z.1 = 0 then 0 else cc_nl n z.2.2 + 1) ?_ (1, ob2, L) ⟨g1, Or.inl ⟨rfl, g2⟩⟩
      intro m z G ih
      obtain ⟨x, ob3, L0⟩ := z
      obtain ⟨g1, g2⟩ := G
      rcases g2 with ⟨e, g2⟩ | ⟨e, g2⟩
      · have e : x = 1 := e
        have nx : ¬ x = 0 := by rw [e]; decide
        refine br_f nx ?_
        refine loop_0 (σ := Int32 × (Nat → Int32)) (fun m' j z => wY_close_74 post (wY_close_66 post m) m' z.1 (nI j) (nI n) (nI a) (nI c) (nI h) fm kn cs kk fp sp ll rr li ss z.2 po mo cl)
          (fun j z => ∃ L, cc_A n z.2 L ∧ rd_R n K P Q a Lf Rt s (fun t u => u < n ∧ u + t * n < j) L0 L z.1) (n * n) (0, ob3) ⟨L0, g1, rd_0 g2 (fun t u z => absurd z.2 (Nat.not_lt_zero _))⟩ ?_ ?_
        · intro m' z G
          obtain ⟨y, ob4⟩ := z
          obtain ⟨L, g3, g4⟩ := G
          have hD : ∀ t u, t < n → u < n → (u < n ∧ u + t * n < n * n) ∨ (t < n ∧ t + u * n < n * n) ∨ t = u := fun t u ht hu => Or.inl ⟨hu, dm_all ht hu⟩
          refine pk_le (n * n) (n * n) (fun _ => ?_) (fun z => absurd z (by omega)) (pk_mul n n)
          refine ih (y, ob4, L) ⟨g3, ?_⟩ ?_
          · rcases g4.2 with z | z
            · exact Or.inr ⟨z.1, rd_end W g4 z.1 hD⟩
            · exact Or.inl ⟨z.1, g4.1⟩
          · show (if y = 0 then 0 else cc_nl n L + 1) < (if x = 0 then 0 else cc_nl n L0 + 1)
            rw [if_neg nx]
            rcases g4.2 with z | z
            · rw [if_pos (show y = 0 from z.1)]; omega
            · have ny : ¬ y = 0 := by rw [show y = 1 from z.1]; decide
              rw [if_neg ny]
              have := z.2
              omega
        · intro m' j z hj G ih'
          obtain ⟨y, ob4⟩ := z
          obtain ⟨L, g3, g4⟩ := G
          have g3 : cc_A n ob4 L := g3
          have hB := ai_B hn g4.1
          have h0 : 0 < n := by
            rcases Nat.eq_zero_or_pos n with z | z
            · rw [z] at hj; omega
            · exact z
          have ht : j / n < n := Nat.div_lt_of_lt_mul hj
          have hu : j % n < n := Nat.mod_lt _ h0
          have b1 := hB _ ht
          have b2 := hB _ hu
          have hD : ∀ t u, (u < n ∧ u + t * n < j + 1) → (u < n ∧ u + t * n < j) ∨ (t = j / n ∧ u = j % n) := by
            intro t u z
            by_cases e : u + t * n = j
            · exact Or.inr (dm_q z.1 e)
            · exact Or.inl ⟨z.1, by omega⟩
          have nz : ¬ nI n = 0 := nI_ne0 h0 (by omega)
          refine pk_le (n * n) j (fun z => absurd z (by omega)) (fun _ => And.intro nz ?_) (pk_mul n n)
          refine nm_r (pk_div (show j < 2 ^ 31 by omega) h0 (show n < 2 ^ 31 by omega)) (And.intro nz (nm_r (pk_rem (show j < 2 ^ 31 by omega) h0 (show n < 2 ^ 31 by omega)) ?_))
          refine And.intro (pk_in (j / n) 16 (by omega)) (And.intro (pk_in (j % n) 16 (by omega)) ?_)
          dsimp only
          rw [nI_clamp (show j / n < 2 ^ 31 by omega), nI_clamp (show j % n < 2 ^ 31 by omega), g3 _ ht, g3 _ hu]
          refine pk_eq (L (j / n)) (L (j % n)) (fun e => nm_r (nI_1 j) (ih' (y, ob4) ⟨L, g3, rd_skip g4 (j / n) (j % n) hD (fun _ => e)⟩)) (fun e => ?_)
          refine yw_alike I g3 hB ht hu (fun al => ?_) (fun al => ?_)
          · refine br_f (by decide) ?_
            refine yw_unite hn g3 hB ht hu (fun ob5 g5 => ?_)
            exact nm_r (nI_1 j) (ih' (1, ob5) ⟨_, g5, rd_join _ W g4 ht hu e al⟩)
          · exact br_t rfl (nm_r (nI_1 j) (ih' (y, ob4) ⟨L, g3, rd_skip g4 (j / n) (j % n) hD (fun z => absurd z al)⟩))
      · exact br_t e (H ob3 L0 g1 g2)
    · intro m i ob2 hi G ih
      obtain ⟨L, g1, g2⟩ := G
      have w := W.2.2 i hi
      refine pk_le a i (fun z => absurd z (by omega)) (fun _ => ?_)
      rw [bi_bit (show s < 2 ^ 31 by omega) (show i < 32 by omega)]
      by_cases x : s.testBit i = true
      · refine br_t (by rw [bi_b1 x]; rfl) (And.intro (pk_in i 8 (by omega)) (And.intro (pk_in i 8 (by omega)) ?_))
        rw [nI_clamp (show i < 2 ^ 31 by omega), st_L I i hi, st_R I i hi]
        refine yw_unite hn g1 (ai_B hn g2) w.1 w.2 (fun ob3 g3 => ?_)
        exact nm_r (nI_1 i) (ih ob3 ⟨_, g3, cc_AI_join W g2 hi x⟩)
      · refine br_f (by rw [bi_b0 (bi_ft x)]; decide) (nm_r (nI_1 i) (ih ob2 ⟨L, g1, cc_AI_skip g2 x⟩))
  · intro m i ob1 hi G ih
    refine pk_le n i (fun z => absurd z (by omega)) (fun _ => And.intro (pk_in i 16 (by omega)) ?_)
    rw [nI_clamp (show i < 2 ^ 31 by omega)]
    refine nm_e (nm_r (nI_1 i) (ih _ (fun t ht => ?_)))
    by_cases e : t = i
    · rw [e]; exact pk_us
    · rw [pk_un e]; exact G t (by omega)
end
end
section
section
variable {n a c h : Nat} {K P Q Lf Rt St : Nat → Nat} {kk fp sp ll rr li ss : Nat → Int32}
variable {fm kn cs : Int32} {ob po mo cl : Nat → Int32}
theorem yw_fits {post : Int32 → Prop} {w : Nat} {L : Nat → Nat} (I : st_I n a c h K P Q Lf Rt St kk fp sp ll rr li ss) (hw : w < 256) (hL : cc_A n ob L) (X : cc_Ex n K P Q (cc_E a Lf Rt w) L)
    (h1 : mo_P n K P Q a Lf Rt w → post 1) (h0 : ¬ mo_P n K P Q a Lf Rt w → post 0) : wpY_fits post (nI n, nI a, nI c, nI h, fm, kn, cs, kk, fp, sp, ll, rr, li, ss, ob, po, mo, cl) (nI w) := by
  have hn := st_n I
  have ha := st_a I
  have W := st_W I
  have hB := ex_B hn X
  refine loop_0 (σ := Unit) (fun m i _ => wY_fits_2 post (nI w) (nI n) (nI a) (nI c) (nI h) fm kn cs kk fp sp ll rr li ss ob po mo cl m (nI i)) (fun i _ => ∀ k, k < i → ¬ w.testBit k = true → ¬ cc_F n K P Q a Lf Rt w (Lf k) (Rt k)) a () (fun k hk => absurd hk (Nat.not_lt_zero k)) ?_ ?_
  · intro m _ G
    exact pk_le a a (fun _ => h1 G) (fun z => absurd z (by omega))
  · intro m i _ hi G ih
    have v := W.2.2 i hi
    have b1 := hB _ v.1
    have b2 := hB _ v.2
    refine pk_le a i (fun z => absurd z (by omega)) (fun _ => ?_)
    rw [bi_bit (show w < 2 ^ 31 by omega) (show i < 32 by omega)]
    by_cases x : w.testBit i = true
    · refine br_f (by rw [bi_b1 x]; decide) (nm_r (nI_1 i) (ih () (fun k hk hb => ?_)))
      by_cases e : k = i
      · rw [e] at hb; exact absurd x hb
      · exact G k (by omega) hb
    · refine br_t (by rw [bi_b0 (bi_ft x)]; rfl) (And.intro (pk_in i 8 (by omega)) ?_)
      rw [nI_clamp (show i < 2 ^ 31 by omega), st_L I i hi, st_R I i hi, nI_clamp (show Lf i < 2 ^ 31 by omega), nI_clamp (show Rt i < 2 ^ 31 by omega), hL _ v.1, hL _ v.2]
      refine ⟨pk_in (Lf i) 16 (by omega), pk_in i 8 (by omega), pk_in (Rt i) 16 (by omega), ?_⟩
      refine ek_if (ex_iff X v.1 v.2 hn) (fun f => h0 (fun z => z i hi x f)) (fun f => nm_r (nI_1 i) (ih () (fun k hk hb => ?_)))
      by_cases e : k = i
      · rw [e]; exact f
      · exact G k (by omega) hb
theorem yw_sat50 {post : Int32 → Prop} {J : Int32 → Prop} {w j : Nat} (I : st_I n a c h K P Q Lf Rt St kk fp sp ll rr li ss) (hw : w < 256) (hj : j < c) (h1 : mo_D li w j → J (nI (j + 1))) (h0 : ¬ mo_D li w j → post 0) :
    ∃ m, wY_satisfies_50 post J (nI w) (nI j) (nI n) (nI a) (nI c) (nI h) fm kn cs kk fp sp ll rr li ss ob po mo cl m 0 (nI (3 * j)) := by
  have hc := st_c I
  have ha := st_a I
  have e3 : (3 * nI j) + 3 = nI (3 * j + 3) := by
    rw [show (3 : Int32) * nI j = nI (3 * j) from pk_mul 3 j]
    exact nI_add (3 * j) 3
  refine loop_0 (σ := Int32) (fun m i z => wY_satisfies_50 post J (nI w) (nI j) (nI n) (nI a) (nI c) (nI h) fm kn cs kk fp sp ll rr li ss ob po mo cl m z (nI (3 * j + i)))
    (fun i z => (z = 1 ∧ ∃ k, k < i ∧ mo_L w (li (3 * j + k))) ∨ (z = 0 ∧ ∀ k, k < i → ¬ mo_L w (li (3 * j + k)))) 3 0 (Or.inr ⟨rfl, fun k hk => absurd hk (Nat.not_lt_zero k)⟩) ?_ ?_
  · intro m z G
    refine pk_le (3 * j + 3) (3 * j + 3) (fun _ => ?_) (fun z => absurd z (by omega)) e3
    rcases G with ⟨e, k, hk, g⟩ | ⟨e, g⟩
    · refine br_f (by rw [e]; decide) (nm_r (nI_1 j) (h1 ⟨k, hk, g⟩))
    · refine br_t e (h0 (fun z => ?_))
      obtain ⟨k, hk, z⟩ := z
      exact g k hk z
  · intro m i z hi G ih
    refine pk_le (3 * j + 3) (3 * j + i) (fun z => absurd z (by omega)) (fun _ => And.intro (pk_in (3 * j + i) 36 (by omega)) ?_) e3
    rw [nI_clamp (show 3 * j + i < 2 ^ 31 by omega)]
    have keep : ¬ mo_L w (li (3 * j + i)) → ((z ||| 0 = 1 ∧ ∃ k, k < i + 1 ∧ mo_L w (li (3 * j + k))) ∨ (z ||| 0 = 0 ∧ ∀ k, k < i + 1 → ¬ mo_L w (li (3 * j + k)))) := by
      intro q
      rcases G with ⟨e, k, hk, g⟩ | ⟨e, g⟩
      · exact Or.inl ⟨by rw [e]; decide, k, by omega, g⟩
      · refine Or.inr ⟨by rw [e]; decide, fun k hk => ?_⟩
        by_cases ek : k = i
        · rw [ek]; exact q
        · exact g k (by omega)
    have e1 : nI (3 * j + i) + 1 = nI (3 * j + (i + 1)) := nI_1 (3 * j + i)
    rcases st_C I (3 * j + i) (by omega) with e | ⟨l, hl, e⟩
    · refine br_t (by rw [e]; decide) (nm_e (nm_r e1 (ih _ (keep (fun q => ?_)))))
      obtain ⟨l, hl, e', _⟩ := q
      exact bi_m1 l (by omega) (e'.symm.trans e)
    · refine br_f (by rw [e]; exact bi_nn (by omega)) (And.intro (pk_in (3 * j + i) 36 (by omega)) ?_)
      rw [e]
      refine yw_holdsIn (by omega) hw (fun q => ?_) (fun q => ?_)
      · refine br_f (by decide) (nm_e (nm_r e1 (ih _ (Or.inl ⟨?_, i, by omega, l, by omega, e, q⟩))))
        rcases G with ⟨e, _⟩ | ⟨e, _⟩
        · rw [e]; decide
        · rw [e]; decide
      · refine br_t rfl (nm_e (nm_r e1 (ih _ (keep (fun y => ?_)))))
        obtain ⟨l', hl', e', y⟩ := y
        have x := e.symm.trans e'
        rw [nI_eq (by omega) (by omega)] at x
        rw [x] at q
        exact q y
theorem yw_sat35 {post : Int32 → Prop} {w : Nat} (I : st_I n a c h K P Q Lf Rt St kk fp sp ll rr li ss) (hw : w < 256) (h1 : mo_C c li w → post 1) (h0 : ¬ mo_C c li w → post 0) :
    ∃ m, wY_satisfies_35 post (nI w) (nI n) (nI a) (nI c) (nI h) fm kn cs kk fp sp ll rr li ss ob po mo cl m 0 := by
  have hc := st_c I
  refine loop_0 (σ := Unit) (fun m i _ => wY_satisfies_35 post (nI w) (nI n) (nI a) (nI c) (nI h) fm kn cs kk fp sp ll rr li ss ob po mo cl m (nI i)) (fun i _ => ∀ k, k < i → mo_D li w k) c () (fun k hk => absurd hk (Nat.not_lt_zero k)) ?_ ?_
  · intro m _ G
    exact pk_le c c (fun _ => h1 G) (fun z => absurd z (by omega))
  · intro m i _ hi G ih
    refine pk_le c i (fun z => absurd z (by omega)) (fun _ => nm_r (pk_mul 3 i) ?_)
    refine yw_sat50 I hw hi (fun z => ih () (fun k hk => ?_)) (fun z => h0 (fun q => z (q i hi)))
    by_cases e : k = i
    · rw [e]; exact z
    · exact G k (by omega)
theorem yw_sat {post : Int32 → Prop} {w : Nat} (I : st_I n a c h K P Q Lf Rt St kk fp sp ll rr li ss) (hw : w < 256) (h1 : mo_S h St w → mo_C c li w → post 1) (h0 : ¬ (mo_S h St w ∧ mo_C c li w) → post 0) :
    wpY_satisfies post (nI n, nI a, nI c, nI h, fm, kn, cs, kk, fp, sp, ll, rr, li, ss, ob, po, mo, cl) (nI w) := by
  have hh := st_h I
  have ha := st_a I
  refine loop_0 (σ := Unit) (fun m i _ => wY_satisfies_2 post (nI w) (nI n) (nI a) (nI c) (nI h) fm kn cs kk fp sp ll rr li ss ob po mo cl m (nI i)) (fun i _ => ∀ k, k < i → mo_h w (St k)) h () (fun k hk => absurd hk (Nat.not_lt_zero k)) ?_ ?_
  · intro m _ G
    exact pk_le h h (fun _ => yw_sat35 I hw (h1 G) (fun z => h0 (fun q => z q.2))) (fun z => absurd z (by omega))
  · intro m i _ hi G ih
    refine pk_le h i (fun z => absurd z (by omega)) (fun _ => And.intro (pk_in i 8 (by omega)) ?_)
    have hs := st_S2 I i hi
    rw [nI_clamp (show i < 2 ^ 31 by omega), st_S I i hi]
    refine yw_holdsIn (by omega) hw (fun z => ?_) (fun z => ?_)
    · refine br_f (by decide) (nm_r (nI_1 i) (ih () (fun k hk => ?_)))
      by_cases e : k = i
      · rw [e]; exact z
      · exact G k (by omega)
    · exact br_t rfl (h0 (fun q => z (q.1 i hi)))
theorem yw_all43 {post : SY → Prop} {J : Int32 → Int32 → Int32 → Int32 → Int32 → Int32 → Int32 → Int32 → (Nat → Int32) → (Nat → Int32) → (Nat → Int32) → (Nat → Int32) → (Nat → Int32) → (Nat → Int32) → (Nat → Int32) → (Nat → Int32) → (Nat → Int32) → (Nat → Int32) → (Nat → Int32) → Prop}
    {w : Nat} {L : Nat → Nat} (hn : n ≤ 16) (hw : w < 256) (hL : cc_A n ob L)
    (H : ∀ cl', (∀ x, x < 16 * w → cl' x = cl x) → (∀ t, t < n → cl' (16 * w + t) = nI (L t)) → J (nI (w + 1)) (nI n) (nI a) (nI c) (nI h) fm kn cs kk fp sp ll rr li ss ob po mo cl') :
    ∃ m, wY_closeAll_43 post J (nI w) (nI n) (nI a) (nI c) (nI h) fm kn cs m 0 kk fp sp ll rr li ss ob po mo cl := by
  refine loop_0 (σ := Nat → Int32) (fun m i s => wY_closeAll_43 post J (nI w) (nI n) (nI a) (nI c) (nI h) fm kn cs m (nI i) kk fp sp ll rr li ss ob po mo s) (fun i s => (∀ x, x < 16 * w → s x = cl x) ∧ (∀ t, t < i → s (16 * w + t) = nI (L t))) n cl ⟨fun _ _ => rfl, fun t ht => absurd ht (Nat.not_lt_zero t)⟩ ?_ ?_
  · intro m s G
    exact pk_le n n (fun _ => nm_r (nI_1 w) (H s G.1 G.2)) (fun z => absurd z (by omega))
  · intro m i s hi G ih
    refine pk_le n i (fun z => absurd z (by omega)) (fun _ => And.intro (pk_in i 16 (by omega)) ?_)
    have e : (16 * nI w) + nI i = nI (16 * w + i) := by
      rw [show (16 : Int32) * nI w = nI (16 * w) from pk_mul 16 w]
      exact nI_add (16 * w) i
    rw [e, nI_clamp (show 16 * w + i < 2 ^ 31 by omega), nI_clamp (show i < 2 ^ 31 by omega), hL i hi]
    refine And.intro (pk_in (16 * w + i) 4096 (by omega)) (nm_e (nm_r (nI_1 i) (ih _ ⟨fun x hx => ?_, fun t ht => ?_⟩)))
    · rw [pk_un (by omega)]; exact G.1 x hx
    · by_cases et : t = i
      · rw [et]; exact pk_us
      · rw [pk_un (by omega)]; exact G.2 t (by omega)
theorem yw_closeAll {post : SY → Prop} (I : st_I n a c h K P Q Lf Rt St kk fp sp ll rr li ss) (HC : cs = 0 ∨ (cs = 1 ∧ cl_C n K P Q a Lf Rt po cl))
    (H : ∀ ob' po' cl', cl_C n K P Q a Lf Rt po' cl' → post (nI n, nI a, nI c, nI h, fm, kn, 1, kk, fp, sp, ll, rr, li, ss, ob', po', mo, cl')) : wpY_closeAll post (nI n, nI a, nI c, nI h, fm, kn, cs, kk, fp, sp, ll, rr, li, ss, ob, po, mo, cl) := by
  have hn := st_n I
  have ha := st_a I
  have p8 := bi_p8 ha
  rcases HC with e | ⟨e, hc⟩
  · refine br_t e ?_
    refine loop_0 (σ := (Nat → Int32) × (Nat → Int32) × (Nat → Int32)) (fun m i z => wY_closeAll_15 post m (nI i) (nI n) (nI a) (nI c) (nI h) fm kn 1 kk fp sp ll rr li ss z.1 z.2.1 mo z.2.2) (fun i z => ∀ w, w < i → cl_W n K P Q a Lf Rt z.2.1 z.2.2 w) (2 ^ a) (ob, po, cl) (fun w hw => absurd hw (Nat.not_lt_zero w)) ?_ ?_
    · intro m z G
      obtain ⟨ob1, po1, cl1⟩ := z
      exact pk_le (2 ^ a) (2 ^ a) (fun _ => H ob1 po1 cl1 G) (fun z => absurd z (by omega)) (bi_shl1 (show a < 31 by omega))
    · intro m i z hi G ih
      obtain ⟨ob1, po1, cl1⟩ := z
      refine pk_le (2 ^ a) i (fun z => absurd z (by omega)) (fun _ => ?_) (bi_shl1 (show a < 31 by omega))
      refine yw_close I (by omega) (fun ob2 L g1 g2 => ?_)
      have go : ∀ r, (mo_P n K P Q a Lf Rt i → r = 1) → (¬ mo_P n K P Q a Lf Rt i → r = 0) →
          ∃ m', wY_closeAll_43 post (wY_closeAll_15 post m) (nI i) (nI n) (nI a) (nI c) (nI h) fm kn 1 m' 0 kk fp sp ll rr li ss ob2 (upd po1 i r) mo cl1 := by
        intro r r1 r0
        refine yw_all43 hn (by omega) g1 (fun cl2 c1 c2 => ih (ob2, upd po1 i r, cl2) (fun w hw => ?_))
        show cl_W n K P Q a Lf Rt (upd po1 i r) cl2 w
        by_cases ew : w = i
        · rw [ew]
          exact ⟨fun z => by rw [pk_us]; exact r1 z, fun z => by rw [pk_us]; exact r0 z, L, g2, c2⟩
        · have G' := G w (by omega)
          obtain ⟨k1, k2, L', k3, k4⟩ := G'
          refine ⟨fun z => by rw [pk_un ew]; exact k1 z, fun z => by rw [pk_un ew]; exact k2 z, L', k3, fun t ht => ?_⟩
          rw [c1 _ (by omega)]
          exact k4 t ht
      have iw : vp_in (nI i) 256 := pk_in i 256 (by omega)
      refine yw_fits I (by omega) g1 g2 (fun z => ?_) (fun z => ?_)
      · refine And.intro iw ?_
        rw [nI_clamp (show i < 2 ^ 31 by omega)]
        exact nm_e (go _ (fun _ => rfl) (fun y => absurd z y))
      · refine And.intro iw ?_
        rw [nI_clamp (show i < 2 ^ 31 by omega)]
        exact nm_e (go _ (fun y => absurd y z) (fun _ => rfl))
  · have ne : ¬ cs = 0 := by rw [e]; decide
    refine br_f ne ?_
    rw [e]
    exact H ob po cl hc
theorem yw_learn {post : SY → Prop} (I : st_I n a c h K P Q Lf Rt St kk fp sp ll rr li ss) (HC : cs = 0 ∨ (cs = 1 ∧ cl_C n K P Q a Lf Rt po cl)) (HK : kn = 0 ∨ (kn = 1 ∧ kn_C (mo_M n K P Q a Lf Rt c li h St) (2 ^ a) fm mo))
    (H : ∀ fm' ob' po' mo' cl', cl_C n K P Q a Lf Rt po' cl' → kn_C (mo_M n K P Q a Lf Rt c li h St) (2 ^ a) fm' mo' → post (nI n, nI a, nI c, nI h, fm', 1, 1, kk, fp, sp, ll, rr, li, ss, ob', po', mo', cl')) : wpY_learn post (nI n, nI a, nI c, nI h, fm, kn, cs, kk, fp, sp, ll, rr, li, ss, ob, po, mo, cl) := by
  have hn := st_n I
  have ha := st_a I
  have p8 := bi_p8 ha
  unfold wpY_learn
  dsimp only
  refine yw_closeAll I HC (fun ob1 po1 cl1 hc => ?_)
  rcases HK with e | ⟨e, hk⟩
  · refine br_t e ?_
    refine loop_0 (σ := Int32 × (Nat → Int32)) (fun m i z => wY_learn_24 post (nI n) (nI a) (nI c) (nI h) 1 1 m (nI i) z.1 kk fp sp ll rr li ss ob1 po1 z.2 cl1) (fun i z => z.1 = nI (pc_n (mo_M n K P Q a Lf Rt c li h St) i) ∧ ∀ w, w < i → (mo_M n K P Q a Lf Rt c li h St) w → z.2 (pc_n (mo_M n K P Q a Lf Rt c li h St) w) = nI w) (2 ^ a) (0, mo) ⟨rfl, fun w hw => absurd hw (Nat.not_lt_zero w)⟩ ?_ ?_
    · intro m z G
      obtain ⟨x, mo1⟩ := z
      exact pk_le (2 ^ a) (2 ^ a) (fun _ => H x ob1 po1 mo1 cl1 hc G) (fun z => absurd z (by omega)) (bi_shl1 (show a < 31 by omega))
    · intro m i z hi G ih
      obtain ⟨x, mo1⟩ := z
      obtain ⟨G1, G2⟩ := G
      have G1 : x = nI (pc_n (mo_M n K P Q a Lf Rt c li h St) i) := G1
      have G2 : ∀ w, w < i → (mo_M n K P Q a Lf Rt c li h St) w → mo1 (pc_n (mo_M n K P Q a Lf Rt c li h St) w) = nI w := G2
      have pl := pc_le (mo_M n K P Q a Lf Rt c li h St) i
      have skip : ¬ (mo_M n K P Q a Lf Rt c li h St) i → (x = nI (pc_n (mo_M n K P Q a Lf Rt c li h St) (i + 1)) ∧ ∀ w, w < i + 1 → (mo_M n K P Q a Lf Rt c li h St) w → mo1 (pc_n (mo_M n K P Q a Lf Rt c li h St) w) = nI w) := by
        intro nm
        refine ⟨by rw [pc_f nm]; exact G1, fun w hw mw => ?_⟩
        by_cases ew : w = i
        · rw [ew] at mw; exact absurd mw nm
        · exact G2 w (by omega) mw
      refine pk_le (2 ^ a) i (fun z => absurd z (by omega)) (fun _ => And.intro (pk_in i 256 (by omega)) ?_) (bi_shl1 (show a < 31 by omega))
      rw [nI_clamp (show i < 2 ^ 31 by omega)]
      obtain ⟨k1, k2, _⟩ := hc i hi
      by_cases z : mo_P n K P Q a Lf Rt i
      · refine br_f (by rw [k1 z]; decide) ?_
        refine yw_sat I (by omega) (fun s1 s2 => ?_) (fun s => ?_)
        · have mm : (mo_M n K P Q a Lf Rt c li h St) i := ⟨s1, s2, z⟩
          refine br_f (by decide) (nm_e ?_)
          dsimp only
          rw [G1, nI_clamp (show pc_n (mo_M n K P Q a Lf Rt c li h St) i < 2 ^ 31 by omega)]
          refine And.intro (pk_in (pc_n (mo_M n K P Q a Lf Rt c li h St) i) 256 (by omega)) (nm_e (nm_r (nI_1 i) (ih (_, _) ⟨?_, fun w hw mw => ?_⟩)))
          · show nI (pc_n (mo_M n K P Q a Lf Rt c li h St) i) + 1 = _
            rw [nI_1, pc_t mm]
          · show upd mo1 (pc_n (mo_M n K P Q a Lf Rt c li h St) i) (nI i) (pc_n (mo_M n K P Q a Lf Rt c li h St) w) = nI w
            by_cases ew : w = i
            · rw [ew]; exact pk_us
            · rw [pk_un (fun y => ew (pc_inj (mo_M n K P Q a Lf Rt c li h St) mw mm y))]
              exact G2 w (by omega) mw
        · exact br_t rfl (nm_r (nI_1 i) (ih (x, mo1) (skip (fun y => s ⟨y.1, y.2.1⟩))))
      · exact br_t (k2 z) (nm_r (nI_1 i) (ih (x, mo1) (skip (fun y => z y.2.2))))
  · have ne : ¬ kn = 0 := by rw [e]; decide
    refine br_f ne ?_
    dsimp only
    rw [e]
    exact H fm ob1 po1 mo cl1 hc hk
end
end
section
section
variable {n a c h : Nat} {K P Q Lf Rt St : Nat → Nat} {kk fp sp ll rr li ss : Nat → Int32}
variable {fm kn cs : Int32} {ob po mo cl : Nat → Int32}
theorem yw_in {post : Int32 → Prop} {x y : Int32} {m : Nat} (hy : y = nI m) (hm : m < 2 ^ 31) (h1 : ∀ j, j < m → x = nI j → post 1) (h0 : (¬ ∃ j, j < m ∧ x = nI j) → post 0) :
    wpY_within post x y := wi_b (m := m) hy hm h1 h0
theorem yw_isLit {post : Int32 → Prop} {x : Int32} (ha : a ≤ 8) (h1 : ∀ j, j < 2 * a → x = nI j → post 1) (h0 : (¬ ∃ j, j < 2 * a ∧ x = nI j) → post 0) :
    wpY_isLiteral post (nI n, nI a, nI c, nI h, fm, kn, cs, kk, fp, sp, ll, rr, li, ss, ob, po, mo, cl) x := by
  unfold wpY_isLiteral
  dsimp only
  exact yw_in (m := 2 * a) (pk_mul 2 a) (by omega) (fun j hj e => And.intro rfl (h1 j hj e)) (fun z => And.intro rfl (h0 z))
theorem yw_models {post : Int32 → SY → Prop} (I : st_I n a c h K P Q Lf Rt St kk fp sp ll rr li ss) (HC : cs = 0 ∨ (cs = 1 ∧ cl_C n K P Q a Lf Rt po cl)) (HK : kn = 0 ∨ (kn = 1 ∧ kn_C (mo_M n K P Q a Lf Rt c li h St) (2 ^ a) fm mo))
    (H : ∀ fm' ob' po' mo' cl', cl_C n K P Q a Lf Rt po' cl' → kn_C (mo_M n K P Q a Lf Rt c li h St) (2 ^ a) fm' mo' → post (nI (pc_n (mo_M n K P Q a Lf Rt c li h St) (2 ^ a))) (nI n, nI a, nI c, nI h, fm', 1, 1, kk, fp, sp, ll, rr, li, ss, ob', po', mo', cl')) : wpY_models post (nI n, nI a, nI c, nI h, fm, kn, cs, kk, fp, sp, ll, rr, li, ss, ob, po, mo, cl) := by
  unfold wpY_models
  dsimp only
  refine yw_learn I HC HK (fun fm' ob' po' mo' cl' hc hk => ?_)
  have x := H fm' ob' po' mo' cl' hc hk
  rw [← hk.1] at x
  exact x
theorem yw_kth {post : Int32 → SY → Prop} {k : Int32} (I : st_I n a c h K P Q Lf Rt St kk fp sp ll rr li ss) (HC : cs = 0 ∨ (cs = 1 ∧ cl_C n K P Q a Lf Rt po cl)) (HK : kn = 0 ∨ (kn = 1 ∧ kn_C (mo_M n K P Q a Lf Rt c li h St) (2 ^ a) fm mo))
    (H1 : ∀ fm' ob' po' mo' cl' w, cl_C n K P Q a Lf Rt po' cl' → kn_C (mo_M n K P Q a Lf Rt c li h St) (2 ^ a) fm' mo' → w < 2 ^ a → (mo_M n K P Q a Lf Rt c li h St) w → k = nI (pc_n (mo_M n K P Q a Lf Rt c li h St) w) → post (nI w) (nI n, nI a, nI c, nI h, fm', 1, 1, kk, fp, sp, ll, rr, li, ss, ob', po', mo', cl'))
    (H0 : ∀ fm' ob' po' mo' cl', cl_C n K P Q a Lf Rt po' cl' → kn_C (mo_M n K P Q a Lf Rt c li h St) (2 ^ a) fm' mo' → (∀ w, w < 2 ^ a → (mo_M n K P Q a Lf Rt c li h St) w → ¬ k = nI (pc_n (mo_M n K P Q a Lf Rt c li h St) w)) → post (-1) (nI n, nI a, nI c, nI h, fm', 1, 1, kk, fp, sp, ll, rr, li, ss, ob', po', mo', cl')) :
    wpY_model post (nI n, nI a, nI c, nI h, fm, kn, cs, kk, fp, sp, ll, rr, li, ss, ob, po, mo, cl) k := by
  have p8 := bi_p8 (st_a I)
  have pl := pc_le (mo_M n K P Q a Lf Rt c li h St) (2 ^ a)
  unfold wpY_model
  dsimp only
  refine yw_learn I HC HK (fun fm' ob' po' mo' cl' hc hk => ?_)
  refine yw_in hk.1 (by omega) (fun j hj ej => ?_) (fun z => ?_)
  · obtain ⟨w, hw, mw, e1, e2⟩ := kn_at hk hj
    refine br_f (by decide) ?_
    dsimp only
    rw [ej, nI_clamp (show j < 2 ^ 31 by omega), e2]
    exact And.intro (pk_in j 256 (by omega)) (H1 fm' ob' po' mo' cl' w hc hk hw mw (by rw [e1]; exact ej))
  · refine br_t rfl (H0 fm' ob' po' mo' cl' hc hk (fun w hw mw e => z ⟨_, ?_, e⟩))
    have := pc_mono (mo_M n K P Q a Lf Rt c li h St) (show w + 1 ≤ 2 ^ a from hw)
    rw [pc_t mw] at this
    omega
theorem yw_holds {post : Int32 → SY → Prop} {v : Int32} (I : st_I n a c h K P Q Lf Rt St kk fp sp ll rr li ss) (HC : cs = 0 ∨ (cs = 1 ∧ cl_C n K P Q a Lf Rt po cl)) (HK : kn = 0 ∨ (kn = 1 ∧ kn_C (mo_M n K P Q a Lf Rt c li h St) (2 ^ a) fm mo))
    (H1 : ∀ fm' ob' po' mo' cl' l, cl_C n K P Q a Lf Rt po' cl' → kn_C (mo_M n K P Q a Lf Rt c li h St) (2 ^ a) fm' mo' → l < 2 * a → v = nI l → post (ve_N (pc_n (fun w => (mo_M n K P Q a Lf Rt c li h St) w ∧ mo_h w l) (2 ^ a)) (pc_n (mo_M n K P Q a Lf Rt c li h St) (2 ^ a))) (nI n, nI a, nI c, nI h, fm', 1, 1, kk, fp, sp, ll, rr, li, ss, ob', po', mo', cl'))
    (H0 : (¬ ∃ l, l < 2 * a ∧ v = nI l) → post (-1) (nI n, nI a, nI c, nI h, fm, kn, cs, kk, fp, sp, ll, rr, li, ss, ob, po, mo, cl)) : wpY_holds post (nI n, nI a, nI c, nI h, fm, kn, cs, kk, fp, sp, ll, rr, li, ss, ob, po, mo, cl) v := by
  have ha := st_a I
  have p8 := bi_p8 ha
  have pl := pc_le (mo_M n K P Q a Lf Rt c li h St) (2 ^ a)
  unfold wpY_holds
  dsimp only
  refine yw_isLit ha (fun l hl el => br_f (by decide) ?_) (fun z => br_t rfl (H0 z))
  refine yw_learn I HC HK (fun fm' ob' po' mo' cl' hc hk => ?_)
  dsimp only
  have H1 := H1 fm' ob' po' mo' cl' l hc hk hl el
  rw [el]
  refine loop_0 (σ := Int32) (fun m i z => wY_holds_18 post (nI l) (nI n) (nI a) (nI c) (nI h) fm' 1 1 kk fp sp ll rr li ss ob' po' mo' cl' m z (nI i)) (fun i z => ∃ s, z = nI s ∧ s ≤ i ∧ yk_I (mo_M n K P Q a Lf Rt c li h St) (gq_N (fun w => mo_h w l)) 0 i s) (pc_n (mo_M n K P Q a Lf Rt c li h St) (2 ^ a)) 0 ⟨0, rfl, Nat.le_refl 0, yk_0 _ _ _⟩ ?_ ?_
  · intro m z G
    obtain ⟨s, e, sl, G⟩ := G
    have es : s = pc_n (fun w => (mo_M n K P Q a Lf Rt c li h St) w ∧ mo_h w l) (2 ^ a) := (G (2 ^ a) rfl).trans (gq_pc _ _ _)
    refine pk_le (pc_n (mo_M n K P Q a Lf Rt c li h St) (2 ^ a)) (pc_n (mo_M n K P Q a Lf Rt c li h St) (2 ^ a)) (fun _ => ?_) (fun z => absurd z (by omega)) hk.1
    rw [← es] at H1
    exact ve_b (A := fun r => post r (nI n, nI a, nI c, nI h, fm', 1, 1, kk, fp, sp, ll, rr, li, ss, ob', po', mo', cl')) e hk.1 (by omega) (by omega) H1
  · intro m i z hi G ih
    obtain ⟨s, e, sl, G⟩ := G
    obtain ⟨w, hw, mw, e1, e2⟩ := kn_at hk hi
    refine pk_le _ i (fun z => absurd z (by omega)) (fun _ => And.intro (pk_in i 256 (by omega)) ?_) hk.1
    rw [nI_clamp (show i < 2 ^ 31 by omega), e2]
    refine yw_holdsIn (by omega) (by omega) (fun q => br_f (by decide) (nm_e (nm_r (nI_1 i) (ih _ ⟨s + 1, ?_, by omega, ?_⟩)))) (fun q => br_t rfl (nm_r (nI_1 i) (ih z ⟨s, e, by omega, ?_⟩)))
    · rw [e, nI_1]
    · exact yk_s G mw e1 (gq_t (Q := fun w => mo_h w l) q).symm
    · exact yk_s G mw e1 (gq_f (Q := fun w => mo_h w l) q).symm
theorem yw_areOne {post : Int32 → Prop} {w t u : Nat} (I : st_I n a c h K P Q Lf Rt St kk fp sp ll rr li ss) (hc : cl_C n K P Q a Lf Rt po cl) (hw : w < 2 ^ a) (ht : t < n) (hu : u < n)
    (h1 : cc_F n K P Q a Lf Rt w t u → post 1) (h0 : ¬ cc_F n K P Q a Lf Rt w t u → post 0) : wpY_areOne post (nI n, nI a, nI c, nI h, fm, kn, cs, kk, fp, sp, ll, rr, li, ss, ob, po, mo, cl) (nI w) (nI t) (nI u) := by
  have hn := st_n I
  have p8 := bi_p8 (st_a I)
  obtain ⟨_, _, L, X, k⟩ := hc w hw
  have e : ∀ i, (16 * nI w) + nI i = nI (16 * w + i) := by
    intro i
    rw [show (16 : Int32) * nI w = nI (16 * w) from pk_mul 16 w]
    exact nI_add (16 * w) i
  unfold wpY_areOne
  dsimp only
  rw [e t, e u, nI_clamp (show 16 * w + t < 2 ^ 31 by omega), nI_clamp (show 16 * w + u < 2 ^ 31 by omega), k t ht, k u hu]
  exact ⟨pk_in (16 * w + t) 4096 (by omega), pk_in (16 * w + u) 4096 (by omega), ek_if (ex_iff X ht hu hn) h1 h0⟩
theorem yw_one {post : Int32 → SY → Prop} {v1 v2 : Int32} (I : st_I n a c h K P Q Lf Rt St kk fp sp ll rr li ss) (HC : cs = 0 ∨ (cs = 1 ∧ cl_C n K P Q a Lf Rt po cl)) (HK : kn = 0 ∨ (kn = 1 ∧ kn_C (mo_M n K P Q a Lf Rt c li h St) (2 ^ a) fm mo))
    (H1 : ∀ fm' ob' po' mo' cl' t u, cl_C n K P Q a Lf Rt po' cl' → kn_C (mo_M n K P Q a Lf Rt c li h St) (2 ^ a) fm' mo' → t < n → u < n → v1 = nI t → v2 = nI u → post (ve_N (pc_n (fun w => (mo_M n K P Q a Lf Rt c li h St) w ∧ cc_F n K P Q a Lf Rt w t u) (2 ^ a)) (pc_n (mo_M n K P Q a Lf Rt c li h St) (2 ^ a))) (nI n, nI a, nI c, nI h, fm', 1, 1, kk, fp, sp, ll, rr, li, ss, ob', po', mo', cl'))
    (H0 : ¬ ((∃ t, t < n ∧ v1 = nI t) ∧ (∃ u, u < n ∧ v2 = nI u)) → post (-1) (nI n, nI a, nI c, nI h, fm, kn, cs, kk, fp, sp, ll, rr, li, ss, ob, po, mo, cl)) : wpY_one post (nI n, nI a, nI c, nI h, fm, kn, cs, kk, fp, sp, ll, rr, li, ss, ob, po, mo, cl) v1 v2 := by
  have hn := st_n I
  have ha := st_a I
  have p8 := bi_p8 ha
  have pl := pc_le (mo_M n K P Q a Lf Rt c li h St) (2 ^ a)
  unfold wpY_one
  dsimp only
  refine yw_within (show n < 2 ^ 31 by omega) (fun t ht et => br_f (by decide) ?_) (fun z => br_t rfl (H0 (fun y => z y.1)))
  refine yw_within (show n < 2 ^ 31 by omega) (fun u hu eu => br_f (by decide) ?_) (fun z => br_t rfl (H0 (fun y => z y.2)))
  refine yw_learn I HC HK (fun fm' ob' po' mo' cl' hc hk => ?_)
  dsimp only
  have H1 := H1 fm' ob' po' mo' cl' t u hc hk ht hu et eu
  rw [et, eu]
  refine loop_0 (σ := Int32) (fun m i z => wY_one_33 post (nI t) (nI u) (nI n) (nI a) (nI c) (nI h) fm' 1 1 kk fp sp ll rr li ss ob' po' mo' cl' m z (nI i)) (fun i z => ∃ s, z = nI s ∧ s ≤ i ∧ yk_I (mo_M n K P Q a Lf Rt c li h St) (gq_N (fun w => cc_F n K P Q a Lf Rt w t u)) 0 i s) (pc_n (mo_M n K P Q a Lf Rt c li h St) (2 ^ a)) 0 ⟨0, rfl, Nat.le_refl 0, yk_0 _ _ _⟩ ?_ ?_
  · intro m z G
    obtain ⟨s, e, sl, G⟩ := G
    have es : s = pc_n (fun w => (mo_M n K P Q a Lf Rt c li h St) w ∧ cc_F n K P Q a Lf Rt w t u) (2 ^ a) := (G (2 ^ a) rfl).trans (gq_pc _ _ _)
    refine pk_le (pc_n (mo_M n K P Q a Lf Rt c li h St) (2 ^ a)) (pc_n (mo_M n K P Q a Lf Rt c li h St) (2 ^ a)) (fun _ => ?_) (fun z => absurd z (by omega)) hk.1
    rw [← es] at H1
    exact ve_b (A := fun r => post r (nI n, nI a, nI c, nI h, fm', 1, 1, kk, fp, sp, ll, rr, li, ss, ob', po', mo', cl')) e hk.1 (by omega) (by omega) H1
  · intro m i z hi G ih
    obtain ⟨s, e, sl, G⟩ := G
    obtain ⟨w, hw, mw, e1, e2⟩ := kn_at hk hi
    refine pk_le _ i (fun z => absurd z (by omega)) (fun _ => And.intro (pk_in i 256 (by omega)) ?_) hk.1
    rw [nI_clamp (show i < 2 ^ 31 by omega), e2]
    refine yw_areOne I hc hw ht hu (fun q => br_f (by decide) (nm_e (nm_r (nI_1 i) (ih _ ⟨s + 1, ?_, by omega, ?_⟩)))) (fun q => br_t rfl (nm_r (nI_1 i) (ih z ⟨s, e, by omega, ?_⟩)))
    · rw [e, nI_1]
    · exact yk_s G mw e1 (gq_t (Q := fun w => cc_F n K P Q a Lf Rt w t u) q).symm
    · exact yk_s G mw e1 (gq_f (Q := fun w => cc_F n K P Q a Lf Rt w t u) q).symm
theorem yw_better {J : Int32 → Int32 → Prop} {x1 : Int32} {b : Bool} {o : Option Nat} {q i : Nat} (hb : x1 = 0 ↔ b = true) (hd : ∀ d, o = some d → d ≤ 16) (hq : q ≤ 16) (H : J (bt_I (bt_O b q o)) (nI (i + 1))) :
    (bt_I o < 0 → ∀ y : Int32, y = nI i + 1 → J (nI q) y) ∧ (¬ bt_I o < 0 → ((x1 = 0 → ((bt_I o ≤ nI q → ∀ y : Int32, y = nI i + 1 → J (bt_I o) y) ∧ (¬ bt_I o ≤ nI q → ∀ y : Int32, y = nI i + 1 → J (nI q) y))) ∧
      (¬ x1 = 0 → ((nI q ≤ bt_I o → ∀ y : Int32, y = nI i + 1 → J (bt_I o) y) ∧ (¬ nI q ≤ bt_I o → ∀ y : Int32, y = nI i + 1 → J (nI q) y))))) := by
  cases o with
  | none => exact br_t (show (-2 : Int32) < 0 by decide) (nm_r (nI_1 i) H)
  | some d =>
    have hd := hd d rfl
    refine br_f (show ¬ nI d < 0 from bi_nn (by omega)) ?_
    refine br_c (fun e => pk_le d q (fun z => ?_) (fun z => ?_)) (fun e => pk_le q d (fun z => ?_) (fun z => ?_))
    · rw [bt_ge (hb.mp e) (by omega)] at H
      exact nm_r (nI_1 i) H
    · rw [bt_lt (hb.mp e) z] at H
      exact nm_r (nI_1 i) H
    · rw [bt_le (fun y => e (hb.mpr y)) (by omega)] at H
      exact nm_r (nI_1 i) H
    · rw [bt_gt (fun y => e (hb.mpr y)) z] at H
      exact nm_r (nI_1 i) H
theorem yw_classes {post : Int32 → SY → Prop} {v : Int32} (I : st_I n a c h K P Q Lf Rt St kk fp sp ll rr li ss) (HC : cs = 0 ∨ (cs = 1 ∧ cl_C n K P Q a Lf Rt po cl)) (HK : kn = 0 ∨ (kn = 1 ∧ kn_C (mo_M n K P Q a Lf Rt c li h St) (2 ^ a) fm mo))
    (H1 : ∀ fm' ob' po' mo' cl' b, cl_C n K P Q a Lf Rt po' cl' → kn_C (mo_M n K P Q a Lf Rt c li h St) (2 ^ a) fm' mo' → (b = true ∧ v = 0) ∨ (b = false ∧ v = 1) → post (bt_I (xf_s (mo_M n K P Q a Lf Rt c li h St) (fun w s => bt_O b (cl_N n K P Q a Lf Rt w) s) none (2 ^ a))) (nI n, nI a, nI c, nI h, fm', 1, 1, kk, fp, sp, ll, rr, li, ss, ob', po', mo', cl'))
    (H0 : ¬ v = 0 → ¬ v = 1 → post (-1) (nI n, nI a, nI c, nI h, fm, kn, cs, kk, fp, sp, ll, rr, li, ss, ob, po, mo, cl)) : wpY_classes post (nI n, nI a, nI c, nI h, fm, kn, cs, kk, fp, sp, ll, rr, li, ss, ob, po, mo, cl) v := by
  have hn := st_n I
  have ha := st_a I
  have p8 := bi_p8 ha
  have pl := pc_le (mo_M n K P Q a Lf Rt c li h St) (2 ^ a)
  unfold wpY_classes
  dsimp only
  refine yw_in (m := 2) rfl (by decide) (fun j hj ej => br_f (by decide) ?_) (fun z => br_t rfl (H0 (fun e => z ⟨0, by decide, e⟩) (fun e => z ⟨1, by decide, e⟩)))
  have hb : ∃ b : Bool, ((b = true ∧ v = 0) ∨ (b = false ∧ v = 1)) ∧ (v = 0 ↔ b = true) := by
    by_cases e : j = 0
    · rw [e] at ej
      exact ⟨true, Or.inl ⟨rfl, ej⟩, fun _ => rfl, fun _ => ej⟩
    · have e1 : j = 1 := by omega
      rw [e1] at ej
      have ej : v = 1 := ej
      refine ⟨false, Or.inr ⟨rfl, ej⟩, fun z => ?_, fun z => absurd z (by decide)⟩
      rw [ej] at z
      exact absurd z (by decide)
  obtain ⟨b, hv, hb⟩ := hb
  have bd := bt_bd (M := (mo_M n K P Q a Lf Rt c li h St)) (b := b) (N := fun w => cl_N n K P Q a Lf Rt w) (n := 16) (fun w => Nat.le_trans (cl_le n K P Q a Lf Rt w) hn)
  refine yw_learn I HC HK (fun fm' ob' po' mo' cl' hc hk => ?_)
  dsimp only
  have H1 := H1 fm' ob' po' mo' cl' b hc hk hv
  refine loop_0 (σ := Int32) (fun m i z => wY_classes_19 post v (nI n) (nI a) (nI c) (nI h) fm' 1 1 kk fp sp ll rr li ss ob' po' mo' cl' m z (nI i)) (fun i z => ∃ o, z = bt_I o ∧ yk_I (mo_M n K P Q a Lf Rt c li h St) (fun w s => bt_O b (cl_N n K P Q a Lf Rt w) s) none i o) (pc_n (mo_M n K P Q a Lf Rt c li h St) (2 ^ a)) (-2) ⟨none, rfl, yk_0 _ _ _⟩ ?_ ?_
  · intro m z G
    obtain ⟨o, e, G⟩ := G
    refine pk_le (pc_n (mo_M n K P Q a Lf Rt c li h St) (2 ^ a)) (pc_n (mo_M n K P Q a Lf Rt c li h St) (2 ^ a)) (fun _ => ?_) (fun z => absurd z (by omega)) hk.1
    rw [e, G (2 ^ a) rfl]
    exact H1
  · intro m i z hi G ih
    obtain ⟨o, e, G⟩ := G
    obtain ⟨w, hw, mw, e1, e2⟩ := kn_at hk hi
    obtain ⟨_, _, L, X, k⟩ := hc w hw
    have hB := ex_B hn X
    refine pk_le _ i (fun z => absurd z (by omega)) (fun _ => ?_) hk.1
    refine loop_0 (σ := Int32) (fun m' j y => wY_classes_33 post (wY_classes_19 post v (nI n) (nI a) (nI c) (nI h) fm' 1 1 kk fp sp ll rr li ss ob' po' mo' cl' m) v z (nI i) (nI n) (nI a) (nI c) (nI h) fm' 1 1 kk fp sp ll rr li ss ob' po' mo' cl' m' y (nI j)) (fun j y => y = nI (cc_cnt (fun t => decide (L t = t)) j)) n 0 rfl ?_ ?_
    · intro m' y G'
      refine pk_le n n (fun _ => ?_) (fun z => absurd z (by omega))
      have G' : y = nI (cc_nl n L) := G'
      rw [cl_eq X] at G'
      rw [G', e]
      have bo : ∀ d, o = some d → d ≤ 16 := by
        intro d hd
        have g := G w e1
        rw [hd] at g
        exact bd w d g.symm
      exact yw_better hb bo (Nat.le_trans (cl_le n K P Q a Lf Rt w) hn) (ih _ ⟨_, rfl, yk_s G mw e1 rfl⟩)
    · intro m' j y hj G' ih'
      have b1 := hB j hj
      have e6 : (16 * nI w) + nI j = nI (16 * w + j) := by
        rw [show (16 : Int32) * nI w = nI (16 * w) from pk_mul 16 w]
        exact nI_add (16 * w) j
      refine pk_le n j (fun z => absurd z (by omega)) (fun _ => And.intro (pk_in i 256 (by omega)) ?_)
      rw [nI_clamp (show i < 2 ^ 31 by omega), e2, e6, nI_clamp (show 16 * w + j < 2 ^ 31 by omega), k j hj]
      refine And.intro (pk_in (16 * w + j) 4096 (by omega)) ?_
      refine pk_eq (L j) j (fun e => nm_e (nm_r (nI_1 j) (ih' _ ?_))) (fun e => nm_r (nI_1 j) (ih' y ?_))
      · rw [G', nI_1, cc_cnt_t (decide_eq_true e)]
      · rw [G', cc_cnt_f (fun y => e (of_decide_eq_true y))]
end
end
section
section
variable {n a c h : Nat} {K P Q Lf Rt St : Nat → Nat} {kk fp sp ll rr li ss : Nat → Int32}
variable {fm kn cs : Int32} {ob po mo cl : Nat → Int32}
theorem yw_atomsAt {post : Int32 → Prop} {p : Nat} (I : st_I n a c h K P Q Lf Rt St kk fp sp ll rr li ss) (hp : p < 2 ^ 31) (H : post (nI (as_n St 0 p h))) : wpY_atomsAt post (nI n, nI a, nI c, nI h, fm, kn, cs, kk, fp, sp, ll, rr, li, ss, ob, po, mo, cl) (nI p) := by
  have hh := st_h I
  have ha := st_a I
  refine loop_0 (σ := Int32) (fun m i z => wY_atomsAt_4 post (nI p) (nI n) (nI a) (nI c) (nI h) fm kn cs kk fp sp ll rr li ss ob po mo cl m z (nI i)) (fun i z => z = nI (as_n St 0 p i)) h 0 rfl ?_ ?_
  · intro m z G
    exact pk_le h h (fun _ => by rw [G]; exact H) (fun z => absurd z (by omega))
  · intro m i z hi G ih
    have s2 := st_S2 I i hi
    refine pk_le h i (fun z => absurd z (by omega)) (fun _ => ?_)
    rw [bi_bit hp (show i < 32 by omega)]
    by_cases x : p.testBit i = true
    · refine br_t (by rw [bi_b1 x]; rfl) (And.intro (pk_in i 8 (by omega)) (And.intro (by decide) ?_))
      rw [nI_clamp (show i < 2 ^ 31 by omega), st_S I i hi, bi_r2 (show St i < 2 ^ 31 by omega), bi_d2 (show St i < 2 ^ 31 by omega)]
      have b : St i % 2 < 2 := Nat.mod_lt _ (by decide)
      refine pk_eq (St i % 2) 0 (fun e => And.intro (pk_in i 8 (by omega)) (And.intro (by decide) ?_)) (fun e => nm_r (nI_1 i) (ih z ?_))
      · refine nm_e (nm_r (nI_1 i) (ih _ ?_))
        rw [G, bi_shl1 (show St i / 2 < 31 by omega), bi_or, as_t x e]
      · rw [G, as_f (fun y => e y.2)]
    · refine br_f (by rw [bi_b0 (bi_ft x)]; decide) (nm_r (nI_1 i) (ih z ?_))
      rw [G, as_f (fun y => x y.1)]
theorem yw_isAtoms {post : Int32 → Prop} {p : Nat} (I : st_I n a c h K P Q Lf Rt St kk fp sp ll rr li ss) (hp : p < 2 ^ 31) (h1 : wh_A h St p → post 1) (h0 : ¬ wh_A h St p → post 0) : wpY_isAtoms post (nI n, nI a, nI c, nI h, fm, kn, cs, kk, fp, sp, ll, rr, li, ss, ob, po, mo, cl) (nI p) := by
  have hh := st_h I
  have ha := st_a I
  refine loop_0 (σ := Unit) (fun m i _ => wY_isAtoms_2 post (nI p) (nI n) (nI a) (nI c) (nI h) fm kn cs kk fp sp ll rr li ss ob po mo cl m (nI i)) (fun i _ => ∀ k, k < i → p.testBit k = true → St k % 2 = 0) h () (fun k hk => absurd hk (Nat.not_lt_zero k)) ?_ ?_
  · intro m _ G
    exact pk_le h h (fun _ => h1 G) (fun z => absurd z (by omega))
  · intro m i _ hi G ih
    have s2 := st_S2 I i hi
    refine pk_le h i (fun z => absurd z (by omega)) (fun _ => ?_)
    rw [bi_bit hp (show i < 32 by omega)]
    by_cases x : p.testBit i = true
    · refine br_t (by rw [bi_b1 x]; rfl) (And.intro (pk_in i 8 (by omega)) (And.intro (by decide) ?_))
      rw [nI_clamp (show i < 2 ^ 31 by omega), st_S I i hi, bi_r2 (show St i < 2 ^ 31 by omega)]
      have b : St i % 2 < 2 := Nat.mod_lt _ (by decide)
      refine pk_eq (St i % 2) 1 (fun e => h0 (fun z => ?_)) (fun e => nm_r (nI_1 i) (ih () (fun k hk hb => ?_)))
      · have := z i hi x
        omega
      · by_cases ek : k = i
        · rw [ek]; omega
        · exact G k (by omega) hb
    · refine br_f (by rw [bi_b0 (bi_ft x)]; decide) (nm_r (nI_1 i) (ih () (fun k hk hb => ?_)))
      by_cases ek : k = i
      · rw [ek] at hb; exact absurd hb x
      · exact G k (by omega) hb
theorem yw_poss {post : Int32 → Prop} {p : Nat} (I : st_I n a c h K P Q Lf Rt St kk fp sp ll rr li ss) (hc : cl_C n K P Q a Lf Rt po cl) (hp : p < 2 ^ 31) (h1 : mo_B n K P Q a Lf Rt h St p → post 1) (h0 : ¬ mo_B n K P Q a Lf Rt h St p → post 0) :
    wpY_isPossible post (nI n, nI a, nI c, nI h, fm, kn, cs, kk, fp, sp, ll, rr, li, ss, ob, po, mo, cl) (nI p) := by
  have hh := st_h I
  have ha := st_a I
  have p8 := bi_p8 ha
  refine loop_0 (σ := Unit) (fun m i _ => wY_isPossible_2 post (nI p) (nI n) (nI a) (nI c) (nI h) fm kn cs kk fp sp ll rr li ss ob po mo cl m (nI i)) (fun i _ => ∀ w, w < i → ¬ (mo_P n K P Q a Lf Rt w ∧ ∀ k, k < h → p.testBit k = true → mo_h w (St k))) (2 ^ a) () (fun k hk => absurd hk (Nat.not_lt_zero k)) ?_ ?_
  · intro m _ G
    refine pk_le (2 ^ a) (2 ^ a) (fun _ => h0 (fun z => ?_)) (fun z => absurd z (by omega)) (bi_shl1 (show a < 31 by omega))
    obtain ⟨w, hw, z⟩ := z
    exact G w hw z
  · intro m w _ hw G ih
    refine pk_le (2 ^ a) w (fun z => absurd z (by omega)) (fun _ => And.intro (pk_in w 256 (by omega)) ?_) (bi_shl1 (show a < 31 by omega))
    rw [nI_clamp (show w < 2 ^ 31 by omega)]
    refine nm_e ?_
    obtain ⟨k1, k2, _⟩ := hc w hw
    have next : ¬ (mo_P n K P Q a Lf Rt w ∧ ∀ k, k < h → p.testBit k = true → mo_h w (St k)) → wY_isPossible_2 post (nI p) (nI n) (nI a) (nI c) (nI h) fm kn cs kk fp sp ll rr li ss ob po mo cl m (nI (w + 1)) := by
      intro nb
      refine ih () (fun v hv => ?_)
      by_cases ev : v = w
      · rw [ev]; exact nb
      · exact G v (by omega)
    refine loop_0 (σ := Int32) (fun m' i z => wY_isPossible_22 post (wY_isPossible_2 post (nI p) (nI n) (nI a) (nI c) (nI h) fm kn cs kk fp sp ll rr li ss ob po mo cl m) (nI p) (nI w) (nI n) (nI a) (nI c) (nI h) fm kn cs kk fp sp ll rr li ss ob po mo cl m' z (nI i))
      (fun i z => (z = 1 ∧ mo_P n K P Q a Lf Rt w ∧ ∀ k, k < i → p.testBit k = true → mo_h w (St k)) ∨ (z = 0 ∧ ¬ (mo_P n K P Q a Lf Rt w ∧ ∀ k, k < h → p.testBit k = true → mo_h w (St k)))) h (po w) ?_ ?_ ?_
    · by_cases z : mo_P n K P Q a Lf Rt w
      · exact Or.inl ⟨k1 z, z, fun k hk => absurd hk (Nat.not_lt_zero k)⟩
      · exact Or.inr ⟨k2 z, fun y => z y.1⟩
    · intro m' z G'
      refine pk_le h h (fun _ => ?_) (fun z => absurd z (by omega))
      rcases G' with ⟨e, g⟩ | ⟨e, g⟩
      · exact br_f (by rw [e]; decide) (h1 ⟨w, hw, g⟩)
      · exact br_t e (nm_r (nI_1 w) (next g))
    · intro m' i z hi G' ih'
      have s2 := st_S2 I i hi
      refine pk_le h i (fun z => absurd z (by omega)) (fun _ => ?_)
      rcases G' with ⟨e, g1, g2⟩ | ⟨e, g⟩
      · refine br_f (by rw [e]; decide) ?_
        rw [bi_bit hp (show i < 32 by omega)]
        by_cases x : p.testBit i = true
        · refine br_f (by rw [bi_b1 x]; decide) (And.intro (pk_in i 8 (by omega)) ?_)
          rw [nI_clamp (show i < 2 ^ 31 by omega), st_S I i hi]
          refine yw_holdsIn (by omega) (by omega) (fun q => br_f (by decide) (nm_r (nI_1 i) (ih' 1 (Or.inl ⟨rfl, g1, fun k hk hb => ?_⟩)))) (fun q => br_t rfl (nm_r (nI_1 i) (ih' 0 (Or.inr ⟨rfl, fun y => q (y.2 i hi x)⟩))))
          by_cases ek : k = i
          · rw [ek]; exact q
          · exact g2 k (by omega) hb
        · refine br_t (by rw [bi_b0 (bi_ft x)]; rfl) (nm_r (nI_1 i) (ih' 1 (Or.inl ⟨rfl, g1, fun k hk hb => ?_⟩)))
          by_cases ek : k = i
          · rw [ek] at hb; exact absurd hb x
          · exact g2 k (by omega) hb
      · exact br_t e (br_t e (nm_r (nI_1 w) (next g)))
theorem yw_least {post : Int32 → SY → Prop} {v : Int32} (I : st_I n a c h K P Q Lf Rt St kk fp sp ll rr li ss) (HC : cs = 0 ∨ (cs = 1 ∧ cl_C n K P Q a Lf Rt po cl))
    (H1 : ∀ ob' po' cl' t L, cl_C n K P Q a Lf Rt po' cl' → t < n → v = nI t → cc_Ex n K P Q (cc_E a Lf Rt (as_n St 0 (2 ^ h - 1) h)) L → post (nI (L t)) (nI n, nI a, nI c, nI h, fm, kn, 1, kk, fp, sp, ll, rr, li, ss, ob', po', mo, cl'))
    (H0 : (¬ ∃ t, t < n ∧ v = nI t) → post (-1) (nI n, nI a, nI c, nI h, fm, kn, cs, kk, fp, sp, ll, rr, li, ss, ob, po, mo, cl)) : wpY_least post (nI n, nI a, nI c, nI h, fm, kn, cs, kk, fp, sp, ll, rr, li, ss, ob, po, mo, cl) v := by
  have hn := st_n I
  have hh := st_h I
  have p8 := bi_p8 (st_a I)
  have l0 := as_lt (o := 0) (p := 2 ^ h - 1) h (st_S2 I)
  have e255 : as_n St 0 255 h = as_n St 0 (2 ^ h - 1) h := by
    refine as_cg h (fun j hj _ => ?_)
    rw [Nat.testBit_two_pow_sub_one, show (255 : Nat) = 2 ^ 8 - 1 from rfl, Nat.testBit_two_pow_sub_one, decide_eq_true_eq, decide_eq_true_eq]
    omega
  unfold wpY_least
  dsimp only
  refine yw_within (show n < 2 ^ 31 by omega) (fun t ht et => br_f (by decide) ?_) (fun z => br_t rfl (H0 z))
  refine yw_closeAll I HC (fun ob' po' cl' hc => ?_)
  refine yw_atomsAt (p := 255) I (by decide) ?_
  rw [e255]
  obtain ⟨_, _, L, X, k⟩ := hc _ l0
  have e : (16 * nI (as_n St 0 (2 ^ h - 1) h)) + nI t = nI (16 * as_n St 0 (2 ^ h - 1) h + t) := by
    rw [show (16 : Int32) * nI (as_n St 0 (2 ^ h - 1) h) = nI (16 * as_n St 0 (2 ^ h - 1) h) from pk_mul 16 _]
    exact nI_add _ t
  dsimp only
  rw [et, e, nI_clamp (show 16 * as_n St 0 (2 ^ h - 1) h + t < 2 ^ 31 by omega), k t ht]
  exact And.intro (pk_in (16 * as_n St 0 (2 ^ h - 1) h + t) 4096 (by omega)) (H1 ob' po' cl' t L hc ht et X)
theorem yw_why61 {post : Int32 → SY → Prop} {J : Int32 → Int32 → Prop} {t u i : Nat} {x3 : Int32} (I : st_I n a c h K P Q Lf Rt St kk fp sp ll rr li ss) (hc : cl_C n K P Q a Lf Rt po cl) (ht : t < n) (hu : u < n) (hi : i < 2 ^ 31)
    (Hy : (wh_A h St i ∧ cc_F n K P Q a Lf Rt (as_n St 0 i h) t u) → J (nI i) (nI (i + 1))) (Hn : ¬ (wh_A h St i ∧ cc_F n K P Q a Lf Rt (as_n St 0 i h) t u) → J x3 (nI (i + 1))) :
    wY_why_61 post J (nI t) (nI u) x3 (nI i) (nI n) (nI a) (nI c) (nI h) fm kn cs kk fp sp ll rr li ss ob po mo cl := by
  have l0 := as_lt (o := 0) (p := i) h (st_S2 I)
  unfold wY_why_61 wY_why_66
  refine br_f (by decide) ?_
  refine yw_isAtoms I hi (fun y => br_f (by decide) ?_) (fun y => br_t rfl (nm_r (nI_1 i) (Hn (fun z => y z.1))))
  refine yw_atomsAt I hi ?_
  exact yw_areOne I hc l0 ht hu (fun q => br_f (by decide) (nm_r (nI_1 i) (Hy ⟨y, q⟩))) (fun q => br_t rfl (nm_r (nI_1 i) (Hn (fun z => q z.2))))
theorem yw_why {post : Int32 → SY → Prop} {v1 v2 : Int32} (I : st_I n a c h K P Q Lf Rt St kk fp sp ll rr li ss) (HC : cs = 0 ∨ (cs = 1 ∧ cl_C n K P Q a Lf Rt po cl))
    (H1 : ∀ ob' po' cl' t u b, cl_C n K P Q a Lf Rt po' cl' → t < n → u < n → v1 = nI t → v2 = nI u → am_P (fun p => wh_A h St p ∧ cc_F n K P Q a Lf Rt (as_n St 0 p h) t u) (2 ^ h) b → post b (nI n, nI a, nI c, nI h, fm, kn, 1, kk, fp, sp, ll, rr, li, ss, ob', po', mo, cl'))
    (H0 : ¬ ((∃ t, t < n ∧ v1 = nI t) ∧ (∃ u, u < n ∧ v2 = nI u)) → post (-1) (nI n, nI a, nI c, nI h, fm, kn, cs, kk, fp, sp, ll, rr, li, ss, ob, po, mo, cl)) : wpY_why post (nI n, nI a, nI c, nI h, fm, kn, cs, kk, fp, sp, ll, rr, li, ss, ob, po, mo, cl) v1 v2 := by
  have hn := st_n I
  have hh := st_h I
  have p8' := bi_p8 hh
  unfold wpY_why
  dsimp only
  refine yw_within (show n < 2 ^ 31 by omega) (fun t ht et => br_f (by decide) ?_) (fun z => br_t rfl (H0 (fun y => z y.1)))
  refine yw_within (show n < 2 ^ 31 by omega) (fun u hu eu => br_f (by decide) ?_) (fun z => br_t rfl (H0 (fun y => z y.2)))
  refine yw_closeAll I HC (fun ob' po' cl' hc => ?_)
  dsimp only
  have H1 := fun b => H1 ob' po' cl' t u b hc ht hu et eu
  rw [et, eu]
  refine loop_0 (σ := Int32) (fun m i z => wY_why_34 post (nI t) (nI u) (nI n) (nI a) (nI c) (nI h) fm kn 1 kk fp sp ll rr li ss ob' po' mo cl' m z (nI i)) (fun i z => am_P (fun p => wh_A h St p ∧ cc_F n K P Q a Lf Rt (as_n St 0 p h) t u) i z) (2 ^ h) (-2) (am_0 _) ?_ ?_
  · intro m z G
    exact pk_le (2 ^ h) (2 ^ h) (fun _ => H1 z G) (fun z => absurd z (by omega)) (bi_shl1 (show h < 31 by omega))
  · intro m i z hi G ih
    refine pk_le (2 ^ h) i (fun z => absurd z (by omega)) (fun _ => ?_) (bi_shl1 (show h < 31 by omega))
    have G0 := G
    rcases G with ⟨e, g⟩ | ⟨k, hk, e, hr, g⟩
    · refine br_t (by rw [e]; decide) ?_
      exact yw_why61 I hc ht hu (by omega) (fun r => ih _ (am_first g r)) (fun r => ih _ (am_n G0 r))
    · rw [e]
      rw [e] at G0
      have s1 := sz_bd i 8
      have s2 := sz_bd k 8
      refine br_f (bi_nn (by omega)) ?_
      refine yw_size (by omega) ?_
      refine yw_size (by omega) ?_
      refine pk_le (sz_n k 8) (sz_n i 8) (fun l => ?_) (fun l => ?_)
      · unfold wY_why_66
        exact br_t rfl (nm_r (nI_1 i) (ih _ (am_old hk hr g (by omega))))
      · exact yw_why61 I hc ht hu (by omega) (fun r => ih _ (am_new g r l)) (fun r => ih _ (am_n G0 r))
theorem yw_blame34 {post : Int32 → SY → Prop} {J : Int32 → Int32 → Prop} {i : Nat} {x1 : Int32} (I : st_I n a c h K P Q Lf Rt St kk fp sp ll rr li ss) (hc : cl_C n K P Q a Lf Rt po cl) (hi : i < 2 ^ 31)
    (Hy : ¬ mo_B n K P Q a Lf Rt h St i → J (nI i) (nI (i + 1))) (Hn : mo_B n K P Q a Lf Rt h St i → J x1 (nI (i + 1))) :
    wY_blame_34 post J x1 (nI i) (nI n) (nI a) (nI c) (nI h) fm kn cs kk fp sp ll rr li ss ob po mo cl := by
  unfold wY_blame_34 wY_blame_39
  refine br_f (by decide) ?_
  exact yw_poss I hc hi (fun y => br_f (by decide) (nm_r (nI_1 i) (Hn y))) (fun y => br_t rfl (nm_r (nI_1 i) (Hy y)))
theorem yw_blame {post : Int32 → SY → Prop} (I : st_I n a c h K P Q Lf Rt St kk fp sp ll rr li ss) (HC : cs = 0 ∨ (cs = 1 ∧ cl_C n K P Q a Lf Rt po cl)) (HK : kn = 0 ∨ (kn = 1 ∧ kn_C (mo_M n K P Q a Lf Rt c li h St) (2 ^ a) fm mo))
    (H : ∀ fm' ob' po' mo' cl' b, cl_C n K P Q a Lf Rt po' cl' → kn_C (mo_M n K P Q a Lf Rt c li h St) (2 ^ a) fm' mo' → am_P (fun p => ¬ mo_B n K P Q a Lf Rt h St p) (2 ^ h) b → post b (nI n, nI a, nI c, nI h, fm', 1, 1, kk, fp, sp, ll, rr, li, ss, ob', po', mo', cl')) :
    wpY_blame post (nI n, nI a, nI c, nI h, fm, kn, cs, kk, fp, sp, ll, rr, li, ss, ob, po, mo, cl) := by
  have hh := st_h I
  have p8' := bi_p8 hh
  unfold wpY_blame
  dsimp only
  refine yw_learn I HC HK (fun fm' ob' po' mo' cl' hc hk => ?_)
  dsimp only
  have H := fun b => H fm' ob' po' mo' cl' b hc hk
  refine loop_0 (σ := Int32) (fun m i z => wY_blame_9 post (nI n) (nI a) (nI c) (nI h) fm' 1 1 kk fp sp ll rr li ss ob' po' mo' cl' m z (nI i)) (fun i z => am_P (fun p => ¬ mo_B n K P Q a Lf Rt h St p) i z) (2 ^ h) (-2) (am_0 _) ?_ ?_
  · intro m z G
    exact pk_le (2 ^ h) (2 ^ h) (fun _ => H z G) (fun z => absurd z (by omega)) (bi_shl1 (show h < 31 by omega))
  · intro m i z hi G ih
    refine pk_le (2 ^ h) i (fun z => absurd z (by omega)) (fun _ => ?_) (bi_shl1 (show h < 31 by omega))
    have G0 := G
    rcases G with ⟨e, g⟩ | ⟨k, hk', e, hr, g⟩
    · refine br_t (by rw [e]; decide) ?_
      exact yw_blame34 I hc (by omega) (fun r => ih _ (am_first g r)) (fun r => ih _ (am_n G0 (fun y => y r)))
    · rw [e]
      rw [e] at G0
      have s1 := sz_bd i 8
      have s2 := sz_bd k 8
      refine br_f (bi_nn (by omega)) ?_
      refine yw_size (by omega) ?_
      refine yw_size (by omega) ?_
      refine pk_le (sz_n k 8) (sz_n i 8) (fun l => ?_) (fun l => ?_)
      · unfold wY_blame_39
        exact br_t rfl (nm_r (nI_1 i) (ih _ (am_old hk' hr g (by omega))))
      · exact yw_blame34 I hc (by omega) (fun r => ih _ (am_new g r l)) (fun r => ih _ (am_n G0 (fun y => y r)))
end
end
section
section
variable {n a c h : Nat} {K P Q Lf Rt St : Nat → Nat} {kk fp sp ll rr li ss : Nat → Int32}
variable {fm kn cs : Int32} {ob po mo cl ld : Nat → Int32}
/-- a function with one more value -/
def nu_F (L : Nat → Nat) (i v : Nat) : Nat → Nat := fun t => if t = i then v else L t
theorem nu_s {L : Nat → Nat} {i v : Nat} : nu_F L i v i = v := if_pos rfl
theorem nu_n {L : Nat → Nat} {i v t : Nat} (h : ¬ t = i) : nu_F L i v t = L t := if_neg h
theorem nu_A {n : Nat} {arr : Nat → Int32} {L : Nat → Nat} {v : Nat} (h : cc_A n arr L) : cc_A (n + 1) (upd arr n (nI v)) (nu_F L n v) := by
  intro t ht
  by_cases e : t = n
  · rw [e, pk_us, nu_s]
  · rw [pk_un e, nu_n e]
    exact h t (by omega)
/-- what a call of term asks -/
def te_T (n : Nat) (k x y : Int32) : Prop := n < 16 ∧ ∃ κ, κ < 4 ∧ k = nI κ ∧ (κ ≠ 0 → ∃ j, j < n ∧ x = nI j) ∧ (κ = 2 → ∃ j, j < n ∧ y = nI j)
theorem st_term (I : st_I n a c h K P Q Lf Rt St kk fp sp ll rr li ss) {κ pa pb : Nat} (h16 : n < 16) (h4 : κ < 4) {fp' sp' : Nat → Int32} (hpa : κ ≠ 0 → pa < n) (hpb : κ = 2 → pb < n)
    (f1 : ∀ j, ¬ j = n → fp' j = fp j) (f2 : κ ≠ 0 → fp' n = nI pa) (s1 : ∀ j, ¬ j = n → sp' j = sp j) (s2 : κ = 2 → sp' n = nI pb) :
    st_I (n + 1) a c h (nu_F K n κ) (nu_F P n pa) (nu_F Q n pb) Lf Rt St (upd kk n (nI κ)) fp' sp' ll rr li ss := by
  have W := st_W I
  refine ⟨by omega, st_a I, st_c I, st_h I, ⟨?_, ?_, ?_⟩, nu_A (st_K I), ?_, ?_, ?_, st_L I, st_R I, st_S I, st_S2 I, st_C I⟩
  · intro t ht hk
    by_cases e : t = n
    · rw [e, nu_s] at hk
      rw [e, nu_s]
      have := hpa hk
      omega
    · rw [nu_n e] at hk
      rw [nu_n e]
      have := W.1 t (by omega) hk
      omega
  · intro t ht hk
    by_cases e : t = n
    · rw [e, nu_s] at hk
      rw [e, nu_s]
      have := hpb hk
      omega
    · rw [nu_n e] at hk
      rw [nu_n e]
      have := W.2.1 t (by omega) hk
      omega
  · intro i hi
    have := W.2.2 i hi
    omega
  · intro t ht
    by_cases e : t = n
    · rw [e, nu_s]; exact h4
    · rw [nu_n e]; exact st_K4 I t (by omega)
  · intro t ht hk
    by_cases e : t = n
    · rw [e, nu_s] at hk
      rw [e, nu_s]
      exact f2 hk
    · rw [nu_n e] at hk
      rw [nu_n e, f1 t e]
      exact st_P I t (by omega) hk
  · intro t ht hk
    by_cases e : t = n
    · rw [e, nu_s] at hk
      rw [e, nu_s]
      exact s2 hk
    · rw [nu_n e] at hk
      rw [nu_n e, s1 t e]
      exact st_Q I t (by omega) hk
theorem st_atom (I : st_I n a c h K P Q Lf Rt St kk fp sp ll rr li ss) {t u : Nat} (h8 : a < 8) (ht : t < n) (hu : u < n) :
    st_I n (a + 1) c h K P Q (nu_F Lf a t) (nu_F Rt a u) St kk fp sp (upd ll a (nI t)) (upd rr a (nI u)) li ss := by
  have W := st_W I
  refine ⟨st_n I, by omega, st_c I, st_h I, ⟨W.1, W.2.1, ?_⟩, st_K I, st_K4 I, st_P I, st_Q I, nu_A (st_L I), nu_A (st_R I), st_S I, ?_, ?_⟩
  · intro i hi
    by_cases e : i = a
    · rw [e, nu_s, nu_s]; exact ⟨ht, hu⟩
    · rw [nu_n e, nu_n e]; exact W.2.2 i (by omega)
  · intro k hk
    have := st_S2 I k hk
    omega
  · intro j hj
    rcases st_C I j hj with e | ⟨l, hl, e⟩
    · exact Or.inl e
    · exact Or.inr ⟨l, by omega, e⟩
theorem st_clause (I : st_I n a c h K P Q Lf Rt St kk fp sp ll rr li ss) {x y z : Int32} (h12 : c < 12) (hx : x = -1 ∨ ∃ l, l < 2 * a ∧ x = nI l) (hy : y = -1 ∨ ∃ l, l < 2 * a ∧ y = nI l) (hz : z = -1 ∨ ∃ l, l < 2 * a ∧ z = nI l) :
    st_I n a (c + 1) h K P Q Lf Rt St kk fp sp ll rr (upd (upd (upd li (3 * c) x) (3 * c + 1) y) (3 * c + 2) z) ss := by
  refine ⟨st_n I, st_a I, by omega, st_h I, st_W I, st_K I, st_K4 I, st_P I, st_Q I, st_L I, st_R I, st_S I, st_S2 I, ?_⟩
  intro j hj
  by_cases e2 : j = 3 * c + 2
  · rw [e2, pk_us]; exact hz
  · rw [pk_un e2]
    by_cases e1 : j = 3 * c + 1
    · rw [e1, pk_us]; exact hy
    · rw [pk_un e1]
      by_cases e0 : j = 3 * c
      · rw [e0, pk_us]; exact hx
      · rw [pk_un e0]; exact st_C I j (by omega)
theorem st_push (I : st_I n a c h K P Q Lf Rt St kk fp sp ll rr li ss) {l : Nat} (h8 : h < 8) (hl : l < 2 * a) : st_I n a c (h + 1) K P Q Lf Rt (nu_F St h l) kk fp sp ll rr li (upd ss h (nI l)) := by
  refine ⟨st_n I, st_a I, st_c I, by omega, st_W I, st_K I, st_K4 I, st_P I, st_Q I, st_L I, st_R I, nu_A (st_S I), ?_, st_C I⟩
  intro k hk
  by_cases e : k = h
  · rw [e, nu_s]; exact hl
  · rw [nu_n e]; exact st_S2 I k (by omega)
theorem st_low (I : st_I n a c h K P Q Lf Rt St kk fp sp ll rr li ss) {c' h' : Nat} (hc : c' ≤ c) (hh : h' ≤ h) : st_I n a c' h' K P Q Lf Rt St kk fp sp ll rr li ss := by
  have b1 := st_c I
  have b2 := st_h I
  exact ⟨st_n I, st_a I, by omega, by omega, st_W I, st_K I, st_K4 I, st_P I, st_Q I, st_L I, st_R I, fun t ht => st_S I t (by omega), fun k hk => st_S2 I k (by omega), fun j hj => st_C I j (by omega)⟩
theorem st_0 (kk fp sp ll rr li ss : Nat → Int32) (K P Q Lf Rt St : Nat → Nat) : st_I 0 0 0 0 K P Q Lf Rt St kk fp sp ll rr li ss := by
  refine ⟨by decide, by decide, by decide, by decide, ⟨fun t ht => ?_, fun t ht => ?_, fun t ht => ?_⟩, fun t ht => ?_, fun t ht => ?_, fun t ht => ?_, fun t ht => ?_, fun t ht => ?_, fun t ht => ?_, fun t ht => ?_, fun t ht => ?_, fun t ht => ?_⟩ <;> omega
theorem xw_t95 {post : Int32 → SX → Prop} {z0 : Int32} (h16 : n < 16) (H : post (nI n) (nI (n + 1), nI a, nI c, nI h, kk, fp, upd sp n z0, ll, rr, li, ss, ld)) :
    wX_term_95 post z0 (nI n) (nI n) (nI a) (nI c) (nI h) kk fp sp ll rr li ss ld := by
  unfold wX_term_95
  rw [nI_clamp (show n < 2 ^ 31 by omega)]
  refine ⟨pk_in n 16 h16, nm_e (nm_r (nI_1 n) ?_)⟩
  rw [show nI (n + 1) - 1 = nI n from pk_sub (a := n + 1) (b := 1) (by omega)]
  exact H
theorem xw_term {post : Int32 → SX → Prop} {k x y : Int32} (hn : n ≤ 16)
    (H1 : ∀ κ fp' sp', n < 16 → κ < 4 → k = nI κ → (κ ≠ 0 → ∃ j, j < n ∧ x = nI j) → (κ = 2 → ∃ j, j < n ∧ y = nI j) → (∀ j, ¬ j = n → fp' j = fp j) → (κ ≠ 0 → fp' n = x) → (∀ j, ¬ j = n → sp' j = sp j) → (κ = 2 → sp' n = y) →
      post (nI n) (nI (n + 1), nI a, nI c, nI h, upd kk n (nI κ), fp', sp', ll, rr, li, ss, ld))
    (H0 : ¬ te_T n k x y → post (-1) (nI n, nI a, nI c, nI h, kk, fp, sp, ll, rr, li, ss, ld)) : wpX_term post (nI n, nI a, nI c, nI h, kk, fp, sp, ll, rr, li, ss, ld) k x y := by
  unfold wpX_term
  dsimp only
  refine pk_le 16 n (fun z => H0 (fun T => absurd T.1 (by omega))) (fun h16 => ?_)
  rcases pk_ix k (n := 4) (by decide) with hx | hx | ⟨κ, h4, e⟩
  · refine br_t hx (H0 (fun T => ?_))
    obtain ⟨_, κ, h4, e, _⟩ := T
    rw [e] at hx
    exact bi_nn (show κ < 2 ^ 31 by omega) hx
  · have nx : ¬ k < 0 := Int32.not_lt.mpr (Int32.le_trans (bi_0n (n := 4) (by decide)) hx)
    have n3 : ¬ k ≤ 3 := fun z => absurd (Int32.le_trans hx z) (by decide)
    refine br_f nx (br_f n3 (H0 (fun T => ?_)))
    obtain ⟨_, κ, h4, e, _⟩ := T
    rw [e, nI_leI (by decide) (by omega)] at hx
    omega
  · have T49 : (κ ≠ 0 → ∃ j, j < n ∧ x = nI j) → (κ = 2 → ∃ j, j < n ∧ y = nI j) → wX_term_49 post (nI κ) x y (nI n) (nI a) (nI c) (nI h) kk fp sp ll rr li ss ld := by
      intro hx hy
      unfold wX_term_49 wX_term_76
      rw [nI_clamp (show n < 2 ^ 31 by omega)]
      have i16 : vp_in (nI n) 16 := pk_in n 16 h16
      refine ⟨i16, nm_e (pk_eq κ 0 (fun e0 => ⟨i16, nm_e (pk_eq κ 2 (fun e2 => ?_) (fun e2 => ?_))⟩) (fun e0 => ⟨i16, nm_e (pk_eq κ 2 (fun e2 => ?_) (fun e2 => ?_))⟩))⟩
      · omega
      · exact xw_t95 h16 (H1 κ _ _ h16 h4 e hx hy (fun j hj => pk_un hj) (fun z => absurd e0 z) (fun j hj => pk_un hj) (fun z => absurd z e2))
      · exact xw_t95 h16 (H1 κ _ _ h16 h4 e hx hy (fun j hj => pk_un hj) (fun _ => pk_us) (fun j hj => pk_un hj) (fun _ => pk_us))
      · exact xw_t95 h16 (H1 κ _ _ h16 h4 e hx hy (fun j hj => pk_un hj) (fun _ => pk_us) (fun j hj => pk_un hj) (fun z => absurd z e2))
    have T34 : (κ ≠ 0 → ∃ j, j < n ∧ x = nI j) → wX_term_34 post (nI κ) x y (nI n) (nI a) (nI c) (nI h) kk fp sp ll rr li ss ld := by
      intro hx
      unfold wX_term_34
      refine pk_eq κ 2 (fun e2 => ?_) (fun e2 => T49 hx (fun z => absurd z e2))
      refine xw_isTerm hn (fun j hj ej => br_f (by decide) (T49 hx (fun _ => ⟨j, hj, ej⟩))) (fun z => br_t rfl (H0 (fun T => ?_)))
      obtain ⟨_, κ', h4', e', _, t2⟩ := T
      have ee := e.symm.trans e'
      rw [nI_eq (by omega) (by omega)] at ee
      exact z (t2 (by omega))
    rw [e]
    refine br_f (bi_nn (by omega)) (pk_le κ 3 (fun _ => ?_) (fun z => absurd z (by omega)))
    refine pk_eq κ 0 (fun e0 => T34 (fun z => absurd e0 z)) (fun e0 => ?_)
    refine xw_isTerm hn (fun j hj ej => br_f (by decide) (T34 (fun _ => ⟨j, hj, ej⟩))) (fun z => br_t rfl (H0 (fun T => ?_)))
    obtain ⟨_, κ', h4', e', t1, _⟩ := T
    have ee := e.symm.trans e'
    rw [nI_eq (by omega) (by omega)] at ee
    exact z (t1 (fun y => e0 (ee.trans y)))
theorem yw_t96 {post : Int32 → SY → Prop} {z0 : Int32} (h16 : n < 16) (H : post (nI n) (nI (n + 1), nI a, nI c, nI h, fm, 0, 0, kk, fp, upd sp n z0, ll, rr, li, ss, ob, po, mo, cl)) :
    wY_term_96 post z0 (nI n) (nI n) (nI a) (nI c) (nI h) fm kn cs kk fp sp ll rr li ss ob po mo cl := by
  unfold wY_term_96
  rw [nI_clamp (show n < 2 ^ 31 by omega)]
  exact ⟨pk_in n 16 h16, nm_e (nm_r (nI_1 n) H)⟩
theorem yw_term {post : Int32 → SY → Prop} {k x y : Int32} (hn : n ≤ 16)
    (H1 : ∀ κ fp' sp', n < 16 → κ < 4 → k = nI κ → (κ ≠ 0 → ∃ j, j < n ∧ x = nI j) → (κ = 2 → ∃ j, j < n ∧ y = nI j) → (∀ j, ¬ j = n → fp' j = fp j) → (κ ≠ 0 → fp' n = x) → (∀ j, ¬ j = n → sp' j = sp j) → (κ = 2 → sp' n = y) →
      post (nI n) (nI (n + 1), nI a, nI c, nI h, fm, 0, 0, upd kk n (nI κ), fp', sp', ll, rr, li, ss, ob, po, mo, cl))
    (H0 : ¬ te_T n k x y → post (-1) (nI n, nI a, nI c, nI h, fm, kn, cs, kk, fp, sp, ll, rr, li, ss, ob, po, mo, cl)) : wpY_term post (nI n, nI a, nI c, nI h, fm, kn, cs, kk, fp, sp, ll, rr, li, ss, ob, po, mo, cl) k x y := by
  unfold wpY_term
  dsimp only
  refine pk_eq n 16 (fun z => H0 (fun T => absurd T.1 (by omega))) (fun h16 => ?_)
  have h16 : n < 16 := by omega
  refine yw_in (m := 4) rfl (by decide) (fun κ h4 e => br_f (by decide) ?_) (fun z => br_t rfl (H0 (fun T => ?_)))
  · have T50 : (κ ≠ 0 → ∃ j, j < n ∧ x = nI j) → (κ = 2 → ∃ j, j < n ∧ y = nI j) → wY_term_50 post (nI κ) x y (nI n) (nI a) (nI c) (nI h) fm kn cs kk fp sp ll rr li ss ob po mo cl := by
      intro hx hy
      unfold wY_term_50 wY_term_77
      rw [nI_clamp (show n < 2 ^ 31 by omega)]
      have i16 : vp_in (nI n) 16 := pk_in n 16 h16
      refine ⟨i16, nm_e (pk_eq κ 0 (fun e0 => ⟨i16, nm_e (pk_eq κ 2 (fun e2 => ?_) (fun e2 => ?_))⟩) (fun e0 => ⟨i16, nm_e (pk_eq κ 2 (fun e2 => ?_) (fun e2 => ?_))⟩))⟩
      · omega
      · exact yw_t96 h16 (H1 κ _ _ h16 h4 e hx hy (fun j hj => pk_un hj) (fun z => absurd e0 z) (fun j hj => pk_un hj) (fun z => absurd z e2))
      · exact yw_t96 h16 (H1 κ _ _ h16 h4 e hx hy (fun j hj => pk_un hj) (fun _ => pk_us) (fun j hj => pk_un hj) (fun _ => pk_us))
      · exact yw_t96 h16 (H1 κ _ _ h16 h4 e hx hy (fun j hj => pk_un hj) (fun _ => pk_us) (fun j hj => pk_un hj) (fun z => absurd z e2))
    have T32 : (κ ≠ 0 → ∃ j, j < n ∧ x = nI j) → wY_term_32 post (nI κ) x y (nI n) (nI a) (nI c) (nI h) fm kn cs kk fp sp ll rr li ss ob po mo cl := by
      intro hx
      unfold wY_term_32
      refine pk_eq κ 2 (fun e2 => ?_) (fun e2 => T50 hx (fun z => absurd z e2))
      refine yw_within (show n < 2 ^ 31 by omega) (fun j hj ej => br_f (by decide) (T50 hx (fun _ => ⟨j, hj, ej⟩))) (fun z => br_t rfl (H0 (fun T => ?_)))
      obtain ⟨_, κ', h4', e', _, t2⟩ := T
      have ee := e.symm.trans e'
      rw [nI_eq (by omega) (by omega)] at ee
      exact z (t2 (by omega))
    rw [e]
    refine pk_eq κ 0 (fun e0 => T32 (fun z => absurd e0 z)) (fun e0 => ?_)
    refine yw_within (show n < 2 ^ 31 by omega) (fun j hj ej => br_f (by decide) (T32 (fun _ => ⟨j, hj, ej⟩))) (fun z => br_t rfl (H0 (fun T => ?_)))
    obtain ⟨_, κ', h4', e', t1, _⟩ := T
    have ee := e.symm.trans e'
    rw [nI_eq (by omega) (by omega)] at ee
    exact z (t1 (fun y => e0 (ee.trans y)))
  · obtain ⟨_, κ, h4, e, _⟩ := T
    exact z ⟨κ, h4, e⟩
theorem xw_atom {post : Int32 → SX → Prop} {x y : Int32} (hn : n ≤ 16) (ha : a ≤ 8)
    (H1 : ∀ t u, a < 8 → t < n → u < n → x = nI t → y = nI u → post (nI a) (nI n, nI (a + 1), nI c, nI h, kk, fp, sp, upd ll a x, upd rr a y, li, ss, ld))
    (H0 : ¬ (a < 8 ∧ (∃ t, t < n ∧ x = nI t) ∧ (∃ u, u < n ∧ y = nI u)) → post (-1) (nI n, nI a, nI c, nI h, kk, fp, sp, ll, rr, li, ss, ld)) : wpX_atom post (nI n, nI a, nI c, nI h, kk, fp, sp, ll, rr, li, ss, ld) x y := by
  unfold wpX_atom
  dsimp only
  refine pk_le 8 a (fun z => H0 (fun T => absurd T.1 (by omega))) (fun h8 => ?_)
  refine xw_isTerm hn (fun t ht et => br_f (by decide) ?_) (fun z => br_t rfl (H0 (fun T => z T.2.1)))
  refine xw_isTerm hn (fun u hu eu => br_f (by decide) ?_) (fun z => br_t rfl (H0 (fun T => z T.2.2)))
  rw [nI_clamp (show a < 2 ^ 31 by omega)]
  refine ⟨pk_in a 8 h8, nm_e ⟨pk_in a 8 h8, nm_e (nm_r (nI_1 a) ?_)⟩⟩
  rw [show nI (a + 1) - 1 = nI a from pk_sub (a := a + 1) (b := 1) (by omega)]
  exact H1 t u h8 ht hu et eu
theorem yw_atom {post : Int32 → SY → Prop} {x y : Int32} (hn : n ≤ 16) (ha : a ≤ 8)
    (H1 : ∀ t u, a < 8 → t < n → u < n → x = nI t → y = nI u → post (nI a) (nI n, nI (a + 1), nI c, nI h, fm, 0, 0, kk, fp, sp, upd ll a x, upd rr a y, li, ss, ob, po, mo, cl))
    (H0 : ¬ (a < 8 ∧ (∃ t, t < n ∧ x = nI t) ∧ (∃ u, u < n ∧ y = nI u)) → post (-1) (nI n, nI a, nI c, nI h, fm, kn, cs, kk, fp, sp, ll, rr, li, ss, ob, po, mo, cl)) : wpY_atom post (nI n, nI a, nI c, nI h, fm, kn, cs, kk, fp, sp, ll, rr, li, ss, ob, po, mo, cl) x y := by
  unfold wpY_atom
  dsimp only
  refine pk_eq a 8 (fun z => H0 (fun T => absurd T.1 (by omega))) (fun h8 => ?_)
  have h8 : a < 8 := by omega
  refine yw_within (show n < 2 ^ 31 by omega) (fun t ht et => br_f (by decide) ?_) (fun z => br_t rfl (H0 (fun T => z T.2.1)))
  refine yw_within (show n < 2 ^ 31 by omega) (fun u hu eu => br_f (by decide) ?_) (fun z => br_t rfl (H0 (fun T => z T.2.2)))
  rw [nI_clamp (show a < 2 ^ 31 by omega)]
  exact ⟨pk_in a 8 h8, nm_e ⟨pk_in a 8 h8, nm_e (nm_r (nI_1 a) (H1 t u h8 ht hu et eu))⟩⟩
/-- fits a clause -/
def cf_L (a : Nat) (x : Int32) : Prop := x = -1 ∨ ∃ l, l < 2 * a ∧ x = nI l
/-- what a call of clause asks -/
def cf_T (a c : Nat) (x y z : Int32) : Prop := c < 12 ∧ ¬ (x = -1 ∧ y = -1 ∧ z = -1) ∧ cf_L a x ∧ cf_L a y ∧ cf_L a z
theorem xw_clauseM {post : Int32 → SX → Prop} {x y z : Int32} (ha : a ≤ 8) (hc : c ≤ 12)
    (H1 : cf_T a c x y z → post (nI c) (nI n, nI a, nI (c + 1), nI h, kk, fp, sp, ll, rr, upd (upd (upd li (3 * c) x) (3 * c + 1) y) (3 * c + 2) z, ss, ld))
    (H0 : ¬ cf_T a c x y z → post (-1) (nI n, nI a, nI c, nI h, kk, fp, sp, ll, rr, li, ss, ld)) : wpX_clause post (nI n, nI a, nI c, nI h, kk, fp, sp, ll, rr, li, ss, ld) x y z := by
  have T28 : c < 12 → ¬ (x = -1 ∧ y = -1 ∧ z = -1) → wX_clause_28 post x y z (nI n) (nI a) (nI c) (nI h) kk fp sp ll rr li ss ld := by
    intro h12 nall
    unfold wX_clause_28
    refine xw_fits ha (fun hx => br_f (by decide) ?_) (fun hx => br_t rfl (H0 (fun T => hx T.2.2.1)))
    refine xw_fits ha (fun hy => br_f (by decide) ?_) (fun hy => br_t rfl (H0 (fun T => hy T.2.2.2.1)))
    refine xw_fits ha (fun hz => br_f (by decide) ?_) (fun hz => br_t rfl (H0 (fun T => hz T.2.2.2.2)))
    have e3 : nI c * 3 = nI (3 * c) := by
      have := pk_mul c 3
      rw [Nat.mul_comm 3 c]
      exact this
    refine nm_r e3 ?_
    have e1 : nI (3 * c) + 1 = nI (3 * c + 1) := nI_1 (3 * c)
    have e2 : nI (3 * c) + 2 = nI (3 * c + 2) := nI_add (3 * c) 2
    rw [e1, e2, nI_clamp (show 3 * c < 2 ^ 31 by omega), nI_clamp (show 3 * c + 1 < 2 ^ 31 by omega), nI_clamp (show 3 * c + 2 < 2 ^ 31 by omega)]
    refine ⟨pk_in (3 * c) 36 (by omega), nm_e ⟨pk_in (3 * c + 1) 36 (by omega), nm_e ⟨pk_in (3 * c + 2) 36 (by omega), nm_e (nm_r (nI_1 c) ?_)⟩⟩⟩
    rw [show nI (c + 1) - 1 = nI c from pk_sub (a := c + 1) (b := 1) (by omega)]
    exact H1 ⟨h12, nall, hx, hy, hz⟩
  unfold wpX_clause
  dsimp only
  refine pk_lt c 12 (fun h12 => ?_) (fun h12 => H0 (fun T => absurd T.1 (by omega)))
  exact br_c (fun e1 => br_c (fun e2 => br_c (fun e3 => H0 (fun T => T.2.1 ⟨e1, e2, e3⟩)) (fun e3 => T28 h12 (fun q => e3 q.2.2))) (fun e2 => T28 h12 (fun q => e2 q.2.1))) (fun e1 => T28 h12 (fun q => e1 q.1))
theorem yw_clauseM {post : Int32 → SY → Prop} {x y z : Int32} (ha : a ≤ 8) (hc : c ≤ 12)
    (H1 : cf_T a c x y z → post (nI c) (nI n, nI a, nI (c + 1), nI h, fm, 0, cs, kk, fp, sp, ll, rr, upd (upd (upd li (3 * c) x) (3 * c + 1) y) (3 * c + 2) z, ss, ob, po, mo, cl))
    (H0 : ¬ cf_T a c x y z → post (-1) (nI n, nI a, nI c, nI h, fm, kn, cs, kk, fp, sp, ll, rr, li, ss, ob, po, mo, cl)) : wpY_clause post (nI n, nI a, nI c, nI h, fm, kn, cs, kk, fp, sp, ll, rr, li, ss, ob, po, mo, cl) x y z := by
  have T67 : cf_T a c x y z → wY_clause_67 post x y z (nI n) (nI a) (nI c) (nI h) fm kn cs kk fp sp ll rr li ss ob po mo cl := by
    intro T
    have h12 := T.1
    have e3 : 3 * nI c = nI (3 * c) := pk_mul 3 c
    have e1 : nI (3 * c) + 1 = nI (3 * c + 1) := nI_1 (3 * c)
    have e2 : nI (3 * c) + 2 = nI (3 * c + 2) := nI_add (3 * c) 2
    unfold wY_clause_67
    rw [e3, e1, e2, nI_clamp (show 3 * c < 2 ^ 31 by omega), nI_clamp (show 3 * c + 1 < 2 ^ 31 by omega), nI_clamp (show 3 * c + 2 < 2 ^ 31 by omega)]
    exact ⟨pk_in (3 * c) 36 (by omega), nm_e ⟨pk_in (3 * c + 1) 36 (by omega), nm_e ⟨pk_in (3 * c + 2) 36 (by omega), nm_e (nm_r (nI_1 c) (H1 T))⟩⟩⟩
  have T26 : c < 12 → ¬ (x = -1 ∧ y = -1 ∧ z = -1) → wY_clause_26 post x y z (nI n) (nI a) (nI c) (nI h) fm kn cs kk fp sp ll rr li ss ob po mo cl := by
    intro h12 nall
    have T52 : cf_L a x → cf_L a y → wY_clause_52 post x y z (nI n) (nI a) (nI c) (nI h) fm kn cs kk fp sp ll rr li ss ob po mo cl := by
      intro hx hy
      unfold wY_clause_52
      refine br_c (fun e => T67 ⟨h12, nall, hx, hy, Or.inl e⟩) (fun e => ?_)
      exact yw_isLit ha (fun l hl el => br_f (by decide) (T67 ⟨h12, nall, hx, hy, Or.inr ⟨l, hl, el⟩⟩)) (fun q => br_t rfl (H0 (fun T => T.2.2.2.2.elim e q)))
    have T39 : cf_L a x → wY_clause_39 post x y z (nI n) (nI a) (nI c) (nI h) fm kn cs kk fp sp ll rr li ss ob po mo cl := by
      intro hx
      unfold wY_clause_39
      refine br_c (fun e => T52 hx (Or.inl e)) (fun e => ?_)
      exact yw_isLit ha (fun l hl el => br_f (by decide) (T52 hx (Or.inr ⟨l, hl, el⟩))) (fun q => br_t rfl (H0 (fun T => T.2.2.2.1.elim e q)))
    unfold wY_clause_26
    refine br_c (fun e => T39 (Or.inl e)) (fun e => ?_)
    exact yw_isLit ha (fun l hl el => br_f (by decide) (T39 (Or.inr ⟨l, hl, el⟩))) (fun q => br_t rfl (H0 (fun T => T.2.2.1.elim e q)))
  unfold wpY_clause
  dsimp only
  refine pk_eq c 12 (fun h12 => H0 (fun T => absurd T.1 (by omega))) (fun h12 => ?_)
  have h12 : c < 12 := by omega
  exact br_c (fun e1 => br_c (fun e2 => br_c (fun e3 => H0 (fun T => T.2.1 ⟨e1, e2, e3⟩)) (fun e3 => T26 h12 (fun q => e3 q.2.2))) (fun e2 => T26 h12 (fun q => e2 q.2.1))) (fun e1 => T26 h12 (fun q => e1 q.1))
theorem xw_push {post : Int32 → SX → Prop} {x : Int32} (ha : a ≤ 8) (hh : h ≤ 8)
    (H1 : ∀ l, h < 8 → l < 2 * a → x = nI l → post (nI (h + 1)) (nI n, nI a, nI c, nI (h + 1), kk, fp, sp, ll, rr, li, upd ss h x, ld))
    (H0 : ¬ (h < 8 ∧ ∃ l, l < 2 * a ∧ x = nI l) → post (-1) (nI n, nI a, nI c, nI h, kk, fp, sp, ll, rr, li, ss, ld)) : wpX_push post (nI n, nI a, nI c, nI h, kk, fp, sp, ll, rr, li, ss, ld) x := by
  unfold wpX_push
  dsimp only
  refine pk_le 8 h (fun z => H0 (fun T => absurd T.1 (by omega))) (fun h8 => ?_)
  refine xw_isLit ha (fun l hl el => br_f (by decide) ?_) (fun z => br_t rfl (H0 (fun T => z T.2)))
  rw [nI_clamp (show h < 2 ^ 31 by omega)]
  exact ⟨pk_in h 8 h8, nm_e (nm_r (nI_1 h) (H1 l h8 hl el))⟩
theorem yw_push {post : Int32 → SY → Prop} {x : Int32} (ha : a ≤ 8) (hh : h ≤ 8)
    (H1 : ∀ l, h < 8 → l < 2 * a → x = nI l → post (nI (h + 1)) (nI n, nI a, nI c, nI (h + 1), fm, 0, cs, kk, fp, sp, ll, rr, li, upd ss h x, ob, po, mo, cl))
    (H0 : ¬ (h < 8 ∧ ∃ l, l < 2 * a ∧ x = nI l) → post (-1) (nI n, nI a, nI c, nI h, fm, kn, cs, kk, fp, sp, ll, rr, li, ss, ob, po, mo, cl)) : wpY_push post (nI n, nI a, nI c, nI h, fm, kn, cs, kk, fp, sp, ll, rr, li, ss, ob, po, mo, cl) x := by
  unfold wpY_push
  dsimp only
  refine pk_eq h 8 (fun z => H0 (fun T => absurd T.1 (by omega))) (fun h8 => ?_)
  have h8 : h < 8 := by omega
  refine yw_isLit ha (fun l hl el => br_f (by decide) (nm_r (nI_1 h) ?_)) (fun z => br_t rfl (H0 (fun T => z T.2)))
  rw [nI_clamp (show h < 2 ^ 31 by omega)]
  exact ⟨pk_in h 8 h8, nm_e (H1 l h8 hl el)⟩
theorem xw_pop {post : Int32 → SX → Prop} (hh : h ≤ 8) (H1 : 0 < h → post (ss (h - 1)) (nI n, nI a, nI c, nI (h - 1), kk, fp, sp, ll, rr, li, ss, ld)) (H0 : h = 0 → post (-1) (nI n, nI a, nI c, nI h, kk, fp, sp, ll, rr, li, ss, ld)) : wpX_pop post (nI n, nI a, nI c, nI h, kk, fp, sp, ll, rr, li, ss, ld) := by
  unfold wpX_pop
  dsimp only
  refine pk_lt 0 h (fun z => ?_) (fun z => H0 (by omega))
  have e : nI h - 1 = nI (h - 1) := pk_sub (b := 1) z
  refine nm_r e ?_
  rw [nI_clamp (show h - 1 < 2 ^ 31 by omega)]
  exact ⟨pk_in (h - 1) 8 (by omega), H1 z⟩
theorem yw_pop {post : Int32 → SY → Prop} (hh : h ≤ 8) (H1 : 0 < h → post (ss (h - 1)) (nI n, nI a, nI c, nI (h - 1), fm, 0, cs, kk, fp, sp, ll, rr, li, ss, ob, po, mo, cl)) (H0 : h = 0 → post (-1) (nI n, nI a, nI c, nI h, fm, kn, cs, kk, fp, sp, ll, rr, li, ss, ob, po, mo, cl)) :
    wpY_pop post (nI n, nI a, nI c, nI h, fm, kn, cs, kk, fp, sp, ll, rr, li, ss, ob, po, mo, cl) := by
  unfold wpY_pop
  dsimp only
  refine pk_eq h 0 (fun z => H0 z) (fun z => ?_)
  have z : 0 < h := by omega
  have e : nI h - 1 = nI (h - 1) := pk_sub (b := 1) z
  rw [e, nI_clamp (show h - 1 < 2 ^ 31 by omega)]
  exact nm_e ⟨pk_in (h - 1) 8 (by omega), H1 z⟩
end
end
section
section
/-- the relation: what both sides keep alike, and the reference's caches right where they say so -/
def i_Rel (k : Nat) (u : SX) (v : SY) : Prop :=
  ∃ (n a c h : Nat) (K P Q Lf Rt St : Nat → Nat) (kk fp sp fi se ll rr li ss ld : Nat → Int32) (fm kn cs : Int32) (ob po mo cl : Nat → Int32),
    u = (nI n, nI a, nI c, nI h, kk, fp, sp, ll, rr, li, ss, ld) ∧ v = (nI n, nI a, nI c, nI h, fm, kn, cs, kk, fi, se, ll, rr, li, ss, ob, po, mo, cl) ∧
    st_I n a c h K P Q Lf Rt St kk fp sp ll rr li ss ∧ st_I n a c h K P Q Lf Rt St kk fi se ll rr li ss ∧
    (cs = 0 ∨ (cs = 1 ∧ cl_C n K P Q a Lf Rt po cl)) ∧ (kn = 0 ∨ (kn = 1 ∧ kn_C (mo_M n K P Q a Lf Rt c li h St) (2 ^ a) fm mo))
theorem re_mk {k n a c h : Nat} {K P Q Lf Rt St : Nat → Nat} {kk fp sp fi se ll rr li ss ld : Nat → Int32} {fm kn cs : Int32} {ob po mo cl : Nat → Int32}
    (I1 : st_I n a c h K P Q Lf Rt St kk fp sp ll rr li ss) (I2 : st_I n a c h K P Q Lf Rt St kk fi se ll rr li ss)
    (HC : cs = 0 ∨ (cs = 1 ∧ cl_C n K P Q a Lf Rt po cl)) (HK : kn = 0 ∨ (kn = 1 ∧ kn_C (mo_M n K P Q a Lf Rt c li h St) (2 ^ a) fm mo)) :
    i_Rel k (nI n, nI a, nI c, nI h, kk, fp, sp, ll, rr, li, ss, ld) (nI n, nI a, nI c, nI h, fm, kn, cs, kk, fi, se, ll, rr, li, ss, ob, po, mo, cl) :=
  ⟨n, a, c, h, K, P, Q, Lf, Rt, St, kk, fp, sp, fi, se, ll, rr, li, ss, ld, fm, kn, cs, ob, po, mo, cl, rfl, rfl, I1, I2, HC, HK⟩
theorem i_up {k : Nat} {u : SX} {v : SY} (h : i_Rel k u v) : i_Rel (k + 4) u v := h
theorem i_vc0 : wpX_init (fun u => wpY_init (fun v => i_Rel 0 u v)) := by
  unfold wpX_init wpY_init
  exact re_mk (n := 0) (a := 0) (c := 0) (h := 0) (K := fun _ => 0) (P := fun _ => 0) (Q := fun _ => 0) (Lf := fun _ => 0) (Rt := fun _ => 0) (St := fun _ => 0) (st_0 _ _ _ _ _ _ _ _ _ _ _ _ _) (st_0 _ _ _ _ _ _ _ _ _ _ _ _ _) (Or.inl rfl) (Or.inl rfl)
theorem i_vc_term {k : Nat} {u : SX} {v : SY} (I : i_Rel k u v) (hk : k + 4 ≤ 2048) (v1 : Int32) (v2 : Int32) (v3 : Int32) : wpX_term (fun r u' => wpY_term (fun r' v' => r' = r ∧ i_Rel (k + 4) u' v') v v1 v2 v3) u v1 v2 v3 := by
  obtain ⟨n, a, c, h, K, P, Q, Lf, Rt, St, kk, fp, sp, fi, se, ll, rr, li, ss, ld, fm, kn, cs, ob, po, mo, cl, rfl, rfl, I1, I2, HC, HK⟩ := I
  have hn := st_n I1
  refine xw_term hn (fun κ fp' sp' h16 h4 e hx hy f1 f2 s1 s2 => ?_) (fun nT => ?_)
  · refine yw_term hn (fun κ' fi' se' _ h4' e' _ _ g1 g2 q1 q2 => ?_) (fun nT => absurd ⟨h16, κ, h4, e, hx, hy⟩ nT)
    have ee := e.symm.trans e'
    rw [nI_eq (by omega) (by omega)] at ee
    rw [← ee] at g2 q2
    rw [← ee]
    have pa : ∃ pa : Nat, κ ≠ 0 → (pa < n ∧ v2 = nI pa) := by
      by_cases z : κ = 0
      · exact ⟨0, fun y => absurd z y⟩
      · obtain ⟨j, hj⟩ := hx z
        exact ⟨j, fun _ => hj⟩
    have pb : ∃ pb : Nat, κ = 2 → (pb < n ∧ v3 = nI pb) := by
      by_cases z : κ = 2
      · obtain ⟨j, hj⟩ := hy z
        exact ⟨j, fun _ => hj⟩
      · exact ⟨0, fun y => absurd y z⟩
    obtain ⟨pa, hpa⟩ := pa
    obtain ⟨pb, hpb⟩ := pb
    refine ⟨rfl, re_mk (st_term I1 h16 h4 (fun z => (hpa z).1) (fun z => (hpb z).1) f1 (fun z => ?_) s1 (fun z => ?_)) (st_term I2 h16 h4 (fun z => (hpa z).1) (fun z => (hpb z).1) g1 (fun z => ?_) q1 (fun z => ?_)) (Or.inl rfl) (Or.inl rfl)⟩
    · rw [f2 z]; exact (hpa z).2
    · rw [s2 z]; exact (hpb z).2
    · rw [g2 z]; exact (hpa z).2
    · rw [q2 z]; exact (hpb z).2
  · refine yw_term hn (fun κ fi' se' h16 h4 e hx hy _ _ _ _ => absurd ⟨h16, κ, h4, e, hx, hy⟩ nT) (fun _ => ⟨rfl, re_mk I1 I2 HC HK⟩)
theorem i_vc_atom {k : Nat} {u : SX} {v : SY} (I : i_Rel k u v) (hk : k + 4 ≤ 2048) (v1 : Int32) (v2 : Int32) : wpX_atom (fun r u' => wpY_atom (fun r' v' => r' = r ∧ i_Rel (k + 4) u' v') v v1 v2) u v1 v2 := by
  obtain ⟨n, a, c, h, K, P, Q, Lf, Rt, St, kk, fp, sp, fi, se, ll, rr, li, ss, ld, fm, kn, cs, ob, po, mo, cl, rfl, rfl, I1, I2, HC, HK⟩ := I
  have hn := st_n I1
  have ha := st_a I1
  refine xw_atom hn ha (fun t u h8 ht hu et eu => ?_) (fun nT => ?_)
  · refine yw_atom hn ha (fun _ _ _ _ _ _ _ => ?_) (fun nT => absurd ⟨h8, ⟨t, ht, et⟩, ⟨u, hu, eu⟩⟩ nT)
    rw [et, eu]
    exact ⟨rfl, re_mk (st_atom I1 h8 ht hu) (st_atom I2 h8 ht hu) (Or.inl rfl) (Or.inl rfl)⟩
  · exact yw_atom hn ha (fun t u h8 ht hu et eu => absurd ⟨h8, ⟨t, ht, et⟩, ⟨u, hu, eu⟩⟩ nT) (fun _ => ⟨rfl, re_mk I1 I2 HC HK⟩)
theorem i_vc_clause {k : Nat} {u : SX} {v : SY} (I : i_Rel k u v) (hk : k + 4 ≤ 2048) (v1 : Int32) (v2 : Int32) (v3 : Int32) : wpX_clause (fun r u' => wpY_clause (fun r' v' => r' = r ∧ i_Rel (k + 4) u' v') v v1 v2 v3) u v1 v2 v3 := by
  obtain ⟨n, a, c, h, K, P, Q, Lf, Rt, St, kk, fp, sp, fi, se, ll, rr, li, ss, ld, fm, kn, cs, ob, po, mo, cl, rfl, rfl, I1, I2, HC, HK⟩ := I
  have ha := st_a I1
  have hc := st_c I1
  refine xw_clauseM ha hc (fun T => ?_) (fun nT => ?_)
  · refine yw_clauseM ha hc (fun _ => ⟨rfl, re_mk (st_clause I1 T.1 T.2.2.1 T.2.2.2.1 T.2.2.2.2) (st_clause I2 T.1 T.2.2.1 T.2.2.2.1 T.2.2.2.2) HC (Or.inl rfl)⟩) (fun nT => absurd T nT)
  · exact yw_clauseM ha hc (fun T => absurd T nT) (fun _ => ⟨rfl, re_mk I1 I2 HC HK⟩)
theorem i_vc_push {k : Nat} {u : SX} {v : SY} (I : i_Rel k u v) (hk : k + 4 ≤ 2048) (v1 : Int32) : wpX_push (fun r u' => wpY_push (fun r' v' => r' = r ∧ i_Rel (k + 4) u' v') v v1) u v1 := by
  obtain ⟨n, a, c, h, K, P, Q, Lf, Rt, St, kk, fp, sp, fi, se, ll, rr, li, ss, ld, fm, kn, cs, ob, po, mo, cl, rfl, rfl, I1, I2, HC, HK⟩ := I
  have ha := st_a I1
  have hh := st_h I1
  refine xw_push ha hh (fun l h8 hl el => ?_) (fun nT => ?_)
  · refine yw_push ha hh (fun _ _ _ _ => ?_) (fun nT => absurd ⟨h8, l, hl, el⟩ nT)
    rw [el]
    exact ⟨rfl, re_mk (st_push I1 h8 hl) (st_push I2 h8 hl) HC (Or.inl rfl)⟩
  · exact yw_push ha hh (fun l h8 hl el => absurd ⟨h8, l, hl, el⟩ nT) (fun _ => ⟨rfl, re_mk I1 I2 HC HK⟩)
theorem i_vc_pop {k : Nat} {u : SX} {v : SY} (I : i_Rel k u v) (hk : k + 4 ≤ 2048) : wpX_pop (fun r u' => wpY_pop (fun r' v' => r' = r ∧ i_Rel (k + 4) u' v') v) u := by
  obtain ⟨n, a, c, h, K, P, Q, Lf, Rt, St, kk, fp, sp, fi, se, ll, rr, li, ss, ld, fm, kn, cs, ob, po, mo, cl, rfl, rfl, I1, I2, HC, HK⟩ := I
  have hh := st_h I1
  refine xw_pop hh (fun z => ?_) (fun z => ?_)
  · exact yw_pop hh (fun _ => ⟨rfl, re_mk (st_low I1 (Nat.le_refl c) (Nat.sub_le h 1)) (st_low I2 (Nat.le_refl c) (Nat.sub_le h 1)) HC (Or.inl rfl)⟩) (fun y => absurd y (by omega))
  · exact yw_pop hh (fun y => absurd y (by omega)) (fun _ => ⟨rfl, re_mk I1 I2 HC HK⟩)
theorem i_vc_clear {k : Nat} {u : SX} {v : SY} (I : i_Rel k u v) (hk : k + 4 ≤ 2048) (v1 : Int32) : wpX_clear (fun r u' => wpY_clear (fun r' v' => r' = r ∧ i_Rel (k + 4) u' v') v v1) u v1 := by
  obtain ⟨n, a, c, h, K, P, Q, Lf, Rt, St, kk, fp, sp, fi, se, ll, rr, li, ss, ld, fm, kn, cs, ob, po, mo, cl, rfl, rfl, I1, I2, HC, HK⟩ := I
  unfold wpX_clear wpY_clear
  dsimp only
  refine br_c (fun e => ?_) (fun e => br_c (fun e1 => ?_) (fun e1 => br_c (fun e2 => ?_) (fun e2 => ?_)))
  · refine yw_in (m := 3) rfl (by decide) (fun _ _ _ => br_f (by decide) ?_) (fun z => absurd ⟨0, by decide, e⟩ z)
    rw [e]
    refine br_t rfl ?_
    unfold wY_clear_37 wY_clear_48 wY_clear_58
    refine br_f (by decide) (br_f (by decide) (br_t rfl ?_))
    exact ⟨rfl, re_mk (n := 0) (a := 0) (c := 0) (h := 0) (st_0 _ _ _ _ _ _ _ K P Q Lf Rt St) (st_0 _ _ _ _ _ _ _ K P Q Lf Rt St) (Or.inl rfl) (Or.inl rfl)⟩
  · refine yw_in (m := 3) rfl (by decide) (fun _ _ _ => br_f (by decide) ?_) (fun z => absurd ⟨1, by decide, e1⟩ z)
    rw [e1]
    refine br_f (by decide) (br_t rfl ?_)
    unfold wY_clear_37 wY_clear_48 wY_clear_58
    refine br_f (by decide) (br_t rfl (br_f (by decide) ?_))
    exact ⟨rfl, re_mk (c := 0) (st_low I1 (Nat.zero_le c) (Nat.le_refl h)) (st_low I2 (Nat.zero_le c) (Nat.le_refl h)) HC (Or.inl rfl)⟩
  · refine yw_in (m := 3) rfl (by decide) (fun _ _ _ => br_f (by decide) ?_) (fun z => absurd ⟨2, by decide, e2⟩ z)
    rw [e2]
    refine br_f (by decide) (br_f (by decide) ?_)
    unfold wY_clear_37 wY_clear_48 wY_clear_58
    refine br_t rfl (br_f (by decide) (br_f (by decide) ?_))
    exact ⟨rfl, re_mk (h := 0) (st_low I1 (Nat.le_refl c) (Nat.zero_le h)) (st_low I2 (Nat.le_refl c) (Nat.zero_le h)) HC (Or.inl rfl)⟩
  · refine yw_in (m := 3) rfl (by decide) (fun j hj ej => ?_) (fun z => br_t rfl ⟨rfl, re_mk I1 I2 HC HK⟩)
    have hj : j = 0 ∨ j = 1 ∨ j = 2 := by omega
    rcases hj with z | z | z
    · rw [z] at ej; exact absurd ej e
    · rw [z] at ej; exact absurd ej e1
    · rw [z] at ej; exact absurd ej e2
theorem i_vc_models {k : Nat} {u : SX} {v : SY} (I : i_Rel k u v) (hk : k + 4 ≤ 2048) : wpX_models (fun r u' => wpY_models (fun r' v' => r' = r ∧ i_Rel (k + 4) u' v') v) u := by
  obtain ⟨n, a, c, h, K, P, Q, Lf, Rt, St, kk, fp, sp, fi, se, ll, rr, li, ss, ld, fm, kn, cs, ob, po, mo, cl, rfl, rfl, I1, I2, HC, HK⟩ := I
  exact xw_models I1 (fun ld' => yw_models I2 HC HK (fun fm' ob' po' mo' cl' hc hk => ⟨rfl, re_mk I1 I2 (Or.inr ⟨rfl, hc⟩) (Or.inr ⟨rfl, hk⟩)⟩))
theorem i_vc_model {k : Nat} {u : SX} {v : SY} (I : i_Rel k u v) (hk : k + 4 ≤ 2048) (v1 : Int32) : wpX_model (fun r u' => wpY_model (fun r' v' => r' = r ∧ i_Rel (k + 4) u' v') v v1) u v1 := by
  obtain ⟨n, a, c, h, K, P, Q, Lf, Rt, St, kk, fp, sp, fi, se, ll, rr, li, ss, ld, fm, kn, cs, ob, po, mo, cl, rfl, rfl, I1, I2, HC, HK⟩ := I
  have p8 := bi_p8 (st_a I1)
  refine xw_kth I1 (fun ld' w hw mw e => ?_) (fun ld' nw => ?_)
  · refine yw_kth I2 HC HK (fun fm' ob' po' mo' cl' w' hc hk hw' mw' e' => ?_) (fun fm' ob' po' mo' cl' hc hk nw => absurd e (nw w hw mw))
    have b1 := pc_le (mo_M n K P Q a Lf Rt c li h St) w
    have b2 := pc_le (mo_M n K P Q a Lf Rt c li h St) w'
    have ee := e'.symm.trans e
    rw [nI_eq (by omega) (by omega)] at ee
    exact ⟨congrArg nI (pc_inj _ mw' mw ee), re_mk I1 I2 (Or.inr ⟨rfl, hc⟩) (Or.inr ⟨rfl, hk⟩)⟩
  · exact yw_kth I2 HC HK (fun fm' ob' po' mo' cl' w' hc hk hw' mw' e' => absurd e' (nw w' hw' mw')) (fun fm' ob' po' mo' cl' hc hk _ => ⟨rfl, re_mk I1 I2 (Or.inr ⟨rfl, hc⟩) (Or.inr ⟨rfl, hk⟩)⟩)
theorem i_vc_holds {k : Nat} {u : SX} {v : SY} (I : i_Rel k u v) (hk : k + 4 ≤ 2048) (v1 : Int32) : wpX_holds (fun r u' => wpY_holds (fun r' v' => r' = r ∧ i_Rel (k + 4) u' v') v v1) u v1 := by
  obtain ⟨n, a, c, h, K, P, Q, Lf, Rt, St, kk, fp, sp, fi, se, ll, rr, li, ss, ld, fm, kn, cs, ob, po, mo, cl, rfl, rfl, I1, I2, HC, HK⟩ := I
  have ha := st_a I1
  refine xw_holds I1 (fun ld' l hl e => ?_) (fun nl => ?_)
  · refine yw_holds I2 HC HK (fun fm' ob' po' mo' cl' l' hc hk hl' e' => ?_) (fun nl => absurd ⟨l, hl, e⟩ nl)
    have ee := e'.symm.trans e
    rw [nI_eq (by omega) (by omega)] at ee
    rw [ee]
    exact ⟨rfl, re_mk I1 I2 (Or.inr ⟨rfl, hc⟩) (Or.inr ⟨rfl, hk⟩)⟩
  · exact yw_holds I2 HC HK (fun fm' ob' po' mo' cl' l' hc hk hl' e' => absurd ⟨l', hl', e'⟩ nl) (fun _ => ⟨rfl, re_mk I1 I2 HC HK⟩)
theorem i_vc_one {k : Nat} {u : SX} {v : SY} (I : i_Rel k u v) (hk : k + 4 ≤ 2048) (v1 : Int32) (v2 : Int32) : wpX_one (fun r u' => wpY_one (fun r' v' => r' = r ∧ i_Rel (k + 4) u' v') v v1 v2) u v1 v2 := by
  obtain ⟨n, a, c, h, K, P, Q, Lf, Rt, St, kk, fp, sp, fi, se, ll, rr, li, ss, ld, fm, kn, cs, ob, po, mo, cl, rfl, rfl, I1, I2, HC, HK⟩ := I
  have hn := st_n I1
  refine xw_one I1 (fun ld' t u ht hu e1 e2 => ?_) (fun nl => ?_)
  · refine yw_one I2 HC HK (fun fm' ob' po' mo' cl' t' u' hc hk ht' hu' e1' e2' => ?_) (fun nl => absurd ⟨⟨t, ht, e1⟩, ⟨u, hu, e2⟩⟩ nl)
    have ee1 := e1'.symm.trans e1
    rw [nI_eq (by omega) (by omega)] at ee1
    have ee2 := e2'.symm.trans e2
    rw [nI_eq (by omega) (by omega)] at ee2
    rw [ee1, ee2]
    exact ⟨rfl, re_mk I1 I2 (Or.inr ⟨rfl, hc⟩) (Or.inr ⟨rfl, hk⟩)⟩
  · exact yw_one I2 HC HK (fun fm' ob' po' mo' cl' t u hc hk ht hu e1 e2 => absurd ⟨⟨t, ht, e1⟩, ⟨u, hu, e2⟩⟩ nl) (fun _ => ⟨rfl, re_mk I1 I2 HC HK⟩)
theorem i_vc_classes {k : Nat} {u : SX} {v : SY} (I : i_Rel k u v) (hk : k + 4 ≤ 2048) (v1 : Int32) : wpX_classes (fun r u' => wpY_classes (fun r' v' => r' = r ∧ i_Rel (k + 4) u' v') v v1) u v1 := by
  obtain ⟨n, a, c, h, K, P, Q, Lf, Rt, St, kk, fp, sp, fi, se, ll, rr, li, ss, ld, fm, kn, cs, ob, po, mo, cl, rfl, rfl, I1, I2, HC, HK⟩ := I
  refine xw_classes I1 (fun ld' b hb => ?_) (fun n0 n1 => ?_)
  · refine yw_classes I2 HC HK (fun fm' ob' po' mo' cl' b' hc hk hb' => ?_) (fun n0 n1 => ?_)
    · have eb : b' = b := by
        rcases hb with ⟨x, y⟩ | ⟨x, y⟩
        · rcases hb' with ⟨x', y'⟩ | ⟨x', y'⟩
          · rw [x, x']
          · rw [y] at y'; exact absurd y' (by decide)
        · rcases hb' with ⟨x', y'⟩ | ⟨x', y'⟩
          · rw [y] at y'; exact absurd y' (by decide)
          · rw [x, x']
      rw [eb]
      exact ⟨rfl, re_mk I1 I2 (Or.inr ⟨rfl, hc⟩) (Or.inr ⟨rfl, hk⟩)⟩
    · rcases hb with ⟨_, y⟩ | ⟨_, y⟩
      · exact absurd y n0
      · exact absurd y n1
  · refine yw_classes I2 HC HK (fun fm' ob' po' mo' cl' b' hc hk hb => ?_) (fun _ _ => ⟨rfl, re_mk I1 I2 HC HK⟩)
    rcases hb with ⟨_, y⟩ | ⟨_, y⟩
    · exact absurd y n0
    · exact absurd y n1
theorem i_vc_least {k : Nat} {u : SX} {v : SY} (I : i_Rel k u v) (hk : k + 4 ≤ 2048) (v1 : Int32) : wpX_least (fun r u' => wpY_least (fun r' v' => r' = r ∧ i_Rel (k + 4) u' v') v v1) u v1 := by
  obtain ⟨n, a, c, h, K, P, Q, Lf, Rt, St, kk, fp, sp, fi, se, ll, rr, li, ss, ld, fm, kn, cs, ob, po, mo, cl, rfl, rfl, I1, I2, HC, HK⟩ := I
  have hn := st_n I1
  refine xw_least I1 (fun ld' t L ht e X => ?_) (fun nl => ?_)
  · refine yw_least I2 HC (fun ob' po' cl' t' L' hc ht' e' X' => ?_) (fun nl => absurd ⟨t, ht, e⟩ nl)
    have ee := e'.symm.trans e
    rw [nI_eq (by omega) (by omega)] at ee
    rw [ee]
    exact ⟨congrArg nI (cc_uniq X' X t ht), re_mk I1 I2 (Or.inr ⟨rfl, hc⟩) HK⟩
  · exact yw_least I2 HC (fun ob' po' cl' t' L' hc ht' e' X' => absurd ⟨t', ht', e'⟩ nl) (fun _ => ⟨rfl, re_mk I1 I2 HC HK⟩)
theorem i_vc_why {k : Nat} {u : SX} {v : SY} (I : i_Rel k u v) (hk : k + 4 ≤ 2048) (v1 : Int32) (v2 : Int32) : wpX_why (fun r u' => wpY_why (fun r' v' => r' = r ∧ i_Rel (k + 4) u' v') v v1 v2) u v1 v2 := by
  obtain ⟨n, a, c, h, K, P, Q, Lf, Rt, St, kk, fp, sp, fi, se, ll, rr, li, ss, ld, fm, kn, cs, ob, po, mo, cl, rfl, rfl, I1, I2, HC, HK⟩ := I
  have hn := st_n I1
  refine xw_why I1 (fun ld' t u b ht hu e1 e2 A => ?_) (fun nl => ?_)
  · refine yw_why I2 HC (fun ob' po' cl' t' u' b' hc ht' hu' e1' e2' A' => ?_) (fun nl => absurd ⟨⟨t, ht, e1⟩, ⟨u, hu, e2⟩⟩ nl)
    have ee1 := e1'.symm.trans e1
    rw [nI_eq (by omega) (by omega)] at ee1
    have ee2 := e2'.symm.trans e2
    rw [nI_eq (by omega) (by omega)] at ee2
    rw [ee1, ee2] at A'
    exact ⟨am_u (wh_eq (st_h I1) St (fun s => cc_F n K P Q a Lf Rt s t u) A') A, re_mk I1 I2 (Or.inr ⟨rfl, hc⟩) HK⟩
  · exact yw_why I2 HC (fun ob' po' cl' t u b hc ht hu e1 e2 _ => absurd ⟨⟨t, ht, e1⟩, ⟨u, hu, e2⟩⟩ nl) (fun _ => ⟨rfl, re_mk I1 I2 HC HK⟩)
theorem i_vc_blame {k : Nat} {u : SX} {v : SY} (I : i_Rel k u v) (hk : k + 4 ≤ 2048) : wpX_blame (fun r u' => wpY_blame (fun r' v' => r' = r ∧ i_Rel (k + 4) u' v') v) u := by
  obtain ⟨n, a, c, h, K, P, Q, Lf, Rt, St, kk, fp, sp, fi, se, ll, rr, li, ss, ld, fm, kn, cs, ob, po, mo, cl, rfl, rfl, I1, I2, HC, HK⟩ := I
  exact xw_blame I1 (fun ld' b A => yw_blame I2 HC HK (fun fm' ob' po' mo' cl' b' hc hk A' => ⟨am_u A' A, re_mk I1 I2 (Or.inr ⟨rfl, hc⟩) (Or.inr ⟨rfl, hk⟩)⟩))
end
end
