section
/-- the walk over the models, by their numbers: the state at k -/
def yk_I {σ : Type} (M : Nat → Prop) (g : Nat → σ → σ) (s0 : σ) (k : Nat) (s : σ) : Prop := ∀ w, pc_n M w = k → s = xf_s M g s0 w
theorem yk_0 {σ : Type} (M : Nat → Prop) (g : Nat → σ → σ) (s0 : σ) : yk_I M g s0 0 s0 :=
  fun w h => xf_eq M g s0 (w := 0) (w' := w) h.symm
theorem yk_s {σ : Type} {M : Nat → Prop} {g : Nat → σ → σ} {s0 : σ} {k : Nat} {s s' : σ} (h : yk_I M g s0 k s) {w : Nat} (hw : M w) (e : pc_n M w = k) (es : s' = g w s) : yk_I M g s0 (k + 1) s' := by
  intro v hv
  have e1 : pc_n M (w + 1) = pc_n M v := by rw [pc_t hw, e, hv]
  rw [← xf_eq M g s0 e1, xf_t hw, es, h w e]
/-- the models in their order -/
def kn_C (M : Nat → Prop) (N : Nat) (f_models : Int32) (mo : Nat → Int32) : Prop :=
  f_models = nI (pc_n M N) ∧ ∀ w, w < N → M w → mo (pc_n M w) = nI w
theorem kn_at {M : Nat → Prop} {N : Nat} {f : Int32} {mo : Nat → Int32} (h : kn_C M N f mo) {k : Nat} (hk : k < pc_n M N) : ∃ w, w < N ∧ M w ∧ pc_n M w = k ∧ mo k = nI w := by
  obtain ⟨w, h1, h2, h3⟩ := pc_ex M N hk
  exact ⟨w, h1, h2, h3, by rw [← h3]; exact h.2 w h1 h2⟩
/-- what the ways give: possible or not, and the leaders of each -/
def cl_W (n : Nat) (K P Q : Nat → Nat) (a : Nat) (Lf Rt : Nat → Nat) (po cl : Nat → Int32) (w : Nat) : Prop :=
  (mo_P n K P Q a Lf Rt w → po w = 1) ∧ (¬ mo_P n K P Q a Lf Rt w → po w = 0) ∧
  ∃ L, cc_Ex n K P Q (cc_E a Lf Rt w) L ∧ ∀ t, t < n → cl (16 * w + t) = nI (L t)
def cl_C (n : Nat) (K P Q : Nat → Nat) (a : Nat) (Lf Rt : Nat → Nat) (po cl : Nat → Int32) : Prop :=
  ∀ w, w < 2 ^ a → cl_W n K P Q a Lf Rt po cl w
/-- of two terms by exact leaders -/
theorem ex_iff {n : Nat} {K P Q : Nat → Nat} {a : Nat} {Lf Rt : Nat → Nat} {w : Nat} {L : Nat → Nat} (X : cc_Ex n K P Q (cc_E a Lf Rt w) L) {t u : Nat} (ht : t < n) (hu : u < n) (hn : n ≤ 16) : nI (L t) = nI (L u) ↔ cc_F n K P Q a Lf Rt w t u := by
  have i1 := (X.1 t ht).1
  have i2 := (X.1 u hu).1
  rw [nI_eq (by omega) (by omega)]
  exact X.2 t u ht hu
theorem bt_bd {M : Nat → Prop} {b : Bool} {N : Nat → Nat} {n : Nat} (hN : ∀ w, N w ≤ n) : ∀ (w c : Nat), xf_s M (fun w s => bt_O b (N w) s) none w = some c → c ≤ n := by
  intro w
  induction w with
  | zero =>
    intro c h
    have h' : (none : Option Nat) = some c := h
    cases h'
  | succ w ih =>
    intro c h
    by_cases x : M w
    · rw [xf_t x] at h
      have hw := hN w
      cases e : xf_s M (fun w s => bt_O b (N w) s) none w with
      | none =>
        rw [e] at h
        have h' : some (N w) = some c := h
        injection h' with h'
        omega
      | some d =>
        have hd := ih d e
        rw [e] at h
        have h' : (if b = true then (if N w < d then some (N w) else some d) else (if d < N w then some (N w) else some d)) = some c := h
        have o : (some (N w) = some c) ∨ (some d = some c) := by
          by_cases y : b = true
          · rw [if_pos y] at h'
            by_cases z : N w < d
            · rw [if_pos z] at h'; exact Or.inl h'
            · rw [if_neg z] at h'; exact Or.inr h'
          · rw [if_neg y] at h'
            by_cases z : d < N w
            · rw [if_pos z] at h'; exact Or.inl h'
            · rw [if_neg z] at h'; exact Or.inr h'
        rcases o with o | o
        · injection o with o; omega
        · injection o with o; omega
    · rw [xf_f x] at h
      exact ih c h
end
