section
/-- an array holds these numbers below n -/
def cc_A (n : Nat) (arr : Nat → Int32) (L : Nat → Nat) : Prop := ∀ t, t < n → arr t = nI (L t)
/-- the leaders while a join has gone over those below i -/
def jl_m (n : Nat) (L : Nat → Nat) (c d i : Nat) : Nat → Nat := fun t => if t < i then cc_jo n L c d t else L t
theorem jl_at {n : Nat} {L : Nat → Nat} {c d i : Nat} {arr : Nat → Int32} (h : cc_A n arr (jl_m n L c d i)) (hi : i < n) : arr i = nI (L i) := by
  have e : jl_m n L c d i i = L i := if_neg (Nat.lt_irrefl i)
  rw [h i hi, e]
theorem jl_0 {n : Nat} {L : Nat → Nat} {c d : Nat} {arr : Nat → Int32} (h : cc_A n arr L) : cc_A n arr (jl_m n L c d 0) := by
  intro t ht
  have e : jl_m n L c d 0 t = L t := if_neg (Nat.not_lt_zero t)
  rw [h t ht, e]
theorem jl_n {n : Nat} {L : Nat → Nat} {c d : Nat} {arr : Nat → Int32} (h : cc_A n arr (jl_m n L c d n)) : cc_A n arr (cc_jo n L c d) := by
  intro t ht
  have e : jl_m n L c d n t = cc_jo n L c d t := if_pos ht
  rw [h t ht, e]
theorem jl_set {n : Nat} {L : Nat → Nat} {c d i v : Nat} {arr : Nat → Int32} (h : cc_A n arr (jl_m n L c d i)) (e : cc_jo n L c d i = v) : cc_A n (upd arr i (nI v)) (jl_m n L c d (i + 1)) := by
  intro t ht
  by_cases x : t = i
  · have e1 : jl_m n L c d (i + 1) t = cc_jo n L c d t := if_pos (by omega)
    rw [e1, x, pk_us, e]
  · have e1 : jl_m n L c d (i + 1) t = jl_m n L c d i t := by
      by_cases y : t < i
      · exact (if_pos (show t < i + 1 by omega)).trans (if_pos y).symm
      · exact (if_neg (show ¬ t < i + 1 by omega)).trans (if_neg y).symm
    rw [pk_un x, h t ht, e1]
theorem jl_keep {n : Nat} {L : Nat → Nat} {c d i : Nat} {arr : Nat → Int32} (h : cc_A n arr (jl_m n L c d i)) (e : cc_jo n L c d i = L i) : cc_A n arr (jl_m n L c d (i + 1)) := by
  intro t ht
  by_cases x : t = i
  · have e1 : jl_m n L c d (i + 1) t = cc_jo n L c d t := if_pos (by omega)
    have e2 : jl_m n L c d i t = L t := if_neg (by omega)
    rw [h t ht, e1, e2, x, e]
  · have e1 : jl_m n L c d (i + 1) t = jl_m n L c d i t := by
      by_cases y : t < i
      · exact (if_pos (show t < i + 1 by omega)).trans (if_pos y).symm
      · exact (if_neg (show ¬ t < i + 1 by omega)).trans (if_neg y).symm
    rw [h t ht, e1]
/-- a round of joins from the leaders L0, over the pairs D so far: nothing joined (0), or joined (1) -/
def rd_R (n : Nat) (K P Q : Nat → Nat) (a : Nat) (Lf Rt : Nat → Nat) (s : Nat) (D : Nat → Nat → Prop) (L0 L : Nat → Nat) (m : Int32) : Prop :=
  cc_AI n K P Q a Lf Rt s a L ∧ ((m = 0 ∧ L = L0 ∧ ∀ t u, D t u → cc_al K P Q L0 t u → L0 t = L0 u) ∨ (m = 1 ∧ cc_nl n L < cc_nl n L0))
theorem rd_0 {n : Nat} {K P Q : Nat → Nat} {a : Nat} {Lf Rt : Nat → Nat} {s : Nat} {L : Nat → Nat} {D : Nat → Nat → Prop} (h : cc_AI n K P Q a Lf Rt s a L) (hD : ∀ t u, ¬ D t u) : rd_R n K P Q a Lf Rt s D L L 0 :=
  ⟨h, Or.inl ⟨rfl, rfl, fun t u z => absurd z (hD t u)⟩⟩
theorem rd_skip {n : Nat} {K P Q : Nat → Nat} {a : Nat} {Lf Rt : Nat → Nat} {s : Nat} {D D' : Nat → Nat → Prop} {L0 L : Nat → Nat} {m : Int32} (h : rd_R n K P Q a Lf Rt s D L0 L m) (t1 u1 : Nat)
    (hD : ∀ t u, D' t u → D t u ∨ (t = t1 ∧ u = u1)) (hn : cc_al K P Q L t1 u1 → L t1 = L u1) : rd_R n K P Q a Lf Rt s D' L0 L m := by
  refine ⟨h.1, ?_⟩
  rcases h.2 with ⟨e, eL, hh⟩ | hh
  · refine Or.inl ⟨e, eL, fun t u d al => ?_⟩
    rcases hD t u d with d | d
    · exact hh t u d al
    · rw [eL] at hn
      rw [d.1, d.2] at al
      rw [d.1, d.2]
      exact hn al
  · exact Or.inr hh
theorem rd_same {n : Nat} {K P Q : Nat → Nat} {a : Nat} {Lf Rt : Nat → Nat} {s : Nat} {D D' : Nat → Nat → Prop} {L0 L : Nat → Nat} {m : Int32} (h : rd_R n K P Q a Lf Rt s D L0 L m)
    (hD : ∀ t u, D' t u → D t u) : rd_R n K P Q a Lf Rt s D' L0 L m := by
  refine ⟨h.1, ?_⟩
  rcases h.2 with ⟨e, eL, hh⟩ | hh
  · exact Or.inl ⟨e, eL, fun t u d al => hh t u (hD t u d) al⟩
  · exact Or.inr hh
theorem rd_join {n : Nat} {K P Q : Nat → Nat} {a : Nat} {Lf Rt : Nat → Nat} {s : Nat} {D : Nat → Nat → Prop} (D' : Nat → Nat → Prop) {L0 L : Nat → Nat} {m : Int32} (W : cc_WF n K P Q a Lf Rt) (h : rd_R n K P Q a Lf Rt s D L0 L m) {t u : Nat}
    (ht : t < n) (hu : u < n) (hne : ¬ L t = L u) (al : cc_al K P Q L t u) : rd_R n K P Q a Lf Rt s D' L0 (cc_jn n L t u) 1 := by
  have J := cc_RI_join W h.1 ht hu al
  refine ⟨J.1, Or.inr ⟨rfl, ?_⟩⟩
  have x := J.2 hne
  rcases h.2 with ⟨_, e, _⟩ | z
  · rw [← e]; exact x
  · exact Nat.lt_trans x z.2
theorem rd_end {n : Nat} {K P Q : Nat → Nat} {a : Nat} {Lf Rt : Nat → Nat} {s : Nat} {D : Nat → Nat → Prop} {L0 L : Nat → Nat} {m : Int32} (W : cc_WF n K P Q a Lf Rt) (h : rd_R n K P Q a Lf Rt s D L0 L m) (hm : m = 0)
    (hD : ∀ t u, t < n → u < n → D t u ∨ D u t ∨ t = u) : cc_Ex n K P Q (cc_E a Lf Rt s) L := by
  rcases h.2 with ⟨_, e, hh⟩ | ⟨e, _⟩
  · refine cc_fin W h.1 (fun t u ht hu al => ?_)
    rw [e] at al
    rw [e]
    rcases hD t u ht hu with d | d | d
    · exact hh t u d al
    · exact (hh u t d (cc_al_s al)).symm
    · rw [d]
  · rw [hm] at e
    exact absurd e (by decide)
/-- X's rounds: at the head of round i -/
def rd_X (n : Nat) (K P Q : Nat → Nat) (a : Nat) (Lf Rt : Nat → Nat) (s i : Nat) (L : Nat → Nat) (j : Int32) : Prop :=
  (j = 1 ∧ cc_AI n K P Q a Lf Rt s a L ∧ cc_nl n L + i ≤ n) ∨ (j = 0 ∧ cc_Ex n K P Q (cc_E a Lf Rt s) L)
theorem rd_X16 {n : Nat} {K P Q : Nat → Nat} {a : Nat} {Lf Rt : Nat → Nat} {s : Nat} {L : Nat → Nat} {j : Int32} (hn : n ≤ 16) (h : rd_X n K P Q a Lf Rt s 16 L j) : cc_Ex n K P Q (cc_E a Lf Rt s) L := by
  rcases h with ⟨_, h, z⟩ | ⟨_, h⟩
  · have := cc_nl_pos h.1 (show 0 < n by omega)
    omega
  · exact h
theorem rd_Xs {n : Nat} {K P Q : Nat → Nat} {a : Nat} {Lf Rt : Nat → Nat} {s i : Nat} {D : Nat → Nat → Prop} {L0 L : Nat → Nat} {m : Int32} (W : cc_WF n K P Q a Lf Rt) (h0 : cc_nl n L0 + i ≤ n) (h : rd_R n K P Q a Lf Rt s D L0 L m)
    (hD : ∀ t u, t < n → u < n → D t u ∨ D u t ∨ t = u) : rd_X n K P Q a Lf Rt s (i + 1) L m := by
  rcases h.2 with z | z
  · exact Or.inr ⟨z.1, rd_end W h z.1 hD⟩
  · exact Or.inl ⟨z.1, h.1, by have := z.2; omega⟩
end
