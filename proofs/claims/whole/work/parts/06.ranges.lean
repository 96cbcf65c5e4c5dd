/-! an argument read as a key, a sort, a length, a time -/
def sc_no (h : Nat → Int32) (x : Int32) : Prop := x < 0 ∨ nI 256 ≤ x ∨ ∃ j, j < 256 ∧ x = nI j ∧ h j = 0
theorem sc_key {h so va nu en us K S V N E U : Nat → Int32} {n : Nat} (R : sc_Rep h so va nu en us n K S V N E U) (x : Int32) :
    (∃ j i, j < 256 ∧ i < n ∧ x = nI j ∧ ¬ h j = 0 ∧ K i = nI j) ∨ (sc_no h x ∧ ∀ i, i < n → ¬ K i = x) := by
  rcases sc_ix x (n := 256) (by decide) with h0 | h0 | ⟨j, hj, rfl⟩
  · refine Or.inr ⟨Or.inl h0, fun i hi e => ?_⟩
    obtain ⟨j, hj, hK, _⟩ := R.1 i hi
    rw [← e, hK] at h0
    exact nI_pos (n := j) (by omega) h0
  · refine Or.inr ⟨Or.inr (Or.inl h0), fun i hi e => ?_⟩
    obtain ⟨j, hj, hK, _⟩ := R.1 i hi
    rw [← e, hK] at h0
    exact nI_ge (a := j) (b := 256) hj (by decide) h0
  · by_cases z : h j = 0
    · refine Or.inr ⟨Or.inr (Or.inr ⟨j, hj, rfl, z⟩), fun i hi e => ?_⟩
      exact (sc_at R hi hj e).1 z
    · obtain ⟨i, hi, hK⟩ := R.2.1 j hj z
      exact Or.inl ⟨j, i, hj, hi, rfl, z, hK⟩
theorem sc_keyU {h so va nu en us K S V N E U : Nat → Int32} {n i : Nat} {x : Int32} (R : sc_Rep h so va nu en us n K S V N E U) (hi : i < n) (hK : K i = x) : ∀ a, a < n → K a = x → a = i :=
  fun a ha e => R.2.2 a i ha hi (e.trans hK.symm)
theorem sc_lt0n {x : Int32} (h : x < 0) : ¬ 0 ≤ x := Int32.not_le.mpr h
theorem sc_gen {x : Int32} {a b : Nat} (h : nI b ≤ x) (hab : a < b) (hb : b < 2 ^ 31) : ¬ x ≤ nI a := fun z => nI_ge hab hb (Int32.le_trans h z)
theorem sc_gel {x : Int32} {a b : Nat} (h : nI b ≤ x) (hab : a ≤ b) (hb : b < 2 ^ 31) : ¬ x < nI a := Int32.not_lt.mpr (Int32.le_trans (nI_le hab hb) h)
theorem sc_ge0 {x : Int32} {b : Nat} (h : nI b ≤ x) (hb : b < 2 ^ 31) : 0 ≤ x := Int32.le_trans (nI_pos' hb) h
theorem sc_neg {x : Int32} {a : Nat} (h : x < 0) (ha : a < 2 ^ 31) : x < nI a := Int32.lt_of_lt_of_le h (nI_pos' ha)
def sc_sl (l : Nat) : Nat := if l ≤ 3 then 0 else if l ≤ 6 then 1 else 2
theorem sc_sl3 (l : Nat) : sc_sl l < 3 := by
  unfold sc_sl
  by_cases h1 : l ≤ 3
  · rw [if_pos h1]; omega
  · rw [if_neg h1]
    by_cases h2 : l ≤ 6
    · rw [if_pos h2]; omega
    · rw [if_neg h2]; omega
