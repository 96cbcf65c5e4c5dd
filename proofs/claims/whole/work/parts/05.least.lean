/-! the one that was used longest ago, found so far -/
def sc_L (P : Nat → Prop) (us : Nat → Int32) (b : Nat) (fd : Int32) : Prop :=
  (fd = -1 ∧ ∀ l, l < b → ¬ P l) ∨ ∃ j, j < b ∧ fd = nI j ∧ P j ∧ ∀ l, l < b → P l → us j ≤ us l
section
variable {P : Nat → Prop} {us : Nat → Int32} {b j : Nat} {fd : Int32}
theorem sc_l0 : sc_L P us 0 (-1) := Or.inl ⟨rfl, fun l hl => absurd hl (Nat.not_lt_zero l)⟩
theorem sc_lskip (H : sc_L P us b fd) (h : ¬ P b) : sc_L P us (b + 1) fd := by
  have A : ∀ Q : Nat → Prop, (∀ l, l < b → P l → Q l) → ∀ l, l < b + 1 → P l → Q l := by
    intro Q hQ l hl hp
    by_cases e : l = b
    · rw [e] at hp; exact absurd hp h
    · exact hQ l (by omega) hp
  rcases H with ⟨e, H⟩ | ⟨j, hj, e, hp, H⟩
  · exact Or.inl ⟨e, fun l hl hp => A (fun _ => False) (fun l hl hp => H l hl hp) l hl hp⟩
  · exact Or.inr ⟨j, by omega, e, hp, A (fun l => us j ≤ us l) H⟩
theorem sc_ltake0 (H : sc_L P us b (-1)) (hb : b < 2 ^ 31) (h : P b) : sc_L P us (b + 1) (nI b) := by
  rcases H with ⟨_, H⟩ | ⟨j, hj, e, _⟩
  · refine Or.inr ⟨b, by omega, rfl, h, fun l hl hp => ?_⟩
    by_cases e : l = b
    · rw [e]; exact Int32.le_refl _
    · exact absurd hp (H l (by omega))
  · exact absurd e.symm (sc_ne1 (by omega))
theorem sc_lj (H : sc_L P us b (nI j)) (hj : j < 2 ^ 31) (hb : b < 2 ^ 31) : j < b ∧ P j ∧ ∀ l, l < b → P l → us j ≤ us l := by
  rcases H with ⟨e, _⟩ | ⟨i, hi, e, hp, H⟩
  · exact absurd e (sc_ne1 hj)
  · have := sc_im e hj (by omega)
    subst this
    exact ⟨hi, hp, H⟩
theorem sc_ltake (H : sc_L P us b (nI j)) (hj : j < 2 ^ 31) (hb : b < 2 ^ 31) (h : P b) (hu : us b < us j) : sc_L P us (b + 1) (nI b) := by
  obtain ⟨h1, h2, h3⟩ := sc_lj H hj hb
  refine Or.inr ⟨b, by omega, rfl, h, fun l hl hp => ?_⟩
  by_cases e : l = b
  · rw [e]; exact Int32.le_refl _
  · exact Int32.le_of_lt (Int32.lt_of_lt_of_le hu (h3 l (by omega) hp))
theorem sc_lkeep (H : sc_L P us b (nI j)) (hj : j < 2 ^ 31) (hb : b < 2 ^ 31) (hu : ¬ us b < us j) : sc_L P us (b + 1) (nI j) := by
  obtain ⟨h1, h2, h3⟩ := sc_lj H hj hb
  refine Or.inr ⟨j, by omega, rfl, h2, fun l hl hp => ?_⟩
  by_cases e : l = b
  · rw [e]; exact Int32.not_lt.mp hu
  · exact h3 l (by omega) hp
end
/-- the row that is oldest among the reference's rows of a sort has the oldest key -/
theorem sc_oldY {h so va nu en us K S V N E U : Nat → Int32} {n i s : Nat} (R : sc_Rep h so va nu en us n K S V N E U) (hi : i < n) (hs : S i = nI s) (H : ∀ l, l < n → S l = nI s → U i ≤ U l) : ∃ j, sc_old h so us s j ∧ K i = nI j := by
  obtain ⟨j, hj, hK, h1, h2, h3, h4, h5, h6⟩ := R.1 i hi
  refine ⟨j, ⟨hj, h1, by rw [← h2]; exact hs, fun l hl hh e => ?_⟩, hK⟩
  obtain ⟨a, ha, hKa⟩ := R.2.1 l hl hh
  have A := sc_at R ha hl hKa
  rw [← h6, ← A.2.2.2.2.2]
  exact H a ha (by rw [A.2.1]; exact e)
theorem sc_noneY {h so va nu en us K S V N E U : Nat → Int32} {n s : Nat} (R : sc_Rep h so va nu en us n K S V N E U) : (∀ l, l < n → ¬ S l = nI s) ↔ (∀ l, l < 256 → ¬ (¬ h l = 0 ∧ so l = nI s)) := by
  constructor
  · intro H l hl ⟨hh, e⟩
    obtain ⟨a, ha, hKa⟩ := R.2.1 l hl hh
    have A := sc_at R ha hl hKa
    exact H a ha (by rw [A.2.1]; exact e)
  · intro H l hl e
    obtain ⟨j, hj, hK, h1, h2, _⟩ := R.1 l hl
    exact H j hj ⟨h1, by rw [← h2]; exact e⟩
