/-! the ends -/
def sc_eb (en : Nat → Int32) (cl : Int32) (j : Nat) : Bool := !(decide (en j = 0)) && decide (en j ≤ cl)
theorem sc_eb_t {en : Nat → Int32} {cl : Int32} {j : Nat} : sc_eb en cl j = true ↔ ¬ en j = 0 ∧ en j ≤ cl := by
  unfold sc_eb
  rw [Bool.and_eq_true, Bool.not_eq_true', decide_eq_false_iff_not, decide_eq_true_iff]
theorem sc_eb_f {en : Nat → Int32} {cl : Int32} {j : Nat} (h : ¬ (¬ en j = 0 ∧ en j ≤ cl)) : sc_eb en cl j = false :=
  sc_bf (fun z => h (sc_eb_t.mp z))
theorem sc_end_iff {e x cl : Int32} (h : sc_end e x) : (0 ≤ e ∧ e ≤ cl) ↔ (¬ x = 0 ∧ x ≤ cl) := by
  rcases h with ⟨rfl, rfl⟩ | ⟨m, h0, h1, rfl, rfl⟩
  · exact ⟨fun z => absurd z.1 sc_n1le, fun z => absurd rfl z.1⟩
  · exact ⟨fun z => ⟨nI_ne0 h0 h1, z.2⟩, fun z => ⟨nI_pos' h1, z.2⟩⟩
/-- the component's pass over the keys -/
def sc_TX (p : Nat → Nat) (f : Nat) (h so en pc : Nat → Int32) (cl : Int32) (j : Nat) (g : Int32) (h' ic' : Nat → Int32) : Prop :=
  sc_XC p f h' so ic' pc ∧ (∀ l, l < j → (h' l = 0 ↔ (h l = 0 ∨ sc_eb en cl l = true))) ∧ (∀ l, j ≤ l → h' l = h l) ∧ g = nI (sc_cnt (fun l => sc_hb h l && sc_eb en cl l) j)
section
variable {h so en pc h' ic ic' : Nat → Int32} {p : Nat → Nat} {f j s : Nat} {cl g : Int32}
theorem sc_tx0 (C : sc_XC p f h so ic pc) : sc_TX p f h so en pc cl 0 0 h ic :=
  ⟨C, fun l hl => absurd hl (Nat.not_lt_zero l), fun _ _ => rfl, nI_0.symm⟩
theorem sc_tx1 (T : sc_TX p f h so en pc cl j g h' ic') (hj : j < 256) (hh : ¬ h' j = 0) (he : ¬ en j = 0 ∧ en j ≤ cl) (hs : s < 3) (e : so j = nI s) : sc_TX p f h so en pc cl (j + 1) (g + 1) (upd h' j 0) (upd ic' s (ic' s - 1)) := by
  obtain ⟨C, A, B, G⟩ := T
  have hb := B j (Nat.le_refl j)
  refine ⟨sc_xdrop C hj hh hs e, fun l hl => ?_, fun l hl => ?_, ?_⟩
  · by_cases el : l = j
    · subst el
      rw [sc_us]
      exact ⟨fun _ => Or.inr (sc_eb_t.mpr he), fun _ => rfl⟩
    · rw [sc_un el]
      exact A l (by omega)
  · rw [sc_un (show l ≠ j by omega)]
    exact B l (by omega)
  · have E : sc_cnt (fun l => sc_hb h l && sc_eb en cl l) (j + 1) = sc_cnt (fun l => sc_hb h l && sc_eb en cl l) j + (sc_hb h j && sc_eb en cl j).toNat := rfl
    rw [E, sc_hb_t (by rw [← hb]; exact hh), sc_eb_t.mpr he, G]
    exact nI_1 _
theorem sc_tx2 (T : sc_TX p f h so en pc cl j g h' ic') (hh : h' j = 0 ∨ ¬ (¬ en j = 0 ∧ en j ≤ cl)) : sc_TX p f h so en pc cl (j + 1) g h' ic' := by
  obtain ⟨C, A, B, G⟩ := T
  have hb := B j (Nat.le_refl j)
  refine ⟨C, fun l hl => ?_, fun l hl => B l (by omega), ?_⟩
  · by_cases el : l = j
    · subst el
      rw [hb]
      rcases hh with z | z
      · rw [hb] at z
        exact ⟨fun y => Or.inl y, fun _ => z⟩
      · refine ⟨fun y => Or.inl y, fun y => ?_⟩
        rcases y with y | y
        · exact y
        · exact absurd (sc_eb_t.mp y) z
    · exact A l (by omega)
  · have E : sc_cnt (fun l => sc_hb h l && sc_eb en cl l) (j + 1) = sc_cnt (fun l => sc_hb h l && sc_eb en cl l) j + (sc_hb h j && sc_eb en cl j).toNat := rfl
    have z : (sc_hb h j && sc_eb en cl j) = false := by
      rcases hh with z | z
      · rw [sc_hb_f (by rw [← hb]; exact z)]; rfl
      · rw [sc_eb_f z, Bool.and_false]
    rw [E, z, G]
    rfl
end
/-- the reference's pass over its rows, from the last down -/
def sc_TY (h so va nu en us : Nat → Int32) (cl : Int32) (m g n : Nat) (K S V N E U : Nat → Int32) : Prop :=
  ∃ h' : Nat → Int32, sc_Rep h' so va nu en us n K S V N E U ∧ m ≤ n ∧ n ≤ 32 ∧ (∀ i, m ≤ i → i < n → ¬ (0 ≤ E i ∧ E i ≤ cl)) ∧ (∀ l, l < 256 → ¬ h' l = 0 → ¬ h l = 0) ∧ (∀ l, l < 256 → ¬ h l = 0 → ¬ (¬ en l = 0 ∧ en l ≤ cl) → ¬ h' l = 0) ∧ sc_cnt (sc_hb h) 256 = sc_cnt (sc_hb h') 256 + g
section
variable {h so va nu en us K S V N E U hX : Nat → Int32} {m n g : Nat} {cl : Int32}
theorem sc_ty0 (R : sc_Rep h so va nu en us n K S V N E U) (hn : n ≤ 32) : sc_TY h so va nu en us cl n 0 n K S V N E U :=
  ⟨h, R, Nat.le_refl n, hn, fun i h1 h2 => absurd h2 (Nat.not_lt.mpr h1), fun _ _ z => z, fun _ _ z _ => z, rfl⟩
theorem sc_ty2 (T : sc_TY h so va nu en us cl (m + 1) g n K S V N E U) (he : ¬ (0 ≤ E m ∧ E m ≤ cl)) : sc_TY h so va nu en us cl m g n K S V N E U := by
  obtain ⟨h', R, hm, hn, A, B⟩ := T
  refine ⟨h', R, by omega, hn, fun i h1 h2 => ?_, B⟩
  by_cases e : i = m
  · rw [e]; exact he
  · exact A i (by omega) h2
theorem sc_ty1 (T : sc_TY h so va nu en us cl (m + 1) g (n + 1) K S V N E U) (he : 0 ≤ E m ∧ E m ≤ cl) : sc_TY h so va nu en us cl m (g + 1) n (upd K m (K n)) (upd S m (S n)) (upd V m (V n)) (upd N m (N n)) (upd E m (E n)) (upd U m (U n)) := by
  obtain ⟨h', R, hm, hn, A, B1, B2, B3⟩ := T
  obtain ⟨j, hj, hK, hh, _, _, _, hE, _⟩ := R.1 m (by omega)
  refine ⟨upd h' j 0, sc_drop R (by omega) hj hK, by omega, by omega, fun i h1 h2 => ?_, fun l hl z => ?_, fun l hl z z2 => ?_, ?_⟩
  · by_cases e : i = m
    · rw [e, sc_us]
      exact A n (by omega) (by omega)
    · rw [sc_un e]
      exact A i (by omega) (by omega)
  · by_cases e : l = j
    · rw [e, sc_us] at z
      exact absurd rfl z
    · rw [sc_un e] at z
      exact B1 l hl z
  · have e : l ≠ j := fun y => z2 (by rw [y]; exact (sc_end_iff hE).mp he)
    rw [sc_un e]
    exact B2 l hl z z2
  · have P := sc_cnt_pt (p := sc_hb h') (q := sc_hb (upd h' j 0)) (a := j) (sc_hb_t hh) (sc_hb_f sc_us) 256 hj (fun i _ hi => by
      unfold sc_hb; rw [sc_un hi])
    omega
/-- both passes end alike -/
theorem sc_tyE (T : sc_TY h so va nu en us cl 0 g n K S V N E U) (H : ∀ l, l < 256 → (hX l = 0 ↔ (h l = 0 ∨ sc_eb en cl l = true))) : sc_Rep hX so va nu en us n K S V N E U ∧ g = sc_cnt (fun l => sc_hb h l && sc_eb en cl l) 256 := by
  obtain ⟨h', R, hm, hn, A, B1, B2, B3⟩ := T
  have H' : ∀ l, l < 256 → (h' l = 0 ↔ hX l = 0) := by
    intro l hl
    rw [H l hl]
    constructor
    · intro z
      by_cases y : h l = 0
      · exact Or.inl y
      · by_cases w : ¬ en l = 0 ∧ en l ≤ cl
        · exact Or.inr (sc_eb_t.mpr w)
        · exact absurd z (B2 l hl y w)
    · intro z
      by_cases y : h' l = 0
      · exact y
      · rcases z with z | z
        · exact absurd z (B1 l hl y)
        · obtain ⟨i, hi, hK⟩ := R.2.1 l hl y
          have := sc_at R hi hl hK
          exact absurd ((sc_end_iff this.2.2.2.2.1).mpr (sc_eb_t.mp z)) (A i (Nat.zero_le i) hi)
  refine ⟨sc_rep_c R H', ?_⟩
  have e1 : sc_cnt (sc_hb h') 256 = sc_cnt (sc_hb hX) 256 := sc_cnt_c 256 (fun l hl => sc_hb_c (H' l hl))
  have e2 := sc_cnt_add (p := sc_hb h) (q := sc_hb hX) (r := fun l => sc_hb h l && sc_eb en cl l) 256 (fun l hl => by
    show _ = _ + (sc_hb h l && sc_eb en cl l).toNat
    by_cases y : h l = 0
    · rw [sc_hb_f y, sc_hb_f ((H l hl).mpr (Or.inl y))]; rfl
    · by_cases w : sc_eb en cl l = true
      · rw [sc_hb_t y, sc_hb_f ((H l hl).mpr (Or.inr w)), w]; rfl
      · have w' := sc_bf w
        have : ¬ hX l = 0 := fun z => by
          rcases (H l hl).mp z with q | q
          · exact y q
          · exact w q
        rw [sc_hb_t y, sc_hb_t this, w']; rfl)
  omega
end
