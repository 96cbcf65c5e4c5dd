section
/-! numbers and stores -/
theorem sc_us {f : Nat → Int32} {k : Nat} {x : Int32} : upd f k x k = x := if_pos rfl
theorem sc_un {f : Nat → Int32} {k j : Nat} {x : Int32} (h : j ≠ k) : upd f k x j = f j := if_neg h
theorem sc_ut {f : Nat → Int32} {k : Nat} {x : Int32} (h : f k = x) : upd f k x = f := by
  funext j
  by_cases e : j = k
  · rw [e, sc_us, h]
  · exact sc_un e
theorem sc_im {a b : Nat} (h : nI a = nI b) (ha : a < 2 ^ 31) (hb : b < 2 ^ 31) : a = b := (nI_eq ha hb).mp h
theorem sc_m1 {n : Nat} (h : 0 < n) : nI n + (-1) = nI (n - 1) := by
  obtain ⟨m, rfl⟩ : ∃ m, n = m + 1 := ⟨n - 1, by omega⟩
  show nI (m + 1) + (-1) = nI m
  rw [← nI_1, Int32.add_assoc, show (1 : Int32) + (-1) = 0 from rfl, Int32.add_zero]
theorem sc_s1 {n : Nat} (h : 0 < n) : nI n - 1 = nI (n - 1) := by
  obtain ⟨m, rfl⟩ : ∃ m, n = m + 1 := ⟨n - 1, by omega⟩
  exact nI_pred m
theorem sc_sub {a b : Nat} (h : b ≤ a) : nI a - nI b = nI (a - b) := by
  obtain ⟨c, rfl⟩ : ∃ c, a = c + b := ⟨a - b, by omega⟩
  rw [← nI_add, Int32.add_sub_cancel, Nat.add_sub_cancel]
theorem sc_mul (a b : Nat) : nI a * nI b = nI (a * b) := (Int32.ofNat_mul a b).symm
theorem sc_n1lt : (-1 : Int32) < 0 := by decide
theorem sc_n1le : ¬ (0 : Int32) ≤ -1 := by decide
theorem sc_ne1 {a : Nat} (h : a < 2 ^ 31) : ¬ nI a = -1 := by
  intro e
  have := nI_pos (n := a) h
  rw [e] at this
  exact this sc_n1lt
theorem sc_vb0 : vp_nar .boolean 0 = 0 := by decide
theorem sc_vb1 : vp_nar .boolean 1 = 1 := by decide
theorem sc_1n0 : ¬ (1 : Int32) = 0 := by decide
theorem sc_eq0 {a : Nat} (h : a < 2 ^ 31) : nI a = 0 ↔ a = 0 := by
  rw [← nI_0, nI_eq h (by omega)]
/-- an int is a natural below b, or it is below 0, or at least b -/
theorem sc_ix (x : Int32) {n : Nat} (hn : n < 2 ^ 31) : x < 0 ∨ nI n ≤ x ∨ ∃ j : Nat, j < n ∧ x = nI j := by
  by_cases h : x < 0
  · exact Or.inl h
  · obtain ⟨j, hj, rfl⟩ := nI_of h
    by_cases h2 : j < n
    · exact Or.inr (Or.inr ⟨j, h2, rfl⟩)
    · exact Or.inr (Or.inl (nI_le (by omega) hj))

/-! counting -/
def sc_cnt (p : Nat → Bool) : Nat → Nat
  | 0 => 0
  | n + 1 => sc_cnt p n + (p n).toNat
theorem sc_cnt_s {p : Nat → Bool} {n : Nat} : sc_cnt p (n + 1) = sc_cnt p n + (p n).toNat := rfl
theorem sc_cnt_c {p q : Nat → Bool} (n : Nat) : (∀ i, i < n → p i = q i) → sc_cnt p n = sc_cnt q n := by
  induction n with
  | zero => intro _; rfl
  | succ n ih =>
    intro h
    rw [sc_cnt_s, sc_cnt_s, ih (fun i hi => h i (by omega)), h n (by omega)]
theorem sc_cnt_z {p : Nat → Bool} (n : Nat) : (∀ i, i < n → p i = false) → sc_cnt p n = 0 := by
  induction n with
  | zero => intro _; rfl
  | succ n ih =>
    intro h
    rw [sc_cnt_s, ih (fun i hi => h i (by omega)), h n (by omega)]
    rfl
theorem sc_cnt_le {p : Nat → Bool} (n : Nat) : sc_cnt p n ≤ n := by
  induction n with
  | zero => exact Nat.le_refl 0
  | succ n ih =>
    rw [sc_cnt_s]
    have := Bool.toNat_le (p n)
    omega
theorem sc_cnt_pt {p q : Nat → Bool} {a : Nat} (hp : p a = true) (hq : q a = false) (n : Nat) : a < n → (∀ i, i < n → i ≠ a → p i = q i) → sc_cnt p n = sc_cnt q n + 1 := by
  induction n with
  | zero => intro h; omega
  | succ n ih =>
    intro h hh
    rw [sc_cnt_s, sc_cnt_s]
    by_cases e : a = n
    · subst e
      rw [hp, hq, sc_cnt_c (p := p) (q := q) a (fun i hi => hh i (by omega) (by omega))]
      rfl
    · rw [ih (by omega) (fun i hi => hh i (by omega)), hh n (by omega) (fun z => e z.symm)]
      omega
theorem sc_cnt_add {p q r : Nat → Bool} (n : Nat) : (∀ i, i < n → (p i).toNat = (q i).toNat + (r i).toNat) → sc_cnt p n = sc_cnt q n + sc_cnt r n := by
  induction n with
  | zero => intro _; rfl
  | succ n ih =>
    intro h
    have h1 := ih (fun i hi => h i (by omega))
    have h2 := h n (by omega)
    rw [sc_cnt_s, sc_cnt_s, sc_cnt_s]
    omega
theorem sc_bf {b : Bool} (h : ¬ b = true) : b = false := by
  cases b
  · rfl
  · exact absurd rfl h
theorem sc_bij {q : Nat → Bool} {κ : Nat → Nat} (n : Nat) : ∀ (p : Nat → Bool), (∀ i, i < n → κ i < 256) → (∀ i j, i < n → j < n → κ i = κ j → i = j) → (∀ j, j < 256 → (p j = true ↔ ∃ i, i < n ∧ κ i = j)) → sc_cnt (fun j => p j && q j) 256 = sc_cnt (fun i => q (κ i)) n := by
  induction n with
  | zero =>
    intro p _ _ hp
    show _ = 0
    refine sc_cnt_z 256 (fun j hj => ?_)
    show (p j && q j) = false
    have : p j = false := sc_bf (fun z => by obtain ⟨i, hi, _⟩ := (hp j hj).mp z; omega)
    rw [this]; rfl
  | succ n ih =>
    intro p hr hi hp
    have hpn : p (κ n) = true := (hp (κ n) (hr n (by omega))).mpr ⟨n, by omega, rfl⟩
    have H : sc_cnt (fun j => (p j && !(decide (j = κ n))) && q j) 256 = sc_cnt (fun i => q (κ i)) n := ih (fun j => p j && !(decide (j = κ n))) (fun i h => hr i (by omega)) (fun i j h h' => hi i j (by omega) (by omega)) (fun j hj => by
      constructor
      · intro z
        have z : (p j && !(decide (j = κ n))) = true := z
        rw [Bool.and_eq_true, Bool.not_eq_true', decide_eq_false_iff_not] at z
        obtain ⟨i, hi', e⟩ := (hp j hj).mp z.1
        refine ⟨i, ?_, e⟩
        have : i ≠ n := fun y => z.2 (by rw [← e, y])
        omega
      · rintro ⟨i, hi', e⟩
        show (p j && !(decide (j = κ n))) = true
        rw [Bool.and_eq_true, Bool.not_eq_true', decide_eq_false_iff_not]
        refine ⟨(hp j hj).mpr ⟨i, by omega, e⟩, fun y => ?_⟩
        have := hi i n (by omega) (by omega) (e.trans y)
        omega)
    have E : sc_cnt (fun i => q (κ i)) (n + 1) = sc_cnt (fun i => q (κ i)) n + (q (κ n)).toNat := rfl
    rw [E, ← H]
    by_cases hq : q (κ n) = true
    · rw [hq, Bool.toNat_true]
      refine sc_cnt_pt (a := κ n) ?_ ?_ 256 (hr n (by omega)) (fun i _ hne => ?_)
      · show (p (κ n) && q (κ n)) = true
        rw [hpn, hq]; rfl
      · show ((p (κ n) && !(decide (κ n = κ n))) && q (κ n)) = false
        rw [decide_eq_true (rfl : κ n = κ n), hpn]; rfl
      · show (p i && q i) = ((p i && !(decide (i = κ n))) && q i)
        rw [decide_eq_false hne, Bool.not_false, Bool.and_true]
    · have hq' := sc_bf hq
      rw [hq', Bool.toNat_false, Nat.add_zero]
      refine sc_cnt_c 256 (fun i _ => ?_)
      show (p i && q i) = ((p i && !(decide (i = κ n))) && q i)
      by_cases e : i = κ n
      · rw [e, hq', Bool.and_false, Bool.and_false]
      · rw [decide_eq_false e, Bool.not_false, Bool.and_true]

/-! items by key -/
def sc_hb (h : Nat → Int32) (j : Nat) : Bool := !(decide (h j = 0))
def sc_hs (h so : Nat → Int32) (s : Nat) (j : Nat) : Bool := sc_hb h j && decide (so j = nI s)
theorem sc_hb_t {h : Nat → Int32} {j : Nat} (e : ¬ h j = 0) : sc_hb h j = true := by
  unfold sc_hb; rw [decide_eq_false e]; rfl
theorem sc_hb_f {h : Nat → Int32} {j : Nat} (e : h j = 0) : sc_hb h j = false := by
  unfold sc_hb; rw [decide_eq_true e]; rfl
theorem sc_hb_iff {h : Nat → Int32} {j : Nat} : sc_hb h j = true ↔ ¬ h j = 0 := by
  constructor
  · intro z e; rw [sc_hb_f e] at z; exact absurd z (by decide)
  · exact sc_hb_t
theorem sc_hb_c {h h' : Nat → Int32} {j : Nat} (e : h j = 0 ↔ h' j = 0) : sc_hb h j = sc_hb h' j := by
  by_cases z : h j = 0
  · rw [sc_hb_f z, sc_hb_f (e.mp z)]
  · rw [sc_hb_t z, sc_hb_t (fun y => z (e.mpr y))]
theorem sc_hs_t {h so : Nat → Int32} {s j : Nat} (e : ¬ h j = 0) (e2 : so j = nI s) : sc_hs h so s j = true := by
  unfold sc_hs; rw [sc_hb_t e, decide_eq_true e2]; rfl
theorem sc_hs_f1 {h so : Nat → Int32} {s j : Nat} (e : h j = 0) : sc_hs h so s j = false := by
  unfold sc_hs; rw [sc_hb_f e]; rfl
theorem sc_hs_f2 {h so : Nat → Int32} {s j : Nat} (e : ¬ so j = nI s) : sc_hs h so s j = false := by
  unfold sc_hs; rw [decide_eq_false e, Bool.and_false]
theorem sc_hs_c {h so h' so' : Nat → Int32} {s j : Nat} (e : h j = h' j) (e2 : so j = so' j) : sc_hs h so s j = sc_hs h' so' s j := by
  unfold sc_hs sc_hb; rw [e, e2]
theorem sc_cd1 {h so : Nat → Int32} {j s : Nat} (hj : j < 256) (hh : ¬ h j = 0) (hs : so j = nI s) : sc_cnt (sc_hs h so s) 256 = sc_cnt (sc_hs (upd h j 0) so s) 256 + 1 :=
  sc_cnt_pt (a := j) (sc_hs_t hh hs) (sc_hs_f1 sc_us) 256 hj (fun i _ hi => sc_hs_c (sc_un hi).symm rfl)
theorem sc_cd2 {h so : Nat → Int32} {j s t : Nat} (hs : so j = nI s) (h3 : s < 3) (t3 : t < 3) (ht : t ≠ s) : sc_cnt (sc_hs h so t) 256 = sc_cnt (sc_hs (upd h j 0) so t) 256 := by
  refine sc_cnt_c 256 (fun i _ => ?_)
  by_cases e : i = j
  · have : ¬ so i = nI t := fun z => ht (sc_im (z.symm.trans (by rw [e]; exact hs)) (by omega) (by omega))
    rw [sc_hs_f2 this, sc_hs_f2 this]
  · exact sc_hs_c (sc_un e).symm rfl
theorem sc_cp1 {h so : Nat → Int32} {j s : Nat} (hj : j < 256) (hh : h j = 0) : sc_cnt (sc_hs (upd h j 1) (upd so j (nI s)) s) 256 = sc_cnt (sc_hs h so s) 256 + 1 :=
  sc_cnt_pt (a := j) (sc_hs_t (by rw [sc_us]; exact sc_1n0) sc_us) (sc_hs_f1 hh) 256 hj (fun i _ hi => sc_hs_c (sc_un hi) (sc_un hi))
theorem sc_cp2 {h so : Nat → Int32} {j s t : Nat} (hh : h j = 0) (h3 : s < 3) (t3 : t < 3) (ht : t ≠ s) : sc_cnt (sc_hs (upd h j 1) (upd so j (nI s)) t) 256 = sc_cnt (sc_hs h so t) 256 := by
  refine sc_cnt_c 256 (fun i _ => ?_)
  by_cases e : i = j
  · subst e
    rw [sc_hs_f1 hh, sc_hs_f2]
    rw [sc_us]
    exact fun z => ht (sc_im z.symm (by omega) (by omega))
  · exact sc_hs_c (sc_un e) (sc_un e)
end
section
/-! the reference's rows of items, against the items by key -/
def sc_end (e x : Int32) : Prop := (e = -1 ∧ x = 0) ∨ ∃ m : Nat, 0 < m ∧ m < 2 ^ 31 ∧ e = nI m ∧ x = nI m
def sc_Rep (h so va nu en us : Nat → Int32) (n : Nat) (K S V N E U : Nat → Int32) : Prop :=
  (∀ i, i < n → ∃ j, j < 256 ∧ K i = nI j ∧ ¬ h j = 0 ∧ S i = so j ∧ V i = va j ∧ N i = nu j ∧ sc_end (E i) (en j) ∧ U i = us j) ∧
  (∀ j, j < 256 → ¬ h j = 0 → ∃ i, i < n ∧ K i = nI j) ∧
  (∀ i l, i < n → l < n → K i = K l → i = l)
section
variable {h so va nu en us va' nu' en' us' h' K S V N E U V' N' E' U' : Nat → Int32} {n i j : Nat}
theorem sc_at (R : sc_Rep h so va nu en us n K S V N E U) (hi : i < n) (hj : j < 256) (hK : K i = nI j) : ¬ h j = 0 ∧ S i = so j ∧ V i = va j ∧ N i = nu j ∧ sc_end (E i) (en j) ∧ U i = us j := by
  obtain ⟨j', hj', hK', H⟩ := R.1 i hi
  have : j' = j := sc_im (hK'.symm.trans hK) (by omega) (by omega)
  subst this
  exact H
theorem sc_mod (R : sc_Rep h so va nu en us n K S V N E U) (hi : i < n) (hj : j < 256) (hK : K i = nI j)
    (hx : ∀ l, l ≠ j → va' l = va l ∧ nu' l = nu l ∧ en' l = en l ∧ us' l = us l)
    (hy : ∀ l, l ≠ i → V' l = V l ∧ N' l = N l ∧ E' l = E l ∧ U' l = U l)
    (hz : V' i = va' j ∧ N' i = nu' j ∧ sc_end (E' i) (en' j) ∧ U' i = us' j) : sc_Rep h so va' nu' en' us' n K S V' N' E' U' := by
  refine ⟨fun l hl => ?_, R.2.1, R.2.2⟩
  by_cases e : l = i
  · subst e
    have A := sc_at R hi hj hK
    exact ⟨j, hj, hK, A.1, A.2.1, hz⟩
  · obtain ⟨j', hj', hK', h1, h2, h3, h4, h5, h6⟩ := R.1 l hl
    have ne : j' ≠ j := fun z => e (R.2.2 l i hl hi (by rw [hK', hK, z]))
    obtain ⟨x1, x2, x3, x4⟩ := hx j' ne
    obtain ⟨y1, y2, y3, y4⟩ := hy l e
    exact ⟨j', hj', hK', h1, h2, by rw [x1, y1, h3], by rw [x2, y2, h4], by rw [x3, y3]; exact h5, by rw [x4, y4, h6]⟩
theorem sc_drop (R : sc_Rep h so va nu en us (n + 1) K S V N E U) (hi : i < n + 1) (hj : j < 256) (hK : K i = nI j) :
    sc_Rep (upd h j 0) so va nu en us n (upd K i (K n)) (upd S i (S n)) (upd V i (V n)) (upd N i (N n)) (upd E i (E n)) (upd U i (U n)) := by
  have key : ∀ l, l < n + 1 → l ≠ i → ∃ j', j' < 256 ∧ K l = nI j' ∧ ¬ upd h j 0 j' = 0 ∧ S l = so j' ∧ V l = va j' ∧ N l = nu j' ∧ sc_end (E l) (en j') ∧ U l = us j' := by
    intro l hl hne
    obtain ⟨j', hj', hK', h1, H⟩ := R.1 l hl
    have ne : j' ≠ j := fun z => hne (R.2.2 l i hl hi (by rw [hK', hK, z]))
    exact ⟨j', hj', hK', by rw [sc_un ne]; exact h1, H⟩
  refine ⟨fun l hl => ?_, fun j' hj' hh => ?_, fun a l ha hl e => ?_⟩
  · by_cases e : l = i
    · subst e
      rw [sc_us, sc_us, sc_us, sc_us, sc_us, sc_us]
      exact key n (by omega) (by omega)
    · rw [sc_un e, sc_un e, sc_un e, sc_un e, sc_un e, sc_un e]
      exact key l (by omega) e
  · have ne : j' ≠ j := fun z => hh (by rw [z]; exact sc_us)
    rw [sc_un ne] at hh
    obtain ⟨l, hl, hK'⟩ := R.2.1 j' hj' hh
    have li : l ≠ i := fun z => ne (sc_im (by rw [← hK', z, hK]) (by omega) (by omega))
    by_cases e : l = n
    · subst e
      exact ⟨i, by omega, by rw [sc_us]; exact hK'⟩
    · exact ⟨l, by omega, by rw [sc_un li]; exact hK'⟩
  · by_cases ea : a = i
    · by_cases el : l = i
      · rw [ea, el]
      · rw [ea, sc_us, sc_un el] at e
        have := R.2.2 n l (by omega) (by omega) e
        omega
    · by_cases el : l = i
      · rw [el, sc_us, sc_un ea] at e
        have := R.2.2 a n (by omega) (by omega) e
        omega
      · rw [sc_un ea, sc_un el] at e
        exact R.2.2 a l (by omega) (by omega) e
theorem sc_push {x : Int32} (R : sc_Rep h so va nu en us n K S V N E U) (hj : j < 256) (h0 : h j = 0)
    (hx : ∀ l, l ≠ j → va' l = va l ∧ nu' l = nu l ∧ en' l = en l ∧ us' l = us l)
    (hy : ∀ l, l ≠ n → V' l = V l ∧ N' l = N l ∧ E' l = E l ∧ U' l = U l)
    (hz : V' n = va' j ∧ N' n = nu' j ∧ sc_end (E' n) (en' j) ∧ U' n = us' j) :
    sc_Rep (upd h j 1) (upd so j x) va' nu' en' us' (n + 1) (upd K n (nI j)) (upd S n x) V' N' E' U' := by
  have nk : ∀ l, l < n → ¬ K l = nI j := by
    intro l hl e
    exact (sc_at R hl hj e).1 h0
  refine ⟨fun l hl => ?_, fun j' hj' hh => ?_, fun a l ha hl e => ?_⟩
  · by_cases e : l = n
    · subst e
      refine ⟨j, hj, sc_us, ?_, ?_, hz⟩
      · rw [sc_us]; exact sc_1n0
      · rw [sc_us, sc_us]
    · obtain ⟨j', hj', hK', h1, h2, h3, h4, h5, h6⟩ := R.1 l (by omega)
      have ne : j' ≠ j := fun z => h1 (by rw [z]; exact h0)
      obtain ⟨x1, x2, x3, x4⟩ := hx j' ne
      obtain ⟨y1, y2, y3, y4⟩ := hy l e
      exact ⟨j', hj', by rw [sc_un e]; exact hK', by rw [sc_un ne]; exact h1, by rw [sc_un e, sc_un ne]; exact h2, by rw [x1, y1, h3], by rw [x2, y2, h4], by rw [x3, y3]; exact h5, by rw [x4, y4, h6]⟩
  · by_cases e : j' = j
    · exact ⟨n, by omega, by rw [sc_us, e]⟩
    · rw [sc_un e] at hh
      obtain ⟨l, hl, hK'⟩ := R.2.1 j' hj' hh
      exact ⟨l, by omega, by rw [sc_un (show l ≠ n by omega)]; exact hK'⟩
  · by_cases ea : a = n
    · by_cases el : l = n
      · rw [ea, el]
      · rw [ea, sc_us, sc_un el] at e
        exact absurd e.symm (nk l (by omega))
    · by_cases el : l = n
      · rw [el, sc_us, sc_un ea] at e
        exact absurd e (nk a (by omega))
      · rw [sc_un ea, sc_un el] at e
        exact R.2.2 a l (by omega) (by omega) e
theorem sc_rep_c (R : sc_Rep h so va nu en us n K S V N E U) (H : ∀ l, l < 256 → (h l = 0 ↔ h' l = 0)) : sc_Rep h' so va nu en us n K S V N E U := by
  refine ⟨fun l hl => ?_, fun j hj hh => R.2.1 j hj (fun z => hh ((H j hj).mp z)), R.2.2⟩
  obtain ⟨j, hj, hK, h1, H2⟩ := R.1 l hl
  exact ⟨j, hj, hK, fun z => h1 ((H j hj).mpr z), H2⟩
/-- the reference's count over its rows is the count over the keys -/
theorem sc_cntY (R : sc_Rep h so va nu en us n K S V N E U) (s : Nat) : sc_cnt (fun i => decide (S i = nI s)) n = sc_cnt (sc_hs h so s) 256 := by
  have B : sc_cnt (fun j => sc_hb h j && decide (so j = nI s)) 256 = sc_cnt (fun i => decide (so (K i).toNatClampNeg = nI s)) n := sc_bij (q := fun j => decide (so j = nI s)) (κ := fun i => (K i).toNatClampNeg) n (sc_hb h)
    (fun i hi => by
      obtain ⟨j, hj, hK, _⟩ := R.1 i hi
      show (K i).toNatClampNeg < 256
      rw [hK, nI_clamp (by omega)]; exact hj)
    (fun i l hi hl e => by
      obtain ⟨j, hj, hK, _⟩ := R.1 i hi
      obtain ⟨j', hj', hK', _⟩ := R.1 l hl
      have e : (K i).toNatClampNeg = (K l).toNatClampNeg := e
      rw [hK, hK', nI_clamp (by omega), nI_clamp (by omega)] at e
      exact R.2.2 i l hi hl (by rw [hK, hK', e]))
    (fun j hj => by
      rw [sc_hb_iff]
      constructor
      · intro z
        obtain ⟨i, hi, hK⟩ := R.2.1 j hj z
        exact ⟨i, hi, by show (K i).toNatClampNeg = j; rw [hK, nI_clamp (by omega)]⟩
      · rintro ⟨i, hi, e⟩
        have e : (K i).toNatClampNeg = j := e
        obtain ⟨j', hj', hK', h1, _⟩ := R.1 i hi
        rw [hK', nI_clamp (by omega)] at e
        rw [← e]; exact h1)
  show _ = sc_cnt (fun j => sc_hb h j && decide (so j = nI s)) 256
  rw [B]
  refine sc_cnt_c n (fun i hi => ?_)
  obtain ⟨j, hj, hK, h1, h2, _⟩ := R.1 i hi
  show decide (S i = nI s) = decide (so (K i).toNatClampNeg = nI s)
  rw [hK, nI_clamp (by omega), h2]
theorem sc_cntN (R : sc_Rep h so va nu en us n K S V N E U) : sc_cnt (sc_hb h) 256 = n := by
  have B : sc_cnt (fun j => sc_hb h j && true) 256 = sc_cnt (fun _ => true) n := sc_bij (q := fun _ => true) (κ := fun i => (K i).toNatClampNeg) n (sc_hb h)
    (fun i hi => by
      obtain ⟨j, hj, hK, _⟩ := R.1 i hi
      show (K i).toNatClampNeg < 256
      rw [hK, nI_clamp (by omega)]; exact hj)
    (fun i l hi hl e => by
      obtain ⟨j, hj, hK, _⟩ := R.1 i hi
      obtain ⟨j', hj', hK', _⟩ := R.1 l hl
      have e : (K i).toNatClampNeg = (K l).toNatClampNeg := e
      rw [hK, hK', nI_clamp (by omega), nI_clamp (by omega)] at e
      exact R.2.2 i l hi hl (by rw [hK, hK', e]))
    (fun j hj => by
      rw [sc_hb_iff]
      constructor
      · intro z
        obtain ⟨i, hi, hK⟩ := R.2.1 j hj z
        exact ⟨i, hi, by show (K i).toNatClampNeg = j; rw [hK, nI_clamp (by omega)]⟩
      · rintro ⟨i, hi, e⟩
        have e : (K i).toNatClampNeg = j := e
        obtain ⟨j', hj', hK', h1, _⟩ := R.1 i hi
        rw [hK', nI_clamp (by omega)] at e
        rw [← e]; exact h1)
  have e1 : sc_cnt (fun j => sc_hb h j && true) 256 = sc_cnt (sc_hb h) 256 := sc_cnt_c 256 (fun i _ => by rw [Bool.and_true])
  have e2 : ∀ m : Nat, sc_cnt (fun _ => true) m = m := by
    intro m
    induction m with
    | zero => rfl
    | succ m ih => rw [sc_cnt_s, ih]; rfl
  rw [← e1, B]
  exact e2 n
end

/-! the counts and the pages -/
def sc_cells (s : Nat) : Nat := if s = 0 then 4 else if s = 1 then 2 else 1
def sc_XC (p : Nat → Nat) (f : Nat) (h so ic pc : Nat → Int32) : Prop :=
  f + p 0 + p 1 + p 2 = 8 ∧
  (∀ s, s < 3 → pc s = nI (p s) ∧ ic s = nI (sc_cnt (sc_hs h so s) 256) ∧ sc_cnt (sc_hs h so s) 256 ≤ p s * sc_cells s) ∧
  (∀ j, j < 256 → ¬ h j = 0 → ∃ s, s < 3 ∧ so j = nI s)
section
variable {h so va nu en us ic pc h' K S V N E U : Nat → Int32} {p : Nat → Nat} {f n i j s : Nat}
theorem sc_xdrop (C : sc_XC p f h so ic pc) (hj : j < 256) (hh : ¬ h j = 0) (hs : s < 3) (e : so j = nI s) : sc_XC p f (upd h j 0) so (upd ic s (ic s - 1)) pc := by
  refine ⟨C.1, fun t ht => ?_, fun j' hj' hh' => ?_⟩
  · obtain ⟨c1, c2, c3⟩ := C.2.1 t ht
    by_cases et : t = s
    · subst et
      have := sc_cd1 hj hh e
      refine ⟨c1, ?_, by omega⟩
      rw [sc_us, c2, this]
      exact nI_pred _
    · have := sc_cd2 (h := h) e hs ht et
      refine ⟨c1, ?_, by omega⟩
      rw [sc_un et, c2, this]
  · have ne : j' ≠ j := fun z => hh' (by rw [z]; exact sc_us)
    rw [sc_un ne] at hh'
    exact C.2.2 j' hj' hh'
theorem sc_xpush (C : sc_XC p f h so ic pc) (hj : j < 256) (h0 : h j = 0) (hs : s < 3) (hc : sc_cnt (sc_hs h so s) 256 < p s * sc_cells s) : sc_XC p f (upd h j 1) (upd so j (nI s)) (upd ic s (ic s + 1)) pc := by
  refine ⟨C.1, fun t ht => ?_, fun j' hj' hh' => ?_⟩
  · obtain ⟨c1, c2, c3⟩ := C.2.1 t ht
    by_cases et : t = s
    · subst et
      have := sc_cp1 (so := so) (s := t) hj h0
      refine ⟨c1, ?_, by omega⟩
      rw [sc_us, c2, this]
      exact nI_1 _
    · have := sc_cp2 (so := so) h0 hs ht et
      refine ⟨c1, ?_, by omega⟩
      rw [sc_un et, c2, this]
  · by_cases e : j' = j
    · exact ⟨s, hs, by rw [e, sc_us]⟩
    · rw [sc_un e] at hh'
      rw [sc_un e]
      exact C.2.2 j' hj' hh'
theorem sc_xpage (C : sc_XC p (f + 1) h so ic pc) (hs : s < 3) : sc_XC (fun t => if t = s then p s + 1 else p t) f h so ic (upd pc s (pc s + 1)) := by
  refine ⟨?_, fun t ht => ?_, C.2.2⟩
  · have := C.1
    show f + (if 0 = s then p s + 1 else p 0) + (if 1 = s then p s + 1 else p 1) + (if 2 = s then p s + 1 else p 2) = 8
    obtain rfl | rfl | rfl : s = 0 ∨ s = 1 ∨ s = 2 := by omega
    · simp; omega
    · simp; omega
    · simp; omega
  · obtain ⟨c1, c2, c3⟩ := C.2.1 t ht
    by_cases et : t = s
    · subst et
      refine ⟨?_, c2, ?_⟩
      · show upd pc t (pc t + 1) t = nI (if t = t then p t + 1 else p t)
        rw [sc_us, c1, nI_1, if_pos rfl]
      · show _ ≤ (if t = t then p t + 1 else p t) * sc_cells t
        rw [if_pos rfl, Nat.add_mul]
        omega
    · refine ⟨?_, c2, ?_⟩
      · show upd pc s (pc s + 1) t = nI (if t = s then p s + 1 else p t)
        rw [sc_un et, c1, if_neg et]
      · show _ ≤ (if t = s then p s + 1 else p t) * sc_cells t
        rw [if_neg et]; exact c3
theorem sc_sum (C : sc_XC p f h so ic pc) : sc_cnt (sc_hb h) 256 = sc_cnt (sc_hs h so 0) 256 + sc_cnt (sc_hs h so 1) 256 + sc_cnt (sc_hs h so 2) 256 := by
  have e1 := sc_cnt_add (p := fun j => sc_hs h so 0 j || sc_hs h so 1 j) (q := sc_hs h so 0) (r := sc_hs h so 1) 256 (fun i _ => by
    show (sc_hs h so 0 i || sc_hs h so 1 i).toNat = _
    by_cases z : so i = nI 0
    · have : ¬ so i = nI 1 := fun y => absurd (sc_im (z.symm.trans y) (by omega) (by omega)) (by decide)
      rw [sc_hs_f2 (s := 1) this, Bool.or_false]; rfl
    · rw [sc_hs_f2 (s := 0) z, Bool.false_or]
      show _ = 0 + _
      omega)
  have e2 := sc_cnt_add (p := sc_hb h) (q := fun j => sc_hs h so 0 j || sc_hs h so 1 j) (r := sc_hs h so 2) 256 (fun i hi => by
    show _ = (sc_hs h so 0 i || sc_hs h so 1 i).toNat + _
    by_cases z : h i = 0
    · rw [sc_hb_f z, sc_hs_f1 z, sc_hs_f1 z, sc_hs_f1 z]; rfl
    · obtain ⟨s, hs, e⟩ := C.2.2 i hi z
      have ne : ∀ t, t < 3 → t ≠ s → sc_hs h so t i = false := fun t ht hne => sc_hs_f2 (fun y => hne (sc_im (y.symm.trans e) (by omega) (by omega)))
      have te : sc_hs h so s i = true := sc_hs_t z e
      obtain rfl | rfl | rfl : s = 0 ∨ s = 1 ∨ s = 2 := by omega
      · rw [sc_hb_t z, te, ne 1 (by omega) (by omega), ne 2 (by omega) (by omega)]; rfl
      · rw [sc_hb_t z, te, ne 0 (by omega) (by omega), ne 2 (by omega) (by omega)]; rfl
      · rw [sc_hb_t z, te, ne 0 (by omega) (by omega), ne 1 (by omega) (by omega)]; rfl)
  rw [e2, e1]
theorem sc_n32 (R : sc_Rep h so va nu en us n K S V N E U) (C : sc_XC p f h so ic pc) : n ≤ 32 := by
  have e := sc_cntN R
  have e2 := sc_sum C
  have a0 := (C.2.1 0 (by omega)).2.2
  have a1 := (C.2.1 1 (by omega)).2.2
  have a2 := (C.2.1 2 (by omega)).2.2
  have c0 : sc_cells 0 = 4 := rfl
  have c1 : sc_cells 1 = 2 := rfl
  have c2 : sc_cells 2 = 1 := rfl
  rw [c0] at a0
  rw [c1] at a1
  rw [c2] at a2
  have := C.1
  omega
theorem sc_n31 (R : sc_Rep h so va nu en us n K S V N E U) (C : sc_XC p f h so ic pc) (hs : s < 3) (hc : sc_cnt (sc_hs h so s) 256 < p s * sc_cells s) : n < 32 := by
  have e := sc_cntN R
  have e2 := sc_sum C
  have a0 := (C.2.1 0 (by omega)).2.2
  have a1 := (C.2.1 1 (by omega)).2.2
  have a2 := (C.2.1 2 (by omega)).2.2
  have c0 : sc_cells 0 = 4 := rfl
  have c1 : sc_cells 1 = 2 := rfl
  have c2 : sc_cells 2 = 1 := rfl
  rw [c0] at a0
  rw [c1] at a1
  rw [c2] at a2
  have := C.1
  obtain rfl | rfl | rfl : s = 0 ∨ s = 1 ∨ s = 2 := by omega
  · rw [c0] at hc; omega
  · rw [c1] at hc; omega
  · rw [c2] at hc; omega
theorem sc_pc (C : sc_XC p f h so ic pc) (hs : s < 3) : p s ≤ 8 := by
  have := C.1
  obtain rfl | rfl | rfl : s = 0 ∨ s = 1 ∨ s = 2 := by omega
  · omega
  · omega
  · omega
end

/-! the uses -/
def sc_XU (m : Nat) (h us : Nat → Int32) : Prop :=
  (∀ j, j < 256 → ¬ h j = 0 → ∃ q, q ≤ m ∧ us j = nI q) ∧
  (∀ i j, i < 256 → j < 256 → ¬ h i = 0 → ¬ h j = 0 → us i = us j → i = j)
theorem sc_xu_sub {m : Nat} {h h' us : Nat → Int32} (A : sc_XU m h us) (H : ∀ j, j < 256 → ¬ h' j = 0 → ¬ h j = 0) : sc_XU m h' us :=
  ⟨fun j hj hh => A.1 j hj (H j hj hh), fun i j hi hj h1 h2 => A.2 i j hi hj (H i hi h1) (H j hj h2)⟩
theorem sc_xu_use {m j : Nat} {h h' us : Nat → Int32} (A : sc_XU m h us) (hm : m + 1 < 2 ^ 31) (H : ∀ l, l < 256 → l ≠ j → ¬ h' l = 0 → ¬ h l = 0) : sc_XU (m + 1) h' (upd us j (nI (m + 1))) := by
  have lt : ∀ l, l < 256 → l ≠ j → ¬ h' l = 0 → ¬ us l = nI (m + 1) := by
    intro l hl hne hh e
    obtain ⟨q, hq, eq⟩ := A.1 l hl (H l hl hne hh)
    have := sc_im (eq.symm.trans e) (by omega) (by omega)
    omega
  refine ⟨fun l hl hh => ?_, fun a l ha hl h1 h2 e => ?_⟩
  · by_cases el : l = j
    · exact ⟨m + 1, by omega, by rw [el, sc_us]⟩
    · rw [sc_un el]
      obtain ⟨q, hq, eq⟩ := A.1 l hl (H l hl el hh)
      exact ⟨q, by omega, eq⟩
  · by_cases ea : a = j
    · by_cases el : l = j
      · rw [ea, el]
      · rw [ea, sc_us, sc_un el] at e
        exact absurd e.symm (lt l hl el h2)
    · by_cases el : l = j
      · rw [el, sc_us, sc_un ea] at e
        exact absurd e (lt a ha ea h1)
      · rw [sc_un ea, sc_un el] at e
        exact A.2 a l ha hl (H a ha ea h1) (H l hl el h2) e
def sc_old (h so us : Nat → Int32) (s j : Nat) : Prop := j < 256 ∧ ¬ h j = 0 ∧ so j = nI s ∧ ∀ l, l < 256 → ¬ h l = 0 → so l = nI s → us j ≤ us l
theorem sc_old1 {m s i j : Nat} {h so us : Nat → Int32} (A : sc_XU m h us) (a : sc_old h so us s i) (b : sc_old h so us s j) : i = j :=
  A.2 i j a.1 b.1 a.2.1 b.2.1 (Int32.le_antisymm (a.2.2.2 j b.1 b.2.1 b.2.2.1) (b.2.2.2 i a.1 a.2.1 a.2.2.1))
end
section
/-! the ends -/
def sc_eb (en : Nat → Int32) (cl : Int32) (j : Nat) : Bool := !(decide (en j = 0)) && decide (en j ≤ cl)
theorem sc_eb_t {en : Nat → Int32} {cl : Int32} {j : Nat} : sc_eb en cl j = true ↔ ¬ en j = 0 ∧ en j ≤ cl := by
  unfold sc_eb
  rw [Bool.and_eq_true, Bool.not_eq_true', decide_eq_false_iff_not, decide_eq_true_iff]
theorem sc_eb_f {en : Nat → Int32} {cl : Int32} {j : Nat} (h : ¬ (¬ en j = 0 ∧ en j ≤ cl)) : sc_eb en cl j = false :=
  sc_bf (fun z => h (sc_eb_t.mp z))
theorem sc_end_iff {e x cl : Int32} (h : sc_end e x) : (0 ≤ e ∧ e ≤ cl) ↔ (¬ x = 0 ∧ x ≤ cl) := by
  rcases h with ⟨rfl, rfl⟩ | ⟨m, h0, h1, rfl, rfl⟩
  · exact ⟨fun z => absurd z.1 sc_n1le, fun z => absurd rfl z.1⟩
  · exact ⟨fun z => ⟨nI_ne0 h0 h1, z.2⟩, fun z => ⟨nI_pos' h1, z.2⟩⟩
/-- the component's pass over the keys -/
def sc_TX (p : Nat → Nat) (f : Nat) (h so en pc : Nat → Int32) (cl : Int32) (j : Nat) (g : Int32) (h' ic' : Nat → Int32) : Prop :=
  sc_XC p f h' so ic' pc ∧ (∀ l, l < j → (h' l = 0 ↔ (h l = 0 ∨ sc_eb en cl l = true))) ∧ (∀ l, j ≤ l → h' l = h l) ∧ g = nI (sc_cnt (fun l => sc_hb h l && sc_eb en cl l) j)
section
variable {h so en pc h' ic ic' : Nat → Int32} {p : Nat → Nat} {f j s : Nat} {cl g : Int32}
theorem sc_tx0 (C : sc_XC p f h so ic pc) : sc_TX p f h so en pc cl 0 0 h ic :=
  ⟨C, fun l hl => absurd hl (Nat.not_lt_zero l), fun _ _ => rfl, nI_0.symm⟩
theorem sc_tx1 (T : sc_TX p f h so en pc cl j g h' ic') (hj : j < 256) (hh : ¬ h' j = 0) (he : ¬ en j = 0 ∧ en j ≤ cl) (hs : s < 3) (e : so j = nI s) : sc_TX p f h so en pc cl (j + 1) (g + 1) (upd h' j 0) (upd ic' s (ic' s - 1)) := by
  obtain ⟨C, A, B, G⟩ := T
  have hb := B j (Nat.le_refl j)
  refine ⟨sc_xdrop C hj hh hs e, fun l hl => ?_, fun l hl => ?_, ?_⟩
  · by_cases el : l = j
    · subst el
      rw [sc_us]
      exact ⟨fun _ => Or.inr (sc_eb_t.mpr he), fun _ => rfl⟩
    · rw [sc_un el]
      exact A l (by omega)
  · rw [sc_un (show l ≠ j by omega)]
    exact B l (by omega)
  · have E : sc_cnt (fun l => sc_hb h l && sc_eb en cl l) (j + 1) = sc_cnt (fun l => sc_hb h l && sc_eb en cl l) j + (sc_hb h j && sc_eb en cl j).toNat := rfl
    rw [E, sc_hb_t (by rw [← hb]; exact hh), sc_eb_t.mpr he, G]
    exact nI_1 _
theorem sc_tx2 (T : sc_TX p f h so en pc cl j g h' ic') (hh : h' j = 0 ∨ ¬ (¬ en j = 0 ∧ en j ≤ cl)) : sc_TX p f h so en pc cl (j + 1) g h' ic' := by
  obtain ⟨C, A, B, G⟩ := T
  have hb := B j (Nat.le_refl j)
  refine ⟨C, fun l hl => ?_, fun l hl => B l (by omega), ?_⟩
  · by_cases el : l = j
    · subst el
      rw [hb]
      rcases hh with z | z
      · rw [hb] at z
        exact ⟨fun y => Or.inl y, fun _ => z⟩
      · refine ⟨fun y => Or.inl y, fun y => ?_⟩
        rcases y with y | y
        · exact y
        · exact absurd (sc_eb_t.mp y) z
    · exact A l (by omega)
  · have E : sc_cnt (fun l => sc_hb h l && sc_eb en cl l) (j + 1) = sc_cnt (fun l => sc_hb h l && sc_eb en cl l) j + (sc_hb h j && sc_eb en cl j).toNat := rfl
    have z : (sc_hb h j && sc_eb en cl j) = false := by
      rcases hh with z | z
      · rw [sc_hb_f (by rw [← hb]; exact z)]; rfl
      · rw [sc_eb_f z, Bool.and_false]
    rw [E, z, G]
    rfl
end
/-- the reference's pass over its rows, from the last down -/
def sc_TY (h so va nu en us : Nat → Int32) (cl : Int32) (m g n : Nat) (K S V N E U : Nat → Int32) : Prop :=
  ∃ h' : Nat → Int32, sc_Rep h' so va nu en us n K S V N E U ∧ m ≤ n ∧ n ≤ 32 ∧ (∀ i, m ≤ i → i < n → ¬ (0 ≤ E i ∧ E i ≤ cl)) ∧ (∀ l, l < 256 → ¬ h' l = 0 → ¬ h l = 0) ∧ (∀ l, l < 256 → ¬ h l = 0 → ¬ (¬ en l = 0 ∧ en l ≤ cl) → ¬ h' l = 0) ∧ sc_cnt (sc_hb h) 256 = sc_cnt (sc_hb h') 256 + g
section
variable {h so va nu en us K S V N E U hX : Nat → Int32} {m n g : Nat} {cl : Int32}
theorem sc_ty0 (R : sc_Rep h so va nu en us n K S V N E U) (hn : n ≤ 32) : sc_TY h so va nu en us cl n 0 n K S V N E U :=
  ⟨h, R, Nat.le_refl n, hn, fun i h1 h2 => absurd h2 (Nat.not_lt.mpr h1), fun _ _ z => z, fun _ _ z _ => z, rfl⟩
theorem sc_ty2 (T : sc_TY h so va nu en us cl (m + 1) g n K S V N E U) (he : ¬ (0 ≤ E m ∧ E m ≤ cl)) : sc_TY h so va nu en us cl m g n K S V N E U := by
  obtain ⟨h', R, hm, hn, A, B⟩ := T
  refine ⟨h', R, by omega, hn, fun i h1 h2 => ?_, B⟩
  by_cases e : i = m
  · rw [e]; exact he
  · exact A i (by omega) h2
theorem sc_ty1 (T : sc_TY h so va nu en us cl (m + 1) g (n + 1) K S V N E U) (he : 0 ≤ E m ∧ E m ≤ cl) : sc_TY h so va nu en us cl m (g + 1) n (upd K m (K n)) (upd S m (S n)) (upd V m (V n)) (upd N m (N n)) (upd E m (E n)) (upd U m (U n)) := by
  obtain ⟨h', R, hm, hn, A, B1, B2, B3⟩ := T
  obtain ⟨j, hj, hK, hh, _, _, _, hE, _⟩ := R.1 m (by omega)
  refine ⟨upd h' j 0, sc_drop R (by omega) hj hK, by omega, by omega, fun i h1 h2 => ?_, fun l hl z => ?_, fun l hl z z2 => ?_, ?_⟩
  · by_cases e : i = m
    · rw [e, sc_us]
      exact A n (by omega) (by omega)
    · rw [sc_un e]
      exact A i (by omega) (by omega)
  · by_cases e : l = j
    · rw [e, sc_us] at z
      exact absurd rfl z
    · rw [sc_un e] at z
      exact B1 l hl z
  · have e : l ≠ j := fun y => z2 (by rw [y]; exact (sc_end_iff hE).mp he)
    rw [sc_un e]
    exact B2 l hl z z2
  · have P := sc_cnt_pt (p := sc_hb h') (q := sc_hb (upd h' j 0)) (a := j) (sc_hb_t hh) (sc_hb_f sc_us) 256 hj (fun i _ hi => by
      unfold sc_hb; rw [sc_un hi])
    omega
/-- both passes end alike -/
theorem sc_tyE (T : sc_TY h so va nu en us cl 0 g n K S V N E U) (H : ∀ l, l < 256 → (hX l = 0 ↔ (h l = 0 ∨ sc_eb en cl l = true))) : sc_Rep hX so va nu en us n K S V N E U ∧ g = sc_cnt (fun l => sc_hb h l && sc_eb en cl l) 256 := by
  obtain ⟨h', R, hm, hn, A, B1, B2, B3⟩ := T
  have H' : ∀ l, l < 256 → (h' l = 0 ↔ hX l = 0) := by
    intro l hl
    rw [H l hl]
    constructor
    · intro z
      by_cases y : h l = 0
      · exact Or.inl y
      · by_cases w : ¬ en l = 0 ∧ en l ≤ cl
        · exact Or.inr (sc_eb_t.mpr w)
        · exact absurd z (B2 l hl y w)
    · intro z
      by_cases y : h' l = 0
      · exact y
      · rcases z with z | z
        · exact absurd z (B1 l hl y)
        · obtain ⟨i, hi, hK⟩ := R.2.1 l hl y
          have := sc_at R hi hl hK
          exact absurd ((sc_end_iff this.2.2.2.2.1).mpr (sc_eb_t.mp z)) (A i (Nat.zero_le i) hi)
  refine ⟨sc_rep_c R H', ?_⟩
  have e1 : sc_cnt (sc_hb h') 256 = sc_cnt (sc_hb hX) 256 := sc_cnt_c 256 (fun l hl => sc_hb_c (H' l hl))
  have e2 := sc_cnt_add (p := sc_hb h) (q := sc_hb hX) (r := fun l => sc_hb h l && sc_eb en cl l) 256 (fun l hl => by
    show _ = _ + (sc_hb h l && sc_eb en cl l).toNat
    by_cases y : h l = 0
    · rw [sc_hb_f y, sc_hb_f ((H l hl).mpr (Or.inl y))]; rfl
    · by_cases w : sc_eb en cl l = true
      · rw [sc_hb_t y, sc_hb_f ((H l hl).mpr (Or.inr w)), w]; rfl
      · have w' := sc_bf w
        have : ¬ hX l = 0 := fun z => by
          rcases (H l hl).mp z with q | q
          · exact y q
          · exact w q
        rw [sc_hb_t y, sc_hb_t this, w']; rfl)
  omega
end
end
section
/-- one relation over the plain functions -/
def sc_R (k : Nat) (p : Nat → Nat) (f n c m : Nat) (h so va nu en us ic pc K S V N E U : Nat → Int32) : Prop :=
  sc_Rep h so va nu en us n K S V N E U ∧ sc_XC p f h so ic pc ∧ sc_XU m h us ∧ c ≤ 1000 * k ∧ m ≤ k
section
variable {h so va nu en us ic pc K S V N E U va' nu' en' V' N' E' : Nat → Int32} {p : Nat → Nat} {k f n c m i j s : Nat}
theorem sc_rup (R : sc_R k p f n c m h so va nu en us ic pc K S V N E U) : sc_R (k + 5) p f n c m h so va nu en us ic pc K S V N E U := by
  obtain ⟨h1, h2, h3, h4, h5⟩ := R
  exact ⟨h1, h2, h3, by omega, by omega⟩
theorem sc_rn (R : sc_R k p f n c m h so va nu en us ic pc K S V N E U) : n ≤ 32 := sc_n32 R.1 R.2.1
theorem sc_ruse (R : sc_R k p f n c m h so va nu en us ic pc K S V N E U) (hk : k + 5 ≤ 2560) (hi : i < n) (hj : j < 256) (hK : K i = nI j)
    (hx : ∀ l, l ≠ j → va' l = va l ∧ nu' l = nu l ∧ en' l = en l) (hy : ∀ l, l ≠ i → V' l = V l ∧ N' l = N l ∧ E' l = E l)
    (hz : V' i = va' j ∧ N' i = nu' j ∧ sc_end (E' i) (en' j)) :
    sc_R (k + 5) p f n c (m + 1) h so va' nu' en' (upd us j (nI (m + 1))) ic pc K S V' N' E' (upd U i (nI (m + 1))) := by
  obtain ⟨h1, h2, h3, h4, h5⟩ := R
  refine ⟨sc_mod h1 hi hj hK (fun l hl => ⟨(hx l hl).1, (hx l hl).2.1, (hx l hl).2.2, sc_un hl⟩) (fun l hl => ⟨(hy l hl).1, (hy l hl).2.1, (hy l hl).2.2, sc_un hl⟩) ⟨hz.1, hz.2.1, hz.2.2, ?_⟩, h2, sc_xu_use h3 (by omega) (fun _ _ _ z => z), by omega, by omega⟩
  rw [sc_us, sc_us]
theorem sc_rdrop (R : sc_R k p f (n + 1) c m h so va nu en us ic pc K S V N E U) (hi : i < n + 1) (hj : j < 256) (hK : K i = nI j) (hs : s < 3) (e : so j = nI s) :
    sc_R k p f n c m (upd h j 0) so va nu en us (upd ic s (ic s - 1)) pc (upd K i (K n)) (upd S i (S n)) (upd V i (V n)) (upd N i (N n)) (upd E i (E n)) (upd U i (U n)) := by
  obtain ⟨h1, h2, h3, h4, h5⟩ := R
  refine ⟨sc_drop h1 hi hj hK, sc_xdrop h2 hj (sc_at h1 hi hj hK).1 hs e, sc_xu_sub h3 (fun l hl z => ?_), h4, h5⟩
  by_cases el : l = j
  · rw [el, sc_us] at z
    exact absurd rfl z
  · rw [sc_un el] at z
    exact z
theorem sc_rpush (R : sc_R k p f n c m h so va nu en us ic pc K S V N E U) (hk : k + 5 ≤ 2560) (hj : j < 256) (h0 : h j = 0) (hs : s < 3) (hc : sc_cnt (sc_hs h so s) 256 < p s * sc_cells s)
    (hx : ∀ l, l ≠ j → va' l = va l ∧ nu' l = nu l ∧ en' l = en l) (hy : ∀ l, l ≠ n → V' l = V l ∧ N' l = N l ∧ E' l = E l)
    (hz : V' n = va' j ∧ N' n = nu' j ∧ sc_end (E' n) (en' j)) :
    sc_R (k + 5) p f (n + 1) c (m + 1) (upd h j 1) (upd so j (nI s)) va' nu' en' (upd us j (nI (m + 1))) (upd ic s (ic s + 1)) pc (upd K n (nI j)) (upd S n (nI s)) V' N' E' (upd U n (nI (m + 1))) := by
  obtain ⟨h1, h2, h3, h4, h5⟩ := R
  refine ⟨sc_push h1 hj h0 (fun l hl => ⟨(hx l hl).1, (hx l hl).2.1, (hx l hl).2.2, sc_un hl⟩) (fun l hl => ⟨(hy l hl).1, (hy l hl).2.1, (hy l hl).2.2, sc_un hl⟩) ⟨hz.1, hz.2.1, hz.2.2, ?_⟩, sc_xpush h2 hj h0 hs hc, sc_xu_use h3 (by omega) (fun l _ hne z => ?_), by omega, by omega⟩
  · rw [sc_us, sc_us]
  · rw [sc_un hne] at z
    exact z
theorem sc_rpage (R : sc_R k p (f + 1) n c m h so va nu en us ic pc K S V N E U) (hs : s < 3) : sc_R k (fun t => if t = s then p s + 1 else p t) f n c m h so va nu en us ic (upd pc s (pc s + 1)) K S V N E U :=
  ⟨R.1, sc_xpage R.2.1 hs, R.2.2⟩
theorem sc_cdle (C : sc_XC p f h so ic pc) (hj : j < 256) (hh : ¬ h j = 0) (hs : s < 3) : sc_cnt (sc_hs (upd h j 0) so s) 256 ≤ sc_cnt (sc_hs h so s) 256 := by
  obtain ⟨t, ht, e⟩ := C.2.2 j hj hh
  by_cases et : s = t
  · subst et
    have := sc_cd1 hj hh e
    omega
  · have := sc_cd2 (h := h) e ht hs et
    omega
def sc_eX (t c : Nat) : Int32 := if t = 0 then 0 else nI (c + t)
def sc_eY (t c : Nat) : Int32 := if t = 0 then -1 else nI (c + t)
theorem sc_endE {t : Nat} (ht : t ≤ 1000) (hc : c ≤ 1000 * k) (hk : k + 5 ≤ 2560) : sc_end (sc_eY t c) (sc_eX t c) := by
  unfold sc_eX sc_eY
  by_cases z : t = 0
  · rw [if_pos z, if_pos z]
    exact Or.inl ⟨rfl, rfl⟩
  · rw [if_neg z, if_neg z]
    exact Or.inr ⟨c + t, by omega, by omega, rfl, rfl⟩
end
end
section
/-! the one that was used longest ago, found so far -/
def sc_L (P : Nat → Prop) (us : Nat → Int32) (b : Nat) (fd : Int32) : Prop :=
  (fd = -1 ∧ ∀ l, l < b → ¬ P l) ∨ ∃ j, j < b ∧ fd = nI j ∧ P j ∧ ∀ l, l < b → P l → us j ≤ us l
section
variable {P : Nat → Prop} {us : Nat → Int32} {b j : Nat} {fd : Int32}
theorem sc_l0 : sc_L P us 0 (-1) := Or.inl ⟨rfl, fun l hl => absurd hl (Nat.not_lt_zero l)⟩
theorem sc_lskip (H : sc_L P us b fd) (h : ¬ P b) : sc_L P us (b + 1) fd := by
  have A : ∀ Q : Nat → Prop, (∀ l, l < b → P l → Q l) → ∀ l, l < b + 1 → P l → Q l := by
    intro Q hQ l hl hp
    by_cases e : l = b
    · rw [e] at hp; exact absurd hp h
    · exact hQ l (by omega) hp
  rcases H with ⟨e, H⟩ | ⟨j, hj, e, hp, H⟩
  · exact Or.inl ⟨e, fun l hl hp => A (fun _ => False) (fun l hl hp => H l hl hp) l hl hp⟩
  · exact Or.inr ⟨j, by omega, e, hp, A (fun l => us j ≤ us l) H⟩
theorem sc_ltake0 (H : sc_L P us b (-1)) (hb : b < 2 ^ 31) (h : P b) : sc_L P us (b + 1) (nI b) := by
  rcases H with ⟨_, H⟩ | ⟨j, hj, e, _⟩
  · refine Or.inr ⟨b, by omega, rfl, h, fun l hl hp => ?_⟩
    by_cases e : l = b
    · rw [e]; exact Int32.le_refl _
    · exact absurd hp (H l (by omega))
  · exact absurd e.symm (sc_ne1 (by omega))
theorem sc_lj (H : sc_L P us b (nI j)) (hj : j < 2 ^ 31) (hb : b < 2 ^ 31) : j < b ∧ P j ∧ ∀ l, l < b → P l → us j ≤ us l := by
  rcases H with ⟨e, _⟩ | ⟨i, hi, e, hp, H⟩
  · exact absurd e (sc_ne1 hj)
  · have := sc_im e hj (by omega)
    subst this
    exact ⟨hi, hp, H⟩
theorem sc_ltake (H : sc_L P us b (nI j)) (hj : j < 2 ^ 31) (hb : b < 2 ^ 31) (h : P b) (hu : us b < us j) : sc_L P us (b + 1) (nI b) := by
  obtain ⟨h1, h2, h3⟩ := sc_lj H hj hb
  refine Or.inr ⟨b, by omega, rfl, h, fun l hl hp => ?_⟩
  by_cases e : l = b
  · rw [e]; exact Int32.le_refl _
  · exact Int32.le_of_lt (Int32.lt_of_lt_of_le hu (h3 l (by omega) hp))
theorem sc_lkeep (H : sc_L P us b (nI j)) (hj : j < 2 ^ 31) (hb : b < 2 ^ 31) (hu : ¬ us b < us j) : sc_L P us (b + 1) (nI j) := by
  obtain ⟨h1, h2, h3⟩ := sc_lj H hj hb
  refine Or.inr ⟨j, by omega, rfl, h2, fun l hl hp => ?_⟩
  by_cases e : l = b
  · rw [e]; exact Int32.not_lt.mp hu
  · exact h3 l (by omega) hp
end
/-- the row that is oldest among the reference's rows of a sort has the oldest key -/
theorem sc_oldY {h so va nu en us K S V N E U : Nat → Int32} {n i s : Nat} (R : sc_Rep h so va nu en us n K S V N E U) (hi : i < n) (hs : S i = nI s) (H : ∀ l, l < n → S l = nI s → U i ≤ U l) : ∃ j, sc_old h so us s j ∧ K i = nI j := by
  obtain ⟨j, hj, hK, h1, h2, h3, h4, h5, h6⟩ := R.1 i hi
  refine ⟨j, ⟨hj, h1, by rw [← h2]; exact hs, fun l hl hh e => ?_⟩, hK⟩
  obtain ⟨a, ha, hKa⟩ := R.2.1 l hl hh
  have A := sc_at R ha hl hKa
  rw [← h6, ← A.2.2.2.2.2]
  exact H a ha (by rw [A.2.1]; exact e)
theorem sc_noneY {h so va nu en us K S V N E U : Nat → Int32} {n s : Nat} (R : sc_Rep h so va nu en us n K S V N E U) : (∀ l, l < n → ¬ S l = nI s) ↔ (∀ l, l < 256 → ¬ (¬ h l = 0 ∧ so l = nI s)) := by
  constructor
  · intro H l hl ⟨hh, e⟩
    obtain ⟨a, ha, hKa⟩ := R.2.1 l hl hh
    have A := sc_at R ha hl hKa
    exact H a ha (by rw [A.2.1]; exact e)
  · intro H l hl e
    obtain ⟨j, hj, hK, h1, h2, _⟩ := R.1 l hl
    exact H j hj ⟨h1, by rw [← h2]; exact e⟩
end
section
/-! an argument read as a key, a sort, a length, a time -/
def sc_no (h : Nat → Int32) (x : Int32) : Prop := x < 0 ∨ nI 256 ≤ x ∨ ∃ j, j < 256 ∧ x = nI j ∧ h j = 0
theorem sc_key {h so va nu en us K S V N E U : Nat → Int32} {n : Nat} (R : sc_Rep h so va nu en us n K S V N E U) (x : Int32) :
    (∃ j i, j < 256 ∧ i < n ∧ x = nI j ∧ ¬ h j = 0 ∧ K i = nI j) ∨ (sc_no h x ∧ ∀ i, i < n → ¬ K i = x) := by
  rcases sc_ix x (n := 256) (by decide) with h0 | h0 | ⟨j, hj, rfl⟩
  · refine Or.inr ⟨Or.inl h0, fun i hi e => ?_⟩
    obtain ⟨j, hj, hK, _⟩ := R.1 i hi
    rw [← e, hK] at h0
    exact nI_pos (n := j) (by omega) h0
  · refine Or.inr ⟨Or.inr (Or.inl h0), fun i hi e => ?_⟩
    obtain ⟨j, hj, hK, _⟩ := R.1 i hi
    rw [← e, hK] at h0
    exact nI_ge (a := j) (b := 256) hj (by decide) h0
  · by_cases z : h j = 0
    · refine Or.inr ⟨Or.inr (Or.inr ⟨j, hj, rfl, z⟩), fun i hi e => ?_⟩
      exact (sc_at R hi hj e).1 z
    · obtain ⟨i, hi, hK⟩ := R.2.1 j hj z
      exact Or.inl ⟨j, i, hj, hi, rfl, z, hK⟩
theorem sc_keyU {h so va nu en us K S V N E U : Nat → Int32} {n i : Nat} {x : Int32} (R : sc_Rep h so va nu en us n K S V N E U) (hi : i < n) (hK : K i = x) : ∀ a, a < n → K a = x → a = i :=
  fun a ha e => R.2.2 a i ha hi (e.trans hK.symm)
theorem sc_lt0n {x : Int32} (h : x < 0) : ¬ 0 ≤ x := Int32.not_le.mpr h
theorem sc_gen {x : Int32} {a b : Nat} (h : nI b ≤ x) (hab : a < b) (hb : b < 2 ^ 31) : ¬ x ≤ nI a := fun z => nI_ge hab hb (Int32.le_trans h z)
theorem sc_gel {x : Int32} {a b : Nat} (h : nI b ≤ x) (hab : a ≤ b) (hb : b < 2 ^ 31) : ¬ x < nI a := Int32.not_lt.mpr (Int32.le_trans (nI_le hab hb) h)
theorem sc_ge0 {x : Int32} {b : Nat} (h : nI b ≤ x) (hb : b < 2 ^ 31) : 0 ≤ x := Int32.le_trans (nI_pos' hb) h
theorem sc_neg {x : Int32} {a : Nat} (h : x < 0) (ha : a < 2 ^ 31) : x < nI a := Int32.lt_of_lt_of_le h (nI_pos' ha)
def sc_sl (l : Nat) : Nat := if l ≤ 3 then 0 else if l ≤ 6 then 1 else 2
theorem sc_sl3 (l : Nat) : sc_sl l < 3 := by
  unfold sc_sl
  by_cases h1 : l ≤ 3
  · rw [if_pos h1]; omega
  · rw [if_neg h1]
    by_cases h2 : l ≤ 6
    · rw [if_pos h2]; omega
    · rw [if_neg h2]; omega
end
section
/-! the component's own methods, each with a general post -/
theorem sc_pcb {h so ic pc : Nat → Int32} {p : Nat → Nat} {f s : Nat} (C : sc_XC p f h so ic pc) (hs : s < 3) : p s * sc_cells s ≤ 32 := by
  have := C.1
  have c0 : sc_cells 0 = 4 := rfl
  have c1 : sc_cells 1 = 2 := rfl
  have c2 : sc_cells 2 = 1 := rfl
  obtain rfl | rfl | rfl : s = 0 ∨ s = 1 ∨ s = 2 := by omega
  · rw [c0]; omega
  · rw [c1]; omega
  · rw [c2]; omega
section
variable {fp cl ln lu : Int32} {h so va nu en us ic pc : Nat → Int32} {j s m : Nat} {x : Int32}
theorem sx_isKey1 {post : Int32 → Prop} (hj : j < 256) (q : post 1) : wpX_isKey post (nI j) :=
  br_f (nI_pos (by omega)) (br_f (nI_ge (b := 256) hj (by decide)) q)
theorem sx_isKey0 {post : Int32 → Prop} (hx : x < 0 ∨ nI 256 ≤ x) (q : post 0) : wpX_isKey post x := by
  rcases hx with z | z
  · exact br_t z q
  · exact br_f (Int32.not_lt.mpr (sc_ge0 z (by decide))) (br_t z q)
theorem sx_isLength1 {post : Int32 → Prop} (h1 : 1 ≤ j) (h2 : j ≤ 12) (q : post 1) : wpX_isLength post (nI j) :=
  br_f (nI_nlt (a := j) (b := 1) h1 (by omega)) (br_f (nI_nlt (a := 12) (b := j) h2 (by decide)) q)
theorem sx_isLength0 {post : Int32 → Prop} (hx : x < 1 ∨ nI 13 ≤ x) (q : post 0) : wpX_isLength post x := by
  rcases hx with z | z
  · exact br_t z q
  · exact br_f (sc_gel (a := 1) (b := 13) z (by decide) (by decide)) (br_t (Int32.lt_of_lt_of_le (nI_lt (a := 12) (b := 13) (by decide) (by decide)) z) q)
theorem sx_isTime1 {post : Int32 → Prop} (hj : j ≤ 1000) (q : post 1) : wpX_isTime post (nI j) :=
  br_f (nI_pos (by omega)) (br_f (nI_nlt (a := 1000) (b := j) hj (by decide)) q)
theorem sx_isTime0 {post : Int32 → Prop} (hx : x < 0 ∨ nI 1001 ≤ x) (q : post 0) : wpX_isTime post x := by
  rcases hx with z | z
  · exact br_t z q
  · exact br_f (Int32.not_lt.mpr (sc_ge0 z (by decide))) (br_t (Int32.lt_of_lt_of_le (nI_lt (a := 1000) (b := 1001) (by decide) (by decide)) z) q)
theorem sx_isSort1 {post : Int32 → Prop} (hj : s < 3) (q : post 1) : wpX_isSort post (nI s) :=
  br_f (nI_pos (by omega)) (br_f (nI_ge (b := 3) hj (by decide)) q)
theorem sx_isSort0 {post : Int32 → Prop} (hx : x < 0 ∨ nI 3 ≤ x) (q : post 0) : wpX_isSort post x := by
  rcases hx with z | z
  · exact br_t z q
  · exact br_f (Int32.not_lt.mpr (sc_ge0 z (by decide))) (br_t z q)
theorem sx_sfl {post : Int32 → Prop} (hj : j ≤ 12) (q : post (nI (sc_sl j))) : wpX_sortForLength post (nI j) := by
  unfold sc_sl at q
  by_cases h1 : j ≤ 3
  · rw [if_pos h1] at q
    exact br_f (nI_nlt (a := 3) (b := j) h1 (by decide)) q
  · rw [if_neg h1] at q
    by_cases h2 : j ≤ 6
    · rw [if_pos h2] at q
      exact br_t (nI_lt (a := 3) (b := j) (by omega) (by omega)) (br_f (nI_nlt (a := 6) (b := j) h2 (by decide)) q)
    · rw [if_neg h2] at q
      exact br_t (nI_lt (a := 3) (b := j) (by omega) (by omega)) (br_t (nI_lt (a := 6) (b := j) (by omega) (by omega)) q)
theorem sx_cells {post : Int32 → Prop} (hs : s < 3) (q : post (nI (sc_cells s))) : wpX_cellsInPage post (nI s) := by
  have c0 : sc_cells 0 = 4 := rfl
  have c1 : sc_cells 1 = 2 := rfl
  have c2 : sc_cells 2 = 1 := rfl
  obtain rfl | rfl | rfl : s = 0 ∨ s = 1 ∨ s = 2 := by omega
  · rw [c0] at q
    exact br_t nI_0 q
  · rw [c1] at q
    exact br_f (nI_ne0 (by decide) (by decide)) (br_t rfl q)
  · rw [c2] at q
    exact br_f (nI_ne0 (by decide) (by decide)) (br_f (by decide : ¬ nI 2 = (1 : Int32)) q)
theorem sx_holds1 {post : Int32 → Prop} (hj : j < 256) (hh : ¬ h j = 0) (q : post 1) : wpX_holds post (fp, cl, ln, lu, h, so, va, nu, en, us, ic, pc) (nI j) := by
  have ck : (nI j).toNatClampNeg = j := nI_clamp (by omega)
  unfold wpX_holds
  refine sx_isKey1 hj ?_
  refine br_f sc_1n0 ⟨vp_in_nI hj (by decide), br_f ?_ q⟩
  rw [ck]; exact hh
theorem sx_holds0 {post : Int32 → Prop} (hx : sc_no h x) (q : post 0) : wpX_holds post (fp, cl, ln, lu, h, so, va, nu, en, us, ic, pc) x := by
  unfold wpX_holds
  rcases hx with z | z | ⟨j, hj, rfl, z⟩
  · refine sx_isKey0 (Or.inl z) ?_
    exact br_t rfl q
  · refine sx_isKey0 (Or.inr z) ?_
    exact br_t rfl q
  · have ck : (nI j).toNatClampNeg = j := nI_clamp (by omega)
    refine sx_isKey1 hj ?_
    refine br_f sc_1n0 ⟨vp_in_nI hj (by decide), br_t ?_ q⟩
    rw [ck]; exact z
theorem sx_ended {post : Int32 → Prop} (hj : j < 256) (q1 : ¬ en j = 0 ∧ en j ≤ cl → post 1) (q0 : ¬ (¬ en j = 0 ∧ en j ≤ cl) → post 0) : wpX_hasEnded post (fp, cl, ln, lu, h, so, va, nu, en, us, ic, pc) (nI j) := by
  have ck : (nI j).toNatClampNeg = j := nI_clamp (by omega)
  have vj : vp_in (nI j) 256 := vp_in_nI hj (by decide)
  unfold wpX_hasEnded
  rw [ck]
  refine ⟨vj, ?_⟩
  by_cases z : en j = 0
  · exact br_t z (q0 (fun w => w.1 z))
  · by_cases y : cl < en j
    · exact br_f z ⟨vj, br_t y (q0 (fun w => Int32.not_lt.mpr w.2 y))⟩
    · exact br_f z ⟨vj, br_f y (q1 ⟨z, Int32.not_lt.mp y⟩)⟩
theorem sx_drop {post : SX → Prop} (hj : j < 256) (hs : s < 3) (e : so j = nI s) (q : post (fp, cl, ln, lu, upd h j 0, so, va, nu, en, us, upd ic s (ic s - 1), pc)) : wpX_drop post (fp, cl, ln, lu, h, so, va, nu, en, us, ic, pc) (nI j) := by
  have ck : (nI j).toNatClampNeg = j := nI_clamp (by omega)
  have cs : (nI s).toNatClampNeg = s := nI_clamp (by omega)
  have vj : vp_in (nI j) 256 := vp_in_nI hj (by decide)
  have vs : vp_in (nI s) 3 := vp_in_nI hs (by decide)
  unfold wpX_drop
  dsimp only
  rw [ck, e, cs, sc_vb0]
  exact ⟨vj, nm_e ⟨vj, vs, vs, nm_e q⟩⟩
theorem sx_take {post : SX → Prop} (hj : j < 256) (hs : s < 3) (q : post (fp, cl, ln, lu, upd h j 1, upd so j (nI s), va, nu, en, us, upd ic s (ic s + 1), pc)) : wpX_takeCell post (fp, cl, ln, lu, h, so, va, nu, en, us, ic, pc) (nI j) (nI s) := by
  have ck : (nI j).toNatClampNeg = j := nI_clamp (by omega)
  have cs : (nI s).toNatClampNeg = s := nI_clamp (by omega)
  have vj : vp_in (nI j) 256 := vp_in_nI hj (by decide)
  have vs : vp_in (nI s) 3 := vp_in_nI hs (by decide)
  unfold wpX_takeCell
  rw [ck, cs, sc_vb1]
  exact ⟨vj, nm_e ⟨vj, nm_e ⟨vs, vs, nm_e q⟩⟩⟩
theorem sx_value {post : SX → Prop} (hj : j < 256) (q : post (fp, cl, ln + 1, lu, h, so, upd va j x, upd nu j (ln + 1), en, us, ic, pc)) : wpX_setValue post (fp, cl, ln, lu, h, so, va, nu, en, us, ic, pc) (nI j) x := by
  have ck : (nI j).toNatClampNeg = j := nI_clamp (by omega)
  have vj : vp_in (nI j) 256 := vp_in_nI hj (by decide)
  unfold wpX_setValue
  rw [ck]
  exact nm_e ⟨vj, nm_e ⟨vj, nm_e q⟩⟩
theorem sx_end {post : SX → Prop} {t c : Nat} (hj : j < 256) (ht : t ≤ 1000) (q : post (fp, nI c, ln, lu, h, so, va, nu, upd en j (sc_eX t c), us, ic, pc)) : wpX_setEnd post (fp, nI c, ln, lu, h, so, va, nu, en, us, ic, pc) (nI j) (nI t) := by
  have ck : (nI j).toNatClampNeg = j := nI_clamp (by omega)
  have vj : vp_in (nI j) 256 := vp_in_nI hj (by decide)
  unfold wpX_setEnd
  rw [ck]
  unfold sc_eX at q
  by_cases z : t = 0
  · rw [if_pos z] at q
    subst z
    exact br_t nI_0 ⟨vj, nm_e q⟩
  · rw [if_neg z] at q
    exact br_f (nI_ne0 (by omega) (by omega)) ⟨vj, nm_r (e' := upd en j (nI (c + t))) (by rw [nI_add]) q⟩
theorem sx_use {post : SX → Prop} (hj : j < 256) (q : post (fp, cl, ln, nI (m + 1), h, so, va, nu, en, upd us j (nI (m + 1)), ic, pc)) : wpX_use post (fp, cl, ln, nI m, h, so, va, nu, en, us, ic, pc) (nI j) := by
  have ck : (nI j).toNatClampNeg = j := nI_clamp (by omega)
  have vj : vp_in (nI j) 256 := vp_in_nI hj (by decide)
  unfold wpX_use
  rw [ck]
  exact nm_r (nI_1 m) ⟨vj, nm_e q⟩
theorem sx_longL {post : Int32 → Prop} (q : ∀ fd, sc_L (fun l => ¬ h l = 0 ∧ so l = x) us 256 fd → post fd) : ∀ (d b : Nat) (fd : Int32), b + d = 256 → sc_L (fun l => ¬ h l = 0 ∧ so l = x) us b fd → wX_longestUnused_4 post x fp cl ln lu h so va nu en us ic pc (d + 1) fd (nI b) := by
  intro d
  induction d with
  | zero =>
    intro b fd hb H
    have e : b = 256 := by omega
    subst e
    exact br_t (nI_le (a := 256) (b := 256) (Nat.le_refl _) (by decide)) (q fd H)
  | succ d ih =>
    intro b fd hb H
    have vb : vp_in (nI b) 256 := vp_in_nI (by omega) (by decide)
    have ck : (nI b).toNatClampNeg = b := nI_clamp (by omega)
    refine br_f (nI_ge (b := 256) (by omega) (by decide)) ⟨vb, ?_⟩
    rw [ck]
    by_cases h1 : h b = 0
    · exact br_t h1 (nm_r (nI_1 b) (ih (b + 1) fd (by omega) (sc_lskip H (fun z => z.1 h1))))
    · refine br_f h1 ⟨vb, ?_⟩
      by_cases h2 : so b = x
      · refine br_t h2 ?_
        by_cases h3 : fd = -1
        · subst h3
          exact br_t rfl (nm_r (nI_1 b) (ih (b + 1) (nI b) (by omega) (sc_ltake0 H (by omega) ⟨h1, h2⟩)))
        · obtain ⟨j, hj, rfl⟩ : ∃ j, j < b ∧ fd = nI j := by
            rcases H with ⟨e, _⟩ | ⟨j, hj, e, _⟩
            · exact absurd e h3
            · exact ⟨j, hj, e⟩
          have cj : (nI j).toNatClampNeg = j := nI_clamp (by omega)
          refine br_f h3 ⟨vb, vp_in_nI (by omega) (by decide), ?_⟩
          rw [cj]
          by_cases h4 : us j ≤ us b
          · exact br_t h4 (nm_r (nI_1 b) (ih (b + 1) (nI j) (by omega) (sc_lkeep H (by omega) (by omega) (Int32.not_lt.mpr h4))))
          · exact br_f h4 (nm_r (nI_1 b) (ih (b + 1) (nI b) (by omega) (sc_ltake H (by omega) (by omega) ⟨h1, h2⟩ (Int32.not_le.mp h4))))
      · exact br_f h2 (nm_r (nI_1 b) (ih (b + 1) fd (by omega) (sc_lskip H (fun z => h2 z.2))))
theorem sx_long {post : Int32 → Prop} (q0 : (∀ l, l < 256 → ¬ (¬ h l = 0 ∧ so l = nI s)) → post (-1)) (q1 : ∀ j, sc_old h so us s j → post (nI j)) : wpX_longestUnused post (fp, cl, ln, lu, h, so, va, nu, en, us, ic, pc) (nI s) := by
  unfold wpX_longestUnused
  refine ⟨256 + 1, sx_longL (fun fd H => ?_) 256 0 (-1) rfl sc_l0⟩
  rcases H with ⟨e, H⟩ | ⟨j, hj, e, hp, H⟩
  · rw [e]
    exact q0 H
  · rw [e]
    exact q1 j ⟨hj, hp.1, hp.2, fun l hl hh e => H l hl ⟨hh, e⟩⟩
/-- room is there -/
theorem sx_room1 {post : Int32 → SX → Prop} {p : Nat → Nat} {f : Nat} (C : sc_XC p f h so ic pc) (hs : s < 3) (hc : sc_cnt (sc_hs h so s) 256 < p s * sc_cells s) (q : post 1 (fp, cl, ln, lu, h, so, va, nu, en, us, ic, pc)) : wpX_makeRoom post (fp, cl, ln, lu, h, so, va, nu, en, us, ic, pc) (nI s) := by
  have cs : (nI s).toNatClampNeg = s := nI_clamp (by omega)
  have vs : vp_in (nI s) 3 := vp_in_nI hs (by decide)
  have b := sc_pcb C hs
  obtain ⟨c1, c2, c3⟩ := C.2.1 s hs
  unfold wpX_makeRoom
  dsimp only
  rw [cs, c1, c2]
  refine ⟨vs, sx_cells hs ?_⟩
  exact nm_r (sc_mul _ _) ⟨vs, br_f (nI_ge hc (by omega)) q⟩
/-- a page is free -/
theorem sx_room2 {post : Int32 → SX → Prop} {p : Nat → Nat} {f : Nat} (C : sc_XC p (f + 1) h so ic pc) (hs : s < 3) (hc : ¬ sc_cnt (sc_hs h so s) 256 < p s * sc_cells s) (q : post 1 (nI f, cl, ln, lu, h, so, va, nu, en, us, ic, upd pc s (pc s + 1))) : wpX_makeRoom post (nI (f + 1), cl, ln, lu, h, so, va, nu, en, us, ic, pc) (nI s) := by
  have cs : (nI s).toNatClampNeg = s := nI_clamp (by omega)
  have vs : vp_in (nI s) 3 := vp_in_nI hs (by decide)
  have b := sc_pcb C hs
  have b2 := sc_cnt_le (p := sc_hs h so s) 256
  have b3 := C.1
  obtain ⟨c1, c2, c3⟩ := C.2.1 s hs
  unfold wpX_makeRoom
  rw [cs]
  refine ⟨vs, sx_cells hs ?_⟩
  refine nm_r (e' := nI (p s * sc_cells s)) (by rw [c1, sc_mul]) ⟨vs, br_t (by rw [c2]; exact nI_le (by omega) (by omega)) ?_⟩
  exact br_f (nI_nle (by omega) (by omega)) (nm_r (nI_pred f) ⟨vs, vs, nm_e q⟩)
/-- no page, no item of the sort -/
theorem sx_room3 {post : Int32 → SX → Prop} {p : Nat → Nat} (C : sc_XC p 0 h so ic pc) (hs : s < 3) (hc : ¬ sc_cnt (sc_hs h so s) 256 < p s * sc_cells s) (hn : ∀ l, l < 256 → ¬ (¬ h l = 0 ∧ so l = nI s)) (q : post 0 (nI 0, cl, ln, lu, h, so, va, nu, en, us, ic, pc)) : wpX_makeRoom post (nI 0, cl, ln, lu, h, so, va, nu, en, us, ic, pc) (nI s) := by
  have cs : (nI s).toNatClampNeg = s := nI_clamp (by omega)
  have vs : vp_in (nI s) 3 := vp_in_nI hs (by decide)
  have b := sc_pcb C hs
  have b2 := sc_cnt_le (p := sc_hs h so s) 256
  obtain ⟨c1, c2, c3⟩ := C.2.1 s hs
  unfold wpX_makeRoom
  rw [cs]
  refine ⟨vs, sx_cells hs ?_⟩
  refine nm_r (e' := nI (p s * sc_cells s)) (by rw [c1, sc_mul]) ⟨vs, br_t (by rw [c2]; exact nI_le (by omega) (by omega)) ?_⟩
  refine br_t (nI_le (a := 0) (b := 0) (Nat.le_refl 0) (by decide)) ?_
  refine sx_long (fun _ => ?_) (fun j hj => absurd ⟨hj.2.1, hj.2.2.1⟩ (hn j hj.1))
  exact br_t rfl q
/-- no page, the oldest of the sort goes -/
theorem sx_room4 {post : Int32 → SX → Prop} {p : Nat → Nat} (C : sc_XC p 0 h so ic pc) (A : sc_XU m h us) (hs : s < 3) (hc : ¬ sc_cnt (sc_hs h so s) 256 < p s * sc_cells s) (hn : sc_old h so us s j) (q : post 1 (nI 0, cl, ln, lu, upd h j 0, so, va, nu, en, us, upd ic s (ic s - 1), pc)) : wpX_makeRoom post (nI 0, cl, ln, lu, h, so, va, nu, en, us, ic, pc) (nI s) := by
  have cs : (nI s).toNatClampNeg = s := nI_clamp (by omega)
  have vs : vp_in (nI s) 3 := vp_in_nI hs (by decide)
  have b := sc_pcb C hs
  have b2 := sc_cnt_le (p := sc_hs h so s) 256
  obtain ⟨c1, c2, c3⟩ := C.2.1 s hs
  unfold wpX_makeRoom
  rw [cs]
  refine ⟨vs, sx_cells hs ?_⟩
  refine nm_r (e' := nI (p s * sc_cells s)) (by rw [c1, sc_mul]) ⟨vs, br_t (by rw [c2]; exact nI_le (by omega) (by omega)) ?_⟩
  refine br_t (nI_le (a := 0) (b := 0) (Nat.le_refl 0) (by decide)) ?_
  refine sx_long (fun z => absurd ⟨hn.2.1, hn.2.2.1⟩ (z j hn.1)) (fun j' hj' => ?_)
  have e := sc_old1 A hj' hn
  subst e
  have := hj'.1
  refine br_f (sc_ne1 (by omega)) ?_
  refine sx_drop hj'.1 hs hj'.2.2.1 ?_
  exact q
end
end
section
/-! the component's public methods -/
section
variable {fp cl ln lu : Int32} {h so va nu en us ic pc : Nat → Int32} {j s m t c : Nat} {x y : Int32}
theorem sx_get1 {post : Int32 → SX → Prop} (hj : j < 256) (hh : ¬ h j = 0) (q : post (va j) (fp, cl, ln, nI (m + 1), h, so, va, nu, en, upd us j (nI (m + 1)), ic, pc)) : wpX_get post (fp, cl, ln, nI m, h, so, va, nu, en, us, ic, pc) (nI j) := by
  have ck : (nI j).toNatClampNeg = j := nI_clamp (by omega)
  unfold wpX_get
  refine sx_holds1 hj hh ?_
  refine br_f sc_1n0 ?_
  refine sx_use hj ?_
  refine ⟨vp_in_nI hj (by decide), ?_⟩
  rw [ck]
  exact q
theorem sx_get0 {post : Int32 → SX → Prop} (hx : sc_no h x) (q : post 0 (fp, cl, ln, lu, h, so, va, nu, en, us, ic, pc)) : wpX_get post (fp, cl, ln, lu, h, so, va, nu, en, us, ic, pc) x := by
  unfold wpX_get
  refine sx_holds0 hx ?_
  exact br_t rfl q
theorem sx_has1 {post : Int32 → Prop} (hj : j < 256) (hh : ¬ h j = 0) (q : post 1) : wpX_has post (fp, cl, ln, lu, h, so, va, nu, en, us, ic, pc) (nI j) := by
  unfold wpX_has
  refine sx_holds1 hj hh ?_
  exact br_f sc_1n0 q
theorem sx_has0 {post : Int32 → Prop} (hx : sc_no h x) (q : post 0) : wpX_has post (fp, cl, ln, lu, h, so, va, nu, en, us, ic, pc) x := by
  unfold wpX_has
  refine sx_holds0 hx ?_
  exact br_t rfl q
theorem sx_number1 {post : Int32 → Prop} (hj : j < 256) (hh : ¬ h j = 0) (q : post (nu j)) : wpX_number post (fp, cl, ln, lu, h, so, va, nu, en, us, ic, pc) (nI j) := by
  have ck : (nI j).toNatClampNeg = j := nI_clamp (by omega)
  unfold wpX_number
  refine sx_holds1 hj hh ?_
  refine br_f sc_1n0 ⟨vp_in_nI hj (by decide), ?_⟩
  rw [ck]
  exact q
theorem sx_number0 {post : Int32 → Prop} (hx : sc_no h x) (q : post (-1)) : wpX_number post (fp, cl, ln, lu, h, so, va, nu, en, us, ic, pc) x := by
  unfold wpX_number
  refine sx_holds0 hx ?_
  exact br_t rfl q
theorem sx_swap1 {post : Int32 → SX → Prop} (hj : j < 256) (hh : ¬ h j = 0) (e : nu j = x) (q : post 1 (fp, cl, ln + 1, nI (m + 1), h, so, upd va j y, upd nu j (ln + 1), en, upd us j (nI (m + 1)), ic, pc)) : wpX_swap post (fp, cl, ln, nI m, h, so, va, nu, en, us, ic, pc) (nI j) x y := by
  have ck : (nI j).toNatClampNeg = j := nI_clamp (by omega)
  unfold wpX_swap
  refine sx_holds1 hj hh ?_
  refine br_f sc_1n0 ⟨vp_in_nI hj (by decide), ?_⟩
  refine br_t (by rw [ck]; exact e) ?_
  refine sx_value hj ?_
  refine sx_use hj ?_
  exact q
theorem sx_swap0 {post : Int32 → SX → Prop} (hj : j < 256) (hh : ¬ h j = 0) (e : ¬ nu j = x) (q : post 0 (fp, cl, ln, lu, h, so, va, nu, en, us, ic, pc)) : wpX_swap post (fp, cl, ln, lu, h, so, va, nu, en, us, ic, pc) (nI j) x y := by
  have ck : (nI j).toNatClampNeg = j := nI_clamp (by omega)
  unfold wpX_swap
  refine sx_holds1 hj hh ?_
  refine br_f sc_1n0 ⟨vp_in_nI hj (by decide), ?_⟩
  exact br_f (by rw [ck]; exact e) q
theorem sx_swapN {post : Int32 → SX → Prop} {z : Int32} (hx : sc_no h z) (q : post (-1) (fp, cl, ln, lu, h, so, va, nu, en, us, ic, pc)) : wpX_swap post (fp, cl, ln, lu, h, so, va, nu, en, us, ic, pc) z x y := by
  unfold wpX_swap
  refine sx_holds0 hx ?_
  exact br_t rfl q
theorem sx_add1 {post : Int32 → SX → Prop} (hj : j < 256) (hh : ¬ h j = 0) (q : post (va j + x) (fp, cl, ln + 1, nI (m + 1), h, so, upd va j (va j + x), upd nu j (ln + 1), en, upd us j (nI (m + 1)), ic, pc)) : wpX_add post (fp, cl, ln, nI m, h, so, va, nu, en, us, ic, pc) (nI j) x := by
  have ck : (nI j).toNatClampNeg = j := nI_clamp (by omega)
  unfold wpX_add
  dsimp only
  rw [ck]
  refine sx_holds1 hj hh ?_
  refine br_f sc_1n0 ⟨vp_in_nI hj (by decide), ?_⟩
  refine sx_value hj ?_
  refine sx_use hj ?_
  refine ⟨vp_in_nI hj (by decide), ?_⟩
  show post (upd va j (va j + x) j) (fp, cl, ln + 1, nI (m + 1), h, so, upd va j (va j + x), upd nu j (ln + 1), en, upd us j (nI (m + 1)), ic, pc)
  rw [sc_us]
  exact q
theorem sx_add0 {post : Int32 → SX → Prop} (hx : sc_no h x) (q : post 0 (fp, cl, ln, lu, h, so, va, nu, en, us, ic, pc)) : wpX_add post (fp, cl, ln, lu, h, so, va, nu, en, us, ic, pc) x y := by
  unfold wpX_add
  refine sx_holds0 hx ?_
  exact br_t rfl q
theorem sx_touchT {post : Int32 → SX → Prop} (hx : y < 0 ∨ nI 1001 ≤ y) (q : post (-1) (fp, cl, ln, lu, h, so, va, nu, en, us, ic, pc)) : wpX_touch post (fp, cl, ln, lu, h, so, va, nu, en, us, ic, pc) x y := by
  unfold wpX_touch
  refine sx_isTime0 hx ?_
  exact br_t rfl q
theorem sx_touch1 {post : Int32 → SX → Prop} (ht : t ≤ 1000) (hj : j < 256) (hh : ¬ h j = 0) (q : post 1 (fp, nI c, ln, nI (m + 1), h, so, va, nu, upd en j (sc_eX t c), upd us j (nI (m + 1)), ic, pc)) : wpX_touch post (fp, nI c, ln, nI m, h, so, va, nu, en, us, ic, pc) (nI j) (nI t) := by
  unfold wpX_touch
  refine sx_isTime1 ht ?_
  refine br_f sc_1n0 ?_
  refine sx_holds1 hj hh ?_
  refine br_f sc_1n0 ?_
  refine sx_end hj ht ?_
  refine sx_use hj ?_
  exact q
theorem sx_touch0 {post : Int32 → SX → Prop} (ht : t ≤ 1000) (hx : sc_no h x) (q : post 0 (fp, cl, ln, lu, h, so, va, nu, en, us, ic, pc)) : wpX_touch post (fp, cl, ln, lu, h, so, va, nu, en, us, ic, pc) x (nI t) := by
  unfold wpX_touch
  refine sx_isTime1 ht ?_
  refine br_f sc_1n0 ?_
  refine sx_holds0 hx ?_
  exact br_t rfl q
theorem sx_remove1 {post : Int32 → SX → Prop} (hj : j < 256) (hh : ¬ h j = 0) (hs : s < 3) (e : so j = nI s) (q : post 1 (fp, cl, ln, lu, upd h j 0, so, va, nu, en, us, upd ic s (ic s - 1), pc)) : wpX_remove post (fp, cl, ln, lu, h, so, va, nu, en, us, ic, pc) (nI j) := by
  unfold wpX_remove
  refine sx_holds1 hj hh ?_
  refine br_f sc_1n0 ?_
  refine sx_drop hj hs e ?_
  exact q
theorem sx_remove0 {post : Int32 → SX → Prop} (hx : sc_no h x) (q : post 0 (fp, cl, ln, lu, h, so, va, nu, en, us, ic, pc)) : wpX_remove post (fp, cl, ln, lu, h, so, va, nu, en, us, ic, pc) x := by
  unfold wpX_remove
  refine sx_holds0 hx ?_
  exact br_t rfl q
theorem sx_tickT {post : Int32 → SX → Prop} (hx : x < 0 ∨ nI 1001 ≤ x) (q : post (-1) (fp, cl, ln, lu, h, so, va, nu, en, us, ic, pc)) : wpX_tick post (fp, cl, ln, lu, h, so, va, nu, en, us, ic, pc) x := by
  unfold wpX_tick
  refine sx_isTime0 hx ?_
  exact br_t rfl q
theorem sx_tickL {post : Int32 → SX → Prop} {p : Nat → Nat} {f : Nat} (q : ∀ h' ic' g, sc_TX p f h so en pc cl 256 g h' ic' → post g (fp, cl, ln, lu, h', so, va, nu, en, us, ic', pc)) : ∀ (d b : Nat) (g : Int32) (h' ic' : Nat → Int32), b + d = 256 → sc_TX p f h so en pc cl b g h' ic' → wX_tick_23 post (d + 1) g (nI b) fp cl ln lu h' so va nu en us ic' pc := by
  intro d
  induction d with
  | zero =>
    intro b g h' ic' hb T
    have e : b = 256 := by omega
    subst e
    exact br_t (nI_le (a := 256) (b := 256) (Nat.le_refl _) (by decide)) (q h' ic' g T)
  | succ d ih =>
    intro b g h' ic' hb T
    have b6 : b < 256 := by omega
    have vb : vp_in (nI b) 256 := vp_in_nI (by omega) (by decide)
    have ck : (nI b).toNatClampNeg = b := nI_clamp (by omega)
    refine br_f (nI_ge (b := 256) (by omega) (by decide)) ⟨vb, ?_⟩
    rw [ck]
    by_cases h1 : h' b = 0
    · exact br_t h1 (nm_r (nI_1 b) (ih (b + 1) g h' ic' (by omega) (sc_tx2 T (Or.inl h1))))
    · refine br_f h1 ?_
      obtain ⟨s, hs, e⟩ := T.1.2.2 b b6 h1
      refine sx_ended b6 (fun w => ?_) (fun w => ?_)
      · refine br_f sc_1n0 ?_
        refine sx_drop b6 hs e ?_
        exact nm_e (nm_r (nI_1 b) (ih (b + 1) (g + 1) (upd h' b 0) (upd ic' s (ic' s - 1)) (by omega) (sc_tx1 T b6 h1 w hs e)))
      · exact br_t rfl (nm_r (nI_1 b) (ih (b + 1) g h' ic' (by omega) (sc_tx2 T (Or.inr w))))
theorem sx_tick {post : Int32 → SX → Prop} {p : Nat → Nat} {f : Nat} (ht : t ≤ 1000) (C : sc_XC p f h so ic pc) (q : ∀ h' ic' g, sc_TX p f h so en pc (nI (c + t)) 256 g h' ic' → post g (fp, nI (c + t), ln, lu, h', so, va, nu, en, us, ic', pc)) : wpX_tick post (fp, nI c, ln, lu, h, so, va, nu, en, us, ic, pc) (nI t) := by
  unfold wpX_tick
  refine sx_isTime1 ht ?_
  refine br_f sc_1n0 ?_
  refine nm_r (nI_add c t) ?_
  exact ⟨256 + 1, sx_tickL q 256 0 0 h ic rfl (sc_tx0 C)⟩
theorem sx_items1 {post : Int32 → Prop} (hs : s < 3) (q : post (ic s)) : wpX_items post (fp, cl, ln, lu, h, so, va, nu, en, us, ic, pc) (nI s) := by
  have cs : (nI s).toNatClampNeg = s := nI_clamp (by omega)
  unfold wpX_items
  refine sx_isSort1 hs ?_
  refine br_f sc_1n0 ⟨vp_in_nI hs (by decide), ?_⟩
  rw [cs]
  exact q
theorem sx_items0 {post : Int32 → Prop} (hx : x < 0 ∨ nI 3 ≤ x) (q : post (-1)) : wpX_items post (fp, cl, ln, lu, h, so, va, nu, en, us, ic, pc) x := by
  unfold wpX_items
  refine sx_isSort0 hx ?_
  exact br_t rfl q
theorem sx_pages3 {post : Int32 → Prop} (q : post fp) : wpX_pages post (fp, cl, ln, lu, h, so, va, nu, en, us, ic, pc) (nI 3) := by
  unfold wpX_pages
  exact br_t rfl q
theorem sx_pages1 {post : Int32 → Prop} (hs : s < 3) (q : post (pc s)) : wpX_pages post (fp, cl, ln, lu, h, so, va, nu, en, us, ic, pc) (nI s) := by
  have cs : (nI s).toNatClampNeg = s := nI_clamp (by omega)
  unfold wpX_pages
  refine br_f (fun z => absurd (sc_im (a := s) (b := 3) z (by omega) (by decide)) (by omega)) ?_
  refine sx_isSort1 hs ?_
  refine br_f sc_1n0 ⟨vp_in_nI hs (by decide), ?_⟩
  rw [cs]
  exact q
theorem sx_pages0 {post : Int32 → Prop} (hx : x < 0 ∨ nI 4 ≤ x) (q : post (-1)) : wpX_pages post (fp, cl, ln, lu, h, so, va, nu, en, us, ic, pc) x := by
  have n3 : ¬ x = 3 := by
    intro z
    subst z
    rcases hx with z | z
    · exact absurd z (by decide)
    · exact absurd z (by decide)
  have h3 : x < 0 ∨ nI 3 ≤ x := by
    rcases hx with z | z
    · exact Or.inl z
    · exact Or.inr (Int32.le_trans (nI_le (a := 3) (b := 4) (by decide) (by decide)) z)
  unfold wpX_pages
  refine br_f n3 ?_
  refine sx_isSort0 h3 ?_
  exact br_t rfl q
theorem sx_oldest1 {post : Int32 → Prop} (hs : s < 3) (q0 : (∀ l, l < 256 → ¬ (¬ h l = 0 ∧ so l = nI s)) → post (-1)) (q1 : ∀ j, sc_old h so us s j → post (nI j)) : wpX_oldest post (fp, cl, ln, lu, h, so, va, nu, en, us, ic, pc) (nI s) := by
  unfold wpX_oldest
  refine sx_isSort1 hs ?_
  refine br_f sc_1n0 ?_
  exact sx_long q0 q1
theorem sx_oldest0 {post : Int32 → Prop} (hx : x < 0 ∨ nI 3 ≤ x) (q : post (-1)) : wpX_oldest post (fp, cl, ln, lu, h, so, va, nu, en, us, ic, pc) x := by
  unfold wpX_oldest
  refine sx_isSort0 hx ?_
  exact br_t rfl q
end
end
section
/-! the component's store -/
section
variable {fp cl ln lu : Int32} {h so va nu en us ic pc : Nat → Int32} {j s m t c l : Nat} {x y z w : Int32}
theorem sx_st95 {post : Int32 → SX → Prop} (hj : j < 256) (ht : t ≤ 1000) (q : post (ln + 1) (fp, nI c, ln + 1, nI (m + 1), h, so, upd va j x, upd nu j (ln + 1), upd en j (sc_eX t c), upd us j (nI (m + 1)), ic, pc)) : wX_store_95 post (nI j) x (nI t) fp (nI c) ln (nI m) h so va nu en us ic pc := by
  have ck : (nI j).toNatClampNeg = j := nI_clamp (by omega)
  unfold wX_store_95
  refine sx_value hj ?_
  refine sx_end hj ht ?_
  refine sx_use hj ?_
  refine ⟨vp_in_nI hj (by decide), ?_⟩
  show post (upd nu j (ln + 1) (nI j).toNatClampNeg) (fp, nI c, ln + 1, nI (m + 1), h, so, upd va j x, upd nu j (ln + 1), upd en j (sc_eX t c), upd us j (nI (m + 1)), ic, pc)
  rw [ck, sc_us]
  exact q
theorem sx_st88 {post : Int32 → SX → Prop} (hj : j < 256) (hs : s < 3) (ht : t ≤ 1000) (q : post (ln + 1) (fp, nI c, ln + 1, nI (m + 1), upd h j 1, upd so j (nI s), upd va j x, upd nu j (ln + 1), upd en j (sc_eX t c), upd us j (nI (m + 1)), upd ic s (ic s + 1), pc)) : wX_store_88 post (nI j) x (nI t) (nI s) fp (nI c) ln (nI m) h so va nu en us ic pc := by
  unfold wX_store_88
  refine sx_take hj hs ?_
  exact sx_st95 hj ht q
theorem sx_st54 {post : Int32 → SX → Prop} (hj : j < 256) (hs : s < 3) (ht : t ≤ 1000)
    (q : ∀ Q : Int32 → SX → Prop, (∀ fp h ic pc, post (-2) (fp, nI c, ln, nI m, h, so, va, nu, en, us, ic, pc) → Q 0 (fp, nI c, ln, nI m, h, so, va, nu, en, us, ic, pc)) →
      (∀ fp h ic pc, h j = 0 → post (ln + 1) (fp, nI c, ln + 1, nI (m + 1), upd h j 1, upd so j (nI s), upd va j x, upd nu j (ln + 1), upd en j (sc_eX t c), upd us j (nI (m + 1)), upd ic s (ic s + 1), pc) → Q 1 (fp, nI c, ln, nI m, h, so, va, nu, en, us, ic, pc)) →
      (∀ fp h ic pc r, ¬ h j = 0 → r < 3 → so j = nI r → post (ln + 1) (fp, nI c, ln + 1, nI (m + 1), upd (upd h j 0) j 1, upd so j (nI s), upd va j x, upd nu j (ln + 1), upd en j (sc_eX t c), upd us j (nI (m + 1)), upd (upd ic r (ic r - 1)) s ((upd ic r (ic r - 1)) s + 1), pc) → Q 1 (fp, nI c, ln, nI m, h, so, va, nu, en, us, ic, pc)) →
      wpX_makeRoom Q (fp, nI c, ln, nI m, h, so, va, nu, en, us, ic, pc) (nI s)) : wX_store_54 post (nI j) x (nI t) (nI s) fp (nI c) ln (nI m) h so va nu en us ic pc := by
  have ck : (nI j).toNatClampNeg = j := nI_clamp (by omega)
  have vj : vp_in (nI j) 256 := vp_in_nI hj (by decide)
  unfold wX_store_54 wX_store_55
  refine br_t rfl ?_
  refine q _ (fun fp h ic pc w => ?_) (fun fp h ic pc h0 w => ?_) (fun fp h ic pc r h0 hr e w => ?_)
  · exact br_t rfl w
  · refine br_f sc_1n0 ⟨vj, ?_⟩
    refine br_t (by rw [ck]; exact h0) ?_
    exact sx_st88 hj hs ht w
  · refine br_f sc_1n0 ⟨vj, ?_⟩
    refine br_f (by rw [ck]; exact h0) ?_
    refine sx_drop hj hr e ?_
    exact sx_st88 hj hs ht w
theorem sx_storeK {post : Int32 → SX → Prop} (hx : x < 0 ∨ nI 256 ≤ x) (q : post (-1) (fp, cl, ln, lu, h, so, va, nu, en, us, ic, pc)) : wpX_store post (fp, cl, ln, lu, h, so, va, nu, en, us, ic, pc) x y z w := by
  unfold wpX_store
  refine sx_isKey0 hx ?_
  exact br_t rfl q
theorem sx_storeL {post : Int32 → SX → Prop} (hj : j < 256) (hx : y < 1 ∨ nI 13 ≤ y) (q : post (-1) (fp, cl, ln, lu, h, so, va, nu, en, us, ic, pc)) : wpX_store post (fp, cl, ln, lu, h, so, va, nu, en, us, ic, pc) (nI j) y z w := by
  unfold wpX_store
  refine sx_isKey1 hj ?_
  refine br_f sc_1n0 ?_
  refine sx_isLength0 hx ?_
  exact br_t rfl q
theorem sx_storeT {post : Int32 → SX → Prop} (hj : j < 256) (h1 : 1 ≤ l) (h2 : l ≤ 12) (hx : w < 0 ∨ nI 1001 ≤ w) (q : post (-1) (fp, cl, ln, lu, h, so, va, nu, en, us, ic, pc)) : wpX_store post (fp, cl, ln, lu, h, so, va, nu, en, us, ic, pc) (nI j) (nI l) z w := by
  unfold wpX_store
  refine sx_isKey1 hj ?_
  refine br_f sc_1n0 ?_
  refine sx_isLength1 h1 h2 ?_
  refine br_f sc_1n0 ?_
  refine sx_isTime0 hx ?_
  exact br_t rfl q
theorem sx_storeS {post : Int32 → SX → Prop} (hj : j < 256) (h1 : 1 ≤ l) (h2 : l ≤ 12) (ht : t ≤ 1000) (hh : ¬ h j = 0) (e : so j = nI (sc_sl l)) (q : post (ln + 1) (fp, nI c, ln + 1, nI (m + 1), h, so, upd va j x, upd nu j (ln + 1), upd en j (sc_eX t c), upd us j (nI (m + 1)), ic, pc)) : wpX_store post (fp, nI c, ln, nI m, h, so, va, nu, en, us, ic, pc) (nI j) (nI l) x (nI t) := by
  have ck : (nI j).toNatClampNeg = j := nI_clamp (by omega)
  have vj : vp_in (nI j) 256 := vp_in_nI hj (by decide)
  unfold wpX_store
  refine sx_isKey1 hj ?_
  refine br_f sc_1n0 ?_
  refine sx_isLength1 h1 h2 ?_
  refine br_f sc_1n0 ?_
  refine sx_isTime1 ht ?_
  refine br_f sc_1n0 ?_
  refine sx_sfl h2 ?_
  refine ⟨vj, br_f (by rw [ck]; exact hh) ⟨vj, br_t (by rw [ck]; exact e) ?_⟩⟩
  unfold wX_store_55
  refine br_f sc_1n0 ?_
  exact sx_st95 hj ht q
theorem sx_storeO {post : Int32 → SX → Prop} (hj : j < 256) (h1 : 1 ≤ l) (h2 : l ≤ 12) (ht : t ≤ 1000) (hh : h j = 0 ∨ ¬ so j = nI (sc_sl l)) (q : wX_store_54 post (nI j) x (nI t) (nI (sc_sl l)) fp cl ln lu h so va nu en us ic pc) : wpX_store post (fp, cl, ln, lu, h, so, va, nu, en, us, ic, pc) (nI j) (nI l) x (nI t) := by
  have ck : (nI j).toNatClampNeg = j := nI_clamp (by omega)
  have vj : vp_in (nI j) 256 := vp_in_nI hj (by decide)
  unfold wpX_store
  refine sx_isKey1 hj ?_
  refine br_f sc_1n0 ?_
  refine sx_isLength1 h1 h2 ?_
  refine br_f sc_1n0 ?_
  refine sx_isTime1 ht ?_
  refine br_f sc_1n0 ?_
  refine sx_sfl h2 ?_
  refine ⟨vj, ?_⟩
  by_cases h0 : h j = 0
  · exact br_t (by rw [ck]; exact h0) q
  · have e : ¬ so j = nI (sc_sl l) := by
      rcases hh with z | z
      · exact absurd z h0
      · exact z
    exact br_f (by rw [ck]; exact h0) ⟨vj, br_f (by rw [ck]; exact e) q⟩
end
end
section
/-! the reference's own methods, each with a general post -/
section
variable {cn cl ln lu : Int32} {K S V N E U pc : Nat → Int32} {n i s m : Nat} {x : Int32}
theorem sy_sl {post : Int32 → Prop} {j : Nat} (hj : j ≤ 12) (q : post (nI (sc_sl j))) : wpY_sortOf post (nI j) := by
  unfold sc_sl at q
  by_cases h1 : j ≤ 3
  · rw [if_pos h1] at q
    exact br_f (nI_nlt (a := 3) (b := j) h1 (by decide)) q
  · rw [if_neg h1] at q
    by_cases h2 : j ≤ 6
    · rw [if_pos h2] at q
      exact br_t (nI_lt (a := 3) (b := j) (by omega) (by omega)) (br_f (nI_nlt (a := 6) (b := j) h2 (by decide)) q)
    · rw [if_neg h2] at q
      exact br_t (nI_lt (a := 3) (b := j) (by omega) (by omega)) (br_t (nI_lt (a := 6) (b := j) (by omega) (by omega)) q)
theorem sy_cells {post : Int32 → Prop} (hs : s < 3) (q : post (nI (sc_cells s))) : wpY_cells post (nI s) := by
  have c0 : sc_cells 0 = 4 := rfl
  have c1 : sc_cells 1 = 2 := rfl
  have c2 : sc_cells 2 = 1 := rfl
  obtain rfl | rfl | rfl : s = 0 ∨ s = 1 ∨ s = 2 := by omega
  · rw [c0] at q
    exact br_t nI_0 q
  · rw [c1] at q
    exact br_f (nI_ne0 (by decide) (by decide)) (br_t rfl q)
  · rw [c2] at q
    exact br_f (nI_ne0 (by decide) (by decide)) (br_f (by decide : ¬ nI 2 = (1 : Int32)) q)
theorem sy_findL1 {post : Int32 → Prop} (hn : n ≤ 32) (hi : i < n) (hK : K i = x) (hU : ∀ a, a < n → K a = x → a = i) (q : post (nI i)) : ∀ (d a : Nat), a + d = i → wY_find_2 post x (nI n) cl ln lu K S V N E U pc (d + 1) (nI a) := by
  intro d
  induction d with
  | zero =>
    intro a ha
    have e : a = i := by omega
    subst e
    have ck : (nI a).toNatClampNeg = a := nI_clamp (by omega)
    refine br_f (nI_ge hi (by omega)) ⟨vp_in_nI (by omega) (by decide), br_t ?_ q⟩
    rw [ck]; exact hK
  | succ d ih =>
    intro a ha
    have ck : (nI a).toNatClampNeg = a := nI_clamp (by omega)
    refine br_f (nI_ge (a := a) (b := n) (by omega) (by omega)) ⟨vp_in_nI (by omega) (by decide), br_f ?_ (nm_r (nI_1 a) (ih (a + 1) (by omega)))⟩
    rw [ck]
    intro z
    have := hU a (by omega) z
    omega
theorem sy_find1 {post : Int32 → Prop} (hn : n ≤ 32) (hi : i < n) (hK : K i = x) (hU : ∀ a, a < n → K a = x → a = i) (q : post (nI i)) : wpY_find post (nI n, cl, ln, lu, K, S, V, N, E, U, pc) x := by
  unfold wpY_find
  exact ⟨i + 1, sy_findL1 hn hi hK hU q i 0 (Nat.zero_add i)⟩
theorem sy_findL0 {post : Int32 → Prop} (hn : n ≤ 32) (hU : ∀ a, a < n → ¬ K a = x) (q : post (-1)) : ∀ (d a : Nat), a + d = n → wY_find_2 post x (nI n) cl ln lu K S V N E U pc (d + 1) (nI a) := by
  intro d
  induction d with
  | zero =>
    intro a ha
    have e : a = n := by omega
    subst e
    exact br_t (nI_le (Nat.le_refl _) (by omega)) q
  | succ d ih =>
    intro a ha
    have ck : (nI a).toNatClampNeg = a := nI_clamp (by omega)
    refine br_f (nI_ge (a := a) (b := n) (by omega) (by omega)) ⟨vp_in_nI (by omega) (by decide), br_f ?_ (nm_r (nI_1 a) (ih (a + 1) (by omega)))⟩
    rw [ck]
    exact hU a (by omega)
theorem sy_find0 {post : Int32 → Prop} (hn : n ≤ 32) (hU : ∀ a, a < n → ¬ K a = x) (q : post (-1)) : wpY_find post (nI n, cl, ln, lu, K, S, V, N, E, U, pc) x := by
  unfold wpY_find
  exact ⟨n + 1, sy_findL0 hn hU q n 0 (Nat.zero_add n)⟩
theorem sy_drop {post : SY → Prop} (hn : n + 1 ≤ 32) (hi : i < n + 1) (q : post (nI n, cl, ln, lu, upd K i (K n), upd S i (S n), upd V i (V n), upd N i (N n), upd E i (E n), upd U i (U n), pc)) : wpY_drop post (nI (n + 1), cl, ln, lu, K, S, V, N, E, U, pc) (nI i) := by
  have ck : (nI i).toNatClampNeg = i := nI_clamp (by omega)
  have cn : (nI n).toNatClampNeg = n := nI_clamp (by omega)
  have vi : vp_in (nI i) 32 := vp_in_nI (by omega) (by decide)
  have vn : vp_in (nI n) 32 := vp_in_nI (by omega) (by decide)
  unfold wpY_drop
  dsimp only
  rw [ck]
  refine nm_r (nI_pred n) ?_
  rw [cn]
  exact ⟨vn, vi, nm_e ⟨vn, vi, nm_e ⟨vn, vi, nm_e ⟨vn, vi, nm_e ⟨vn, vi, nm_e ⟨vn, vi, nm_e q⟩⟩⟩⟩⟩⟩
theorem sy_free {post : Int32 → Prop} {p : Nat → Nat} {f : Nat} (e : f + p 0 + p 1 + p 2 = 8) (hp : ∀ s, s < 3 → pc s = nI (p s)) (q : post (nI f)) : wpY_free post (cn, cl, ln, lu, K, S, V, N, E, U, pc) := by
  unfold wpY_free
  dsimp only
  rw [hp 0 (by decide), hp 1 (by decide), hp 2 (by decide)]
  show post (nI 8 - nI (p 0) - nI (p 1) - nI (p 2))
  rw [sc_sub (by omega), sc_sub (by omega), sc_sub (by omega)]
  have z : 8 - p 0 - p 1 - p 2 = f := by omega
  rw [z]
  exact q
theorem sy_longL {post : Int32 → Prop} (hn : n ≤ 32) (q : ∀ fd, sc_L (fun l => S l = x) U n fd → post fd) : ∀ (d b : Nat) (fd : Int32), b + d = n → sc_L (fun l => S l = x) U b fd → wY_longestAgo_4 post x (nI n) cl ln lu K S V N E U pc (d + 1) fd (nI b) := by
  intro d
  induction d with
  | zero =>
    intro b fd hb H
    have e : b = n := by omega
    subst e
    exact br_t (nI_le (Nat.le_refl _) (by omega)) (q fd H)
  | succ d ih =>
    intro b fd hb H
    have vb : vp_in (nI b) 32 := vp_in_nI (by omega) (by decide)
    have ck : (nI b).toNatClampNeg = b := nI_clamp (by omega)
    refine br_f (nI_ge (a := b) (b := n) (by omega) (by omega)) ⟨vb, ?_⟩
    rw [ck]
    by_cases h2 : S b = x
    · refine br_t h2 ?_
      by_cases h3 : fd = -1
      · subst h3
        exact br_t sc_n1lt (nm_r (nI_1 b) (ih (b + 1) (nI b) (by omega) (sc_ltake0 H (by omega) h2)))
      · obtain ⟨j, hj, rfl⟩ : ∃ j, j < b ∧ fd = nI j := by
          rcases H with ⟨e, _⟩ | ⟨j, hj, e, _⟩
          · exact absurd e h3
          · exact ⟨j, hj, e⟩
        have cj : (nI j).toNatClampNeg = j := nI_clamp (by omega)
        refine br_f (nI_pos (by omega)) ⟨vb, vp_in_nI (by omega) (by decide), ?_⟩
        rw [cj]
        by_cases h4 : U j ≤ U b
        · exact br_t h4 (nm_r (nI_1 b) (ih (b + 1) (nI j) (by omega) (sc_lkeep H (by omega) (by omega) (Int32.not_lt.mpr h4))))
        · exact br_f h4 (nm_r (nI_1 b) (ih (b + 1) (nI b) (by omega) (sc_ltake H (by omega) (by omega) h2 (Int32.not_le.mp h4))))
    · exact br_f h2 (nm_r (nI_1 b) (ih (b + 1) fd (by omega) (sc_lskip H h2)))
theorem sy_long {post : Int32 → Prop} (hn : n ≤ 32) (q0 : (∀ l, l < n → ¬ S l = nI s) → post (-1)) (q1 : ∀ i, i < n → S i = nI s → (∀ l, l < n → S l = nI s → U i ≤ U l) → post (nI i)) : wpY_longestAgo post (nI n, cl, ln, lu, K, S, V, N, E, U, pc) (nI s) := by
  unfold wpY_longestAgo
  refine ⟨n + 1, sy_longL hn (fun fd H => ?_) n 0 (-1) (Nat.zero_add n) sc_l0⟩
  rcases H with ⟨e, H⟩ | ⟨j, hj, e, hp, H⟩
  · rw [e]
    exact q0 H
  · rw [e]
    exact q1 j hj hp H
theorem sy_itemsL {post : Int32 → Prop} (hn : n ≤ 32) (q : post (nI (sc_cnt (fun i => decide (S i = x)) n))) : ∀ (d b : Nat), b + d = n → wY_items_15 post x (nI n) cl ln lu K S V N E U pc (d + 1) (nI (sc_cnt (fun i => decide (S i = x)) b)) (nI b) := by
  intro d
  induction d with
  | zero =>
    intro b hb
    have e : b = n := by omega
    subst e
    exact br_t (nI_le (Nat.le_refl _) (by omega)) q
  | succ d ih =>
    intro b hb
    have vb : vp_in (nI b) 32 := vp_in_nI (by omega) (by decide)
    have ck : (nI b).toNatClampNeg = b := nI_clamp (by omega)
    have H := ih (b + 1) (by omega)
    have F : sc_cnt (fun i => decide (S i = x)) (b + 1) = sc_cnt (fun i => decide (S i = x)) b + (decide (S b = x)).toNat := rfl
    refine br_f (nI_ge (a := b) (b := n) (by omega) (by omega)) ⟨vb, ?_⟩
    rw [ck]
    by_cases h2 : S b = x
    · rw [F, decide_eq_true h2, Bool.toNat_true] at H
      exact br_t h2 (nm_r (nI_1 _) (nm_r (nI_1 b) H))
    · rw [F, decide_eq_false h2, Bool.toNat_false, Nat.add_zero] at H
      exact br_f h2 (nm_r (nI_1 b) H)
theorem sy_items {post : Int32 → Prop} (hn : n ≤ 32) (hs : s < 3) (q : post (nI (sc_cnt (fun i => decide (S i = nI s)) n))) : wpY_items post (nI n, cl, ln, lu, K, S, V, N, E, U, pc) (nI s) := by
  unfold wpY_items
  exact br_f (nI_pos (by omega)) (br_t (nI_le (a := s) (b := 2) (by omega) (by decide)) ⟨n + 1, sy_itemsL hn q n 0 (Nat.zero_add n)⟩)
theorem sy_use {post : SY → Prop} (hi : i < 32) (q : post (cn, cl, ln, nI (m + 1), K, S, V, N, E, upd U i (nI (m + 1)), pc)) : wpY_use post (cn, cl, ln, nI m, K, S, V, N, E, U, pc) (nI i) := by
  have ck : (nI i).toNatClampNeg = i := nI_clamp (by omega)
  have vi : vp_in (nI i) 32 := vp_in_nI hi (by decide)
  unfold wpY_use
  dsimp only
  rw [ck]
  exact nm_r (nI_1 m) ⟨vi, nm_e q⟩
theorem sy_change {post : SY → Prop} (hi : i < 32) (q : post (cn, cl, ln + 1, nI (m + 1), K, S, upd V i x, upd N i (ln + 1), E, upd U i (nI (m + 1)), pc)) : wpY_change post (cn, cl, ln, nI m, K, S, V, N, E, U, pc) (nI i) x := by
  have ck : (nI i).toNatClampNeg = i := nI_clamp (by omega)
  have vi : vp_in (nI i) 32 := vp_in_nI hi (by decide)
  unfold wpY_change
  dsimp only
  rw [ck]
  refine ⟨vi, nm_e (nm_e ⟨vi, nm_e ?_⟩)⟩
  refine sy_use hi ?_
  exact q
end
section
variable {cl ln lu : Int32} {h so va nu en us ic K S V N E U pc : Nat → Int32} {p : Nat → Nat} {f n i j s m : Nat}
theorem sy_room1 {post : Int32 → SY → Prop} (R : sc_Rep h so va nu en us n K S V N E U) (C : sc_XC p f h so ic pc) (hs : s < 3) (hc : sc_cnt (sc_hs h so s) 256 < p s * sc_cells s) (q : post 1 (nI n, cl, ln, lu, K, S, V, N, E, U, pc)) : wpY_room post (nI n, cl, ln, lu, K, S, V, N, E, U, pc) (nI s) := by
  have cs : (nI s).toNatClampNeg = s := nI_clamp (by omega)
  have vs : vp_in (nI s) 3 := vp_in_nI hs (by decide)
  have b := sc_pcb C hs
  have w := sc_cntY R s
  obtain ⟨c1, c2, c3⟩ := C.2.1 s hs
  rw [Nat.mul_comm] at hc b
  unfold wpY_room
  refine sy_items (sc_n32 R C) hs ?_
  refine sy_cells hs ?_
  refine ⟨vs, br_f ?_ q⟩
  rw [cs, c1, sc_mul, w]
  exact nI_ge hc (by omega)
theorem sy_room2 {post : Int32 → SY → Prop} (R : sc_Rep h so va nu en us n K S V N E U) (C : sc_XC p (f + 1) h so ic pc) (hs : s < 3) (hc : ¬ sc_cnt (sc_hs h so s) 256 < p s * sc_cells s) (q : post 1 (nI n, cl, ln, lu, K, S, V, N, E, U, upd pc s (pc s + 1))) : wpY_room post (nI n, cl, ln, lu, K, S, V, N, E, U, pc) (nI s) := by
  have cs : (nI s).toNatClampNeg = s := nI_clamp (by omega)
  have vs : vp_in (nI s) 3 := vp_in_nI hs (by decide)
  have b := sc_pcb C hs
  have b2 := sc_cnt_le (p := sc_hs h so s) 256
  have b3 := C.1
  have w := sc_cntY R s
  obtain ⟨c1, c2, c3⟩ := C.2.1 s hs
  rw [Nat.mul_comm] at hc b
  unfold wpY_room
  refine sy_items (sc_n32 R C) hs ?_
  refine sy_cells hs ?_
  refine ⟨vs, br_t ?_ ?_⟩
  · rw [cs, c1, sc_mul, w]
    exact nI_le (by omega) (by omega)
  · refine sy_free C.1 (fun s hs => (C.2.1 s hs).1) ?_
    refine br_f (nI_nle (by omega) (by omega)) ?_
    rw [cs]
    exact ⟨vs, vs, nm_e q⟩
theorem sy_room3 {post : Int32 → SY → Prop} (R : sc_Rep h so va nu en us n K S V N E U) (C : sc_XC p 0 h so ic pc) (hs : s < 3) (hc : ¬ sc_cnt (sc_hs h so s) 256 < p s * sc_cells s) (hn : ∀ l, l < 256 → ¬ (¬ h l = 0 ∧ so l = nI s)) (q : post 0 (nI n, cl, ln, lu, K, S, V, N, E, U, pc)) : wpY_room post (nI n, cl, ln, lu, K, S, V, N, E, U, pc) (nI s) := by
  have cs : (nI s).toNatClampNeg = s := nI_clamp (by omega)
  have vs : vp_in (nI s) 3 := vp_in_nI hs (by decide)
  have b := sc_pcb C hs
  have b2 := sc_cnt_le (p := sc_hs h so s) 256
  have w := sc_cntY R s
  obtain ⟨c1, c2, c3⟩ := C.2.1 s hs
  rw [Nat.mul_comm] at hc b
  unfold wpY_room
  refine sy_items (sc_n32 R C) hs ?_
  refine sy_cells hs ?_
  refine ⟨vs, br_t ?_ ?_⟩
  · rw [cs, c1, sc_mul, w]
    exact nI_le (by omega) (by omega)
  · refine sy_free C.1 (fun s hs => (C.2.1 s hs).1) ?_
    refine br_t (nI_le (a := 0) (b := 0) (Nat.le_refl 0) (by decide)) ?_
    refine sy_long (sc_n32 R C) (fun _ => ?_) (fun i hi e _ => absurd e ((sc_noneY R).mpr hn i hi))
    exact br_f sc_n1le q
theorem sy_room4 {post : Int32 → SY → Prop} (R : sc_Rep h so va nu en us (n + 1) K S V N E U) (C : sc_XC p 0 h so ic pc) (A : sc_XU m h us) (hs : s < 3) (hc : ¬ sc_cnt (sc_hs h so s) 256 < p s * sc_cells s) (hn : sc_old h so us s j) (hi : i < n + 1) (hK : K i = nI j) (q : post 1 (nI n, cl, ln, lu, upd K i (K n), upd S i (S n), upd V i (V n), upd N i (N n), upd E i (E n), upd U i (U n), pc)) : wpY_room post (nI (n + 1), cl, ln, lu, K, S, V, N, E, U, pc) (nI s) := by
  have cs : (nI s).toNatClampNeg = s := nI_clamp (by omega)
  have vs : vp_in (nI s) 3 := vp_in_nI hs (by decide)
  have b := sc_pcb C hs
  have b2 := sc_cnt_le (p := sc_hs h so s) 256
  have w := sc_cntY R s
  have n32 := sc_n32 R C
  obtain ⟨c1, c2, c3⟩ := C.2.1 s hs
  rw [Nat.mul_comm] at hc b
  unfold wpY_room
  refine sy_items n32 hs ?_
  refine sy_cells hs ?_
  refine ⟨vs, br_t ?_ ?_⟩
  · rw [cs, c1, sc_mul, w]
    exact nI_le (by omega) (by omega)
  · refine sy_free C.1 (fun s hs => (C.2.1 s hs).1) ?_
    refine br_t (nI_le (a := 0) (b := 0) (Nat.le_refl 0) (by decide)) ?_
    refine sy_long n32 (fun z => absurd ⟨hn.2.1, hn.2.2.1⟩ ((sc_noneY R).mp z j hn.1)) (fun i' hi' e H => ?_)
    obtain ⟨j', hj', hK'⟩ := sc_oldY R hi' e H
    have ej := sc_old1 A hj' hn
    have ei : i' = i := R.2.2 i' i hi' hi (by rw [hK', hK, ej])
    subst ei
    refine br_t (nI_pos' (by omega)) ?_
    refine sy_drop n32 hi ?_
    exact q
end
end
section
/-! the reference's public methods -/
section
variable {cn cl ln lu : Int32} {K S V N E U pc : Nat → Int32} {n i s m t c : Nat} {x y z : Int32}
theorem sy_get1 {post : Int32 → SY → Prop} (hn : n ≤ 32) (hi : i < n) (hK : K i = x) (hU : ∀ a, a < n → K a = x → a = i) (q : post (V i) (nI n, cl, ln, nI (m + 1), K, S, V, N, E, upd U i (nI (m + 1)), pc)) : wpY_get post (nI n, cl, ln, nI m, K, S, V, N, E, U, pc) x := by
  have ck : (nI i).toNatClampNeg = i := nI_clamp (by omega)
  have vi : vp_in (nI i) 32 := vp_in_nI (by omega) (by decide)
  unfold wpY_get
  refine sy_find1 hn hi hK hU ?_
  refine br_t (nI_pos' (by omega)) ?_
  refine sy_use (by omega) ?_
  refine ⟨vi, ?_⟩
  rw [ck]
  exact q
theorem sy_get0 {post : Int32 → SY → Prop} (hn : n ≤ 32) (hU : ∀ a, a < n → ¬ K a = x) (q : post 0 (nI n, cl, ln, lu, K, S, V, N, E, U, pc)) : wpY_get post (nI n, cl, ln, lu, K, S, V, N, E, U, pc) x := by
  unfold wpY_get
  refine sy_find0 hn hU ?_
  exact br_f sc_n1le q
theorem sy_has1 {post : Int32 → Prop} (hn : n ≤ 32) (hi : i < n) (hK : K i = x) (hU : ∀ a, a < n → K a = x → a = i) (q : post 1) : wpY_has post (nI n, cl, ln, lu, K, S, V, N, E, U, pc) x := by
  unfold wpY_has
  refine sy_find1 hn hi hK hU ?_
  exact br_f (nI_pos (by omega)) q
theorem sy_has0 {post : Int32 → Prop} (hn : n ≤ 32) (hU : ∀ a, a < n → ¬ K a = x) (q : post 0) : wpY_has post (nI n, cl, ln, lu, K, S, V, N, E, U, pc) x := by
  unfold wpY_has
  refine sy_find0 hn hU ?_
  exact br_t sc_n1lt q
theorem sy_number1 {post : Int32 → Prop} (hn : n ≤ 32) (hi : i < n) (hK : K i = x) (hU : ∀ a, a < n → K a = x → a = i) (q : post (N i)) : wpY_number post (nI n, cl, ln, lu, K, S, V, N, E, U, pc) x := by
  have ck : (nI i).toNatClampNeg = i := nI_clamp (by omega)
  have vi : vp_in (nI i) 32 := vp_in_nI (by omega) (by decide)
  unfold wpY_number
  refine sy_find1 hn hi hK hU ?_
  refine br_t (nI_pos' (by omega)) ⟨vi, ?_⟩
  rw [ck]
  exact q
theorem sy_number0 {post : Int32 → Prop} (hn : n ≤ 32) (hU : ∀ a, a < n → ¬ K a = x) (q : post (-1)) : wpY_number post (nI n, cl, ln, lu, K, S, V, N, E, U, pc) x := by
  unfold wpY_number
  refine sy_find0 hn hU ?_
  exact br_f sc_n1le q
theorem sy_swap1 {post : Int32 → SY → Prop} (hn : n ≤ 32) (hi : i < n) (hK : K i = x) (hU : ∀ a, a < n → K a = x → a = i) (e : N i = y) (q : post 1 (nI n, cl, ln + 1, nI (m + 1), K, S, upd V i z, upd N i (ln + 1), E, upd U i (nI (m + 1)), pc)) : wpY_swap post (nI n, cl, ln, nI m, K, S, V, N, E, U, pc) x y z := by
  have ck : (nI i).toNatClampNeg = i := nI_clamp (by omega)
  have vi : vp_in (nI i) 32 := vp_in_nI (by omega) (by decide)
  unfold wpY_swap
  refine sy_find1 hn hi hK hU ?_
  refine br_t (nI_pos' (by omega)) ⟨vi, ?_⟩
  refine br_t (by rw [ck]; exact e) ?_
  refine sy_change (by omega) ?_
  exact q
theorem sy_swap0 {post : Int32 → SY → Prop} (hn : n ≤ 32) (hi : i < n) (hK : K i = x) (hU : ∀ a, a < n → K a = x → a = i) (e : ¬ N i = y) (q : post 0 (nI n, cl, ln, lu, K, S, V, N, E, U, pc)) : wpY_swap post (nI n, cl, ln, lu, K, S, V, N, E, U, pc) x y z := by
  have ck : (nI i).toNatClampNeg = i := nI_clamp (by omega)
  have vi : vp_in (nI i) 32 := vp_in_nI (by omega) (by decide)
  unfold wpY_swap
  refine sy_find1 hn hi hK hU ?_
  refine br_t (nI_pos' (by omega)) ⟨vi, ?_⟩
  exact br_f (by rw [ck]; exact e) q
theorem sy_swapN {post : Int32 → SY → Prop} (hn : n ≤ 32) (hU : ∀ a, a < n → ¬ K a = x) (q : post (-1) (nI n, cl, ln, lu, K, S, V, N, E, U, pc)) : wpY_swap post (nI n, cl, ln, lu, K, S, V, N, E, U, pc) x y z := by
  unfold wpY_swap
  refine sy_find0 hn hU ?_
  exact br_f sc_n1le q
theorem sy_add1 {post : Int32 → SY → Prop} (hn : n ≤ 32) (hi : i < n) (hK : K i = x) (hU : ∀ a, a < n → K a = x → a = i) (q : post (V i + y) (nI n, cl, ln + 1, nI (m + 1), K, S, upd V i (V i + y), upd N i (ln + 1), E, upd U i (nI (m + 1)), pc)) : wpY_add post (nI n, cl, ln, nI m, K, S, V, N, E, U, pc) x y := by
  have ck : (nI i).toNatClampNeg = i := nI_clamp (by omega)
  have vi : vp_in (nI i) 32 := vp_in_nI (by omega) (by decide)
  unfold wpY_add
  refine sy_find1 hn hi hK hU ?_
  refine br_t (nI_pos' (by omega)) ⟨vi, ?_⟩
  rw [ck]
  refine sy_change (by omega) ?_
  refine ⟨vi, ?_⟩
  show post (upd V i (V i + y) i) (nI n, cl, ln + 1, nI (m + 1), K, S, upd V i (V i + y), upd N i (ln + 1), E, upd U i (nI (m + 1)), pc)
  rw [sc_us]
  exact q
theorem sy_add0 {post : Int32 → SY → Prop} (hn : n ≤ 32) (hU : ∀ a, a < n → ¬ K a = x) (q : post 0 (nI n, cl, ln, lu, K, S, V, N, E, U, pc)) : wpY_add post (nI n, cl, ln, lu, K, S, V, N, E, U, pc) x y := by
  unfold wpY_add
  refine sy_find0 hn hU ?_
  exact br_f sc_n1le q
theorem sy_touchT {post : Int32 → SY → Prop} (hx : y < 0 ∨ nI 1001 ≤ y) (q : post (-1) (cn, cl, ln, lu, K, S, V, N, E, U, pc)) : wpY_touch post (cn, cl, ln, lu, K, S, V, N, E, U, pc) x y := by
  unfold wpY_touch
  rcases hx with w | w
  · exact br_t w q
  · exact br_f (Int32.not_lt.mpr (sc_ge0 w (by decide))) (br_f (sc_gen (a := 1000) (b := 1001) w (by decide) (by decide)) q)
theorem sy_touch1 {post : Int32 → SY → Prop} (ht : t ≤ 1000) (hn : n ≤ 32) (hi : i < n) (hK : K i = x) (hU : ∀ a, a < n → K a = x → a = i) (q : post 1 (nI n, nI c, ln, nI (m + 1), K, S, V, N, upd E i (sc_eY t c), upd U i (nI (m + 1)), pc)) : wpY_touch post (nI n, nI c, ln, nI m, K, S, V, N, E, U, pc) x (nI t) := by
  have ck : (nI i).toNatClampNeg = i := nI_clamp (by omega)
  have vi : vp_in (nI i) 32 := vp_in_nI (by omega) (by decide)
  unfold wpY_touch
  refine br_f (nI_pos (by omega)) (br_t (nI_le (a := t) (b := 1000) ht (by decide)) ?_)
  refine sy_find1 hn hi hK hU ?_
  refine br_t (nI_pos' (by omega)) ?_
  unfold sc_eY at q
  unfold wY_touch_44
  by_cases z : t = 0
  · rw [if_pos z] at q
    subst z
    refine br_t nI_0 ⟨vi, ?_⟩
    rw [ck]
    refine nm_e ?_
    refine sy_use (by omega) ?_
    exact q
  · rw [if_neg z] at q
    refine br_f (nI_ne0 (by omega) (by omega)) ⟨vi, ?_⟩
    rw [ck]
    refine nm_r (e' := upd E i (nI (c + t))) (by rw [nI_add]) ?_
    refine sy_use (by omega) ?_
    exact q
theorem sy_touch0 {post : Int32 → SY → Prop} (ht : t ≤ 1000) (hn : n ≤ 32) (hU : ∀ a, a < n → ¬ K a = x) (q : post 0 (nI n, cl, ln, lu, K, S, V, N, E, U, pc)) : wpY_touch post (nI n, cl, ln, lu, K, S, V, N, E, U, pc) x (nI t) := by
  unfold wpY_touch
  refine br_f (nI_pos (by omega)) (br_t (nI_le (a := t) (b := 1000) ht (by decide)) ?_)
  refine sy_find0 hn hU ?_
  exact br_f sc_n1le q
theorem sy_remove1 {post : Int32 → SY → Prop} (hn : n + 1 ≤ 32) (hi : i < n + 1) (hK : K i = x) (hU : ∀ a, a < n + 1 → K a = x → a = i) (q : post 1 (nI n, cl, ln, lu, upd K i (K n), upd S i (S n), upd V i (V n), upd N i (N n), upd E i (E n), upd U i (U n), pc)) : wpY_remove post (nI (n + 1), cl, ln, lu, K, S, V, N, E, U, pc) x := by
  unfold wpY_remove
  refine sy_find1 hn hi hK hU ?_
  refine br_t (nI_pos' (by omega)) ?_
  refine sy_drop hn hi ?_
  exact q
theorem sy_remove0 {post : Int32 → SY → Prop} (hn : n ≤ 32) (hU : ∀ a, a < n → ¬ K a = x) (q : post 0 (nI n, cl, ln, lu, K, S, V, N, E, U, pc)) : wpY_remove post (nI n, cl, ln, lu, K, S, V, N, E, U, pc) x := by
  unfold wpY_remove
  refine sy_find0 hn hU ?_
  exact br_f sc_n1le q
theorem sy_tickT {post : Int32 → SY → Prop} (hx : x < 0 ∨ nI 1001 ≤ x) (q : post (-1) (cn, cl, ln, lu, K, S, V, N, E, U, pc)) : wpY_tick post (cn, cl, ln, lu, K, S, V, N, E, U, pc) x := by
  unfold wpY_tick
  rcases hx with w | w
  · exact br_t w q
  · exact br_f (Int32.not_lt.mpr (sc_ge0 w (by decide))) (br_f (sc_gen (a := 1000) (b := 1001) w (by decide) (by decide)) q)
theorem sy_tickL {post : Int32 → SY → Prop} {h so va nu en us : Nat → Int32} (q : ∀ n' g K' S' V' N' E' U', sc_TY h so va nu en us cl 0 g n' K' S' V' N' E' U' → post (nI g) (nI n', cl, ln, lu, K', S', V', N', E', U', pc)) : ∀ (b g n : Nat) (K S V N E U : Nat → Int32), sc_TY h so va nu en us cl b g n K S V N E U → wY_tick_32 post (b + 1) (nI g) (nI b - 1) (nI n) cl ln lu K S V N E U pc := by
  intro b
  induction b with
  | zero =>
    intro g n K S V N E U T
    exact br_t (by decide : nI 0 - 1 < (0 : Int32)) (q n g K S V N E U T)
  | succ b ih =>
    intro g n K S V N E U T
    have T2 := T
    obtain ⟨h', R, hm, hn, _⟩ := T2
    have vb : vp_in (nI b) 32 := vp_in_nI (by omega) (by decide)
    have ck : (nI b).toNatClampNeg = b := nI_clamp (by omega)
    have dn : nI b + (-1) = nI b - 1 := (Int32.sub_eq_add_neg _ _).symm
    rw [nI_pred]
    refine br_f (nI_pos (by omega)) ⟨vb, ?_⟩
    rw [ck]
    by_cases h1 : E b < 0
    · exact br_t h1 (nm_r dn (ih g n K S V N E U (sc_ty2 T (fun w => Int32.not_le.mpr h1 w.1))))
    · refine br_f h1 ⟨vb, ?_⟩
      by_cases h2 : cl < E b
      · exact br_t h2 (nm_r dn (ih g n K S V N E U (sc_ty2 T (fun w => Int32.not_le.mpr h2 w.2))))
      · obtain ⟨r, rfl⟩ : ∃ r, n = r + 1 := ⟨n - 1, by omega⟩
        refine br_f h2 ?_
        refine sy_drop hn (by omega) ?_
        exact nm_r (nI_1 g) (nm_r dn (ih (g + 1) r _ _ _ _ _ _ (sc_ty1 T ⟨Int32.not_lt.mp h1, Int32.not_lt.mp h2⟩)))
theorem sy_tick {post : Int32 → SY → Prop} {h so va nu en us : Nat → Int32} (ht : t ≤ 1000) (R : sc_Rep h so va nu en us n K S V N E U) (hn : n ≤ 32) (q : ∀ n' g K' S' V' N' E' U', sc_TY h so va nu en us (nI (c + t)) 0 g n' K' S' V' N' E' U' → post (nI g) (nI n', nI (c + t), ln, lu, K', S', V', N', E', U', pc)) : wpY_tick post (nI n, nI c, ln, lu, K, S, V, N, E, U, pc) (nI t) := by
  unfold wpY_tick
  refine br_f (nI_pos (by omega)) (br_t (nI_le (a := t) (b := 1000) ht (by decide)) ?_)
  refine nm_r (nI_add c t) (nm_e ?_)
  exact ⟨n + 1, sy_tickL q n 0 n K S V N E U (sc_ty0 R hn)⟩
theorem sy_items0 {post : Int32 → Prop} (hx : x < 0 ∨ nI 3 ≤ x) (q : post (-1)) : wpY_items post (cn, cl, ln, lu, K, S, V, N, E, U, pc) x := by
  unfold wpY_items
  rcases hx with w | w
  · exact br_t w q
  · exact br_f (Int32.not_lt.mpr (sc_ge0 w (by decide))) (br_f (sc_gen (a := 2) (b := 3) w (by decide) (by decide)) q)
theorem sy_pages3 {post : Int32 → Prop} {p : Nat → Nat} {f : Nat} (e : f + p 0 + p 1 + p 2 = 8) (hp : ∀ s, s < 3 → pc s = nI (p s)) (q : post (nI f)) : wpY_pages post (cn, cl, ln, lu, K, S, V, N, E, U, pc) (nI 3) := by
  unfold wpY_pages
  refine br_f (nI_pos (by decide)) (br_t (nI_le (a := 3) (b := 3) (by decide) (by decide)) (br_t rfl ?_))
  exact sy_free e hp q
theorem sy_pages1 {post : Int32 → Prop} (hs : s < 3) (q : post (pc s)) : wpY_pages post (cn, cl, ln, lu, K, S, V, N, E, U, pc) (nI s) := by
  have cs : (nI s).toNatClampNeg = s := nI_clamp (by omega)
  unfold wpY_pages
  refine br_f (nI_pos (by omega)) (br_t (nI_le (a := s) (b := 3) (by omega) (by decide)) (br_f (fun z => absurd (sc_im (a := s) (b := 3) z (by omega) (by decide)) (by omega)) ⟨vp_in_nI hs (by decide), ?_⟩))
  rw [cs]
  exact q
theorem sy_pages0 {post : Int32 → Prop} (hx : x < 0 ∨ nI 4 ≤ x) (q : post (-1)) : wpY_pages post (cn, cl, ln, lu, K, S, V, N, E, U, pc) x := by
  unfold wpY_pages
  rcases hx with w | w
  · exact br_t w q
  · exact br_f (Int32.not_lt.mpr (sc_ge0 w (by decide))) (br_f (sc_gen (a := 3) (b := 4) w (by decide) (by decide)) q)
theorem sy_oldest1 {post : Int32 → Prop} (hn : n ≤ 32) (hs : s < 3) (q0 : (∀ l, l < n → ¬ S l = nI s) → post (-1)) (q1 : ∀ i, i < n → S i = nI s → (∀ l, l < n → S l = nI s → U i ≤ U l) → post (K i)) : wpY_oldest post (nI n, cl, ln, lu, K, S, V, N, E, U, pc) (nI s) := by
  unfold wpY_oldest
  refine br_f (nI_pos (by omega)) (br_t (nI_le (a := s) (b := 2) (by omega) (by decide)) ?_)
  refine sy_long hn (fun w => ?_) (fun i hi e H => ?_)
  · exact br_f sc_n1le (q0 w)
  · have ck : (nI i).toNatClampNeg = i := nI_clamp (by omega)
    refine br_t (nI_pos' (by omega)) ⟨vp_in_nI (by omega) (by decide), ?_⟩
    rw [ck]
    exact q1 i hi e H
theorem sy_oldest0 {post : Int32 → Prop} (hx : x < 0 ∨ nI 3 ≤ x) (q : post (-1)) : wpY_oldest post (cn, cl, ln, lu, K, S, V, N, E, U, pc) x := by
  unfold wpY_oldest
  rcases hx with w | w
  · exact br_t w q
  · exact br_f (Int32.not_lt.mpr (sc_ge0 w (by decide))) (br_f (sc_gen (a := 2) (b := 3) w (by decide) (by decide)) q)
end
end
section
/-! the reference's store -/
section
variable {cn cl ln lu : Int32} {K S V N E U pc : Nat → Int32} {n i j s m t c l : Nat} {x y z w : Int32}
theorem sy_113 {post : Int32 → SY → Prop} (hi : i < 32) (ht : t ≤ 1000) (q : post (ln + 1) (cn, nI c, ln + 1, nI (m + 1), upd K i (nI j), upd S i (nI s), upd V i x, upd N i (ln + 1), upd E i (sc_eY t c), upd U i (nI (m + 1)), pc)) : wY_store_113 post (nI j) x (nI t) (nI s) (nI i) cn (nI c) ln (nI m) K S V N E U pc := by
  have ck : (nI i).toNatClampNeg = i := nI_clamp (by omega)
  have vi : vp_in (nI i) 32 := vp_in_nI hi (by decide)
  unfold wY_store_113 wY_store_152
  rw [ck]
  refine ⟨vi, nm_e ⟨vi, nm_e ?_⟩⟩
  unfold sc_eY at q
  by_cases z : t = 0
  · rw [if_pos z] at q
    subst z
    refine br_t nI_0 ⟨vi, nm_e ?_⟩
    refine sy_change hi ?_
    exact q
  · rw [if_neg z] at q
    refine br_f (nI_ne0 (by omega) (by omega)) ⟨vi, nm_r (e' := upd E i (nI (c + t))) (by rw [nI_add]) ?_⟩
    refine sy_change hi ?_
    exact q
theorem sy_97 {post : Int32 → SY → Prop} (hn : n < 32) (ht : t ≤ 1000) (q : post (ln + 1) (nI (n + 1), nI c, ln + 1, nI (m + 1), upd K n (nI j), upd S n (nI s), upd V n x, upd N n (ln + 1), upd E n (sc_eY t c), upd U n (nI (m + 1)), pc)) : wY_store_97 post (nI j) x (nI t) (nI s) (nI n) (nI c) ln (nI m) K S V N E U pc := by
  unfold wY_store_97
  refine nm_r (nI_1 n) ?_
  exact sy_113 hn ht q
theorem sy_67 {post : Int32 → SY → Prop} (ht : t ≤ 1000)
    (q : ∀ Q : Int32 → SY → Prop, (∀ n K S V N E U pc, post (-2) (nI n, nI c, ln, nI m, K, S, V, N, E, U, pc) → Q 0 (nI n, nI c, ln, nI m, K, S, V, N, E, U, pc)) →
      (∀ n K S V N E U pc, n < 32 → (∀ a, a < n → ¬ K a = nI j) → post (ln + 1) (nI (n + 1), nI c, ln + 1, nI (m + 1), upd K n (nI j), upd S n (nI s), upd V n x, upd N n (ln + 1), upd E n (sc_eY t c), upd U n (nI (m + 1)), pc) → Q 1 (nI n, nI c, ln, nI m, K, S, V, N, E, U, pc)) →
      (∀ n K S V N E U pc i, n + 1 ≤ 32 → i < n + 1 → K i = nI j → (∀ a, a < n + 1 → K a = nI j → a = i) → post (ln + 1) (nI (n + 1), nI c, ln + 1, nI (m + 1), upd (upd K i (K n)) n (nI j), upd (upd S i (S n)) n (nI s), upd (upd V i (V n)) n x, upd (upd N i (N n)) n (ln + 1), upd (upd E i (E n)) n (sc_eY t c), upd (upd U i (U n)) n (nI (m + 1)), pc) → Q 1 (nI (n + 1), nI c, ln, nI m, K, S, V, N, E, U, pc)) →
      wpY_room Q (nI n, nI c, ln, nI m, K, S, V, N, E, U, pc) (nI s)) : wY_store_67 post (nI j) x (nI t) (nI s) (nI n) (nI c) ln (nI m) K S V N E U pc := by
  unfold wY_store_67
  refine q _ (fun n K S V N E U pc w => ?_) (fun n K S V N E U pc hn hU w => ?_) (fun n K S V N E U pc i hn hi hK hU w => ?_)
  · exact br_t rfl w
  · refine br_f sc_1n0 ?_
    refine sy_find0 (by omega) hU ?_
    refine br_t sc_n1lt ?_
    exact sy_97 hn ht w
  · refine br_f sc_1n0 ?_
    refine sy_find1 hn hi hK hU ?_
    refine br_f (nI_pos (by omega)) ?_
    refine sy_drop hn hi ?_
    exact sy_97 (by omega) ht w
theorem sy_storeK {post : Int32 → SY → Prop} (hx : x < 0 ∨ nI 256 ≤ x) (q : post (-1) (cn, cl, ln, lu, K, S, V, N, E, U, pc)) : wpY_store post (cn, cl, ln, lu, K, S, V, N, E, U, pc) x y z w := by
  unfold wpY_store
  rcases hx with v | v
  · exact br_t v q
  · exact br_f (Int32.not_lt.mpr (sc_ge0 v (by decide))) (br_t (Int32.lt_of_lt_of_le (nI_lt (a := 255) (b := 256) (by decide) (by decide)) v) q)
theorem sy_storeL {post : Int32 → SY → Prop} (hj : j < 256) (hx : y < 1 ∨ nI 13 ≤ y) (q : post (-1) (cn, cl, ln, lu, K, S, V, N, E, U, pc)) : wpY_store post (cn, cl, ln, lu, K, S, V, N, E, U, pc) (nI j) y z w := by
  unfold wpY_store
  refine br_f (nI_pos (by omega)) (br_f (nI_nlt (a := 255) (b := j) (by omega) (by decide)) ?_)
  rcases hx with v | v
  · exact br_t v q
  · exact br_f (sc_gel (a := 1) (b := 13) v (by decide) (by decide)) (br_t (Int32.lt_of_lt_of_le (nI_lt (a := 12) (b := 13) (by decide) (by decide)) v) q)
theorem sy_storeT {post : Int32 → SY → Prop} (hj : j < 256) (h1 : 1 ≤ l) (h2 : l ≤ 12) (hx : w < 0 ∨ nI 1001 ≤ w) (q : post (-1) (cn, cl, ln, lu, K, S, V, N, E, U, pc)) : wpY_store post (cn, cl, ln, lu, K, S, V, N, E, U, pc) (nI j) (nI l) z w := by
  unfold wpY_store
  refine br_f (nI_pos (by omega)) (br_f (nI_nlt (a := 255) (b := j) (by omega) (by decide)) (br_f (nI_nlt (a := l) (b := 1) h1 (by omega)) (br_f (nI_nlt (a := 12) (b := l) h2 (by decide)) ?_)))
  rcases hx with v | v
  · exact br_t v q
  · exact br_f (Int32.not_lt.mpr (sc_ge0 v (by decide))) (br_f (sc_gen (a := 1000) (b := 1001) v (by decide) (by decide)) q)
theorem sy_storeS {post : Int32 → SY → Prop} (hj : j < 256) (h1 : 1 ≤ l) (h2 : l ≤ 12) (ht : t ≤ 1000) (hn : n ≤ 32) (hi : i < n) (hK : K i = nI j) (hU : ∀ a, a < n → K a = nI j → a = i) (e : S i = nI (sc_sl l)) (q : post (ln + 1) (nI n, nI c, ln + 1, nI (m + 1), K, S, upd V i x, upd N i (ln + 1), upd E i (sc_eY t c), upd U i (nI (m + 1)), pc)) : wpY_store post (nI n, nI c, ln, nI m, K, S, V, N, E, U, pc) (nI j) (nI l) x (nI t) := by
  have ck : (nI i).toNatClampNeg = i := nI_clamp (by omega)
  have vi : vp_in (nI i) 32 := vp_in_nI (by omega) (by decide)
  unfold wpY_store
  refine br_f (nI_pos (by omega)) (br_f (nI_nlt (a := 255) (b := j) (by omega) (by decide)) (br_f (nI_nlt (a := l) (b := 1) h1 (by omega)) (br_f (nI_nlt (a := 12) (b := l) h2 (by decide)) (br_f (nI_pos (by omega)) (br_t (nI_le (a := t) (b := 1000) ht (by decide)) ?_)))))
  refine sy_sl h2 ?_
  refine sy_find1 hn hi hK hU ?_
  refine br_f (nI_pos (by omega)) ⟨vi, br_t (by rw [ck]; exact e) ?_⟩
  refine sy_113 (by omega) ht ?_
  rw [sc_ut hK, sc_ut e]
  exact q
theorem sy_storeO {post : Int32 → SY → Prop} (hj : j < 256) (h1 : 1 ≤ l) (h2 : l ≤ 12) (ht : t ≤ 1000) (hn : n ≤ 32) (hU : (∀ a, a < n → ¬ K a = nI j) ∨ ∃ i, i < n ∧ K i = nI j ∧ (∀ a, a < n → K a = nI j → a = i) ∧ ¬ S i = nI (sc_sl l)) (q : wY_store_67 post (nI j) x (nI t) (nI (sc_sl l)) (nI n) cl ln lu K S V N E U pc) : wpY_store post (nI n, cl, ln, lu, K, S, V, N, E, U, pc) (nI j) (nI l) x (nI t) := by
  unfold wpY_store
  refine br_f (nI_pos (by omega)) (br_f (nI_nlt (a := 255) (b := j) (by omega) (by decide)) (br_f (nI_nlt (a := l) (b := 1) h1 (by omega)) (br_f (nI_nlt (a := 12) (b := l) h2 (by decide)) (br_f (nI_pos (by omega)) (br_t (nI_le (a := t) (b := 1000) ht (by decide)) ?_)))))
  refine sy_sl h2 ?_
  rcases hU with hU | ⟨i, hi, hK, hU, e⟩
  · refine sy_find0 hn hU ?_
    exact br_t sc_n1lt q
  · have ck : (nI i).toNatClampNeg = i := nI_clamp (by omega)
    have vi : vp_in (nI i) 32 := vp_in_nI (by omega) (by decide)
    refine sy_find1 hn hi hK hU ?_
    exact br_f (nI_pos (by omega)) ⟨vi, br_f (by rw [ck]; exact e) q⟩
end
end
section
def i_Rel (k : Nat) (u : SX) (v : SY) : Prop :=
  ∃ (p : Nat → Nat) (f n c m : Nat) (h so va nu en us ic pc K S V N E U : Nat → Int32) (ln : Int32), u = (nI f, nI c, ln, nI m, h, so, va, nu, en, us, ic, pc) ∧ v = (nI n, nI c, ln, nI m, K, S, V, N, E, U, pc) ∧ sc_R k p f n c m h so va nu en us ic pc K S V N E U
theorem sc_mk {k : Nat} {p : Nat → Nat} {f n c m : Nat} {h so va nu en us ic pc K S V N E U : Nat → Int32} {ln : Int32} (R : sc_R k p f n c m h so va nu en us ic pc K S V N E U) : i_Rel k (nI f, nI c, ln, nI m, h, so, va, nu, en, us, ic, pc) (nI n, nI c, ln, nI m, K, S, V, N, E, U, pc) :=
  ⟨p, f, n, c, m, h, so, va, nu, en, us, ic, pc, K, S, V, N, E, U, ln, rfl, rfl, R⟩
end
section
theorem sc_Lex {P : Nat → Prop} {us : Nat → Int32} (b : Nat) : b < 2 ^ 31 → ∃ fd, sc_L P us b fd := by
  induction b with
  | zero => intro _; exact ⟨-1, sc_l0⟩
  | succ b ih =>
    intro hb
    obtain ⟨fd, H⟩ := ih (by omega)
    by_cases hp : P b
    · by_cases h3 : fd = -1
      · subst h3
        exact ⟨_, sc_ltake0 H (by omega) hp⟩
      · obtain ⟨j, hj, rfl⟩ : ∃ j, j < b ∧ fd = nI j := by
          rcases H with ⟨e, _⟩ | ⟨j, hj, e, _⟩
          · exact absurd e h3
          · exact ⟨j, hj, e⟩
        by_cases h4 : us b < us j
        · exact ⟨_, sc_ltake H (by omega) (by omega) hp h4⟩
        · exact ⟨_, sc_lkeep H (by omega) (by omega) h4⟩
    · exact ⟨_, sc_lskip H hp⟩
theorem sc_oldE (h so us : Nat → Int32) (s : Nat) : (∀ l, l < 256 → ¬ (¬ h l = 0 ∧ so l = nI s)) ∨ ∃ j, sc_old h so us s j := by
  obtain ⟨fd, H⟩ := sc_Lex (P := fun l => ¬ h l = 0 ∧ so l = nI s) (us := us) 256 (by decide)
  rcases H with ⟨_, H⟩ | ⟨j, hj, _, hp, H⟩
  · exact Or.inl H
  · exact Or.inr ⟨j, hj, hp.1, hp.2, fun l hl hh e => H l hl ⟨hh, e⟩⟩
section
variable {k : Nat} {p : Nat → Nat} {f n c m : Nat} {h so va nu en us ic pc K S V N E U : Nat → Int32} {ln x y : Int32} {j s t : Nat}
theorem sc_storeF {X0 : SX} {Y0 : SY} (R : sc_R k p f n c m h so va nu en us ic pc K S V N E U) (hk : k + 5 ≤ 2560) (hj : j < 256) (hs : s < 3) (ht : t ≤ 1000) (hc : sc_cnt (sc_hs h so s) 256 < p s * sc_cells s)
    (hX0 : h j = 0 → ∀ post : Int32 → SX → Prop, post (ln + 1) (nI f, nI c, ln + 1, nI (m + 1), upd h j 1, upd so j (nI s), upd va j x, upd nu j (ln + 1), upd en j (sc_eX t c), upd us j (nI (m + 1)), upd ic s (ic s + 1), pc) → wpX_store post X0 (nI j) y x (nI t))
    (hX1 : ∀ r, ¬ h j = 0 → r < 3 → so j = nI r → ∀ post : Int32 → SX → Prop, post (ln + 1) (nI f, nI c, ln + 1, nI (m + 1), upd (upd h j 0) j 1, upd so j (nI s), upd va j x, upd nu j (ln + 1), upd en j (sc_eX t c), upd us j (nI (m + 1)), upd (upd ic r (ic r - 1)) s ((upd ic r (ic r - 1)) s + 1), pc) → wpX_store post X0 (nI j) y x (nI t))
    (hY0 : n < 32 → (∀ a, a < n → ¬ K a = nI j) → ∀ post : Int32 → SY → Prop, post (ln + 1) (nI (n + 1), nI c, ln + 1, nI (m + 1), upd K n (nI j), upd S n (nI s), upd V n x, upd N n (ln + 1), upd E n (sc_eY t c), upd U n (nI (m + 1)), pc) → wpY_store post Y0 (nI j) y x (nI t))
    (hY1 : ∀ b i, n = b + 1 → b + 1 ≤ 32 → i < b + 1 → K i = nI j → (∀ a, a < b + 1 → K a = nI j → a = i) → ∀ post : Int32 → SY → Prop, post (ln + 1) (nI (b + 1), nI c, ln + 1, nI (m + 1), upd (upd K i (K b)) b (nI j), upd (upd S i (S b)) b (nI s), upd (upd V i (V b)) b x, upd (upd N i (N b)) b (ln + 1), upd (upd E i (E b)) b (sc_eY t c), upd (upd U i (U b)) b (nI (m + 1)), pc) → wpY_store post Y0 (nI j) y x (nI t)) :
    wpX_store (fun r u' => wpY_store (fun r' v' => r' = r ∧ i_Rel (k + 5) u' v') Y0 (nI j) y x (nI t)) X0 (nI j) y x (nI t) := by
  by_cases h0 : h j = 0
  · refine hX0 h0 _ ?_
    refine hY0 (sc_n31 R.1 R.2.1 hs hc) (fun a ha e => (sc_at R.1 ha hj e).1 h0) _ ?_
    exact ⟨rfl, sc_mk (sc_rpush R hk hj h0 hs hc (fun l hl => ⟨sc_un hl, sc_un hl, sc_un hl⟩) (fun l hl => ⟨sc_un hl, sc_un hl, sc_un hl⟩) ⟨by rw [sc_us, sc_us], by rw [sc_us, sc_us], by rw [sc_us, sc_us]; exact sc_endE ht R.2.2.2.1 hk⟩)⟩
  · obtain ⟨r, hr, e⟩ := R.2.1.2.2 j hj h0
    obtain ⟨i, hi, hK⟩ := R.1.2.1 j hj h0
    obtain ⟨b, rfl⟩ : ∃ b, n = b + 1 := ⟨n - 1, by omega⟩
    have hn := sc_rn R
    have R2 := sc_rdrop R hi hj hK hr e
    have hc2 := Nat.lt_of_le_of_lt (sc_cdle R.2.1 hj h0 hs) hc
    refine hX1 r h0 hr e _ ?_
    refine hY1 b i rfl hn hi hK (sc_keyU R.1 hi hK) _ ?_
    exact ⟨rfl, sc_mk (sc_rpush R2 hk hj sc_us hs hc2 (fun l hl => ⟨sc_un hl, sc_un hl, sc_un hl⟩) (fun l hl => ⟨sc_un hl, sc_un hl, sc_un hl⟩) ⟨by rw [sc_us, sc_us], by rw [sc_us, sc_us], by rw [sc_us, sc_us]; exact sc_endE ht R.2.2.2.1 hk⟩)⟩
end
theorem i_vc_store {k : Nat} {u : SX} {v : SY} (I : i_Rel k u v) (hk : k + 5 ≤ 2560) (v1 : Int32) (v2 : Int32) (v3 : Int32) (v4 : Int32) : wpX_store (fun r u' => wpY_store (fun r' v' => r' = r ∧ i_Rel (k + 5) u' v') v v1 v2 v3 v4) u v1 v2 v3 v4 := by
  obtain ⟨p, f, n, c, m, h, so, va, nu, en, us, ic, pc, K, S, V, N, E, U, ln, rfl, rfl, R⟩ := I
  have hn := sc_rn R
  rcases sc_ix v1 (n := 256) (by decide) with hx | hx | ⟨j, hj, rfl⟩
  · exact sx_storeK (Or.inl hx) (sy_storeK (Or.inl hx) ⟨rfl, sc_mk (sc_rup R)⟩)
  · exact sx_storeK (Or.inr hx) (sy_storeK (Or.inr hx) ⟨rfl, sc_mk (sc_rup R)⟩)
  have hl : (v2 < 1 ∨ nI 13 ≤ v2) ∨ ∃ l, 1 ≤ l ∧ l ≤ 12 ∧ v2 = nI l := by
    rcases sc_ix v2 (n := 13) (by decide) with hx | hx | ⟨l, hl, rfl⟩
    · exact Or.inl (Or.inl (Int32.lt_trans hx (by decide)))
    · exact Or.inl (Or.inr hx)
    · by_cases z : l = 0
      · subst z
        exact Or.inl (Or.inl (by decide))
      · exact Or.inr ⟨l, by omega, by omega, rfl⟩
  rcases hl with hx | ⟨l, h1, h2, rfl⟩
  · exact sx_storeL hj hx (sy_storeL hj hx ⟨rfl, sc_mk (sc_rup R)⟩)
  rcases sc_ix v4 (n := 1001) (by decide) with hx | hx | ⟨t, ht, rfl⟩
  · exact sx_storeT hj h1 h2 (Or.inl hx) (sy_storeT hj h1 h2 (Or.inl hx) ⟨rfl, sc_mk (sc_rup R)⟩)
  · exact sx_storeT hj h1 h2 (Or.inr hx) (sy_storeT hj h1 h2 (Or.inr hx) ⟨rfl, sc_mk (sc_rup R)⟩)
  have ht : t ≤ 1000 := by omega
  have hs := sc_sl3 l
  by_cases same : ¬ h j = 0 ∧ so j = nI (sc_sl l)
  · obtain ⟨i, hi, hK⟩ := R.1.2.1 j hj same.1
    have A := sc_at R.1 hi hj hK
    exact sx_storeS hj h1 h2 ht same.1 same.2 (sy_storeS hj h1 h2 ht hn hi hK (sc_keyU R.1 hi hK) (A.2.1.trans same.2) ⟨rfl, sc_mk (sc_ruse R hk hi hj hK (fun l hl => ⟨sc_un hl, sc_un hl, sc_un hl⟩) (fun l hl => ⟨sc_un hl, sc_un hl, sc_un hl⟩) ⟨by rw [sc_us, sc_us], by rw [sc_us, sc_us], by rw [sc_us, sc_us]; exact sc_endE ht R.2.2.2.1 hk⟩)⟩)
  have hXo : h j = 0 ∨ ¬ so j = nI (sc_sl l) := by
    by_cases z : h j = 0
    · exact Or.inl z
    · exact Or.inr (fun y => same ⟨z, y⟩)
  have hYo : (∀ a, a < n → ¬ K a = nI j) ∨ ∃ i, i < n ∧ K i = nI j ∧ (∀ a, a < n → K a = nI j → a = i) ∧ ¬ S i = nI (sc_sl l) := by
    by_cases z : h j = 0
    · exact Or.inl (fun a ha e => (sc_at R.1 ha hj e).1 z)
    · obtain ⟨i, hi, hK⟩ := R.1.2.1 j hj z
      have A := sc_at R.1 hi hj hK
      exact Or.inr ⟨i, hi, hK, sc_keyU R.1 hi hK, fun y => same ⟨z, A.2.1.symm.trans y⟩⟩
  by_cases hc : sc_cnt (sc_hs h so (sc_sl l)) 256 < p (sc_sl l) * sc_cells (sc_sl l)
  · refine sc_storeF (ln := ln) R hk hj hs ht hc (fun h0 post w => ?_) (fun r h0 hr e post w => ?_) (fun hn' hU post w => ?_) (fun b i e hn' hi hK hU post w => ?_)
    · exact sx_storeO hj h1 h2 ht hXo (sx_st54 hj hs ht (fun Q q0 q1 q2 => sx_room1 R.2.1 hs hc (q1 _ _ _ _ h0 w)))
    · exact sx_storeO hj h1 h2 ht hXo (sx_st54 hj hs ht (fun Q q0 q1 q2 => sx_room1 R.2.1 hs hc (q2 _ _ _ _ r h0 hr e w)))
    · exact sy_storeO hj h1 h2 ht hn hYo (sy_67 ht (fun Q q0 q1 q2 => sy_room1 R.1 R.2.1 hs hc (q1 _ _ _ _ _ _ _ _ hn' hU w)))
    · subst e
      exact sy_storeO hj h1 h2 ht hn hYo (sy_67 ht (fun Q q0 q1 q2 => sy_room1 R.1 R.2.1 hs hc (q2 _ _ _ _ _ _ _ _ i hn' hi hK hU w)))
  by_cases hf : f = 0
  · subst hf
    rcases sc_oldE h so us (sc_sl l) with hno | ⟨o, ho⟩
    · refine sx_storeO hj h1 h2 ht hXo (sx_st54 hj hs ht (fun Q q0 q1 q2 => sx_room3 R.2.1 hs hc hno (q0 _ _ _ _ ?_)))
      exact sy_storeO hj h1 h2 ht hn hYo (sy_67 ht (fun Q q0 q1 q2 => sy_room3 R.1 R.2.1 hs hc hno (q0 _ _ _ _ _ _ _ _ ⟨rfl, sc_mk (sc_rup R)⟩)))
    · obtain ⟨io, hio, hKo⟩ := R.1.2.1 o ho.1 ho.2.1
      obtain ⟨b, rfl⟩ : ∃ b, n = b + 1 := ⟨n - 1, by omega⟩
      have R1 := sc_rdrop R hio ho.1 hKo hs ho.2.2.1
      have hc1 : sc_cnt (sc_hs (upd h o 0) so (sc_sl l)) 256 < p (sc_sl l) * sc_cells (sc_sl l) := by
        have a := sc_cd1 ho.1 ho.2.1 ho.2.2.1
        have b := (R.2.1.2.1 (sc_sl l) hs).2.2
        omega
      refine sc_storeF (ln := ln) R1 hk hj hs ht hc1 (fun h0 post w => ?_) (fun r h0 hr e post w => ?_) (fun hn' hU post w => ?_) (fun b i e hn' hi hK hU post w => ?_)
      · exact sx_storeO hj h1 h2 ht hXo (sx_st54 hj hs ht (fun Q q0 q1 q2 => sx_room4 R.2.1 R.2.2.1 hs hc ho (q1 _ _ _ _ h0 w)))
      · exact sx_storeO hj h1 h2 ht hXo (sx_st54 hj hs ht (fun Q q0 q1 q2 => sx_room4 R.2.1 R.2.2.1 hs hc ho (q2 _ _ _ _ r h0 hr e w)))
      · exact sy_storeO hj h1 h2 ht hn hYo (sy_67 ht (fun Q q0 q1 q2 => sy_room4 R.1 R.2.1 R.2.2.1 hs hc ho hio hKo (q1 _ _ _ _ _ _ _ _ hn' hU w)))
      · subst e
        exact sy_storeO hj h1 h2 ht hn hYo (sy_67 ht (fun Q q0 q1 q2 => sy_room4 R.1 R.2.1 R.2.2.1 hs hc ho hio hKo (q2 _ _ _ _ _ _ _ _ i hn' hi hK hU w)))
  · obtain ⟨g, rfl⟩ : ∃ g, f = g + 1 := ⟨f - 1, by omega⟩
    have R1 := sc_rpage R hs
    have hc1 : sc_cnt (sc_hs h so (sc_sl l)) 256 < (if sc_sl l = sc_sl l then p (sc_sl l) + 1 else p (sc_sl l)) * sc_cells (sc_sl l) := by
      rw [if_pos rfl, Nat.add_mul]
      have a := (R.2.1.2.1 (sc_sl l) hs).2.2
      have b : 0 < sc_cells (sc_sl l) := by
        obtain e | e | e : sc_sl l = 0 ∨ sc_sl l = 1 ∨ sc_sl l = 2 := by omega
        · rw [e]; decide
        · rw [e]; decide
        · rw [e]; decide
      omega
    refine sc_storeF (ln := ln) R1 hk hj hs ht hc1 (fun h0 post w => ?_) (fun r h0 hr e post w => ?_) (fun hn' hU post w => ?_) (fun b i e hn' hi hK hU post w => ?_)
    · exact sx_storeO hj h1 h2 ht hXo (sx_st54 hj hs ht (fun Q q0 q1 q2 => sx_room2 R.2.1 hs hc (q1 _ _ _ _ h0 w)))
    · exact sx_storeO hj h1 h2 ht hXo (sx_st54 hj hs ht (fun Q q0 q1 q2 => sx_room2 R.2.1 hs hc (q2 _ _ _ _ r h0 hr e w)))
    · exact sy_storeO hj h1 h2 ht hn hYo (sy_67 ht (fun Q q0 q1 q2 => sy_room2 R.1 R.2.1 hs hc (q1 _ _ _ _ _ _ _ _ hn' hU w)))
    · subst e
      exact sy_storeO hj h1 h2 ht hn hYo (sy_67 ht (fun Q q0 q1 q2 => sy_room2 R.1 R.2.1 hs hc (q2 _ _ _ _ _ _ _ _ i hn' hi hK hU w)))
end
section
theorem i_up {k : Nat} {u : SX} {v : SY} (h : i_Rel k u v) : i_Rel (k + 5) u v := by
  obtain ⟨p, f, n, c, m, h, so, va, nu, en, us, ic, pc, K, S, V, N, E, U, ln, rfl, rfl, R⟩ := h
  exact sc_mk (sc_rup R)
theorem sc_R0 : sc_R 0 (fun _ => 0) 8 0 0 0 (fun _ => 0) (fun _ => 0) (fun _ => 0) (fun _ => 0) (fun _ => 0) (fun _ => 0) (fun _ => 0) (fun _ => 0) (fun _ => 0) (fun _ => 0) (fun _ => 0) (fun _ => 0) (fun _ => 0) (fun _ => 0) := by
  refine ⟨⟨fun i hi => absurd hi (Nat.not_lt_zero i), fun j _ z => absurd rfl z, fun i _ hi => absurd hi (Nat.not_lt_zero i)⟩, ⟨rfl, fun s _ => ?_, fun j _ z => absurd rfl z⟩, ⟨fun j _ z => absurd rfl z, fun i _ _ _ z => absurd rfl z⟩, Nat.le_refl _, Nat.le_refl _⟩
  have e : sc_cnt (sc_hs (fun _ => 0) (fun _ => 0) s) 256 = 0 := sc_cnt_z 256 (fun i _ => sc_hs_f1 rfl)
  rw [e]
  exact ⟨nI_0.symm, nI_0.symm, Nat.zero_le _⟩
theorem i_vc0 : wpX_init (fun u => wpY_init (fun v => i_Rel 0 u v)) := sc_mk sc_R0
theorem i_vc_get {k : Nat} {u : SX} {v : SY} (I : i_Rel k u v) (hk : k + 5 ≤ 2560) (v1 : Int32) : wpX_get (fun r u' => wpY_get (fun r' v' => r' = r ∧ i_Rel (k + 5) u' v') v v1) u v1 := by
  obtain ⟨p, f, n, c, m, h, so, va, nu, en, us, ic, pc, K, S, V, N, E, U, ln, rfl, rfl, R⟩ := I
  have hn := sc_rn R
  rcases sc_key R.1 v1 with ⟨j, i, hj, hi, rfl, hh, hK⟩ | ⟨h0, hU⟩
  · have A := sc_at R.1 hi hj hK
    exact sx_get1 hj hh (sy_get1 hn hi hK (sc_keyU R.1 hi hK) ⟨A.2.2.1, sc_mk (sc_ruse R hk hi hj hK (fun _ _ => ⟨rfl, rfl, rfl⟩) (fun _ _ => ⟨rfl, rfl, rfl⟩) ⟨A.2.2.1, A.2.2.2.1, A.2.2.2.2.1⟩)⟩)
  · exact sx_get0 h0 (sy_get0 hn hU ⟨rfl, sc_mk (sc_rup R)⟩)
theorem i_vc_has {k : Nat} {u : SX} {v : SY} (I : i_Rel k u v) (hk : k + 5 ≤ 2560) (v1 : Int32) : wpX_has (fun r => wpY_has (fun r' => r' = r ∧ i_Rel (k + 5) u v) v v1) u v1 := by
  obtain ⟨p, f, n, c, m, h, so, va, nu, en, us, ic, pc, K, S, V, N, E, U, ln, rfl, rfl, R⟩ := I
  have hn := sc_rn R
  rcases sc_key R.1 v1 with ⟨j, i, hj, hi, rfl, hh, hK⟩ | ⟨h0, hU⟩
  · exact sx_has1 hj hh (sy_has1 hn hi hK (sc_keyU R.1 hi hK) ⟨rfl, sc_mk (sc_rup R)⟩)
  · exact sx_has0 h0 (sy_has0 hn hU ⟨rfl, sc_mk (sc_rup R)⟩)
theorem i_vc_number {k : Nat} {u : SX} {v : SY} (I : i_Rel k u v) (hk : k + 5 ≤ 2560) (v1 : Int32) : wpX_number (fun r => wpY_number (fun r' => r' = r ∧ i_Rel (k + 5) u v) v v1) u v1 := by
  obtain ⟨p, f, n, c, m, h, so, va, nu, en, us, ic, pc, K, S, V, N, E, U, ln, rfl, rfl, R⟩ := I
  have hn := sc_rn R
  rcases sc_key R.1 v1 with ⟨j, i, hj, hi, rfl, hh, hK⟩ | ⟨h0, hU⟩
  · have A := sc_at R.1 hi hj hK
    exact sx_number1 hj hh (sy_number1 hn hi hK (sc_keyU R.1 hi hK) ⟨A.2.2.2.1, sc_mk (sc_rup R)⟩)
  · exact sx_number0 h0 (sy_number0 hn hU ⟨rfl, sc_mk (sc_rup R)⟩)
theorem i_vc_swap {k : Nat} {u : SX} {v : SY} (I : i_Rel k u v) (hk : k + 5 ≤ 2560) (v1 : Int32) (v2 : Int32) (v3 : Int32) : wpX_swap (fun r u' => wpY_swap (fun r' v' => r' = r ∧ i_Rel (k + 5) u' v') v v1 v2 v3) u v1 v2 v3 := by
  obtain ⟨p, f, n, c, m, h, so, va, nu, en, us, ic, pc, K, S, V, N, E, U, ln, rfl, rfl, R⟩ := I
  have hn := sc_rn R
  rcases sc_key R.1 v1 with ⟨j, i, hj, hi, rfl, hh, hK⟩ | ⟨h0, hU⟩
  · have A := sc_at R.1 hi hj hK
    by_cases e : nu j = v2
    · exact sx_swap1 hj hh e (sy_swap1 hn hi hK (sc_keyU R.1 hi hK) (A.2.2.2.1.trans e) ⟨rfl, sc_mk (sc_ruse R hk hi hj hK (fun _ hl => ⟨sc_un hl, sc_un hl, rfl⟩) (fun _ hl => ⟨sc_un hl, sc_un hl, rfl⟩) ⟨by rw [sc_us, sc_us], by rw [sc_us, sc_us], A.2.2.2.2.1⟩)⟩)
    · exact sx_swap0 hj hh e (sy_swap0 hn hi hK (sc_keyU R.1 hi hK) (fun z => e (A.2.2.2.1.symm.trans z)) ⟨rfl, sc_mk (sc_rup R)⟩)
  · exact sx_swapN h0 (sy_swapN hn hU ⟨rfl, sc_mk (sc_rup R)⟩)
theorem i_vc_add {k : Nat} {u : SX} {v : SY} (I : i_Rel k u v) (hk : k + 5 ≤ 2560) (v1 : Int32) (v2 : Int32) : wpX_add (fun r u' => wpY_add (fun r' v' => r' = r ∧ i_Rel (k + 5) u' v') v v1 v2) u v1 v2 := by
  obtain ⟨p, f, n, c, m, h, so, va, nu, en, us, ic, pc, K, S, V, N, E, U, ln, rfl, rfl, R⟩ := I
  have hn := sc_rn R
  rcases sc_key R.1 v1 with ⟨j, i, hj, hi, rfl, hh, hK⟩ | ⟨h0, hU⟩
  · have A := sc_at R.1 hi hj hK
    exact sx_add1 hj hh (sy_add1 hn hi hK (sc_keyU R.1 hi hK) ⟨by rw [A.2.2.1], sc_mk (sc_ruse R hk hi hj hK (fun _ hl => ⟨sc_un hl, sc_un hl, rfl⟩) (fun _ hl => ⟨sc_un hl, sc_un hl, rfl⟩) ⟨by rw [sc_us, sc_us, A.2.2.1], by rw [sc_us, sc_us], A.2.2.2.2.1⟩)⟩)
  · exact sx_add0 h0 (sy_add0 hn hU ⟨rfl, sc_mk (sc_rup R)⟩)
theorem i_vc_touch {k : Nat} {u : SX} {v : SY} (I : i_Rel k u v) (hk : k + 5 ≤ 2560) (v1 : Int32) (v2 : Int32) : wpX_touch (fun r u' => wpY_touch (fun r' v' => r' = r ∧ i_Rel (k + 5) u' v') v v1 v2) u v1 v2 := by
  obtain ⟨p, f, n, c, m, h, so, va, nu, en, us, ic, pc, K, S, V, N, E, U, ln, rfl, rfl, R⟩ := I
  have hn := sc_rn R
  rcases sc_ix v2 (n := 1001) (by decide) with ht | ht | ⟨t, ht, rfl⟩
  · exact sx_touchT (Or.inl ht) (sy_touchT (Or.inl ht) ⟨rfl, sc_mk (sc_rup R)⟩)
  · exact sx_touchT (Or.inr ht) (sy_touchT (Or.inr ht) ⟨rfl, sc_mk (sc_rup R)⟩)
  · rcases sc_key R.1 v1 with ⟨j, i, hj, hi, rfl, hh, hK⟩ | ⟨h0, hU⟩
    · have A := sc_at R.1 hi hj hK
      exact sx_touch1 (by omega) hj hh (sy_touch1 (by omega) hn hi hK (sc_keyU R.1 hi hK) ⟨rfl, sc_mk (sc_ruse R hk hi hj hK (fun _ hl => ⟨rfl, rfl, sc_un hl⟩) (fun _ hl => ⟨rfl, rfl, sc_un hl⟩) ⟨A.2.2.1, A.2.2.2.1, by rw [sc_us, sc_us]; exact sc_endE (by omega) R.2.2.2.1 hk⟩)⟩)
    · exact sx_touch0 (by omega) h0 (sy_touch0 (by omega) hn hU ⟨rfl, sc_mk (sc_rup R)⟩)
theorem i_vc_remove {k : Nat} {u : SX} {v : SY} (I : i_Rel k u v) (hk : k + 5 ≤ 2560) (v1 : Int32) : wpX_remove (fun r u' => wpY_remove (fun r' v' => r' = r ∧ i_Rel (k + 5) u' v') v v1) u v1 := by
  obtain ⟨p, f, n, c, m, h, so, va, nu, en, us, ic, pc, K, S, V, N, E, U, ln, rfl, rfl, R⟩ := I
  have hn := sc_rn R
  rcases sc_key R.1 v1 with ⟨j, i, hj, hi, rfl, hh, hK⟩ | ⟨h0, hU⟩
  · obtain ⟨s, hs, e⟩ := R.2.1.2.2 j hj hh
    obtain ⟨q, rfl⟩ : ∃ q, n = q + 1 := ⟨n - 1, by omega⟩
    exact sx_remove1 hj hh hs e (sy_remove1 hn hi hK (sc_keyU R.1 hi hK) ⟨rfl, sc_mk (sc_rup (sc_rdrop R hi hj hK hs e))⟩)
  · exact sx_remove0 h0 (sy_remove0 hn hU ⟨rfl, sc_mk (sc_rup R)⟩)
theorem i_vc_tick {k : Nat} {u : SX} {v : SY} (I : i_Rel k u v) (hk : k + 5 ≤ 2560) (v1 : Int32) : wpX_tick (fun r u' => wpY_tick (fun r' v' => r' = r ∧ i_Rel (k + 5) u' v') v v1) u v1 := by
  obtain ⟨p, f, n, c, m, h, so, va, nu, en, us, ic, pc, K, S, V, N, E, U, ln, rfl, rfl, R⟩ := I
  have hn := sc_rn R
  rcases sc_ix v1 (n := 1001) (by decide) with ht | ht | ⟨t, ht, rfl⟩
  · exact sx_tickT (Or.inl ht) (sy_tickT (Or.inl ht) ⟨rfl, sc_mk (sc_rup R)⟩)
  · exact sx_tickT (Or.inr ht) (sy_tickT (Or.inr ht) ⟨rfl, sc_mk (sc_rup R)⟩)
  · refine sx_tick (by omega) R.2.1 (fun h' ic' g T => sy_tick (by omega) R.1 hn (fun n' g' K' S' V' N' E' U' T' => ?_))
    obtain ⟨R', e⟩ := sc_tyE T' T.2.1
    refine ⟨by rw [T.2.2.2, e], sc_mk ⟨R', T.1, sc_xu_sub R.2.2.1 (fun l hl z y => z ((T.2.1 l hl).mpr (Or.inl y))), ?_, ?_⟩⟩
    · have := R.2.2.2.1
      omega
    · have := R.2.2.2.2
      omega
theorem i_vc_items {k : Nat} {u : SX} {v : SY} (I : i_Rel k u v) (hk : k + 5 ≤ 2560) (v1 : Int32) : wpX_items (fun r => wpY_items (fun r' => r' = r ∧ i_Rel (k + 5) u v) v v1) u v1 := by
  obtain ⟨p, f, n, c, m, h, so, va, nu, en, us, ic, pc, K, S, V, N, E, U, ln, rfl, rfl, R⟩ := I
  have hn := sc_rn R
  rcases sc_ix v1 (n := 3) (by decide) with ht | ht | ⟨s, hs, rfl⟩
  · exact sx_items0 (Or.inl ht) (sy_items0 (Or.inl ht) ⟨rfl, sc_mk (sc_rup R)⟩)
  · exact sx_items0 (Or.inr ht) (sy_items0 (Or.inr ht) ⟨rfl, sc_mk (sc_rup R)⟩)
  · exact sx_items1 hs (sy_items hn hs ⟨by rw [sc_cntY R.1 s, (R.2.1.2.1 s hs).2.1], sc_mk (sc_rup R)⟩)
theorem i_vc_pages {k : Nat} {u : SX} {v : SY} (I : i_Rel k u v) (hk : k + 5 ≤ 2560) (v1 : Int32) : wpX_pages (fun r => wpY_pages (fun r' => r' = r ∧ i_Rel (k + 5) u v) v v1) u v1 := by
  obtain ⟨p, f, n, c, m, h, so, va, nu, en, us, ic, pc, K, S, V, N, E, U, ln, rfl, rfl, R⟩ := I
  rcases sc_ix v1 (n := 4) (by decide) with ht | ht | ⟨s, hs, rfl⟩
  · exact sx_pages0 (Or.inl ht) (sy_pages0 (Or.inl ht) ⟨rfl, sc_mk (sc_rup R)⟩)
  · exact sx_pages0 (Or.inr ht) (sy_pages0 (Or.inr ht) ⟨rfl, sc_mk (sc_rup R)⟩)
  · by_cases e : s = 3
    · subst e
      exact sx_pages3 (sy_pages3 R.2.1.1 (fun s hs => (R.2.1.2.1 s hs).1) ⟨rfl, sc_mk (sc_rup R)⟩)
    · exact sx_pages1 (by omega) (sy_pages1 (by omega) ⟨rfl, sc_mk (sc_rup R)⟩)
theorem i_vc_oldest {k : Nat} {u : SX} {v : SY} (I : i_Rel k u v) (hk : k + 5 ≤ 2560) (v1 : Int32) : wpX_oldest (fun r => wpY_oldest (fun r' => r' = r ∧ i_Rel (k + 5) u v) v v1) u v1 := by
  obtain ⟨p, f, n, c, m, h, so, va, nu, en, us, ic, pc, K, S, V, N, E, U, ln, rfl, rfl, R⟩ := I
  have hn := sc_rn R
  rcases sc_ix v1 (n := 3) (by decide) with ht | ht | ⟨s, hs, rfl⟩
  · exact sx_oldest0 (Or.inl ht) (sy_oldest0 (Or.inl ht) ⟨rfl, sc_mk (sc_rup R)⟩)
  · exact sx_oldest0 (Or.inr ht) (sy_oldest0 (Or.inr ht) ⟨rfl, sc_mk (sc_rup R)⟩)
  · refine sx_oldest1 hs (fun z => ?_) (fun j hj => ?_)
    · refine sy_oldest1 hn hs (fun _ => ⟨rfl, sc_mk (sc_rup R)⟩) (fun i hi e _ => ?_)
      exact absurd e ((sc_noneY R.1).mpr z i hi)
    · refine sy_oldest1 hn hs (fun z => ?_) (fun i hi e H => ?_)
      · exact absurd ⟨hj.2.1, hj.2.2.1⟩ ((sc_noneY R.1).mp z j hj.1)
      · obtain ⟨j', hj', hK⟩ := sc_oldY R.1 hi e H
        rw [sc_old1 R.2.2.1 hj' hj] at hK
        exact ⟨hK, sc_mk (sc_rup R)⟩
end
