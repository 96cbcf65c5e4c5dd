/-! numbers and stores -/
theorem sc_us {f : Nat → Int32} {k : Nat} {x : Int32} : upd f k x k = x := if_pos rfl
theorem sc_un {f : Nat → Int32} {k j : Nat} {x : Int32} (h : j ≠ k) : upd f k x j = f j := if_neg h
theorem sc_ut {f : Nat → Int32} {k : Nat} {x : Int32} (h : f k = x) : upd f k x = f := by
  funext j
  by_cases e : j = k
  · rw [e, sc_us, h]
  · exact sc_un e
theorem sc_im {a b : Nat} (h : nI a = nI b) (ha : a < 2 ^ 31) (hb : b < 2 ^ 31) : a = b := (nI_eq ha hb).mp h
theorem sc_m1 {n : Nat} (h : 0 < n) : nI n + (-1) = nI (n - 1) := by
  obtain ⟨m, rfl⟩ : ∃ m, n = m + 1 := ⟨n - 1, by omega⟩
  show nI (m + 1) + (-1) = nI m
  rw [← nI_1, Int32.add_assoc, show (1 : Int32) + (-1) = 0 from rfl, Int32.add_zero]
theorem sc_s1 {n : Nat} (h : 0 < n) : nI n - 1 = nI (n - 1) := by
  obtain ⟨m, rfl⟩ : ∃ m, n = m + 1 := ⟨n - 1, by omega⟩
  exact nI_pred m
theorem sc_sub {a b : Nat} (h : b ≤ a) : nI a - nI b = nI (a - b) := by
  obtain ⟨c, rfl⟩ : ∃ c, a = c + b := ⟨a - b, by omega⟩
  rw [← nI_add, Int32.add_sub_cancel, Nat.add_sub_cancel]
theorem sc_mul (a b : Nat) : nI a * nI b = nI (a * b) := (Int32.ofNat_mul a b).symm
theorem sc_n1lt : (-1 : Int32) < 0 := by decide
theorem sc_n1le : ¬ (0 : Int32) ≤ -1 := by decide
theorem sc_ne1 {a : Nat} (h : a < 2 ^ 31) : ¬ nI a = -1 := by
  intro e
  have := nI_pos (n := a) h
  rw [e] at this
  exact this sc_n1lt
theorem sc_vb0 : vp_nar .boolean 0 = 0 := by decide
theorem sc_vb1 : vp_nar .boolean 1 = 1 := by decide
theorem sc_1n0 : ¬ (1 : Int32) = 0 := by decide
theorem sc_eq0 {a : Nat} (h : a < 2 ^ 31) : nI a = 0 ↔ a = 0 := by
  rw [← nI_0, nI_eq h (by omega)]
/-- an int is a natural below b, or it is below 0, or at least b -/
theorem sc_ix (x : Int32) {n : Nat} (hn : n < 2 ^ 31) : x < 0 ∨ nI n ≤ x ∨ ∃ j : Nat, j < n ∧ x = nI j := by
  by_cases h : x < 0
  · exact Or.inl h
  · obtain ⟨j, hj, rfl⟩ := nI_of h
    by_cases h2 : j < n
    · exact Or.inr (Or.inr ⟨j, h2, rfl⟩)
    · exact Or.inr (Or.inl (nI_le (by omega) hj))

/-! counting -/
def sc_cnt (p : Nat → Bool) : Nat → Nat
  | 0 => 0
  | n + 1 => sc_cnt p n + (p n).toNat
theorem sc_cnt_s {p : Nat → Bool} {n : Nat} : sc_cnt p (n + 1) = sc_cnt p n + (p n).toNat := rfl
theorem sc_cnt_c {p q : Nat → Bool} (n : Nat) : (∀ i, i < n → p i = q i) → sc_cnt p n = sc_cnt q n := by
  induction n with
  | zero => intro _; rfl
  | succ n ih =>
    intro h
    rw [sc_cnt_s, sc_cnt_s, ih (fun i hi => h i (by omega)), h n (by omega)]
theorem sc_cnt_z {p : Nat → Bool} (n : Nat) : (∀ i, i < n → p i = false) → sc_cnt p n = 0 := by
  induction n with
  | zero => intro _; rfl
  | succ n ih =>
    intro h
    rw [sc_cnt_s, ih (fun i hi => h i (by omega)), h n (by omega)]
    rfl
theorem sc_cnt_le {p : Nat → Bool} (n : Nat) : sc_cnt p n ≤ n := by
  induction n with
  | zero => exact Nat.le_refl 0
  | succ n ih =>
    rw [sc_cnt_s]
    have := Bool.toNat_le (p n)
    omega
theorem sc_cnt_pt {p q : Nat → Bool} {a : Nat} (hp : p a = true) (hq : q a = false) (n : Nat) : a < n → (∀ i, i < n → i ≠ a → p i = q i) → sc_cnt p n = sc_cnt q n + 1 := by
  induction n with
  | zero => intro h; omega
  | succ n ih =>
    intro h hh
    rw [sc_cnt_s, sc_cnt_s]
    by_cases e : a = n
    · subst e
      rw [hp, hq, sc_cnt_c (p := p) (q := q) a (fun i hi => hh i (by omega) (by omega))]
      rfl
    · rw [ih (by omega) (fun i hi => hh i (by omega)), hh n (by omega) (fun z => e z.symm)]
      omega
theorem sc_cnt_add {p q r : Nat → Bool} (n : Nat) : (∀ i, i < n → (p i).toNat = (q i).toNat + (r i).toNat) → sc_cnt p n = sc_cnt q n + sc_cnt r n := by
  induction n with
  | zero => intro _; rfl
  | succ n ih =>
    intro h
    have h1 := ih (fun i hi => h i (by omega))
    have h2 := h n (by omega)
    rw [sc_cnt_s, sc_cnt_s, sc_cnt_s]
    omega
theorem sc_bf {b : Bool} (h : ¬ b = true) : b = false := by
  cases b
  · rfl
  · exact absurd rfl h
theorem sc_bij {q : Nat → Bool} {κ : Nat → Nat} (n : Nat) : ∀ (p : Nat → Bool), (∀ i, i < n → κ i < 256) → (∀ i j, i < n → j < n → κ i = κ j → i = j) → (∀ j, j < 256 → (p j = true ↔ ∃ i, i < n ∧ κ i = j)) → sc_cnt (fun j => p j && q j) 256 = sc_cnt (fun i => q (κ i)) n := by
  induction n with
  | zero =>
    intro p _ _ hp
    show _ = 0
    refine sc_cnt_z 256 (fun j hj => ?_)
    show (p j && q j) = false
    have : p j = false := sc_bf (fun z => by obtain ⟨i, hi, _⟩ := (hp j hj).mp z; omega)
    rw [this]; rfl
  | succ n ih =>
    intro p hr hi hp
    have hpn : p (κ n) = true := (hp (κ n) (hr n (by omega))).mpr ⟨n, by omega, rfl⟩
    have H : sc_cnt (fun j => (p j && !(decide (j = κ n))) && q j) 256 = sc_cnt (fun i => q (κ i)) n := ih (fun j => p j && !(decide (j = κ n))) (fun i h => hr i (by omega)) (fun i j h h' => hi i j (by omega) (by omega)) (fun j hj => by
      constructor
      · intro z
        have z : (p j && !(decide (j = κ n))) = true := z
        rw [Bool.and_eq_true, Bool.not_eq_true', decide_eq_false_iff_not] at z
        obtain ⟨i, hi', e⟩ := (hp j hj).mp z.1
        refine ⟨i, ?_, e⟩
        have : i ≠ n := fun y => z.2 (by rw [← e, y])
        omega
      · rintro ⟨i, hi', e⟩
        show (p j && !(decide (j = κ n))) = true
        rw [Bool.and_eq_true, Bool.not_eq_true', decide_eq_false_iff_not]
        refine ⟨(hp j hj).mpr ⟨i, by omega, e⟩, fun y => ?_⟩
        have := hi i n (by omega) (by omega) (e.trans y)
        omega)
    have E : sc_cnt (fun i => q (κ i)) (n + 1) = sc_cnt (fun i => q (κ i)) n + (q (κ n)).toNat := rfl
    rw [E, ← H]
    by_cases hq : q (κ n) = true
    · rw [hq, Bool.toNat_true]
      refine sc_cnt_pt (a := κ n) ?_ ?_ 256 (hr n (by omega)) (fun i _ hne => ?_)
      · show (p (κ n) && q (κ n)) = true
        rw [hpn, hq]; rfl
      · show ((p (κ n) && !(decide (κ n = κ n))) && q (κ n)) = false
        rw [decide_eq_true (rfl : κ n = κ n), hpn]; rfl
      · show (p i && q i) = ((p i && !(decide (i = κ n))) && q i)
        rw [decide_eq_false hne, Bool.not_false, Bool.and_true]
    · have hq' := sc_bf hq
      rw [hq', Bool.toNat_false, Nat.add_zero]
      refine sc_cnt_c 256 (fun i _ => ?_)
      show (p i && q i) = ((p i && !(decide (i = κ n))) && q i)
      by_cases e : i = κ n
      · rw [e, hq', Bool.and_false, Bool.and_false]
      · rw [decide_eq_false e, Bool.not_false, Bool.and_true]

/-! items by key -/
def sc_hb (h : Nat → Int32) (j : Nat) : Bool := !(decide (h j = 0))
def sc_hs (h so : Nat → Int32) (s : Nat) (j : Nat) : Bool := sc_hb h j && decide (so j = nI s)
theorem sc_hb_t {h : Nat → Int32} {j : Nat} (e : ¬ h j = 0) : sc_hb h j = true := by
  unfold sc_hb; rw [decide_eq_false e]; rfl
theorem sc_hb_f {h : Nat → Int32} {j : Nat} (e : h j = 0) : sc_hb h j = false := by
  unfold sc_hb; rw [decide_eq_true e]; rfl
theorem sc_hb_iff {h : Nat → Int32} {j : Nat} : sc_hb h j = true ↔ ¬ h j = 0 := by
  constructor
  · intro z e; rw [sc_hb_f e] at z; exact absurd z (by decide)
  · exact sc_hb_t
theorem sc_hb_c {h h' : Nat → Int32} {j : Nat} (e : h j = 0 ↔ h' j = 0) : sc_hb h j = sc_hb h' j := by
  by_cases z : h j = 0
  · rw [sc_hb_f z, sc_hb_f (e.mp z)]
  · rw [sc_hb_t z, sc_hb_t (fun y => z (e.mpr y))]
theorem sc_hs_t {h so : Nat → Int32} {s j : Nat} (e : ¬ h j = 0) (e2 : so j = nI s) : sc_hs h so s j = true := by
  unfold sc_hs; rw [sc_hb_t e, decide_eq_true e2]; rfl
theorem sc_hs_f1 {h so : Nat → Int32} {s j : Nat} (e : h j = 0) : sc_hs h so s j = false := by
  unfold sc_hs; rw [sc_hb_f e]; rfl
theorem sc_hs_f2 {h so : Nat → Int32} {s j : Nat} (e : ¬ so j = nI s) : sc_hs h so s j = false := by
  unfold sc_hs; rw [decide_eq_false e, Bool.and_false]
theorem sc_hs_c {h so h' so' : Nat → Int32} {s j : Nat} (e : h j = h' j) (e2 : so j = so' j) : sc_hs h so s j = sc_hs h' so' s j := by
  unfold sc_hs sc_hb; rw [e, e2]
theorem sc_cd1 {h so : Nat → Int32} {j s : Nat} (hj : j < 256) (hh : ¬ h j = 0) (hs : so j = nI s) : sc_cnt (sc_hs h so s) 256 = sc_cnt (sc_hs (upd h j 0) so s) 256 + 1 :=
  sc_cnt_pt (a := j) (sc_hs_t hh hs) (sc_hs_f1 sc_us) 256 hj (fun i _ hi => sc_hs_c (sc_un hi).symm rfl)
theorem sc_cd2 {h so : Nat → Int32} {j s t : Nat} (hs : so j = nI s) (h3 : s < 3) (t3 : t < 3) (ht : t ≠ s) : sc_cnt (sc_hs h so t) 256 = sc_cnt (sc_hs (upd h j 0) so t) 256 := by
  refine sc_cnt_c 256 (fun i _ => ?_)
  by_cases e : i = j
  · have : ¬ so i = nI t := fun z => ht (sc_im (z.symm.trans (by rw [e]; exact hs)) (by omega) (by omega))
    rw [sc_hs_f2 this, sc_hs_f2 this]
  · exact sc_hs_c (sc_un e).symm rfl
theorem sc_cp1 {h so : Nat → Int32} {j s : Nat} (hj : j < 256) (hh : h j = 0) : sc_cnt (sc_hs (upd h j 1) (upd so j (nI s)) s) 256 = sc_cnt (sc_hs h so s) 256 + 1 :=
  sc_cnt_pt (a := j) (sc_hs_t (by rw [sc_us]; exact sc_1n0) sc_us) (sc_hs_f1 hh) 256 hj (fun i _ hi => sc_hs_c (sc_un hi) (sc_un hi))
theorem sc_cp2 {h so : Nat → Int32} {j s t : Nat} (hh : h j = 0) (h3 : s < 3) (t3 : t < 3) (ht : t ≠ s) : sc_cnt (sc_hs (upd h j 1) (upd so j (nI s)) t) 256 = sc_cnt (sc_hs h so t) 256 := by
  refine sc_cnt_c 256 (fun i _ => ?_)
  by_cases e : i = j
  · subst e
    rw [sc_hs_f1 hh, sc_hs_f2]
    rw [sc_us]
    exact fun z => ht (sc_im z.symm (by omega) (by omega))
  · exact sc_hs_c (sc_un e) (sc_un e)
