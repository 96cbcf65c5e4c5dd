/-! the reference's rows of items, against the items by key -/
def sc_end (e x : Int32) : Prop := (e = -1 ∧ x = 0) ∨ ∃ m : Nat, 0 < m ∧ m < 2 ^ 31 ∧ e = nI m ∧ x = nI m
def sc_Rep (h so va nu en us : Nat → Int32) (n : Nat) (K S V N E U : Nat → Int32) : Prop :=
  (∀ i, i < n → ∃ j, j < 256 ∧ K i = nI j ∧ ¬ h j = 0 ∧ S i = so j ∧ V i = va j ∧ N i = nu j ∧ sc_end (E i) (en j) ∧ U i = us j) ∧
  (∀ j, j < 256 → ¬ h j = 0 → ∃ i, i < n ∧ K i = nI j) ∧
  (∀ i l, i < n → l < n → K i = K l → i = l)
section
variable {h so va nu en us va' nu' en' us' h' K S V N E U V' N' E' U' : Nat → Int32} {n i j : Nat}
theorem sc_at (R : sc_Rep h so va nu en us n K S V N E U) (hi : i < n) (hj : j < 256) (hK : K i = nI j) : ¬ h j = 0 ∧ S i = so j ∧ V i = va j ∧ N i = nu j ∧ sc_end (E i) (en j) ∧ U i = us j := by
  obtain ⟨j', hj', hK', H⟩ := R.1 i hi
  have : j' = j := sc_im (hK'.symm.trans hK) (by omega) (by omega)
  subst this
  exact H
theorem sc_mod (R : sc_Rep h so va nu en us n K S V N E U) (hi : i < n) (hj : j < 256) (hK : K i = nI j)
    (hx : ∀ l, l ≠ j → va' l = va l ∧ nu' l = nu l ∧ en' l = en l ∧ us' l = us l)
    (hy : ∀ l, l ≠ i → V' l = V l ∧ N' l = N l ∧ E' l = E l ∧ U' l = U l)
    (hz : V' i = va' j ∧ N' i = nu' j ∧ sc_end (E' i) (en' j) ∧ U' i = us' j) : sc_Rep h so va' nu' en' us' n K S V' N' E' U' := by
  refine ⟨fun l hl => ?_, R.2.1, R.2.2⟩
  by_cases e : l = i
  · subst e
    have A := sc_at R hi hj hK
    exact ⟨j, hj, hK, A.1, A.2.1, hz⟩
  · obtain ⟨j', hj', hK', h1, h2, h3, h4, h5, h6⟩ := R.1 l hl
    have ne : j' ≠ j := fun z => e (R.2.2 l i hl hi (by rw [hK', hK, z]))
    obtain ⟨x1, x2, x3, x4⟩ := hx j' ne
    obtain ⟨y1, y2, y3, y4⟩ := hy l e
    exact ⟨j', hj', hK', h1, h2, by rw [x1, y1, h3], by rw [x2, y2, h4], by rw [x3, y3]; exact h5, by rw [x4, y4, h6]⟩
theorem sc_drop (R : sc_Rep h so va nu en us (n + 1) K S V N E U) (hi : i < n + 1) (hj : j < 256) (hK : K i = nI j) :
    sc_Rep (upd h j 0) so va nu en us n (upd K i (K n)) (upd S i (S n)) (upd V i (V n)) (upd N i (N n)) (upd E i (E n)) (upd U i (U n)) := by
  have key : ∀ l, l < n + 1 → l ≠ i → ∃ j', j' < 256 ∧ K l = nI j' ∧ ¬ upd h j 0 j' = 0 ∧ S l = so j' ∧ V l = va j' ∧ N l = nu j' ∧ sc_end (E l) (en j') ∧ U l = us j' := by
    intro l hl hne
    obtain ⟨j', hj', hK', h1, H⟩ := R.1 l hl
    have ne : j' ≠ j := fun z => hne (R.2.2 l i hl hi (by rw [hK', hK, z]))
    exact ⟨j', hj', hK', by rw [sc_un ne]; exact h1, H⟩
  refine ⟨fun l hl => ?_, fun j' hj' hh => ?_, fun a l ha hl e => ?_⟩
  · by_cases e : l = i
    · subst e
      rw [sc_us, sc_us, sc_us, sc_us, sc_us, sc_us]
      exact key n (by omega) (by omega)
    · rw [sc_un e, sc_un e, sc_un e, sc_un e, sc_un e, sc_un e]
      exact key l (by omega) e
  · have ne : j' ≠ j := fun z => hh (by rw [z]; exact sc_us)
    rw [sc_un ne] at hh
    obtain ⟨l, hl, hK'⟩ := R.2.1 j' hj' hh
    have li : l ≠ i := fun z => ne (sc_im (by rw [← hK', z, hK]) (by omega) (by omega))
    by_cases e : l = n
    · subst e
      exact ⟨i, by omega, by rw [sc_us]; exact hK'⟩
    · exact ⟨l, by omega, by rw [sc_un li]; exact hK'⟩
  · by_cases ea : a = i
    · by_cases el : l = i
      · rw [ea, el]
      · rw [ea, sc_us, sc_un el] at e
        have := R.2.2 n l (by omega) (by omega) e
        omega
    · by_cases el : l = i
      · rw [el, sc_us, sc_un ea] at e
        have := R.2.2 a n (by omega) (by omega) e
        omega
      · rw [sc_un ea, sc_un el] at e
        exact R.2.2 a l (by omega) (by omega) e
theorem sc_push {x : Int32} (R : sc_Rep h so va nu en us n K S V N E U) (hj : j < 256) (h0 : h j = 0)
    (hx : ∀ l, l ≠ j → va' l = va l ∧ nu' l = nu l ∧ en' l = en l ∧ us' l = us l)
    (hy : ∀ l, l ≠ n → V' l = V l ∧ N' l = N l ∧ E' l = E l ∧ U' l = U l)
    (hz : V' n = va' j ∧ N' n = nu' j ∧ sc_end (E' n) (en' j) ∧ U' n = us' j) :
    sc_Rep (upd h j 1) (upd so j x) va' nu' en' us' (n + 1) (upd K n (nI j)) (upd S n x) V' N' E' U' := by
  have nk : ∀ l, l < n → ¬ K l = nI j := by
    intro l hl e
    exact (sc_at R hl hj e).1 h0
  refine ⟨fun l hl => ?_, fun j' hj' hh => ?_, fun a l ha hl e => ?_⟩
  · by_cases e : l = n
    · subst e
      refine ⟨j, hj, sc_us, ?_, ?_, hz⟩
      · rw [sc_us]; exact sc_1n0
      · rw [sc_us, sc_us]
    · obtain ⟨j', hj', hK', h1, h2, h3, h4, h5, h6⟩ := R.1 l (by omega)
      have ne : j' ≠ j := fun z => h1 (by rw [z]; exact h0)
      obtain ⟨x1, x2, x3, x4⟩ := hx j' ne
      obtain ⟨y1, y2, y3, y4⟩ := hy l e
      exact ⟨j', hj', by rw [sc_un e]; exact hK', by rw [sc_un ne]; exact h1, by rw [sc_un e, sc_un ne]; exact h2, by rw [x1, y1, h3], by rw [x2, y2, h4], by rw [x3, y3]; exact h5, by rw [x4, y4, h6]⟩
  · by_cases e : j' = j
    · exact ⟨n, by omega, by rw [sc_us, e]⟩
    · rw [sc_un e] at hh
      obtain ⟨l, hl, hK'⟩ := R.2.1 j' hj' hh
      exact ⟨l, by omega, by rw [sc_un (show l ≠ n by omega)]; exact hK'⟩
  · by_cases ea : a = n
    · by_cases el : l = n
      · rw [ea, el]
      · rw [ea, sc_us, sc_un el] at e
        exact absurd e.symm (nk l (by omega))
    · by_cases el : l = n
      · rw [el, sc_us, sc_un ea] at e
        exact absurd e (nk a (by omega))
      · rw [sc_un ea, sc_un el] at e
        exact R.2.2 a l (by omega) (by omega) e
theorem sc_rep_c (R : sc_Rep h so va nu en us n K S V N E U) (H : ∀ l, l < 256 → (h l = 0 ↔ h' l = 0)) : sc_Rep h' so va nu en us n K S V N E U := by
  refine ⟨fun l hl => ?_, fun j hj hh => R.2.1 j hj (fun z => hh ((H j hj).mp z)), R.2.2⟩
  obtain ⟨j, hj, hK, h1, H2⟩ := R.1 l hl
  exact ⟨j, hj, hK, fun z => h1 ((H j hj).mpr z), H2⟩
/-- the reference's count over its rows is the count over the keys -/
theorem sc_cntY (R : sc_Rep h so va nu en us n K S V N E U) (s : Nat) : sc_cnt (fun i => decide (S i = nI s)) n = sc_cnt (sc_hs h so s) 256 := by
  have B : sc_cnt (fun j => sc_hb h j && decide (so j = nI s)) 256 = sc_cnt (fun i => decide (so (K i).toNatClampNeg = nI s)) n := sc_bij (q := fun j => decide (so j = nI s)) (κ := fun i => (K i).toNatClampNeg) n (sc_hb h)
    (fun i hi => by
      obtain ⟨j, hj, hK, _⟩ := R.1 i hi
      show (K i).toNatClampNeg < 256
      rw [hK, nI_clamp (by omega)]; exact hj)
    (fun i l hi hl e => by
      obtain ⟨j, hj, hK, _⟩ := R.1 i hi
      obtain ⟨j', hj', hK', _⟩ := R.1 l hl
      have e : (K i).toNatClampNeg = (K l).toNatClampNeg := e
      rw [hK, hK', nI_clamp (by omega), nI_clamp (by omega)] at e
      exact R.2.2 i l hi hl (by rw [hK, hK', e]))
    (fun j hj => by
      rw [sc_hb_iff]
      constructor
      · intro z
        obtain ⟨i, hi, hK⟩ := R.2.1 j hj z
        exact ⟨i, hi, by show (K i).toNatClampNeg = j; rw [hK, nI_clamp (by omega)]⟩
      · rintro ⟨i, hi, e⟩
        have e : (K i).toNatClampNeg = j := e
        obtain ⟨j', hj', hK', h1, _⟩ := R.1 i hi
        rw [hK', nI_clamp (by omega)] at e
        rw [← e]; exact h1)
  show _ = sc_cnt (fun j => sc_hb h j && decide (so j = nI s)) 256
  rw [B]
  refine sc_cnt_c n (fun i hi => ?_)
  obtain ⟨j, hj, hK, h1, h2, _⟩ := R.1 i hi
  show decide (S i = nI s) = decide (so (K i).toNatClampNeg = nI s)
  rw [hK, nI_clamp (by omega), h2]
theorem sc_cntN (R : sc_Rep h so va nu en us n K S V N E U) : sc_cnt (sc_hb h) 256 = n := by
  have B : sc_cnt (fun j => sc_hb h j && true) 256 = sc_cnt (fun _ => true) n := sc_bij (q := fun _ => true) (κ := fun i => (K i).toNatClampNeg) n (sc_hb h)
    (fun i hi => by
      obtain ⟨j, hj, hK, _⟩ := R.1 i hi
      show (K i).toNatClampNeg < 256
      rw [hK, nI_clamp (by omega)]; exact hj)
    (fun i l hi hl e => by
      obtain ⟨j, hj, hK, _⟩ := R.1 i hi
      obtain ⟨j', hj', hK', _⟩ := R.1 l hl
      have e : (K i).toNatClampNeg = (K l).toNatClampNeg := e
      rw [hK, hK', nI_clamp (by omega), nI_clamp (by omega)] at e
      exact R.2.2 i l hi hl (by rw [hK, hK', e]))
    (fun j hj => by
      rw [sc_hb_iff]
      constructor
      · intro z
        obtain ⟨i, hi, hK⟩ := R.2.1 j hj z
        exact ⟨i, hi, by show (K i).toNatClampNeg = j; rw [hK, nI_clamp (by omega)]⟩
      · rintro ⟨i, hi, e⟩
        have e : (K i).toNatClampNeg = j := e
        obtain ⟨j', hj', hK', h1, _⟩ := R.1 i hi
        rw [hK', nI_clamp (by omega)] at e
        rw [← e]; exact h1)
  have e1 : sc_cnt (fun j => sc_hb h j && true) 256 = sc_cnt (sc_hb h) 256 := sc_cnt_c 256 (fun i _ => by rw [Bool.and_true])
  have e2 : ∀ m : Nat, sc_cnt (fun _ => true) m = m := by
    intro m
    induction m with
    | zero => rfl
    | succ m ih => rw [sc_cnt_s, ih]; rfl
  rw [← e1, B]
  exact e2 n
end

/-! the counts and the pages -/
def sc_cells (s : Nat) : Nat := if s = 0 then 4 else if s = 1 then 2 else 1
def sc_XC (p : Nat → Nat) (f : Nat) (h so ic pc : Nat → Int32) : Prop :=
  f + p 0 + p 1 + p 2 = 8 ∧
  (∀ s, s < 3 → pc s = nI (p s) ∧ ic s = nI (sc_cnt (sc_hs h so s) 256) ∧ sc_cnt (sc_hs h so s) 256 ≤ p s * sc_cells s) ∧
  (∀ j, j < 256 → ¬ h j = 0 → ∃ s, s < 3 ∧ so j = nI s)
section
variable {h so va nu en us ic pc h' K S V N E U : Nat → Int32} {p : Nat → Nat} {f n i j s : Nat}
theorem sc_xdrop (C : sc_XC p f h so ic pc) (hj : j < 256) (hh : ¬ h j = 0) (hs : s < 3) (e : so j = nI s) : sc_XC p f (upd h j 0) so (upd ic s (ic s - 1)) pc := by
  refine ⟨C.1, fun t ht => ?_, fun j' hj' hh' => ?_⟩
  · obtain ⟨c1, c2, c3⟩ := C.2.1 t ht
    by_cases et : t = s
    · subst et
      have := sc_cd1 hj hh e
      refine ⟨c1, ?_, by omega⟩
      rw [sc_us, c2, this]
      exact nI_pred _
    · have := sc_cd2 (h := h) e hs ht et
      refine ⟨c1, ?_, by omega⟩
      rw [sc_un et, c2, this]
  · have ne : j' ≠ j := fun z => hh' (by rw [z]; exact sc_us)
    rw [sc_un ne] at hh'
    exact C.2.2 j' hj' hh'
theorem sc_xpush (C : sc_XC p f h so ic pc) (hj : j < 256) (h0 : h j = 0) (hs : s < 3) (hc : sc_cnt (sc_hs h so s) 256 < p s * sc_cells s) : sc_XC p f (upd h j 1) (upd so j (nI s)) (upd ic s (ic s + 1)) pc := by
  refine ⟨C.1, fun t ht => ?_, fun j' hj' hh' => ?_⟩
  · obtain ⟨c1, c2, c3⟩ := C.2.1 t ht
    by_cases et : t = s
    · subst et
      have := sc_cp1 (so := so) (s := t) hj h0
      refine ⟨c1, ?_, by omega⟩
      rw [sc_us, c2, this]
      exact nI_1 _
    · have := sc_cp2 (so := so) h0 hs ht et
      refine ⟨c1, ?_, by omega⟩
      rw [sc_un et, c2, this]
  · by_cases e : j' = j
    · exact ⟨s, hs, by rw [e, sc_us]⟩
    · rw [sc_un e] at hh'
      rw [sc_un e]
      exact C.2.2 j' hj' hh'
theorem sc_xpage (C : sc_XC p (f + 1) h so ic pc) (hs : s < 3) : sc_XC (fun t => if t = s then p s + 1 else p t) f h so ic (upd pc s (pc s + 1)) := by
  refine ⟨?_, fun t ht => ?_, C.2.2⟩
  · have := C.1
    show f + (if 0 = s then p s + 1 else p 0) + (if 1 = s then p s + 1 else p 1) + (if 2 = s then p s + 1 else p 2) = 8
    obtain rfl | rfl | rfl : s = 0 ∨ s = 1 ∨ s = 2 := by omega
    · simp; omega
    · simp; omega
    · simp; omega
  · obtain ⟨c1, c2, c3⟩ := C.2.1 t ht
    by_cases et : t = s
    · subst et
      refine ⟨?_, c2, ?_⟩
      · show upd pc t (pc t + 1) t = nI (if t = t then p t + 1 else p t)
        rw [sc_us, c1, nI_1, if_pos rfl]
      · show _ ≤ (if t = t then p t + 1 else p t) * sc_cells t
        rw [if_pos rfl, Nat.add_mul]
        omega
    · refine ⟨?_, c2, ?_⟩
      · show upd pc s (pc s + 1) t = nI (if t = s then p s + 1 else p t)
        rw [sc_un et, c1, if_neg et]
      · show _ ≤ (if t = s then p s + 1 else p t) * sc_cells t
        rw [if_neg et]; exact c3
theorem sc_sum (C : sc_XC p f h so ic pc) : sc_cnt (sc_hb h) 256 = sc_cnt (sc_hs h so 0) 256 + sc_cnt (sc_hs h so 1) 256 + sc_cnt (sc_hs h so 2) 256 := by
  have e1 := sc_cnt_add (p := fun j => sc_hs h so 0 j || sc_hs h so 1 j) (q := sc_hs h so 0) (r := sc_hs h so 1) 256 (fun i _ => by
    show (sc_hs h so 0 i || sc_hs h so 1 i).toNat = _
    by_cases z : so i = nI 0
    · have : ¬ so i = nI 1 := fun y => absurd (sc_im (z.symm.trans y) (by omega) (by omega)) (by decide)
      rw [sc_hs_f2 (s := 1) this, Bool.or_false]; rfl
    · rw [sc_hs_f2 (s := 0) z, Bool.false_or]
      show _ = 0 + _
      omega)
  have e2 := sc_cnt_add (p := sc_hb h) (q := fun j => sc_hs h so 0 j || sc_hs h so 1 j) (r := sc_hs h so 2) 256 (fun i hi => by
    show _ = (sc_hs h so 0 i || sc_hs h so 1 i).toNat + _
    by_cases z : h i = 0
    · rw [sc_hb_f z, sc_hs_f1 z, sc_hs_f1 z, sc_hs_f1 z]; rfl
    · obtain ⟨s, hs, e⟩ := C.2.2 i hi z
      have ne : ∀ t, t < 3 → t ≠ s → sc_hs h so t i = false := fun t ht hne => sc_hs_f2 (fun y => hne (sc_im (y.symm.trans e) (by omega) (by omega)))
      have te : sc_hs h so s i = true := sc_hs_t z e
      obtain rfl | rfl | rfl : s = 0 ∨ s = 1 ∨ s = 2 := by omega
      · rw [sc_hb_t z, te, ne 1 (by omega) (by omega), ne 2 (by omega) (by omega)]; rfl
      · rw [sc_hb_t z, te, ne 0 (by omega) (by omega), ne 2 (by omega) (by omega)]; rfl
      · rw [sc_hb_t z, te, ne 0 (by omega) (by omega), ne 1 (by omega) (by omega)]; rfl)
  rw [e2, e1]
theorem sc_n32 (R : sc_Rep h so va nu en us n K S V N E U) (C : sc_XC p f h so ic pc) : n ≤ 32 := by
  have e := sc_cntN R
  have e2 := sc_sum C
  have a0 := (C.2.1 0 (by omega)).2.2
  have a1 := (C.2.1 1 (by omega)).2.2
  have a2 := (C.2.1 2 (by omega)).2.2
  have c0 : sc_cells 0 = 4 := rfl
  have c1 : sc_cells 1 = 2 := rfl
  have c2 : sc_cells 2 = 1 := rfl
  rw [c0] at a0
  rw [c1] at a1
  rw [c2] at a2
  have := C.1
  omega
theorem sc_n31 (R : sc_Rep h so va nu en us n K S V N E U) (C : sc_XC p f h so ic pc) (hs : s < 3) (hc : sc_cnt (sc_hs h so s) 256 < p s * sc_cells s) : n < 32 := by
  have e := sc_cntN R
  have e2 := sc_sum C
  have a0 := (C.2.1 0 (by omega)).2.2
  have a1 := (C.2.1 1 (by omega)).2.2
  have a2 := (C.2.1 2 (by omega)).2.2
  have c0 : sc_cells 0 = 4 := rfl
  have c1 : sc_cells 1 = 2 := rfl
  have c2 : sc_cells 2 = 1 := rfl
  rw [c0] at a0
  rw [c1] at a1
  rw [c2] at a2
  have := C.1
  obtain rfl | rfl | rfl : s = 0 ∨ s = 1 ∨ s = 2 := by omega
  · rw [c0] at hc; omega
  · rw [c1] at hc; omega
  · rw [c2] at hc; omega
theorem sc_pc (C : sc_XC p f h so ic pc) (hs : s < 3) : p s ≤ 8 := by
  have := C.1
  obtain rfl | rfl | rfl : s = 0 ∨ s = 1 ∨ s = 2 := by omega
  · omega
  · omega
  · omega
end

/-! the uses -/
def sc_XU (m : Nat) (h us : Nat → Int32) : Prop :=
  (∀ j, j < 256 → ¬ h j = 0 → ∃ q, q ≤ m ∧ us j = nI q) ∧
  (∀ i j, i < 256 → j < 256 → ¬ h i = 0 → ¬ h j = 0 → us i = us j → i = j)
theorem sc_xu_sub {m : Nat} {h h' us : Nat → Int32} (A : sc_XU m h us) (H : ∀ j, j < 256 → ¬ h' j = 0 → ¬ h j = 0) : sc_XU m h' us :=
  ⟨fun j hj hh => A.1 j hj (H j hj hh), fun i j hi hj h1 h2 => A.2 i j hi hj (H i hi h1) (H j hj h2)⟩
theorem sc_xu_use {m j : Nat} {h h' us : Nat → Int32} (A : sc_XU m h us) (hm : m + 1 < 2 ^ 31) (H : ∀ l, l < 256 → l ≠ j → ¬ h' l = 0 → ¬ h l = 0) : sc_XU (m + 1) h' (upd us j (nI (m + 1))) := by
  have lt : ∀ l, l < 256 → l ≠ j → ¬ h' l = 0 → ¬ us l = nI (m + 1) := by
    intro l hl hne hh e
    obtain ⟨q, hq, eq⟩ := A.1 l hl (H l hl hne hh)
    have := sc_im (eq.symm.trans e) (by omega) (by omega)
    omega
  refine ⟨fun l hl hh => ?_, fun a l ha hl h1 h2 e => ?_⟩
  · by_cases el : l = j
    · exact ⟨m + 1, by omega, by rw [el, sc_us]⟩
    · rw [sc_un el]
      obtain ⟨q, hq, eq⟩ := A.1 l hl (H l hl el hh)
      exact ⟨q, by omega, eq⟩
  · by_cases ea : a = j
    · by_cases el : l = j
      · rw [ea, el]
      · rw [ea, sc_us, sc_un el] at e
        exact absurd e.symm (lt l hl el h2)
    · by_cases el : l = j
      · rw [el, sc_us, sc_un ea] at e
        exact absurd e (lt a ha ea h1)
      · rw [sc_un ea, sc_un el] at e
        exact A.2 a l ha hl (H a ha ea h1) (H l hl el h2) e
def sc_old (h so us : Nat → Int32) (s j : Nat) : Prop := j < 256 ∧ ¬ h j = 0 ∧ so j = nI s ∧ ∀ l, l < 256 → ¬ h l = 0 → so l = nI s → us j ≤ us l
theorem sc_old1 {m s i j : Nat} {h so us : Nat → Int32} (A : sc_XU m h us) (a : sc_old h so us s i) (b : sc_old h so us s j) : i = j :=
  A.2 i j a.1 b.1 a.2.1 b.2.1 (Int32.le_antisymm (a.2.2.2 j b.1 b.2.1 b.2.2.1) (b.2.2.2 i a.1 a.2.1 a.2.2.1))
