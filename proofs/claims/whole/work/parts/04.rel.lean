/-- one relation over the plain functions -/
def sc_R (k : Nat) (p : Nat → Nat) (f n c m : Nat) (h so va nu en us ic pc K S V N E U : Nat → Int32) : Prop :=
  sc_Rep h so va nu en us n K S V N E U ∧ sc_XC p f h so ic pc ∧ sc_XU m h us ∧ c ≤ 1000 * k ∧ m ≤ k
section
variable {h so va nu en us ic pc K S V N E U va' nu' en' V' N' E' : Nat → Int32} {p : Nat → Nat} {k f n c m i j s : Nat}
theorem sc_rup (R : sc_R k p f n c m h so va nu en us ic pc K S V N E U) : sc_R (k + 5) p f n c m h so va nu en us ic pc K S V N E U := by
  obtain ⟨h1, h2, h3, h4, h5⟩ := R
  exact ⟨h1, h2, h3, by omega, by omega⟩
theorem sc_rn (R : sc_R k p f n c m h so va nu en us ic pc K S V N E U) : n ≤ 32 := sc_n32 R.1 R.2.1
theorem sc_ruse (R : sc_R k p f n c m h so va nu en us ic pc K S V N E U) (hk : k + 5 ≤ 2560) (hi : i < n) (hj : j < 256) (hK : K i = nI j)
    (hx : ∀ l, l ≠ j → va' l = va l ∧ nu' l = nu l ∧ en' l = en l) (hy : ∀ l, l ≠ i → V' l = V l ∧ N' l = N l ∧ E' l = E l)
    (hz : V' i = va' j ∧ N' i = nu' j ∧ sc_end (E' i) (en' j)) :
    sc_R (k + 5) p f n c (m + 1) h so va' nu' en' (upd us j (nI (m + 1))) ic pc K S V' N' E' (upd U i (nI (m + 1))) := by
  obtain ⟨h1, h2, h3, h4, h5⟩ := R
  refine ⟨sc_mod h1 hi hj hK (fun l hl => ⟨(hx l hl).1, (hx l hl).2.1, (hx l hl).2.2, sc_un hl⟩) (fun l hl => ⟨(hy l hl).1, (hy l hl).2.1, (hy l hl).2.2, sc_un hl⟩) ⟨hz.1, hz.2.1, hz.2.2, ?_⟩, h2, sc_xu_use h3 (by omega) (fun _ _ _ z => z), by omega, by omega⟩
  rw [sc_us, sc_us]
theorem sc_rdrop (R : sc_R k p f (n + 1) c m h so va nu en us ic pc K S V N E U) (hi : i < n + 1) (hj : j < 256) (hK : K i = nI j) (hs : s < 3) (e : so j = nI s) :
    sc_R k p f n c m (upd h j 0) so va nu en us (upd ic s (ic s - 1)) pc (upd K i (K n)) (upd S i (S n)) (upd V i (V n)) (upd N i (N n)) (upd E i (E n)) (upd U i (U n)) := by
  obtain ⟨h1, h2, h3, h4, h5⟩ := R
  refine ⟨sc_drop h1 hi hj hK, sc_xdrop h2 hj (sc_at h1 hi hj hK).1 hs e, sc_xu_sub h3 (fun l hl z => ?_), h4, h5⟩
  by_cases el : l = j
  · rw [el, sc_us] at z
    exact absurd rfl z
  · rw [sc_un el] at z
    exact z
theorem sc_rpush (R : sc_R k p f n c m h so va nu en us ic pc K S V N E U) (hk : k + 5 ≤ 2560) (hj : j < 256) (h0 : h j = 0) (hs : s < 3) (hc : sc_cnt (sc_hs h so s) 256 < p s * sc_cells s)
    (hx : ∀ l, l ≠ j → va' l = va l ∧ nu' l = nu l ∧ en' l = en l) (hy : ∀ l, l ≠ n → V' l = V l ∧ N' l = N l ∧ E' l = E l)
    (hz : V' n = va' j ∧ N' n = nu' j ∧ sc_end (E' n) (en' j)) :
    sc_R (k + 5) p f (n + 1) c (m + 1) (upd h j 1) (upd so j (nI s)) va' nu' en' (upd us j (nI (m + 1))) (upd ic s (ic s + 1)) pc (upd K n (nI j)) (upd S n (nI s)) V' N' E' (upd U n (nI (m + 1))) := by
  obtain ⟨h1, h2, h3, h4, h5⟩ := R
  refine ⟨sc_push h1 hj h0 (fun l hl => ⟨(hx l hl).1, (hx l hl).2.1, (hx l hl).2.2, sc_un hl⟩) (fun l hl => ⟨(hy l hl).1, (hy l hl).2.1, (hy l hl).2.2, sc_un hl⟩) ⟨hz.1, hz.2.1, hz.2.2, ?_⟩, sc_xpush h2 hj h0 hs hc, sc_xu_use h3 (by omega) (fun l _ hne z => ?_), by omega, by omega⟩
  · rw [sc_us, sc_us]
  · rw [sc_un hne] at z
    exact z
theorem sc_rpage (R : sc_R k p (f + 1) n c m h so va nu en us ic pc K S V N E U) (hs : s < 3) : sc_R k (fun t => if t = s then p s + 1 else p t) f n c m h so va nu en us ic (upd pc s (pc s + 1)) K S V N E U :=
  ⟨R.1, sc_xpage R.2.1 hs, R.2.2⟩
theorem sc_cdle (C : sc_XC p f h so ic pc) (hj : j < 256) (hh : ¬ h j = 0) (hs : s < 3) : sc_cnt (sc_hs (upd h j 0) so s) 256 ≤ sc_cnt (sc_hs h so s) 256 := by
  obtain ⟨t, ht, e⟩ := C.2.2 j hj hh
  by_cases et : s = t
  · subst et
    have := sc_cd1 hj hh e
    omega
  · have := sc_cd2 (h := h) e ht hs et
    omega
def sc_eX (t c : Nat) : Int32 := if t = 0 then 0 else nI (c + t)
def sc_eY (t c : Nat) : Int32 := if t = 0 then -1 else nI (c + t)
theorem sc_endE {t : Nat} (ht : t ≤ 1000) (hc : c ≤ 1000 * k) (hk : k + 5 ≤ 2560) : sc_end (sc_eY t c) (sc_eX t c) := by
  unfold sc_eX sc_eY
  by_cases z : t = 0
  · rw [if_pos z, if_pos z]
    exact Or.inl ⟨rfl, rfl⟩
  · rw [if_neg z, if_neg z]
    exact Or.inr ⟨c + t, by omega, by omega, rfl, rfl⟩
end
