/-! the reference's own methods, each with a general post -/
section
variable {cn cl ln lu : Int32} {K S V N E U pc : Nat → Int32} {n i s m : Nat} {x : Int32}
theorem sy_sl {post : Int32 → Prop} {j : Nat} (hj : j ≤ 12) (q : post (nI (sc_sl j))) : wpY_sortOf post (nI j) := by
  unfold sc_sl at q
  by_cases h1 : j ≤ 3
  · rw [if_pos h1] at q
    exact br_f (nI_nlt (a := 3) (b := j) h1 (by decide)) q
  · rw [if_neg h1] at q
    by_cases h2 : j ≤ 6
    · rw [if_pos h2] at q
      exact br_t (nI_lt (a := 3) (b := j) (by omega) (by omega)) (br_f (nI_nlt (a := 6) (b := j) h2 (by decide)) q)
    · rw [if_neg h2] at q
      exact br_t (nI_lt (a := 3) (b := j) (by omega) (by omega)) (br_t (nI_lt (a := 6) (b := j) (by omega) (by omega)) q)
theorem sy_cells {post : Int32 → Prop} (hs : s < 3) (q : post (nI (sc_cells s))) : wpY_cells post (nI s) := by
  have c0 : sc_cells 0 = 4 := rfl
  have c1 : sc_cells 1 = 2 := rfl
  have c2 : sc_cells 2 = 1 := rfl
  obtain rfl | rfl | rfl : s = 0 ∨ s = 1 ∨ s = 2 := by omega
  · rw [c0] at q
    exact br_t nI_0 q
  · rw [c1] at q
    exact br_f (nI_ne0 (by decide) (by decide)) (br_t rfl q)
  · rw [c2] at q
    exact br_f (nI_ne0 (by decide) (by decide)) (br_f (by decide : ¬ nI 2 = (1 : Int32)) q)
theorem sy_findL1 {post : Int32 → Prop} (hn : n ≤ 32) (hi : i < n) (hK : K i = x) (hU : ∀ a, a < n → K a = x → a = i) (q : post (nI i)) : ∀ (d a : Nat), a + d = i → wY_find_2 post x (nI n) cl ln lu K S V N E U pc (d + 1) (nI a) := by
  intro d
  induction d with
  | zero =>
    intro a ha
    have e : a = i := by omega
    subst e
    have ck : (nI a).toNatClampNeg = a := nI_clamp (by omega)
    refine br_f (nI_ge hi (by omega)) ⟨vp_in_nI (by omega) (by decide), br_t ?_ q⟩
    rw [ck]; exact hK
  | succ d ih =>
    intro a ha
    have ck : (nI a).toNatClampNeg = a := nI_clamp (by omega)
    refine br_f (nI_ge (a := a) (b := n) (by omega) (by omega)) ⟨vp_in_nI (by omega) (by decide), br_f ?_ (nm_r (nI_1 a) (ih (a + 1) (by omega)))⟩
    rw [ck]
    intro z
    have := hU a (by omega) z
    omega
theorem sy_find1 {post : Int32 → Prop} (hn : n ≤ 32) (hi : i < n) (hK : K i = x) (hU : ∀ a, a < n → K a = x → a = i) (q : post (nI i)) : wpY_find post (nI n, cl, ln, lu, K, S, V, N, E, U, pc) x := by
  unfold wpY_find
  exact ⟨i + 1, sy_findL1 hn hi hK hU q i 0 (Nat.zero_add i)⟩
theorem sy_findL0 {post : Int32 → Prop} (hn : n ≤ 32) (hU : ∀ a, a < n → ¬ K a = x) (q : post (-1)) : ∀ (d a : Nat), a + d = n → wY_find_2 post x (nI n) cl ln lu K S V N E U pc (d + 1) (nI a) := by
  intro d
  induction d with
  | zero =>
    intro a ha
    have e : a = n := by omega
    subst e
    exact br_t (nI_le (Nat.le_refl _) (by omega)) q
  | succ d ih =>
    intro a ha
    have ck : (nI a).toNatClampNeg = a := nI_clamp (by omega)
    refine br_f (nI_ge (a := a) (b := n) (by omega) (by omega)) ⟨vp_in_nI (by omega) (by decide), br_f ?_ (nm_r (nI_1 a) (ih (a + 1) (by omega)))⟩
    rw [ck]
    exact hU a (by omega)
theorem sy_find0 {post : Int32 → Prop} (hn : n ≤ 32) (hU : ∀ a, a < n → ¬ K a = x) (q : post (-1)) : wpY_find post (nI n, cl, ln, lu, K, S, V, N, E, U, pc) x := by
  unfold wpY_find
  exact ⟨n + 1, sy_findL0 hn hU q n 0 (Nat.zero_add n)⟩
theorem sy_drop {post : SY → Prop} (hn : n + 1 ≤ 32) (hi : i < n + 1) (q : post (nI n, cl, ln, lu, upd K i (K n), upd S i (S n), upd V i (V n), upd N i (N n), upd E i (E n), upd U i (U n), pc)) : wpY_drop post (nI (n + 1), cl, ln, lu, K, S, V, N, E, U, pc) (nI i) := by
  have ck : (nI i).toNatClampNeg = i := nI_clamp (by omega)
  have cn : (nI n).toNatClampNeg = n := nI_clamp (by omega)
  have vi : vp_in (nI i) 32 := vp_in_nI (by omega) (by decide)
  have vn : vp_in (nI n) 32 := vp_in_nI (by omega) (by decide)
  unfold wpY_drop
  dsimp only
  rw [ck]
  refine nm_r (nI_pred n) ?_
  rw [cn]
  exact ⟨vn, vi, nm_e ⟨vn, vi, nm_e ⟨vn, vi, nm_e ⟨vn, vi, nm_e ⟨vn, vi, nm_e ⟨vn, vi, nm_e q⟩⟩⟩⟩⟩⟩
theorem sy_free {post : Int32 → Prop} {p : Nat → Nat} {f : Nat} (e : f + p 0 + p 1 + p 2 = 8) (hp : ∀ s, s < 3 → pc s = nI (p s)) (q : post (nI f)) : wpY_free post (cn, cl, ln, lu, K, S, V, N, E, U, pc) := by
  unfold wpY_free
  dsimp only
  rw [hp 0 (by decide), hp 1 (by decide), hp 2 (by decide)]
  show post (nI 8 - nI (p 0) - nI (p 1) - nI (p 2))
  rw [sc_sub (by omega), sc_sub (by omega), sc_sub (by omega)]
  have z : 8 - p 0 - p 1 - p 2 = f := by omega
  rw [z]
  exact q
theorem sy_longL {post : Int32 → Prop} (hn : n ≤ 32) (q : ∀ fd, sc_L (fun l => S l = x) U n fd → post fd) : ∀ (d b : Nat) (fd : Int32), b + d = n → sc_L (fun l => S l = x) U b fd → wY_longestAgo_4 post x (nI n) cl ln lu K S V N E U pc (d + 1) fd (nI b) := by
  intro d
  induction d with
  | zero =>
    intro b fd hb H
    have e : b = n := by omega
    subst e
    exact br_t (nI_le (Nat.le_refl _) (by omega)) (q fd H)
  | succ d ih =>
    intro b fd hb H
    have vb : vp_in (nI b) 32 := vp_in_nI (by omega) (by decide)
    have ck : (nI b).toNatClampNeg = b := nI_clamp (by omega)
    refine br_f (nI_ge (a := b) (b := n) (by omega) (by omega)) ⟨vb, ?_⟩
    rw [ck]
    by_cases h2 : S b = x
    · refine br_t h2 ?_
      by_cases h3 : fd = -1
      · subst h3
        exact br_t sc_n1lt (nm_r (nI_1 b) (ih (b + 1) (nI b) (by omega) (sc_ltake0 H (by omega) h2)))
      · obtain ⟨j, hj, rfl⟩ : ∃ j, j < b ∧ fd = nI j := by
          rcases H with ⟨e, _⟩ | ⟨j, hj, e, _⟩
          · exact absurd e h3
          · exact ⟨j, hj, e⟩
        have cj : (nI j).toNatClampNeg = j := nI_clamp (by omega)
        refine br_f (nI_pos (by omega)) ⟨vb, vp_in_nI (by omega) (by decide), ?_⟩
        rw [cj]
        by_cases h4 : U j ≤ U b
        · exact br_t h4 (nm_r (nI_1 b) (ih (b + 1) (nI j) (by omega) (sc_lkeep H (by omega) (by omega) (Int32.not_lt.mpr h4))))
        · exact br_f h4 (nm_r (nI_1 b) (ih (b + 1) (nI b) (by omega) (sc_ltake H (by omega) (by omega) h2 (Int32.not_le.mp h4))))
    · exact br_f h2 (nm_r (nI_1 b) (ih (b + 1) fd (by omega) (sc_lskip H h2)))
theorem sy_long {post : Int32 → Prop} (hn : n ≤ 32) (q0 : (∀ l, l < n → ¬ S l = nI s) → post (-1)) (q1 : ∀ i, i < n → S i = nI s → (∀ l, l < n → S l = nI s → U i ≤ U l) → post (nI i)) : wpY_longestAgo post (nI n, cl, ln, lu, K, S, V, N, E, U, pc) (nI s) := by
  unfold wpY_longestAgo
  refine ⟨n + 1, sy_longL hn (fun fd H => ?_) n 0 (-1) (Nat.zero_add n) sc_l0⟩
  rcases H with ⟨e, H⟩ | ⟨j, hj, e, hp, H⟩
  · rw [e]
    exact q0 H
  · rw [e]
    exact q1 j hj hp H
theorem sy_itemsL {post : Int32 → Prop} (hn : n ≤ 32) (q : post (nI (sc_cnt (fun i => decide (S i = x)) n))) : ∀ (d b : Nat), b + d = n → wY_items_15 post x (nI n) cl ln lu K S V N E U pc (d + 1) (nI (sc_cnt (fun i => decide (S i = x)) b)) (nI b) := by
  intro d
  induction d with
  | zero =>
    intro b hb
    have e : b = n := by omega
    subst e
    exact br_t (nI_le (Nat.le_refl _) (by omega)) q
  | succ d ih =>
    intro b hb
    have vb : vp_in (nI b) 32 := vp_in_nI (by omega) (by decide)
    have ck : (nI b).toNatClampNeg = b := nI_clamp (by omega)
    have H := ih (b + 1) (by omega)
    have F : sc_cnt (fun i => decide (S i = x)) (b + 1) = sc_cnt (fun i => decide (S i = x)) b + (decide (S b = x)).toNat := rfl
    refine br_f (nI_ge (a := b) (b := n) (by omega) (by omega)) ⟨vb, ?_⟩
    rw [ck]
    by_cases h2 : S b = x
    · rw [F, decide_eq_true h2, Bool.toNat_true] at H
      exact br_t h2 (nm_r (nI_1 _) (nm_r (nI_1 b) H))
    · rw [F, decide_eq_false h2, Bool.toNat_false, Nat.add_zero] at H
      exact br_f h2 (nm_r (nI_1 b) H)
theorem sy_items {post : Int32 → Prop} (hn : n ≤ 32) (hs : s < 3) (q : post (nI (sc_cnt (fun i => decide (S i = nI s)) n))) : wpY_items post (nI n, cl, ln, lu, K, S, V, N, E, U, pc) (nI s) := by
  unfold wpY_items
  exact br_f (nI_pos (by omega)) (br_t (nI_le (a := s) (b := 2) (by omega) (by decide)) ⟨n + 1, sy_itemsL hn q n 0 (Nat.zero_add n)⟩)
theorem sy_use {post : SY → Prop} (hi : i < 32) (q : post (cn, cl, ln, nI (m + 1), K, S, V, N, E, upd U i (nI (m + 1)), pc)) : wpY_use post (cn, cl, ln, nI m, K, S, V, N, E, U, pc) (nI i) := by
  have ck : (nI i).toNatClampNeg = i := nI_clamp (by omega)
  have vi : vp_in (nI i) 32 := vp_in_nI hi (by decide)
  unfold wpY_use
  dsimp only
  rw [ck]
  exact nm_r (nI_1 m) ⟨vi, nm_e q⟩
theorem sy_change {post : SY → Prop} (hi : i < 32) (q : post (cn, cl, ln + 1, nI (m + 1), K, S, upd V i x, upd N i (ln + 1), E, upd U i (nI (m + 1)), pc)) : wpY_change post (cn, cl, ln, nI m, K, S, V, N, E, U, pc) (nI i) x := by
  have ck : (nI i).toNatClampNeg = i := nI_clamp (by omega)
  have vi : vp_in (nI i) 32 := vp_in_nI hi (by decide)
  unfold wpY_change
  dsimp only
  rw [ck]
  refine ⟨vi, nm_e (nm_e ⟨vi, nm_e ?_⟩)⟩
  refine sy_use hi ?_
  exact q
end
section
variable {cl ln lu : Int32} {h so va nu en us ic K S V N E U pc : Nat → Int32} {p : Nat → Nat} {f n i j s m : Nat}
theorem sy_room1 {post : Int32 → SY → Prop} (R : sc_Rep h so va nu en us n K S V N E U) (C : sc_XC p f h so ic pc) (hs : s < 3) (hc : sc_cnt (sc_hs h so s) 256 < p s * sc_cells s) (q : post 1 (nI n, cl, ln, lu, K, S, V, N, E, U, pc)) : wpY_room post (nI n, cl, ln, lu, K, S, V, N, E, U, pc) (nI s) := by
  have cs : (nI s).toNatClampNeg = s := nI_clamp (by omega)
  have vs : vp_in (nI s) 3 := vp_in_nI hs (by decide)
  have b := sc_pcb C hs
  have w := sc_cntY R s
  obtain ⟨c1, c2, c3⟩ := C.2.1 s hs
  rw [Nat.mul_comm] at hc b
  unfold wpY_room
  refine sy_items (sc_n32 R C) hs ?_
  refine sy_cells hs ?_
  refine ⟨vs, br_f ?_ q⟩
  rw [cs, c1, sc_mul, w]
  exact nI_ge hc (by omega)
theorem sy_room2 {post : Int32 → SY → Prop} (R : sc_Rep h so va nu en us n K S V N E U) (C : sc_XC p (f + 1) h so ic pc) (hs : s < 3) (hc : ¬ sc_cnt (sc_hs h so s) 256 < p s * sc_cells s) (q : post 1 (nI n, cl, ln, lu, K, S, V, N, E, U, upd pc s (pc s + 1))) : wpY_room post (nI n, cl, ln, lu, K, S, V, N, E, U, pc) (nI s) := by
  have cs : (nI s).toNatClampNeg = s := nI_clamp (by omega)
  have vs : vp_in (nI s) 3 := vp_in_nI hs (by decide)
  have b := sc_pcb C hs
  have b2 := sc_cnt_le (p := sc_hs h so s) 256
  have b3 := C.1
  have w := sc_cntY R s
  obtain ⟨c1, c2, c3⟩ := C.2.1 s hs
  rw [Nat.mul_comm] at hc b
  unfold wpY_room
  refine sy_items (sc_n32 R C) hs ?_
  refine sy_cells hs ?_
  refine ⟨vs, br_t ?_ ?_⟩
  · rw [cs, c1, sc_mul, w]
    exact nI_le (by omega) (by omega)
  · refine sy_free C.1 (fun s hs => (C.2.1 s hs).1) ?_
    refine br_f (nI_nle (by omega) (by omega)) ?_
    rw [cs]
    exact ⟨vs, vs, nm_e q⟩
theorem sy_room3 {post : Int32 → SY → Prop} (R : sc_Rep h so va nu en us n K S V N E U) (C : sc_XC p 0 h so ic pc) (hs : s < 3) (hc : ¬ sc_cnt (sc_hs h so s) 256 < p s * sc_cells s) (hn : ∀ l, l < 256 → ¬ (¬ h l = 0 ∧ so l = nI s)) (q : post 0 (nI n, cl, ln, lu, K, S, V, N, E, U, pc)) : wpY_room post (nI n, cl, ln, lu, K, S, V, N, E, U, pc) (nI s) := by
  have cs : (nI s).toNatClampNeg = s := nI_clamp (by omega)
  have vs : vp_in (nI s) 3 := vp_in_nI hs (by decide)
  have b := sc_pcb C hs
  have b2 := sc_cnt_le (p := sc_hs h so s) 256
  have w := sc_cntY R s
  obtain ⟨c1, c2, c3⟩ := C.2.1 s hs
  rw [Nat.mul_comm] at hc b
  unfold wpY_room
  refine sy_items (sc_n32 R C) hs ?_
  refine sy_cells hs ?_
  refine ⟨vs, br_t ?_ ?_⟩
  · rw [cs, c1, sc_mul, w]
    exact nI_le (by omega) (by omega)
  · refine sy_free C.1 (fun s hs => (C.2.1 s hs).1) ?_
    refine br_t (nI_le (a := 0) (b := 0) (Nat.le_refl 0) (by decide)) ?_
    refine sy_long (sc_n32 R C) (fun _ => ?_) (fun i hi e _ => absurd e ((sc_noneY R).mpr hn i hi))
    exact br_f sc_n1le q
theorem sy_room4 {post : Int32 → SY → Prop} (R : sc_Rep h so va nu en us (n + 1) K S V N E U) (C : sc_XC p 0 h so ic pc) (A : sc_XU m h us) (hs : s < 3) (hc : ¬ sc_cnt (sc_hs h so s) 256 < p s * sc_cells s) (hn : sc_old h so us s j) (hi : i < n + 1) (hK : K i = nI j) (q : post 1 (nI n, cl, ln, lu, upd K i (K n), upd S i (S n), upd V i (V n), upd N i (N n), upd E i (E n), upd U i (U n), pc)) : wpY_room post (nI (n + 1), cl, ln, lu, K, S, V, N, E, U, pc) (nI s) := by
  have cs : (nI s).toNatClampNeg = s := nI_clamp (by omega)
  have vs : vp_in (nI s) 3 := vp_in_nI hs (by decide)
  have b := sc_pcb C hs
  have b2 := sc_cnt_le (p := sc_hs h so s) 256
  have w := sc_cntY R s
  have n32 := sc_n32 R C
  obtain ⟨c1, c2, c3⟩ := C.2.1 s hs
  rw [Nat.mul_comm] at hc b
  unfold wpY_room
  refine sy_items n32 hs ?_
  refine sy_cells hs ?_
  refine ⟨vs, br_t ?_ ?_⟩
  · rw [cs, c1, sc_mul, w]
    exact nI_le (by omega) (by omega)
  · refine sy_free C.1 (fun s hs => (C.2.1 s hs).1) ?_
    refine br_t (nI_le (a := 0) (b := 0) (Nat.le_refl 0) (by decide)) ?_
    refine sy_long n32 (fun z => absurd ⟨hn.2.1, hn.2.2.1⟩ ((sc_noneY R).mp z j hn.1)) (fun i' hi' e H => ?_)
    obtain ⟨j', hj', hK'⟩ := sc_oldY R hi' e H
    have ej := sc_old1 A hj' hn
    have ei : i' = i := R.2.2 i' i hi' hi (by rw [hK', hK, ej])
    subst ei
    refine br_t (nI_pos' (by omega)) ?_
    refine sy_drop n32 hi ?_
    exact q
end
