/-! the component's own methods, each with a general post -/
theorem sc_pcb {h so ic pc : Nat → Int32} {p : Nat → Nat} {f s : Nat} (C : sc_XC p f h so ic pc) (hs : s < 3) : p s * sc_cells s ≤ 32 := by
  have := C.1
  have c0 : sc_cells 0 = 4 := rfl
  have c1 : sc_cells 1 = 2 := rfl
  have c2 : sc_cells 2 = 1 := rfl
  obtain rfl | rfl | rfl : s = 0 ∨ s = 1 ∨ s = 2 := by omega
  · rw [c0]; omega
  · rw [c1]; omega
  · rw [c2]; omega
section
variable {fp cl ln lu : Int32} {h so va nu en us ic pc : Nat → Int32} {j s m : Nat} {x : Int32}
theorem sx_isKey1 {post : Int32 → Prop} (hj : j < 256) (q : post 1) : wpX_isKey post (nI j) :=
  br_f (nI_pos (by omega)) (br_f (nI_ge (b := 256) hj (by decide)) q)
theorem sx_isKey0 {post : Int32 → Prop} (hx : x < 0 ∨ nI 256 ≤ x) (q : post 0) : wpX_isKey post x := by
  rcases hx with z | z
  · exact br_t z q
  · exact br_f (Int32.not_lt.mpr (sc_ge0 z (by decide))) (br_t z q)
theorem sx_isLength1 {post : Int32 → Prop} (h1 : 1 ≤ j) (h2 : j ≤ 12) (q : post 1) : wpX_isLength post (nI j) :=
  br_f (nI_nlt (a := j) (b := 1) h1 (by omega)) (br_f (nI_nlt (a := 12) (b := j) h2 (by decide)) q)
theorem sx_isLength0 {post : Int32 → Prop} (hx : x < 1 ∨ nI 13 ≤ x) (q : post 0) : wpX_isLength post x := by
  rcases hx with z | z
  · exact br_t z q
  · exact br_f (sc_gel (a := 1) (b := 13) z (by decide) (by decide)) (br_t (Int32.lt_of_lt_of_le (nI_lt (a := 12) (b := 13) (by decide) (by decide)) z) q)
theorem sx_isTime1 {post : Int32 → Prop} (hj : j ≤ 1000) (q : post 1) : wpX_isTime post (nI j) :=
  br_f (nI_pos (by omega)) (br_f (nI_nlt (a := 1000) (b := j) hj (by decide)) q)
theorem sx_isTime0 {post : Int32 → Prop} (hx : x < 0 ∨ nI 1001 ≤ x) (q : post 0) : wpX_isTime post x := by
  rcases hx with z | z
  · exact br_t z q
  · exact br_f (Int32.not_lt.mpr (sc_ge0 z (by decide))) (br_t (Int32.lt_of_lt_of_le (nI_lt (a := 1000) (b := 1001) (by decide) (by decide)) z) q)
theorem sx_isSort1 {post : Int32 → Prop} (hj : s < 3) (q : post 1) : wpX_isSort post (nI s) :=
  br_f (nI_pos (by omega)) (br_f (nI_ge (b := 3) hj (by decide)) q)
theorem sx_isSort0 {post : Int32 → Prop} (hx : x < 0 ∨ nI 3 ≤ x) (q : post 0) : wpX_isSort post x := by
  rcases hx with z | z
  · exact br_t z q
  · exact br_f (Int32.not_lt.mpr (sc_ge0 z (by decide))) (br_t z q)
theorem sx_sfl {post : Int32 → Prop} (hj : j ≤ 12) (q : post (nI (sc_sl j))) : wpX_sortForLength post (nI j) := by
  unfold sc_sl at q
  by_cases h1 : j ≤ 3
  · rw [if_pos h1] at q
    exact br_f (nI_nlt (a := 3) (b := j) h1 (by decide)) q
  · rw [if_neg h1] at q
    by_cases h2 : j ≤ 6
    · rw [if_pos h2] at q
      exact br_t (nI_lt (a := 3) (b := j) (by omega) (by omega)) (br_f (nI_nlt (a := 6) (b := j) h2 (by decide)) q)
    · rw [if_neg h2] at q
      exact br_t (nI_lt (a := 3) (b := j) (by omega) (by omega)) (br_t (nI_lt (a := 6) (b := j) (by omega) (by omega)) q)
theorem sx_cells {post : Int32 → Prop} (hs : s < 3) (q : post (nI (sc_cells s))) : wpX_cellsInPage post (nI s) := by
  have c0 : sc_cells 0 = 4 := rfl
  have c1 : sc_cells 1 = 2 := rfl
  have c2 : sc_cells 2 = 1 := rfl
  obtain rfl | rfl | rfl : s = 0 ∨ s = 1 ∨ s = 2 := by omega
  · rw [c0] at q
    exact br_t nI_0 q
  · rw [c1] at q
    exact br_f (nI_ne0 (by decide) (by decide)) (br_t rfl q)
  · rw [c2] at q
    exact br_f (nI_ne0 (by decide) (by decide)) (br_f (by decide : ¬ nI 2 = (1 : Int32)) q)
theorem sx_holds1 {post : Int32 → Prop} (hj : j < 256) (hh : ¬ h j = 0) (q : post 1) : wpX_holds post (fp, cl, ln, lu, h, so, va, nu, en, us, ic, pc) (nI j) := by
  have ck : (nI j).toNatClampNeg = j := nI_clamp (by omega)
  unfold wpX_holds
  refine sx_isKey1 hj ?_
  refine br_f sc_1n0 ⟨vp_in_nI hj (by decide), br_f ?_ q⟩
  rw [ck]; exact hh
theorem sx_holds0 {post : Int32 → Prop} (hx : sc_no h x) (q : post 0) : wpX_holds post (fp, cl, ln, lu, h, so, va, nu, en, us, ic, pc) x := by
  unfold wpX_holds
  rcases hx with z | z | ⟨j, hj, rfl, z⟩
  · refine sx_isKey0 (Or.inl z) ?_
    exact br_t rfl q
  · refine sx_isKey0 (Or.inr z) ?_
    exact br_t rfl q
  · have ck : (nI j).toNatClampNeg = j := nI_clamp (by omega)
    refine sx_isKey1 hj ?_
    refine br_f sc_1n0 ⟨vp_in_nI hj (by decide), br_t ?_ q⟩
    rw [ck]; exact z
theorem sx_ended {post : Int32 → Prop} (hj : j < 256) (q1 : ¬ en j = 0 ∧ en j ≤ cl → post 1) (q0 : ¬ (¬ en j = 0 ∧ en j ≤ cl) → post 0) : wpX_hasEnded post (fp, cl, ln, lu, h, so, va, nu, en, us, ic, pc) (nI j) := by
  have ck : (nI j).toNatClampNeg = j := nI_clamp (by omega)
  have vj : vp_in (nI j) 256 := vp_in_nI hj (by decide)
  unfold wpX_hasEnded
  rw [ck]
  refine ⟨vj, ?_⟩
  by_cases z : en j = 0
  · exact br_t z (q0 (fun w => w.1 z))
  · by_cases y : cl < en j
    · exact br_f z ⟨vj, br_t y (q0 (fun w => Int32.not_lt.mpr w.2 y))⟩
    · exact br_f z ⟨vj, br_f y (q1 ⟨z, Int32.not_lt.mp y⟩)⟩
theorem sx_drop {post : SX → Prop} (hj : j < 256) (hs : s < 3) (e : so j = nI s) (q : post (fp, cl, ln, lu, upd h j 0, so, va, nu, en, us, upd ic s (ic s - 1), pc)) : wpX_drop post (fp, cl, ln, lu, h, so, va, nu, en, us, ic, pc) (nI j) := by
  have ck : (nI j).toNatClampNeg = j := nI_clamp (by omega)
  have cs : (nI s).toNatClampNeg = s := nI_clamp (by omega)
  have vj : vp_in (nI j) 256 := vp_in_nI hj (by decide)
  have vs : vp_in (nI s) 3 := vp_in_nI hs (by decide)
  unfold wpX_drop
  dsimp only
  rw [ck, e, cs, sc_vb0]
  exact ⟨vj, nm_e ⟨vj, vs, vs, nm_e q⟩⟩
theorem sx_take {post : SX → Prop} (hj : j < 256) (hs : s < 3) (q : post (fp, cl, ln, lu, upd h j 1, upd so j (nI s), va, nu, en, us, upd ic s (ic s + 1), pc)) : wpX_takeCell post (fp, cl, ln, lu, h, so, va, nu, en, us, ic, pc) (nI j) (nI s) := by
  have ck : (nI j).toNatClampNeg = j := nI_clamp (by omega)
  have cs : (nI s).toNatClampNeg = s := nI_clamp (by omega)
  have vj : vp_in (nI j) 256 := vp_in_nI hj (by decide)
  have vs : vp_in (nI s) 3 := vp_in_nI hs (by decide)
  unfold wpX_takeCell
  rw [ck, cs, sc_vb1]
  exact ⟨vj, nm_e ⟨vj, nm_e ⟨vs, vs, nm_e q⟩⟩⟩
theorem sx_value {post : SX → Prop} (hj : j < 256) (q : post (fp, cl, ln + 1, lu, h, so, upd va j x, upd nu j (ln + 1), en, us, ic, pc)) : wpX_setValue post (fp, cl, ln, lu, h, so, va, nu, en, us, ic, pc) (nI j) x := by
  have ck : (nI j).toNatClampNeg = j := nI_clamp (by omega)
  have vj : vp_in (nI j) 256 := vp_in_nI hj (by decide)
  unfold wpX_setValue
  rw [ck]
  exact nm_e ⟨vj, nm_e ⟨vj, nm_e q⟩⟩
theorem sx_end {post : SX → Prop} {t c : Nat} (hj : j < 256) (ht : t ≤ 1000) (q : post (fp, nI c, ln, lu, h, so, va, nu, upd en j (sc_eX t c), us, ic, pc)) : wpX_setEnd post (fp, nI c, ln, lu, h, so, va, nu, en, us, ic, pc) (nI j) (nI t) := by
  have ck : (nI j).toNatClampNeg = j := nI_clamp (by omega)
  have vj : vp_in (nI j) 256 := vp_in_nI hj (by decide)
  unfold wpX_setEnd
  rw [ck]
  unfold sc_eX at q
  by_cases z : t = 0
  · rw [if_pos z] at q
    subst z
    exact br_t nI_0 ⟨vj, nm_e q⟩
  · rw [if_neg z] at q
    exact br_f (nI_ne0 (by omega) (by omega)) ⟨vj, nm_r (e' := upd en j (nI (c + t))) (by rw [nI_add]) q⟩
theorem sx_use {post : SX → Prop} (hj : j < 256) (q : post (fp, cl, ln, nI (m + 1), h, so, va, nu, en, upd us j (nI (m + 1)), ic, pc)) : wpX_use post (fp, cl, ln, nI m, h, so, va, nu, en, us, ic, pc) (nI j) := by
  have ck : (nI j).toNatClampNeg = j := nI_clamp (by omega)
  have vj : vp_in (nI j) 256 := vp_in_nI hj (by decide)
  unfold wpX_use
  rw [ck]
  exact nm_r (nI_1 m) ⟨vj, nm_e q⟩
theorem sx_longL {post : Int32 → Prop} (q : ∀ fd, sc_L (fun l => ¬ h l = 0 ∧ so l = x) us 256 fd → post fd) : ∀ (d b : Nat) (fd : Int32), b + d = 256 → sc_L (fun l => ¬ h l = 0 ∧ so l = x) us b fd → wX_longestUnused_4 post x fp cl ln lu h so va nu en us ic pc (d + 1) fd (nI b) := by
  intro d
  induction d with
  | zero =>
    intro b fd hb H
    have e : b = 256 := by omega
    subst e
    exact br_t (nI_le (a := 256) (b := 256) (Nat.le_refl _) (by decide)) (q fd H)
  | succ d ih =>
    intro b fd hb H
    have vb : vp_in (nI b) 256 := vp_in_nI (by omega) (by decide)
    have ck : (nI b).toNatClampNeg = b := nI_clamp (by omega)
    refine br_f (nI_ge (b := 256) (by omega) (by decide)) ⟨vb, ?_⟩
    rw [ck]
    by_cases h1 : h b = 0
    · exact br_t h1 (nm_r (nI_1 b) (ih (b + 1) fd (by omega) (sc_lskip H (fun z => z.1 h1))))
    · refine br_f h1 ⟨vb, ?_⟩
      by_cases h2 : so b = x
      · refine br_t h2 ?_
        by_cases h3 : fd = -1
        · subst h3
          exact br_t rfl (nm_r (nI_1 b) (ih (b + 1) (nI b) (by omega) (sc_ltake0 H (by omega) ⟨h1, h2⟩)))
        · obtain ⟨j, hj, rfl⟩ : ∃ j, j < b ∧ fd = nI j := by
            rcases H with ⟨e, _⟩ | ⟨j, hj, e, _⟩
            · exact absurd e h3
            · exact ⟨j, hj, e⟩
          have cj : (nI j).toNatClampNeg = j := nI_clamp (by omega)
          refine br_f h3 ⟨vb, vp_in_nI (by omega) (by decide), ?_⟩
          rw [cj]
          by_cases h4 : us j ≤ us b
          · exact br_t h4 (nm_r (nI_1 b) (ih (b + 1) (nI j) (by omega) (sc_lkeep H (by omega) (by omega) (Int32.not_lt.mpr h4))))
          · exact br_f h4 (nm_r (nI_1 b) (ih (b + 1) (nI b) (by omega) (sc_ltake H (by omega) (by omega) ⟨h1, h2⟩ (Int32.not_le.mp h4))))
      · exact br_f h2 (nm_r (nI_1 b) (ih (b + 1) fd (by omega) (sc_lskip H (fun z => h2 z.2))))
theorem sx_long {post : Int32 → Prop} (q0 : (∀ l, l < 256 → ¬ (¬ h l = 0 ∧ so l = nI s)) → post (-1)) (q1 : ∀ j, sc_old h so us s j → post (nI j)) : wpX_longestUnused post (fp, cl, ln, lu, h, so, va, nu, en, us, ic, pc) (nI s) := by
  unfold wpX_longestUnused
  refine ⟨256 + 1, sx_longL (fun fd H => ?_) 256 0 (-1) rfl sc_l0⟩
  rcases H with ⟨e, H⟩ | ⟨j, hj, e, hp, H⟩
  · rw [e]
    exact q0 H
  · rw [e]
    exact q1 j ⟨hj, hp.1, hp.2, fun l hl hh e => H l hl ⟨hh, e⟩⟩
/-- room is there -/
theorem sx_room1 {post : Int32 → SX → Prop} {p : Nat → Nat} {f : Nat} (C : sc_XC p f h so ic pc) (hs : s < 3) (hc : sc_cnt (sc_hs h so s) 256 < p s * sc_cells s) (q : post 1 (fp, cl, ln, lu, h, so, va, nu, en, us, ic, pc)) : wpX_makeRoom post (fp, cl, ln, lu, h, so, va, nu, en, us, ic, pc) (nI s) := by
  have cs : (nI s).toNatClampNeg = s := nI_clamp (by omega)
  have vs : vp_in (nI s) 3 := vp_in_nI hs (by decide)
  have b := sc_pcb C hs
  obtain ⟨c1, c2, c3⟩ := C.2.1 s hs
  unfold wpX_makeRoom
  dsimp only
  rw [cs, c1, c2]
  refine ⟨vs, sx_cells hs ?_⟩
  exact nm_r (sc_mul _ _) ⟨vs, br_f (nI_ge hc (by omega)) q⟩
/-- a page is free -/
theorem sx_room2 {post : Int32 → SX → Prop} {p : Nat → Nat} {f : Nat} (C : sc_XC p (f + 1) h so ic pc) (hs : s < 3) (hc : ¬ sc_cnt (sc_hs h so s) 256 < p s * sc_cells s) (q : post 1 (nI f, cl, ln, lu, h, so, va, nu, en, us, ic, upd pc s (pc s + 1))) : wpX_makeRoom post (nI (f + 1), cl, ln, lu, h, so, va, nu, en, us, ic, pc) (nI s) := by
  have cs : (nI s).toNatClampNeg = s := nI_clamp (by omega)
  have vs : vp_in (nI s) 3 := vp_in_nI hs (by decide)
  have b := sc_pcb C hs
  have b2 := sc_cnt_le (p := sc_hs h so s) 256
  have b3 := C.1
  obtain ⟨c1, c2, c3⟩ := C.2.1 s hs
  unfold wpX_makeRoom
  rw [cs]
  refine ⟨vs, sx_cells hs ?_⟩
  refine nm_r (e' := nI (p s * sc_cells s)) (by rw [c1, sc_mul]) ⟨vs, br_t (by rw [c2]; exact nI_le (by omega) (by omega)) ?_⟩
  exact br_f (nI_nle (by omega) (by omega)) (nm_r (nI_pred f) ⟨vs, vs, nm_e q⟩)
/-- no page, no item of the sort -/
theorem sx_room3 {post : Int32 → SX → Prop} {p : Nat → Nat} (C : sc_XC p 0 h so ic pc) (hs : s < 3) (hc : ¬ sc_cnt (sc_hs h so s) 256 < p s * sc_cells s) (hn : ∀ l, l < 256 → ¬ (¬ h l = 0 ∧ so l = nI s)) (q : post 0 (nI 0, cl, ln, lu, h, so, va, nu, en, us, ic, pc)) : wpX_makeRoom post (nI 0, cl, ln, lu, h, so, va, nu, en, us, ic, pc) (nI s) := by
  have cs : (nI s).toNatClampNeg = s := nI_clamp (by omega)
  have vs : vp_in (nI s) 3 := vp_in_nI hs (by decide)
  have b := sc_pcb C hs
  have b2 := sc_cnt_le (p := sc_hs h so s) 256
  obtain ⟨c1, c2, c3⟩ := C.2.1 s hs
  unfold wpX_makeRoom
  rw [cs]
  refine ⟨vs, sx_cells hs ?_⟩
  refine nm_r (e' := nI (p s * sc_cells s)) (by rw [c1, sc_mul]) ⟨vs, br_t (by rw [c2]; exact nI_le (by omega) (by omega)) ?_⟩
  refine br_t (nI_le (a := 0) (b := 0) (Nat.le_refl 0) (by decide)) ?_
  refine sx_long (fun _ => ?_) (fun j hj => absurd ⟨hj.2.1, hj.2.2.1⟩ (hn j hj.1))
  exact br_t rfl q
/-- no page, the oldest of the sort goes -/
theorem sx_room4 {post : Int32 → SX → Prop} {p : Nat → Nat} (C : sc_XC p 0 h so ic pc) (A : sc_XU m h us) (hs : s < 3) (hc : ¬ sc_cnt (sc_hs h so s) 256 < p s * sc_cells s) (hn : sc_old h so us s j) (q : post 1 (nI 0, cl, ln, lu, upd h j 0, so, va, nu, en, us, upd ic s (ic s - 1), pc)) : wpX_makeRoom post (nI 0, cl, ln, lu, h, so, va, nu, en, us, ic, pc) (nI s) := by
  have cs : (nI s).toNatClampNeg = s := nI_clamp (by omega)
  have vs : vp_in (nI s) 3 := vp_in_nI hs (by decide)
  have b := sc_pcb C hs
  have b2 := sc_cnt_le (p := sc_hs h so s) 256
  obtain ⟨c1, c2, c3⟩ := C.2.1 s hs
  unfold wpX_makeRoom
  rw [cs]
  refine ⟨vs, sx_cells hs ?_⟩
  refine nm_r (e' := nI (p s * sc_cells s)) (by rw [c1, sc_mul]) ⟨vs, br_t (by rw [c2]; exact nI_le (by omega) (by omega)) ?_⟩
  refine br_t (nI_le (a := 0) (b := 0) (Nat.le_refl 0) (by decide)) ?_
  refine sx_long (fun z => absurd ⟨hn.2.1, hn.2.2.1⟩ (z j hn.1)) (fun j' hj' => ?_)
  have e := sc_old1 A hj' hn
  subst e
  have := hj'.1
  refine br_f (sc_ne1 (by omega)) ?_
  refine sx_drop hj'.1 hs hj'.2.2.1 ?_
  exact q
end
