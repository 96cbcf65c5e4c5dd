/-! the component's public methods -/
section
variable {fp cl ln lu : Int32} {h so va nu en us ic pc : Nat → Int32} {j s m t c : Nat} {x y : Int32}
theorem sx_get1 {post : Int32 → SX → Prop} (hj : j < 256) (hh : ¬ h j = 0) (q : post (va j) (fp, cl, ln, nI (m + 1), h, so, va, nu, en, upd us j (nI (m + 1)), ic, pc)) : wpX_get post (fp, cl, ln, nI m, h, so, va, nu, en, us, ic, pc) (nI j) := by
  have ck : (nI j).toNatClampNeg = j := nI_clamp (by omega)
  unfold wpX_get
  refine sx_holds1 hj hh ?_
  refine br_f sc_1n0 ?_
  refine sx_use hj ?_
  refine ⟨vp_in_nI hj (by decide), ?_⟩
  rw [ck]
  exact q
theorem sx_get0 {post : Int32 → SX → Prop} (hx : sc_no h x) (q : post 0 (fp, cl, ln, lu, h, so, va, nu, en, us, ic, pc)) : wpX_get post (fp, cl, ln, lu, h, so, va, nu, en, us, ic, pc) x := by
  unfold wpX_get
  refine sx_holds0 hx ?_
  exact br_t rfl q
theorem sx_has1 {post : Int32 → Prop} (hj : j < 256) (hh : ¬ h j = 0) (q : post 1) : wpX_has post (fp, cl, ln, lu, h, so, va, nu, en, us, ic, pc) (nI j) := by
  unfold wpX_has
  refine sx_holds1 hj hh ?_
  exact br_f sc_1n0 q
theorem sx_has0 {post : Int32 → Prop} (hx : sc_no h x) (q : post 0) : wpX_has post (fp, cl, ln, lu, h, so, va, nu, en, us, ic, pc) x := by
  unfold wpX_has
  refine sx_holds0 hx ?_
  exact br_t rfl q
theorem sx_number1 {post : Int32 → Prop} (hj : j < 256) (hh : ¬ h j = 0) (q : post (nu j)) : wpX_number post (fp, cl, ln, lu, h, so, va, nu, en, us, ic, pc) (nI j) := by
  have ck : (nI j).toNatClampNeg = j := nI_clamp (by omega)
  unfold wpX_number
  refine sx_holds1 hj hh ?_
  refine br_f sc_1n0 ⟨vp_in_nI hj (by decide), ?_⟩
  rw [ck]
  exact q
theorem sx_number0 {post : Int32 → Prop} (hx : sc_no h x) (q : post (-1)) : wpX_number post (fp, cl, ln, lu, h, so, va, nu, en, us, ic, pc) x := by
  unfold wpX_number
  refine sx_holds0 hx ?_
  exact br_t rfl q
theorem sx_swap1 {post : Int32 → SX → Prop} (hj : j < 256) (hh : ¬ h j = 0) (e : nu j = x) (q : post 1 (fp, cl, ln + 1, nI (m + 1), h, so, upd va j y, upd nu j (ln + 1), en, upd us j (nI (m + 1)), ic, pc)) : wpX_swap post (fp, cl, ln, nI m, h, so, va, nu, en, us, ic, pc) (nI j) x y := by
  have ck : (nI j).toNatClampNeg = j := nI_clamp (by omega)
  unfold wpX_swap
  refine sx_holds1 hj hh ?_
  refine br_f sc_1n0 ⟨vp_in_nI hj (by decide), ?_⟩
  refine br_t (by rw [ck]; exact e) ?_
  refine sx_value hj ?_
  refine sx_use hj ?_
  exact q
theorem sx_swap0 {post : Int32 → SX → Prop} (hj : j < 256) (hh : ¬ h j = 0) (e : ¬ nu j = x) (q : post 0 (fp, cl, ln, lu, h, so, va, nu, en, us, ic, pc)) : wpX_swap post (fp, cl, ln, lu, h, so, va, nu, en, us, ic, pc) (nI j) x y := by
  have ck : (nI j).toNatClampNeg = j := nI_clamp (by omega)
  unfold wpX_swap
  refine sx_holds1 hj hh ?_
  refine br_f sc_1n0 ⟨vp_in_nI hj (by decide), ?_⟩
  exact br_f (by rw [ck]; exact e) q
theorem sx_swapN {post : Int32 → SX → Prop} {z : Int32} (hx : sc_no h z) (q : post (-1) (fp, cl, ln, lu, h, so, va, nu, en, us, ic, pc)) : wpX_swap post (fp, cl, ln, lu, h, so, va, nu, en, us, ic, pc) z x y := by
  unfold wpX_swap
  refine sx_holds0 hx ?_
  exact br_t rfl q
theorem sx_add1 {post : Int32 → SX → Prop} (hj : j < 256) (hh : ¬ h j = 0) (q : post (va j + x) (fp, cl, ln + 1, nI (m + 1), h, so, upd va j (va j + x), upd nu j (ln + 1), en, upd us j (nI (m + 1)), ic, pc)) : wpX_add post (fp, cl, ln, nI m, h, so, va, nu, en, us, ic, pc) (nI j) x := by
  have ck : (nI j).toNatClampNeg = j := nI_clamp (by omega)
  unfold wpX_add
  dsimp only
  rw [ck]
  refine sx_holds1 hj hh ?_
  refine br_f sc_1n0 ⟨vp_in_nI hj (by decide), ?_⟩
  refine sx_value hj ?_
  refine sx_use hj ?_
  refine ⟨vp_in_nI hj (by decide), ?_⟩
  show post (upd va j (va j + x) j) (fp, cl, ln + 1, nI (m + 1), h, so, upd va j (va j + x), upd nu j (ln + 1), en, upd us j (nI (m + 1)), ic, pc)
  rw [sc_us]
  exact q
theorem sx_add0 {post : Int32 → SX → Prop} (hx : sc_no h x) (q : post 0 (fp, cl, ln, lu, h, so, va, nu, en, us, ic, pc)) : wpX_add post (fp, cl, ln, lu, h, so, va, nu, en, us, ic, pc) x y := by
  unfold wpX_add
  refine sx_holds0 hx ?_
  exact br_t rfl q
theorem sx_touchT {post : Int32 → SX → Prop} (hx : y < 0 ∨ nI 1001 ≤ y) (q : post (-1) (fp, cl, ln, lu, h, so, va, nu, en, us, ic, pc)) : wpX_touch post (fp, cl, ln, lu, h, so, va, nu, en, us, ic, pc) x y := by
  unfold wpX_touch
  refine sx_isTime0 hx ?_
  exact br_t rfl q
theorem sx_touch1 {post : Int32 → SX → Prop} (ht : t ≤ 1000) (hj : j < 256) (hh : ¬ h j = 0) (q : post 1 (fp, nI c, ln, nI (m + 1), h, so, va, nu, upd en j (sc_eX t c), upd us j (nI (m + 1)), ic, pc)) : wpX_touch post (fp, nI c, ln, nI m, h, so, va, nu, en, us, ic, pc) (nI j) (nI t) := by
  unfold wpX_touch
  refine sx_isTime1 ht ?_
  refine br_f sc_1n0 ?_
  refine sx_holds1 hj hh ?_
  refine br_f sc_1n0 ?_
  refine sx_end hj ht ?_
  refine sx_use hj ?_
  exact q
theorem sx_touch0 {post : Int32 → SX → Prop} (ht : t ≤ 1000) (hx : sc_no h x) (q : post 0 (fp, cl, ln, lu, h, so, va, nu, en, us, ic, pc)) : wpX_touch post (fp, cl, ln, lu, h, so, va, nu, en, us, ic, pc) x (nI t) := by
  unfold wpX_touch
  refine sx_isTime1 ht ?_
  refine br_f sc_1n0 ?_
  refine sx_holds0 hx ?_
  exact br_t rfl q
theorem sx_remove1 {post : Int32 → SX → Prop} (hj : j < 256) (hh : ¬ h j = 0) (hs : s < 3) (e : so j = nI s) (q : post 1 (fp, cl, ln, lu, upd h j 0, so, va, nu, en, us, upd ic s (ic s - 1), pc)) : wpX_remove post (fp, cl, ln, lu, h, so, va, nu, en, us, ic, pc) (nI j) := by
  unfold wpX_remove
  refine sx_holds1 hj hh ?_
  refine br_f sc_1n0 ?_
  refine sx_drop hj hs e ?_
  exact q
theorem sx_remove0 {post : Int32 → SX → Prop} (hx : sc_no h x) (q : post 0 (fp, cl, ln, lu, h, so, va, nu, en, us, ic, pc)) : wpX_remove post (fp, cl, ln, lu, h, so, va, nu, en, us, ic, pc) x := by
  unfold wpX_remove
  refine sx_holds0 hx ?_
  exact br_t rfl q
theorem sx_tickT {post : Int32 → SX → Prop} (hx : x < 0 ∨ nI 1001 ≤ x) (q : post (-1) (fp, cl, ln, lu, h, so, va, nu, en, us, ic, pc)) : wpX_tick post (fp, cl, ln, lu, h, so, va, nu, en, us, ic, pc) x := by
  unfold wpX_tick
  refine sx_isTime0 hx ?_
  exact br_t rfl q
theorem sx_tickL {post : Int32 → SX → Prop} {p : Nat → Nat} {f : Nat} (q : ∀ h' ic' g, sc_TX p f h so en pc cl 256 g h' ic' → post g (fp, cl, ln, lu, h', so, va, nu, en, us, ic', pc)) : ∀ (d b : Nat) (g : Int32) (h' ic' : Nat → Int32), b + d = 256 → sc_TX p f h so en pc cl b g h' ic' → wX_tick_23 post (d + 1) g (nI b) fp cl ln lu h' so va nu en us ic' pc := by
  intro d
  induction d with
  | zero =>
    intro b g h' ic' hb T
    have e : b = 256 := by omega
    subst e
    exact br_t (nI_le (a := 256) (b := 256) (Nat.le_refl _) (by decide)) (q h' ic' g T)
  | succ d ih =>
    intro b g h' ic' hb T
    have b6 : b < 256 := by omega
    have vb : vp_in (nI b) 256 := vp_in_nI (by omega) (by decide)
    have ck : (nI b).toNatClampNeg = b := nI_clamp (by omega)
    refine br_f (nI_ge (b := 256) (by omega) (by decide)) ⟨vb, ?_⟩
    rw [ck]
    by_cases h1 : h' b = 0
    · exact br_t h1 (nm_r (nI_1 b) (ih (b + 1) g h' ic' (by omega) (sc_tx2 T (Or.inl h1))))
    · refine br_f h1 ?_
      obtain ⟨s, hs, e⟩ := T.1.2.2 b b6 h1
      refine sx_ended b6 (fun w => ?_) (fun w => ?_)
      · refine br_f sc_1n0 ?_
        refine sx_drop b6 hs e ?_
        exact nm_e (nm_r (nI_1 b) (ih (b + 1) (g + 1) (upd h' b 0) (upd ic' s (ic' s - 1)) (by omega) (sc_tx1 T b6 h1 w hs e)))
      · exact br_t rfl (nm_r (nI_1 b) (ih (b + 1) g h' ic' (by omega) (sc_tx2 T (Or.inr w))))
theorem sx_tick {post : Int32 → SX → Prop} {p : Nat → Nat} {f : Nat} (ht : t ≤ 1000) (C : sc_XC p f h so ic pc) (q : ∀ h' ic' g, sc_TX p f h so en pc (nI (c + t)) 256 g h' ic' → post g (fp, nI (c + t), ln, lu, h', so, va, nu, en, us, ic', pc)) : wpX_tick post (fp, nI c, ln, lu, h, so, va, nu, en, us, ic, pc) (nI t) := by
  unfold wpX_tick
  refine sx_isTime1 ht ?_
  refine br_f sc_1n0 ?_
  refine nm_r (nI_add c t) ?_
  exact ⟨256 + 1, sx_tickL q 256 0 0 h ic rfl (sc_tx0 C)⟩
theorem sx_items1 {post : Int32 → Prop} (hs : s < 3) (q : post (ic s)) : wpX_items post (fp, cl, ln, lu, h, so, va, nu, en, us, ic, pc) (nI s) := by
  have cs : (nI s).toNatClampNeg = s := nI_clamp (by omega)
  unfold wpX_items
  refine sx_isSort1 hs ?_
  refine br_f sc_1n0 ⟨vp_in_nI hs (by decide), ?_⟩
  rw [cs]
  exact q
theorem sx_items0 {post : Int32 → Prop} (hx : x < 0 ∨ nI 3 ≤ x) (q : post (-1)) : wpX_items post (fp, cl, ln, lu, h, so, va, nu, en, us, ic, pc) x := by
  unfold wpX_items
  refine sx_isSort0 hx ?_
  exact br_t rfl q
theorem sx_pages3 {post : Int32 → Prop} (q : post fp) : wpX_pages post (fp, cl, ln, lu, h, so, va, nu, en, us, ic, pc) (nI 3) := by
  unfold wpX_pages
  exact br_t rfl q
theorem sx_pages1 {post : Int32 → Prop} (hs : s < 3) (q : post (pc s)) : wpX_pages post (fp, cl, ln, lu, h, so, va, nu, en, us, ic, pc) (nI s) := by
  have cs : (nI s).toNatClampNeg = s := nI_clamp (by omega)
  unfold wpX_pages
  refine br_f (fun z => absurd (sc_im (a := s) (b := 3) z (by omega) (by decide)) (by omega)) ?_
  refine sx_isSort1 hs ?_
  refine br_f sc_1n0 ⟨vp_in_nI hs (by decide), ?_⟩
  rw [cs]
  exact q
theorem sx_pages0 {post : Int32 → Prop} (hx : x < 0 ∨ nI 4 ≤ x) (q : post (-1)) : wpX_pages post (fp, cl, ln, lu, h, so, va, nu, en, us, ic, pc) x := by
  have n3 : ¬ x = 3 := by
    intro z
    subst z
    rcases hx with z | z
    · exact absurd z (by decide)
    · exact absurd z (by decide)
  have h3 : x < 0 ∨ nI 3 ≤ x := by
    rcases hx with z | z
    · exact Or.inl z
    · exact Or.inr (Int32.le_trans (nI_le (a := 3) (b := 4) (by decide) (by decide)) z)
  unfold wpX_pages
  refine br_f n3 ?_
  refine sx_isSort0 h3 ?_
  exact br_t rfl q
theorem sx_oldest1 {post : Int32 → Prop} (hs : s < 3) (q0 : (∀ l, l < 256 → ¬ (¬ h l = 0 ∧ so l = nI s)) → post (-1)) (q1 : ∀ j, sc_old h so us s j → post (nI j)) : wpX_oldest post (fp, cl, ln, lu, h, so, va, nu, en, us, ic, pc) (nI s) := by
  unfold wpX_oldest
  refine sx_isSort1 hs ?_
  refine br_f sc_1n0 ?_
  exact sx_long q0 q1
theorem sx_oldest0 {post : Int32 → Prop} (hx : x < 0 ∨ nI 3 ≤ x) (q : post (-1)) : wpX_oldest post (fp, cl, ln, lu, h, so, va, nu, en, us, ic, pc) x := by
  unfold wpX_oldest
  refine sx_isSort0 hx ?_
  exact br_t rfl q
end
