/-! the class's public methods -/
section
variable {fp cl ln lu : Int32} {h so va nu en us ic pc : Nat → Int32} {j s m t c : Nat} {x y : Int32}
theorem sx_get1 {post : Int32 → SX → Prop} (hj : j < 256) (hh : ¬ h j = 0) (q : post (va j) (fp, cl, ln, nI (m + 1), h, so, va, nu, en, upd us j (nI (m + 1)), ic, pc)) : wpX_get post (fp, cl, ln, nI m, h, so, va, nu, en, us, ic, pc) (nI j) := by
  sorry
theorem sx_get0 {post : Int32 → SX → Prop} (hx : sc_no h x) (q : post 0 (fp, cl, ln, lu, h, so, va, nu, en, us, ic, pc)) : wpX_get post (fp, cl, ln, lu, h, so, va, nu, en, us, ic, pc) x := by
  sorry
theorem sx_has1 {post : Int32 → Prop} (hj : j < 256) (hh : ¬ h j = 0) (q : post 1) : wpX_has post (fp, cl, ln, lu, h, so, va, nu, en, us, ic, pc) (nI j) := by
  sorry
theorem sx_has0 {post : Int32 → Prop} (hx : sc_no h x) (q : post 0) : wpX_has post (fp, cl, ln, lu, h, so, va, nu, en, us, ic, pc) x := by
  sorry
theorem sx_number1 {post : Int32 → Prop} (hj : j < 256) (hh : ¬ h j = 0) (q : post (nu j)) : wpX_number post (fp, cl, ln, lu, h, so, va, nu, en, us, ic, pc) (nI j) := by
  sorry
theorem sx_number0 {post : Int32 → Prop} (hx : sc_no h x) (q : post (-1)) : wpX_number post (fp, cl, ln, lu, h, so, va, nu, en, us, ic, pc) x := by
  sorry
theorem sx_swap1 {post : Int32 → SX → Prop} (hj : j < 256) (hh : ¬ h j = 0) (e : nu j = x) (q : post 1 (fp, cl, ln + 1, nI (m + 1), h, so, upd va j y, upd nu j (ln + 1), en, upd us j (nI (m + 1)), ic, pc)) : wpX_swap post (fp, cl, ln, nI m, h, so, va, nu, en, us, ic, pc) (nI j) x y := by
  sorry
theorem sx_swap0 {post : Int32 → SX → Prop} (hj : j < 256) (hh : ¬ h j = 0) (e : ¬ nu j = x) (q : post 0 (fp, cl, ln, lu, h, so, va, nu, en, us, ic, pc)) : wpX_swap post (fp, cl, ln, lu, h, so, va, nu, en, us, ic, pc) (nI j) x y := by
  sorry
theorem sx_swapN {post : Int32 → SX → Prop} {z : Int32} (hx : sc_no h z) (q : post (-1) (fp, cl, ln, lu, h, so, va, nu, en, us, ic, pc)) : wpX_swap post (fp, cl, ln, lu, h, so, va, nu, en, us, ic, pc) z x y := by
  sorry
theorem sx_add1 {post : Int32 → SX → Prop} (hj : j < 256) (hh : ¬ h j = 0) (q : post (va j + x) (fp, cl, ln + 1, nI (m + 1), h, so, upd va j (va j + x), upd nu j (ln + 1), en, upd us j (nI (m + 1)), ic, pc)) : wpX_add post (fp, cl, ln, nI m, h, so, va, nu, en, us, ic, pc) (nI j) x := by
  sorry
theorem sx_add0 {post : Int32 → SX → Prop} (hx : sc_no h x) (q : post 0 (fp, cl, ln, lu, h, so, va, nu, en, us, ic, pc)) : wpX_add post (fp, cl, ln, lu, h, so, va, nu, en, us, ic, pc) x y := by
  sorry
theorem sx_touchT {post : Int32 → SX → Prop} (hx : y < 0 ∨ nI 1001 ≤ y) (q : post (-1) (fp, cl, ln, lu, h, so, va, nu, en, us, ic, pc)) : wpX_touch post (fp, cl, ln, lu, h, so, va, nu, en, us, ic, pc) x y := by
  sorry
theorem sx_touch1 {post : Int32 → SX → Prop} (ht : t ≤ 1000) (hj : j < 256) (hh : ¬ h j = 0) (q : post 1 (fp, nI c, ln, nI (m + 1), h, so, va, nu, upd en j (sc_eX t c), upd us j (nI (m + 1)), ic, pc)) : wpX_touch post (fp, nI c, ln, nI m, h, so, va, nu, en, us, ic, pc) (nI j) (nI t) := by
  sorry
theorem sx_touch0 {post : Int32 → SX → Prop} (ht : t ≤ 1000) (hx : sc_no h x) (q : post 0 (fp, cl, ln, lu, h, so, va, nu, en, us, ic, pc)) : wpX_touch post (fp, cl, ln, lu, h, so, va, nu, en, us, ic, pc) x (nI t) := by
  sorry
theorem sx_remove1 {post : Int32 → SX → Prop} (hj : j < 256) (hh : ¬ h j = 0) (hs : s < 3) (e : so j = nI s) (q : post 1 (fp, cl, ln, lu, upd h j 0, so, va, nu, en, us, upd ic s (ic s - 1), pc)) : wpX_remove post (fp, cl, ln, lu, h, so, va, nu, en, us, ic, pc) (nI j) := by
  sorry
theorem sx_remove0 {post : Int32 → SX → Prop} (hx : sc_no h x) (q : post 0 (fp, cl, ln, lu, h, so, va, nu, en, us, ic, pc)) : wpX_remove post (fp, cl, ln, lu, h, so, va, nu, en, us, ic, pc) x := by
  sorry
theorem sx_tickT {post : Int32 → SX → Prop} (hx : x < 0 ∨ nI 1001 ≤ x) (q : post (-1) (fp, cl, ln, lu, h, so, va, nu, en, us, ic, pc)) : wpX_tick post (fp, cl, ln, lu, h, so, va, nu, en, us, ic, pc) x := by
  sorry
theorem sx_tick {post : Int32 → SX → Prop} {p : Nat → Nat} {f : Nat} (ht : t ≤ 1000) (C : sc_XC p f h so ic pc) (q : ∀ h' ic' g, sc_TX p f h so en pc (nI (c + t)) 256 g h' ic' → post g (fp, nI (c + t), ln, lu, h', so, va, nu, en, us, ic', pc)) : wpX_tick post (fp, nI c, ln, lu, h, so, va, nu, en, us, ic, pc) (nI t) := by
  sorry
theorem sx_items1 {post : Int32 → Prop} (hs : s < 3) (q : post (ic s)) : wpX_items post (fp, cl, ln, lu, h, so, va, nu, en, us, ic, pc) (nI s) := by
  sorry
theorem sx_items0 {post : Int32 → Prop} (hx : x < 0 ∨ nI 3 ≤ x) (q : post (-1)) : wpX_items post (fp, cl, ln, lu, h, so, va, nu, en, us, ic, pc) x := by
  sorry
theorem sx_pages3 {post : Int32 → Prop} (q : post fp) : wpX_pages post (fp, cl, ln, lu, h, so, va, nu, en, us, ic, pc) (nI 3) := by
  sorry
theorem sx_pages1 {post : Int32 → Prop} (hs : s < 3) (q : post (pc s)) : wpX_pages post (fp, cl, ln, lu, h, so, va, nu, en, us, ic, pc) (nI s) := by
  sorry
theorem sx_pages0 {post : Int32 → Prop} (hx : x < 0 ∨ nI 4 ≤ x) (q : post (-1)) : wpX_pages post (fp, cl, ln, lu, h, so, va, nu, en, us, ic, pc) x := by
  sorry
theorem sx_oldest1 {post : Int32 → Prop} (hs : s < 3) (q0 : (∀ l, l < 256 → ¬ (¬ h l = 0 ∧ so l = nI s)) → post (-1)) (q1 : ∀ j, sc_old h so us s j → post (nI j)) : wpX_oldest post (fp, cl, ln, lu, h, so, va, nu, en, us, ic, pc) (nI s) := by
  sorry
theorem sx_oldest0 {post : Int32 → Prop} (hx : x < 0 ∨ nI 3 ≤ x) (q : post (-1)) : wpX_oldest post (fp, cl, ln, lu, h, so, va, nu, en, us, ic, pc) x := by
  sorry
end
