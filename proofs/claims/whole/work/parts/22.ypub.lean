/-! the reference's public methods -/
section
variable {cn cl ln lu : Int32} {K S V N E U pc : Nat → Int32} {n i s m t c : Nat} {x y z : Int32}
theorem sy_get1 {post : Int32 → SY → Prop} (hn : n ≤ 32) (hi : i < n) (hK : K i = x) (hU : ∀ a, a < n → K a = x → a = i) (q : post (V i) (nI n, cl, ln, nI (m + 1), K, S, V, N, E, upd U i (nI (m + 1)), pc)) : wpY_get post (nI n, cl, ln, nI m, K, S, V, N, E, U, pc) x := by
  sorry
theorem sy_get0 {post : Int32 → SY → Prop} (hn : n ≤ 32) (hU : ∀ a, a < n → ¬ K a = x) (q : post 0 (nI n, cl, ln, lu, K, S, V, N, E, U, pc)) : wpY_get post (nI n, cl, ln, lu, K, S, V, N, E, U, pc) x := by
  sorry
theorem sy_has1 {post : Int32 → Prop} (hn : n ≤ 32) (hi : i < n) (hK : K i = x) (hU : ∀ a, a < n → K a = x → a = i) (q : post 1) : wpY_has post (nI n, cl, ln, lu, K, S, V, N, E, U, pc) x := by
  sorry
theorem sy_has0 {post : Int32 → Prop} (hn : n ≤ 32) (hU : ∀ a, a < n → ¬ K a = x) (q : post 0) : wpY_has post (nI n, cl, ln, lu, K, S, V, N, E, U, pc) x := by
  sorry
theorem sy_number1 {post : Int32 → Prop} (hn : n ≤ 32) (hi : i < n) (hK : K i = x) (hU : ∀ a, a < n → K a = x → a = i) (q : post (N i)) : wpY_number post (nI n, cl, ln, lu, K, S, V, N, E, U, pc) x := by
  sorry
theorem sy_number0 {post : Int32 → Prop} (hn : n ≤ 32) (hU : ∀ a, a < n → ¬ K a = x) (q : post (-1)) : wpY_number post (nI n, cl, ln, lu, K, S, V, N, E, U, pc) x := by
  sorry
theorem sy_swap1 {post : Int32 → SY → Prop} (hn : n ≤ 32) (hi : i < n) (hK : K i = x) (hU : ∀ a, a < n → K a = x → a = i) (e : N i = y) (q : post 1 (nI n, cl, ln + 1, nI (m + 1), K, S, upd V i z, upd N i (ln + 1), E, upd U i (nI (m + 1)), pc)) : wpY_swap post (nI n, cl, ln, nI m, K, S, V, N, E, U, pc) x y z := by
  sorry
theorem sy_swap0 {post : Int32 → SY → Prop} (hn : n ≤ 32) (hi : i < n) (hK : K i = x) (hU : ∀ a, a < n → K a = x → a = i) (e : ¬ N i = y) (q : post 0 (nI n, cl, ln, lu, K, S, V, N, E, U, pc)) : wpY_swap post (nI n, cl, ln, lu, K, S, V, N, E, U, pc) x y z := by
  sorry
theorem sy_swapN {post : Int32 → SY → Prop} (hn : n ≤ 32) (hU : ∀ a, a < n → ¬ K a = x) (q : post (-1) (nI n, cl, ln, lu, K, S, V, N, E, U, pc)) : wpY_swap post (nI n, cl, ln, lu, K, S, V, N, E, U, pc) x y z := by
  sorry
theorem sy_add1 {post : Int32 → SY → Prop} (hn : n ≤ 32) (hi : i < n) (hK : K i = x) (hU : ∀ a, a < n → K a = x → a = i) (q : post (V i + y) (nI n, cl, ln + 1, nI (m + 1), K, S, upd V i (V i + y), upd N i (ln + 1), E, upd U i (nI (m + 1)), pc)) : wpY_add post (nI n, cl, ln, nI m, K, S, V, N, E, U, pc) x y := by
  sorry
theorem sy_add0 {post : Int32 → SY → Prop} (hn : n ≤ 32) (hU : ∀ a, a < n → ¬ K a = x) (q : post 0 (nI n, cl, ln, lu, K, S, V, N, E, U, pc)) : wpY_add post (nI n, cl, ln, lu, K, S, V, N, E, U, pc) x y := by
  sorry
theorem sy_touchT {post : Int32 → SY → Prop} (hx : y < 0 ∨ nI 1001 ≤ y) (q : post (-1) (cn, cl, ln, lu, K, S, V, N, E, U, pc)) : wpY_touch post (cn, cl, ln, lu, K, S, V, N, E, U, pc) x y := by
  sorry
theorem sy_touch1 {post : Int32 → SY → Prop} (ht : t ≤ 1000) (hn : n ≤ 32) (hi : i < n) (hK : K i = x) (hU : ∀ a, a < n → K a = x → a = i) (q : post 1 (nI n, nI c, ln, nI (m + 1), K, S, V, N, upd E i (sc_eY t c), upd U i (nI (m + 1)), pc)) : wpY_touch post (nI n, nI c, ln, nI m, K, S, V, N, E, U, pc) x (nI t) := by
  sorry
theorem sy_touch0 {post : Int32 → SY → Prop} (ht : t ≤ 1000) (hn : n ≤ 32) (hU : ∀ a, a < n → ¬ K a = x) (q : post 0 (nI n, cl, ln, lu, K, S, V, N, E, U, pc)) : wpY_touch post (nI n, cl, ln, lu, K, S, V, N, E, U, pc) x (nI t) := by
  sorry
theorem sy_remove1 {post : Int32 → SY → Prop} (hn : n + 1 ≤ 32) (hi : i < n + 1) (hK : K i = x) (hU : ∀ a, a < n + 1 → K a = x → a = i) (q : post 1 (nI n, cl, ln, lu, upd K i (K n), upd S i (S n), upd V i (V n), upd N i (N n), upd E i (E n), upd U i (U n), pc)) : wpY_remove post (nI (n + 1), cl, ln, lu, K, S, V, N, E, U, pc) x := by
  sorry
theorem sy_remove0 {post : Int32 → SY → Prop} (hn : n ≤ 32) (hU : ∀ a, a < n → ¬ K a = x) (q : post 0 (nI n, cl, ln, lu, K, S, V, N, E, U, pc)) : wpY_remove post (nI n, cl, ln, lu, K, S, V, N, E, U, pc) x := by
  sorry
theorem sy_tickT {post : Int32 → SY → Prop} (hx : x < 0 ∨ nI 1001 ≤ x) (q : post (-1) (cn, cl, ln, lu, K, S, V, N, E, U, pc)) : wpY_tick post (cn, cl, ln, lu, K, S, V, N, E, U, pc) x := by
  sorry
theorem sy_tick {post : Int32 → SY → Prop} {h so va nu en us : Nat → Int32} (ht : t ≤ 1000) (R : sc_Rep h so va nu en us n K S V N E U) (hn : n ≤ 32) (q : ∀ n' g K' S' V' N' E' U', sc_TY h so va nu en us (nI (c + t)) 0 g n' K' S' V' N' E' U' → post (nI g) (nI n', nI (c + t), ln, lu, K', S', V', N', E', U', pc)) : wpY_tick post (nI n, nI c, ln, lu, K, S, V, N, E, U, pc) (nI t) := by
  sorry
theorem sy_items0 {post : Int32 → Prop} (hx : x < 0 ∨ nI 3 ≤ x) (q : post (-1)) : wpY_items post (cn, cl, ln, lu, K, S, V, N, E, U, pc) x := by
  sorry
theorem sy_pages3 {post : Int32 → Prop} {p : Nat → Nat} {f : Nat} (e : f + p 0 + p 1 + p 2 = 8) (hp : ∀ s, s < 3 → pc s = nI (p s)) (q : post (nI f)) : wpY_pages post (cn, cl, ln, lu, K, S, V, N, E, U, pc) (nI 3) := by
  sorry
theorem sy_pages1 {post : Int32 → Prop} (hs : s < 3) (q : post (pc s)) : wpY_pages post (cn, cl, ln, lu, K, S, V, N, E, U, pc) (nI s) := by
  sorry
theorem sy_pages0 {post : Int32 → Prop} (hx : x < 0 ∨ nI 4 ≤ x) (q : post (-1)) : wpY_pages post (cn, cl, ln, lu, K, S, V, N, E, U, pc) x := by
  sorry
theorem sy_oldest1 {post : Int32 → Prop} (hn : n ≤ 32) (hs : s < 3) (q0 : (∀ l, l < n → ¬ S l = nI s) → post (-1)) (q1 : ∀ i, i < n → S i = nI s → (∀ l, l < n → S l = nI s → U i ≤ U l) → post (K i)) : wpY_oldest post (nI n, cl, ln, lu, K, S, V, N, E, U, pc) (nI s) := by
  sorry
theorem sy_oldest0 {post : Int32 → Prop} (hx : x < 0 ∨ nI 3 ≤ x) (q : post (-1)) : wpY_oldest post (cn, cl, ln, lu, K, S, V, N, E, U, pc) x := by
  sorry
end
