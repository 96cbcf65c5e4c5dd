/-! the reference's own methods, each with a general post -/
section
variable {cn cl ln lu : Int32} {K S V N E U pc : Nat → Int32} {n i s m : Nat} {x : Int32}
theorem sy_sl {post : Int32 → Prop} {j : Nat} (hj : j ≤ 12) (q : post (nI (sc_sl j))) : wpY_sortOf post (nI j) := by
  sorry
theorem sy_cells {post : Int32 → Prop} (hs : s < 3) (q : post (nI (sc_cells s))) : wpY_cells post (nI s) := by
  sorry
theorem sy_find1 {post : Int32 → Prop} (hn : n ≤ 32) (hi : i < n) (hK : K i = x) (hU : ∀ a, a < n → K a = x → a = i) (q : post (nI i)) : wpY_find post (nI n, cl, ln, lu, K, S, V, N, E, U, pc) x := by
  sorry
theorem sy_find0 {post : Int32 → Prop} (hn : n ≤ 32) (hU : ∀ a, a < n → ¬ K a = x) (q : post (-1)) : wpY_find post (nI n, cl, ln, lu, K, S, V, N, E, U, pc) x := by
  sorry
theorem sy_drop {post : SY → Prop} (hn : n + 1 ≤ 32) (hi : i < n + 1) (q : post (nI n, cl, ln, lu, upd K i (K n), upd S i (S n), upd V i (V n), upd N i (N n), upd E i (E n), upd U i (U n), pc)) : wpY_drop post (nI (n + 1), cl, ln, lu, K, S, V, N, E, U, pc) (nI i) := by
  sorry
theorem sy_free {post : Int32 → Prop} {p : Nat → Nat} {f : Nat} (e : f + p 0 + p 1 + p 2 = 8) (hp : ∀ s, s < 3 → pc s = nI (p s)) (q : post (nI f)) : wpY_free post (cn, cl, ln, lu, K, S, V, N, E, U, pc) := by
  sorry
theorem sy_long {post : Int32 → Prop} (hn : n ≤ 32) (q0 : (∀ l, l < n → ¬ S l = nI s) → post (-1)) (q1 : ∀ i, i < n → S i = nI s → (∀ l, l < n → S l = nI s → U i ≤ U l) → post (nI i)) : wpY_longestAgo post (nI n, cl, ln, lu, K, S, V, N, E, U, pc) (nI s) := by
  sorry
theorem sy_items {post : Int32 → Prop} (hn : n ≤ 32) (hs : s < 3) (q : post (nI (sc_cnt (fun i => decide (S i = nI s)) n))) : wpY_items post (nI n, cl, ln, lu, K, S, V, N, E, U, pc) (nI s) := by
  sorry
theorem sy_use {post : SY → Prop} (hi : i < 32) (q : post (cn, cl, ln, nI (m + 1), K, S, V, N, E, upd U i (nI (m + 1)), pc)) : wpY_use post (cn, cl, ln, nI m, K, S, V, N, E, U, pc) (nI i) := by
  sorry
theorem sy_change {post : SY → Prop} (hi : i < 32) (q : post (cn, cl, ln + 1, nI (m + 1), K, S, upd V i x, upd N i (ln + 1), E, upd U i (nI (m + 1)), pc)) : wpY_change post (cn, cl, ln, nI m, K, S, V, N, E, U, pc) (nI i) x := by
  sorry
end
section
variable {cl ln lu : Int32} {h so va nu en us ic K S V N E U pc : Nat → Int32} {p : Nat → Nat} {f n i j s m : Nat}
theorem sy_room1 {post : Int32 → SY → Prop} (R : sc_Rep h so va nu en us n K S V N E U) (C : sc_XC p f h so ic pc) (hs : s < 3) (hc : sc_cnt (sc_hs h so s) 256 < p s * sc_cells s) (q : post 1 (nI n, cl, ln, lu, K, S, V, N, E, U, pc)) : wpY_room post (nI n, cl, ln, lu, K, S, V, N, E, U, pc) (nI s) := by
  sorry
theorem sy_room2 {post : Int32 → SY → Prop} (R : sc_Rep h so va nu en us n K S V N E U) (C : sc_XC p (f + 1) h so ic pc) (hs : s < 3) (hc : ¬ sc_cnt (sc_hs h so s) 256 < p s * sc_cells s) (q : post 1 (nI n, cl, ln, lu, K, S, V, N, E, U, upd pc s (pc s + 1))) : wpY_room post (nI n, cl, ln, lu, K, S, V, N, E, U, pc) (nI s) := by
  sorry
theorem sy_room3 {post : Int32 → SY → Prop} (R : sc_Rep h so va nu en us n K S V N E U) (C : sc_XC p 0 h so ic pc) (hs : s < 3) (hc : ¬ sc_cnt (sc_hs h so s) 256 < p s * sc_cells s) (hn : ∀ l, l < 256 → ¬ (¬ h l = 0 ∧ so l = nI s)) (q : post 0 (nI n, cl, ln, lu, K, S, V, N, E, U, pc)) : wpY_room post (nI n, cl, ln, lu, K, S, V, N, E, U, pc) (nI s) := by
  sorry
theorem sy_room4 {post : Int32 → SY → Prop} (R : sc_Rep h so va nu en us (n + 1) K S V N E U) (C : sc_XC p 0 h so ic pc) (A : sc_XU m h us) (hs : s < 3) (hc : ¬ sc_cnt (sc_hs h so s) 256 < p s * sc_cells s) (hn : sc_old h so us s j) (hi : i < n + 1) (hK : K i = nI j) (q : post 1 (nI n, cl, ln, lu, upd K i (K n), upd S i (S n), upd V i (V n), upd N i (N n), upd E i (E n), upd U i (U n), pc)) : wpY_room post (nI (n + 1), cl, ln, lu, K, S, V, N, E, U, pc) (nI s) := by
  sorry
end
