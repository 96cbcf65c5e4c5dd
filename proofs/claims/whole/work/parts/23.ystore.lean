/-! the reference's store -/
section
variable {cn cl ln lu : Int32} {K S V N E U pc : Nat → Int32} {n i j s m t c l : Nat} {x y z w : Int32}
theorem sy_113 {post : Int32 → SY → Prop} (hi : i < 32) (ht : t ≤ 1000) (q : post (ln + 1) (cn, nI c, ln + 1, nI (m + 1), upd K i (nI j), upd S i (nI s), upd V i x, upd N i (ln + 1), upd E i (sc_eY t c), upd U i (nI (m + 1)), pc)) : wY_store_113 post (nI j) x (nI t) (nI s) (nI i) cn (nI c) ln (nI m) K S V N E U pc := by
  have ck : (nI i).toNatClampNeg = i := nI_clamp (by omega)
  have vi : vp_in (nI i) 32 := vp_in_nI hi (by decide)
  unfold wY_store_113 wY_store_152
  rw [ck]
  refine ⟨vi, nm_e ⟨vi, nm_e ?_⟩⟩
  unfold sc_eY at q
  by_cases z : t = 0
  · rw [if_pos z] at q
    subst z
    refine br_t nI_0 ⟨vi, nm_e ?_⟩
    refine sy_change hi ?_
    exact q
  · rw [if_neg z] at q
    refine br_f (nI_ne0 (by omega) (by omega)) ⟨vi, nm_r (e' := upd E i (nI (c + t))) (by rw [nI_add]) ?_⟩
    refine sy_change hi ?_
    exact q
theorem sy_97 {post : Int32 → SY → Prop} (hn : n < 32) (ht : t ≤ 1000) (q : post (ln + 1) (nI (n + 1), nI c, ln + 1, nI (m + 1), upd K n (nI j), upd S n (nI s), upd V n x, upd N n (ln + 1), upd E n (sc_eY t c), upd U n (nI (m + 1)), pc)) : wY_store_97 post (nI j) x (nI t) (nI s) (nI n) (nI c) ln (nI m) K S V N E U pc := by
  unfold wY_store_97
  refine nm_r (nI_1 n) ?_
  exact sy_113 hn ht q
theorem sy_67 {post : Int32 → SY → Prop} (ht : t ≤ 1000)
    (q : ∀ Q : Int32 → SY → Prop, (∀ n K S V N E U pc, post (-2) (nI n, nI c, ln, nI m, K, S, V, N, E, U, pc) → Q 0 (nI n, nI c, ln, nI m, K, S, V, N, E, U, pc)) →
      (∀ n K S V N E U pc, n < 32 → (∀ a, a < n → ¬ K a = nI j) → post (ln + 1) (nI (n + 1), nI c, ln + 1, nI (m + 1), upd K n (nI j), upd S n (nI s), upd V n x, upd N n (ln + 1), upd E n (sc_eY t c), upd U n (nI (m + 1)), pc) → Q 1 (nI n, nI c, ln, nI m, K, S, V, N, E, U, pc)) →
      (∀ n K S V N E U pc i, n + 1 ≤ 32 → i < n + 1 → K i = nI j → (∀ a, a < n + 1 → K a = nI j → a = i) → post (ln + 1) (nI (n + 1), nI c, ln + 1, nI (m + 1), upd (upd K i (K n)) n (nI j), upd (upd S i (S n)) n (nI s), upd (upd V i (V n)) n x, upd (upd N i (N n)) n (ln + 1), upd (upd E i (E n)) n (sc_eY t c), upd (upd U i (U n)) n (nI (m + 1)), pc) → Q 1 (nI (n + 1), nI c, ln, nI m, K, S, V, N, E, U, pc)) →
      wpY_room Q (nI n, nI c, ln, nI m, K, S, V, N, E, U, pc) (nI s)) : wY_store_67 post (nI j) x (nI t) (nI s) (nI n) (nI c) ln (nI m) K S V N E U pc := by
  unfold wY_store_67
  refine q _ (fun n K S V N E U pc w => ?_) (fun n K S V N E U pc hn hU w => ?_) (fun n K S V N E U pc i hn hi hK hU w => ?_)
  · exact br_t rfl w
  · refine br_f sc_1n0 ?_
    refine sy_find0 (by omega) hU ?_
    refine br_t sc_n1lt ?_
    exact sy_97 hn ht w
  · refine br_f sc_1n0 ?_
    refine sy_find1 hn hi hK hU ?_
    refine br_f (nI_pos (by omega)) ?_
    refine sy_drop hn hi ?_
    exact sy_97 (by omega) ht w
theorem sy_storeK {post : Int32 → SY → Prop} (hx : x < 0 ∨ nI 256 ≤ x) (q : post (-1) (cn, cl, ln, lu, K, S, V, N, E, U, pc)) : wpY_store post (cn, cl, ln, lu, K, S, V, N, E, U, pc) x y z w := by
  unfold wpY_store
  rcases hx with v | v
  · exact br_t v q
  · exact br_f (Int32.not_lt.mpr (sc_ge0 v (by decide))) (br_t (Int32.lt_of_lt_of_le (nI_lt (a := 255) (b := 256) (by decide) (by decide)) v) q)
theorem sy_storeL {post : Int32 → SY → Prop} (hj : j < 256) (hx : y < 1 ∨ nI 13 ≤ y) (q : post (-1) (cn, cl, ln, lu, K, S, V, N, E, U, pc)) : wpY_store post (cn, cl, ln, lu, K, S, V, N, E, U, pc) (nI j) y z w := by
  unfold wpY_store
  refine br_f (nI_pos (by omega)) (br_f (nI_nlt (a := 255) (b := j) (by omega) (by decide)) ?_)
  rcases hx with v | v
  · exact br_t v q
  · exact br_f (sc_gel (a := 1) (b := 13) v (by decide) (by decide)) (br_t (Int32.lt_of_lt_of_le (nI_lt (a := 12) (b := 13) (by decide) (by decide)) v) q)
theorem sy_storeT {post : Int32 → SY → Prop} (hj : j < 256) (h1 : 1 ≤ l) (h2 : l ≤ 12) (hx : w < 0 ∨ nI 1001 ≤ w) (q : post (-1) (cn, cl, ln, lu, K, S, V, N, E, U, pc)) : wpY_store post (cn, cl, ln, lu, K, S, V, N, E, U, pc) (nI j) (nI l) z w := by
  unfold wpY_store
  refine br_f (nI_pos (by omega)) (br_f (nI_nlt (a := 255) (b := j) (by omega) (by decide)) (br_f (nI_nlt (a := l) (b := 1) h1 (by omega)) (br_f (nI_nlt (a := 12) (b := l) h2 (by decide)) ?_)))
  rcases hx with v | v
  · exact br_t v q
  · exact br_f (Int32.not_lt.mpr (sc_ge0 v (by decide))) (br_f (sc_gen (a := 1000) (b := 1001) v (by decide) (by decide)) q)
theorem sy_storeS {post : Int32 → SY → Prop} (hj : j < 256) (h1 : 1 ≤ l) (h2 : l ≤ 12) (ht : t ≤ 1000) (hn : n ≤ 32) (hi : i < n) (hK : K i = nI j) (hU : ∀ a, a < n → K a = nI j → a = i) (e : S i = nI (sc_sl l)) (q : post (ln + 1) (nI n, nI c, ln + 1, nI (m + 1), K, S, upd V i x, upd N i (ln + 1), upd E i (sc_eY t c), upd U i (nI (m + 1)), pc)) : wpY_store post (nI n, nI c, ln, nI m, K, S, V, N, E, U, pc) (nI j) (nI l) x (nI t) := by
  have ck : (nI i).toNatClampNeg = i := nI_clamp (by omega)
  have vi : vp_in (nI i) 32 := vp_in_nI (by omega) (by decide)
  unfold wpY_store
  refine br_f (nI_pos (by omega)) (br_f (nI_nlt (a := 255) (b := j) (by omega) (by decide)) (br_f (nI_nlt (a := l) (b := 1) h1 (by omega)) (br_f (nI_nlt (a := 12) (b := l) h2 (by decide)) (br_f (nI_pos (by omega)) (br_t (nI_le (a := t) (b := 1000) ht (by decide)) ?_)))))
  refine sy_sl h2 ?_
  refine sy_find1 hn hi hK hU ?_
  refine br_f (nI_pos (by omega)) ⟨vi, br_t (by rw [ck]; exact e) ?_⟩
  refine sy_113 (by omega) ht ?_
  rw [sc_ut hK, sc_ut e]
  exact q
theorem sy_storeO {post : Int32 → SY → Prop} (hj : j < 256) (h1 : 1 ≤ l) (h2 : l ≤ 12) (ht : t ≤ 1000) (hn : n ≤ 32) (hU : (∀ a, a < n → ¬ K a = nI j) ∨ ∃ i, i < n ∧ K i = nI j ∧ (∀ a, a < n → K a = nI j → a = i) ∧ ¬ S i = nI (sc_sl l)) (q : wY_store_67 post (nI j) x (nI t) (nI (sc_sl l)) (nI n) cl ln lu K S V N E U pc) : wpY_store post (nI n, cl, ln, lu, K, S, V, N, E, U, pc) (nI j) (nI l) x (nI t) := by
  unfold wpY_store
  refine br_f (nI_pos (by omega)) (br_f (nI_nlt (a := 255) (b := j) (by omega) (by decide)) (br_f (nI_nlt (a := l) (b := 1) h1 (by omega)) (br_f (nI_nlt (a := 12) (b := l) h2 (by decide)) (br_f (nI_pos (by omega)) (br_t (nI_le (a := t) (b := 1000) ht (by decide)) ?_)))))
  refine sy_sl h2 ?_
  rcases hU with hU | ⟨i, hi, hK, hU, e⟩
  · refine sy_find0 hn hU ?_
    exact br_t sc_n1lt q
  · have ck : (nI i).toNatClampNeg = i := nI_clamp (by omega)
    have vi : vp_in (nI i) 32 := vp_in_nI (by omega) (by decide)
    refine sy_find1 hn hi hK hU ?_
    exact br_f (nI_pos (by omega)) ⟨vi, br_f (by rw [ck]; exact e) q⟩
end
