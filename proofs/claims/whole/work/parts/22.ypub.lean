/-! the reference's public methods -/
section
variable {cn cl ln lu : Int32} {K S V N E U pc : Nat → Int32} {n i s m t c : Nat} {x y z : Int32}
theorem sy_get1 {post : Int32 → SY → Prop} (hn : n ≤ 32) (hi : i < n) (hK : K i = x) (hU : ∀ a, a < n → K a = x → a = i) (q : post (V i) (nI n, cl, ln, nI (m + 1), K, S, V, N, E, upd U i (nI (m + 1)), pc)) : wpY_get post (nI n, cl, ln, nI m, K, S, V, N, E, U, pc) x := by
  have ck : (nI i).toNatClampNeg = i := nI_clamp (by omega)
  have vi : vp_in (nI i) 32 := vp_in_nI (by omega) (by decide)
  unfold wpY_get
  refine sy_find1 hn hi hK hU ?_
  refine br_t (nI_pos' (by omega)) ?_
  refine sy_use (by omega) ?_
  refine ⟨vi, ?_⟩
  rw [ck]
  exact q
theorem sy_get0 {post : Int32 → SY → Prop} (hn : n ≤ 32) (hU : ∀ a, a < n → ¬ K a = x) (q : post 0 (nI n, cl, ln, lu, K, S, V, N, E, U, pc)) : wpY_get post (nI n, cl, ln, lu, K, S, V, N, E, U, pc) x := by
  unfold wpY_get
  refine sy_find0 hn hU ?_
  exact br_f sc_n1le q
theorem sy_has1 {post : Int32 → Prop} (hn : n ≤ 32) (hi : i < n) (hK : K i = x) (hU : ∀ a, a < n → K a = x → a = i) (q : post 1) : wpY_has post (nI n, cl, ln, lu, K, S, V, N, E, U, pc) x := by
  unfold wpY_has
  refine sy_find1 hn hi hK hU ?_
  exact br_f (nI_pos (by omega)) q
theorem sy_has0 {post : Int32 → Prop} (hn : n ≤ 32) (hU : ∀ a, a < n → ¬ K a = x) (q : post 0) : wpY_has post (nI n, cl, ln, lu, K, S, V, N, E, U, pc) x := by
  unfold wpY_has
  refine sy_find0 hn hU ?_
  exact br_t sc_n1lt q
theorem sy_number1 {post : Int32 → Prop} (hn : n ≤ 32) (hi : i < n) (hK : K i = x) (hU : ∀ a, a < n → K a = x → a = i) (q : post (N i)) : wpY_number post (nI n, cl, ln, lu, K, S, V, N, E, U, pc) x := by
  have ck : (nI i).toNatClampNeg = i := nI_clamp (by omega)
  have vi : vp_in (nI i) 32 := vp_in_nI (by omega) (by decide)
  unfold wpY_number
  refine sy_find1 hn hi hK hU ?_
  refine br_t (nI_pos' (by omega)) ⟨vi, ?_⟩
  rw [ck]
  exact q
theorem sy_number0 {post : Int32 → Prop} (hn : n ≤ 32) (hU : ∀ a, a < n → ¬ K a = x) (q : post (-1)) : wpY_number post (nI n, cl, ln, lu, K, S, V, N, E, U, pc) x := by
  unfold wpY_number
  refine sy_find0 hn hU ?_
  exact br_f sc_n1le q
theorem sy_swap1 {post : Int32 → SY → Prop} (hn : n ≤ 32) (hi : i < n) (hK : K i = x) (hU : ∀ a, a < n → K a = x → a = i) (e : N i = y) (q : post 1 (nI n, cl, ln + 1, nI (m + 1), K, S, upd V i z, upd N i (ln + 1), E, upd U i (nI (m + 1)), pc)) : wpY_swap post (nI n, cl, ln, nI m, K, S, V, N, E, U, pc) x y z := by
  have ck : (nI i).toNatClampNeg = i := nI_clamp (by omega)
  have vi : vp_in (nI i) 32 := vp_in_nI (by omega) (by decide)
  unfold wpY_swap
  refine sy_find1 hn hi hK hU ?_
  refine br_t (nI_pos' (by omega)) ⟨vi, ?_⟩
  refine br_t (by rw [ck]; exact e) ?_
  refine sy_change (by omega) ?_
  exact q
theorem sy_swap0 {post : Int32 → SY → Prop} (hn : n ≤ 32) (hi : i < n) (hK : K i = x) (hU : ∀ a, a < n → K a = x → a = i) (e : ¬ N i = y) (q : post 0 (nI n, cl, ln, lu, K, S, V, N, E, U, pc)) : wpY_swap post (nI n, cl, ln, lu, K, S, V, N, E, U, pc) x y z := by
  have ck : (nI i).toNatClampNeg = i := nI_clamp (by omega)
  have vi : vp_in (nI i) 32 := vp_in_nI (by omega) (by decide)
  unfold wpY_swap
  refine sy_find1 hn hi hK hU ?_
  refine br_t (nI_pos' (by omega)) ⟨vi, ?_⟩
  exact br_f (by rw [ck]; exact e) q
theorem sy_swapN {post : Int32 → SY → Prop} (hn : n ≤ 32) (hU : ∀ a, a < n → ¬ K a = x) (q : post (-1) (nI n, cl, ln, lu, K, S, V, N, E, U, pc)) : wpY_swap post (nI n, cl, ln, lu, K, S, V, N, E, U, pc) x y z := by
  unfold wpY_swap
  refine sy_find0 hn hU ?_
  exact br_f sc_n1le q
theorem sy_add1 {post : Int32 → SY → Prop} (hn : n ≤ 32) (hi : i < n) (hK : K i = x) (hU : ∀ a, a < n → K a = x → a = i) (q : post (V i + y) (nI n, cl, ln + 1, nI (m + 1), K, S, upd V i (V i + y), upd N i (ln + 1), E, upd U i (nI (m + 1)), pc)) : wpY_add post (nI n, cl, ln, nI m, K, S, V, N, E, U, pc) x y := by
  have ck : (nI i).toNatClampNeg = i := nI_clamp (by omega)
  have vi : vp_in (nI i) 32 := vp_in_nI (by omega) (by decide)
  unfold wpY_add
  refine sy_find1 hn hi hK hU ?_
  refine br_t (nI_pos' (by omega)) ⟨vi, ?_⟩
  rw [ck]
  refine sy_change (by omega) ?_
  refine ⟨vi, ?_⟩
  show post (upd V i (V i + y) i) (nI n, cl, ln + 1, nI (m + 1), K, S, upd V i (V i + y), upd N i (ln + 1), E, upd U i (nI (m + 1)), pc)
  rw [sc_us]
  exact q
theorem sy_add0 {post : Int32 → SY → Prop} (hn : n ≤ 32) (hU : ∀ a, a < n → ¬ K a = x) (q : post 0 (nI n, cl, ln, lu, K, S, V, N, E, U, pc)) : wpY_add post (nI n, cl, ln, lu, K, S, V, N, E, U, pc) x y := by
  unfold wpY_add
  refine sy_find0 hn hU ?_
  exact br_f sc_n1le q
theorem sy_touchT {post : Int32 → SY → Prop} (hx : y < 0 ∨ nI 1001 ≤ y) (q : post (-1) (cn, cl, ln, lu, K, S, V, N, E, U, pc)) : wpY_touch post (cn, cl, ln, lu, K, S, V, N, E, U, pc) x y := by
  unfold wpY_touch
  rcases hx with w | w
  · exact br_t w q
  · exact br_f (Int32.not_lt.mpr (sc_ge0 w (by decide))) (br_f (sc_gen (a := 1000) (b := 1001) w (by decide) (by decide)) q)
theorem sy_touch1 {post : Int32 → SY → Prop} (ht : t ≤ 1000) (hn : n ≤ 32) (hi : i < n) (hK : K i = x) (hU : ∀ a, a < n → K a = x → a = i) (q : post 1 (nI n, nI c, ln, nI (m + 1), K, S, V, N, upd E i (sc_eY t c), upd U i (nI (m + 1)), pc)) : wpY_touch post (nI n, nI c, ln, nI m, K, S, V, N, E, U, pc) x (nI t) := by
  have ck : (nI i).toNatClampNeg = i := nI_clamp (by omega)
  have vi : vp_in (nI i) 32 := vp_in_nI (by omega) (by decide)
  unfold wpY_touch
  refine br_f (nI_pos (by omega)) (br_t (nI_le (a := t) (b := 1000) ht (by decide)) ?_)
  refine sy_find1 hn hi hK hU ?_
  refine br_t (nI_pos' (by omega)) ?_
  unfold sc_eY at q
  unfold wY_touch_44
  by_cases z : t = 0
  · rw [if_pos z] at q
    subst z
    refine br_t nI_0 ⟨vi, ?_⟩
    rw [ck]
    refine nm_e ?_
    refine sy_use (by omega) ?_
    exact q
  · rw [if_neg z] at q
    refine br_f (nI_ne0 (by omega) (by omega)) ⟨vi, ?_⟩
    rw [ck]
    refine nm_r (e' := upd E i (nI (c + t))) (by rw [nI_add]) ?_
    refine sy_use (by omega) ?_
    exact q
theorem sy_touch0 {post : Int32 → SY → Prop} (ht : t ≤ 1000) (hn : n ≤ 32) (hU : ∀ a, a < n → ¬ K a = x) (q : post 0 (nI n, cl, ln, lu, K, S, V, N, E, U, pc)) : wpY_touch post (nI n, cl, ln, lu, K, S, V, N, E, U, pc) x (nI t) := by
  unfold wpY_touch
  refine br_f (nI_pos (by omega)) (br_t (nI_le (a := t) (b := 1000) ht (by decide)) ?_)
  refine sy_find0 hn hU ?_
  exact br_f sc_n1le q
theorem sy_remove1 {post : Int32 → SY → Prop} (hn : n + 1 ≤ 32) (hi : i < n + 1) (hK : K i = x) (hU : ∀ a, a < n + 1 → K a = x → a = i) (q : post 1 (nI n, cl, ln, lu, upd K i (K n), upd S i (S n), upd V i (V n), upd N i (N n), upd E i (E n), upd U i (U n), pc)) : wpY_remove post (nI (n + 1), cl, ln, lu, K, S, V, N, E, U, pc) x := by
  unfold wpY_remove
  refine sy_find1 hn hi hK hU ?_
  refine br_t (nI_pos' (by omega)) ?_
  refine sy_drop hn hi ?_
  exact q
theorem sy_remove0 {post : Int32 → SY → Prop} (hn : n ≤ 32) (hU : ∀ a, a < n → ¬ K a = x) (q : post 0 (nI n, cl, ln, lu, K, S, V, N, E, U, pc)) : wpY_remove post (nI n, cl, ln, lu, K, S, V, N, E, U, pc) x := by
  unfold wpY_remove
  refine sy_find0 hn hU ?_
  exact br_f sc_n1le q
theorem sy_tickT {post : Int32 → SY → Prop} (hx : x < 0 ∨ nI 1001 ≤ x) (q : post (-1) (cn, cl, ln, lu, K, S, V, N, E, U, pc)) : wpY_tick post (cn, cl, ln, lu, K, S, V, N, E, U, pc) x := by
  unfold wpY_tick
  rcases hx with w | w
  · exact br_t w q
  · exact br_f (Int32.not_lt.mpr (sc_ge0 w (by decide))) (br_f (sc_gen (a := 1000) (b := 1001) w (by decide) (by decide)) q)
theorem sy_tickL {post : Int32 → SY → Prop} {h so va nu en us : Nat → Int32} (q : ∀ n' g K' S' V' N' E' U', sc_TY h so va nu en us cl 0 g n' K' S' V' N' E' U' → post (nI g) (nI n', cl, ln, lu, K', S', V', N', E', U', pc)) : ∀ (b g n : Nat) (K S V N E U : Nat → Int32), sc_TY h so va nu en us cl b g n K S V N E U → wY_tick_32 post (b + 1) (nI g) (nI b - 1) (nI n) cl ln lu K S V N E U pc := by
  intro b
  induction b with
  | zero =>
    intro g n K S V N E U T
    exact br_t (by decide : nI 0 - 1 < (0 : Int32)) (q n g K S V N E U T)
  | succ b ih =>
    intro g n K S V N E U T
    have T2 := T
    obtain ⟨h', R, hm, hn, _⟩ := T2
    have vb : vp_in (nI b) 32 := vp_in_nI (by omega) (by decide)
    have ck : (nI b).toNatClampNeg = b := nI_clamp (by omega)
    have dn : nI b + (-1) = nI b - 1 := (Int32.sub_eq_add_neg _ _).symm
    rw [nI_pred]
    refine br_f (nI_pos (by omega)) ⟨vb, ?_⟩
    rw [ck]
    by_cases h1 : E b < 0
    · exact br_t h1 (nm_r dn (ih g n K S V N E U (sc_ty2 T (fun w => Int32.not_le.mpr h1 w.1))))
    · refine br_f h1 ⟨vb, ?_⟩
      by_cases h2 : cl < E b
      · exact br_t h2 (nm_r dn (ih g n K S V N E U (sc_ty2 T (fun w => Int32.not_le.mpr h2 w.2))))
      · obtain ⟨r, rfl⟩ : ∃ r, n = r + 1 := ⟨n - 1, by omega⟩
        refine br_f h2 ?_
        refine sy_drop hn (by omega) ?_
        exact nm_r (nI_1 g) (nm_r dn (ih (g + 1) r _ _ _ _ _ _ (sc_ty1 T ⟨Int32.not_lt.mp h1, Int32.not_lt.mp h2⟩)))
theorem sy_tick {post : Int32 → SY → Prop} {h so va nu en us : Nat → Int32} (ht : t ≤ 1000) (R : sc_Rep h so va nu en us n K S V N E U) (hn : n ≤ 32) (q : ∀ n' g K' S' V' N' E' U', sc_TY h so va nu en us (nI (c + t)) 0 g n' K' S' V' N' E' U' → post (nI g) (nI n', nI (c + t), ln, lu, K', S', V', N', E', U', pc)) : wpY_tick post (nI n, nI c, ln, lu, K, S, V, N, E, U, pc) (nI t) := by
  unfold wpY_tick
  refine br_f (nI_pos (by omega)) (br_t (nI_le (a := t) (b := 1000) ht (by decide)) ?_)
  refine nm_r (nI_add c t) (nm_e ?_)
  exact ⟨n + 1, sy_tickL q n 0 n K S V N E U (sc_ty0 R hn)⟩
theorem sy_items0 {post : Int32 → Prop} (hx : x < 0 ∨ nI 3 ≤ x) (q : post (-1)) : wpY_items post (cn, cl, ln, lu, K, S, V, N, E, U, pc) x := by
  unfold wpY_items
  rcases hx with w | w
  · exact br_t w q
  · exact br_f (Int32.not_lt.mpr (sc_ge0 w (by decide))) (br_f (sc_gen (a := 2) (b := 3) w (by decide) (by decide)) q)
theorem sy_pages3 {post : Int32 → Prop} {p : Nat → Nat} {f : Nat} (e : f + p 0 + p 1 + p 2 = 8) (hp : ∀ s, s < 3 → pc s = nI (p s)) (q : post (nI f)) : wpY_pages post (cn, cl, ln, lu, K, S, V, N, E, U, pc) (nI 3) := by
  unfold wpY_pages
  refine br_f (nI_pos (by decide)) (br_t (nI_le (a := 3) (b := 3) (by decide) (by decide)) (br_t rfl ?_))
  exact sy_free e hp q
theorem sy_pages1 {post : Int32 → Prop} (hs : s < 3) (q : post (pc s)) : wpY_pages post (cn, cl, ln, lu, K, S, V, N, E, U, pc) (nI s) := by
  have cs : (nI s).toNatClampNeg = s := nI_clamp (by omega)
  unfold wpY_pages
  refine br_f (nI_pos (by omega)) (br_t (nI_le (a := s) (b := 3) (by omega) (by decide)) (br_f (fun z => absurd (sc_im (a := s) (b := 3) z (by omega) (by decide)) (by omega)) ⟨vp_in_nI hs (by decide), ?_⟩))
  rw [cs]
  exact q
theorem sy_pages0 {post : Int32 → Prop} (hx : x < 0 ∨ nI 4 ≤ x) (q : post (-1)) : wpY_pages post (cn, cl, ln, lu, K, S, V, N, E, U, pc) x := by
  unfold wpY_pages
  rcases hx with w | w
  · exact br_t w q
  · exact br_f (Int32.not_lt.mpr (sc_ge0 w (by decide))) (br_f (sc_gen (a := 3) (b := 4) w (by decide) (by decide)) q)
theorem sy_oldest1 {post : Int32 → Prop} (hn : n ≤ 32) (hs : s < 3) (q0 : (∀ l, l < n → ¬ S l = nI s) → post (-1)) (q1 : ∀ i, i < n → S i = nI s → (∀ l, l < n → S l = nI s → U i ≤ U l) → post (K i)) : wpY_oldest post (nI n, cl, ln, lu, K, S, V, N, E, U, pc) (nI s) := by
  unfold wpY_oldest
  refine br_f (nI_pos (by omega)) (br_t (nI_le (a := s) (b := 2) (by omega) (by decide)) ?_)
  refine sy_long hn (fun w => ?_) (fun i hi e H => ?_)
  · exact br_f sc_n1le (q0 w)
  · have ck : (nI i).toNatClampNeg = i := nI_clamp (by omega)
    refine br_t (nI_pos' (by omega)) ⟨vp_in_nI (by omega) (by decide), ?_⟩
    rw [ck]
    exact q1 i hi e H
theorem sy_oldest0 {post : Int32 → Prop} (hx : x < 0 ∨ nI 3 ≤ x) (q : post (-1)) : wpY_oldest post (cn, cl, ln, lu, K, S, V, N, E, U, pc) x := by
  unfold wpY_oldest
  rcases hx with w | w
  · exact br_t w q
  · exact br_f (Int32.not_lt.mpr (sc_ge0 w (by decide))) (br_f (sc_gen (a := 2) (b := 3) w (by decide) (by decide)) q)
end
