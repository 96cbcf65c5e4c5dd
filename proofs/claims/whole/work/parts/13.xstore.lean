/-! the component's store -/
section
variable {fp cl ln lu : Int32} {h so va nu en us ic pc : Nat → Int32} {j s m t c l : Nat} {x y z w : Int32}
theorem sx_st95 {post : Int32 → SX → Prop} (hj : j < 256) (ht : t ≤ 1000) (q : post (ln + 1) (fp, nI c, ln + 1, nI (m + 1), h, so, upd va j x, upd nu j (ln + 1), upd en j (sc_eX t c), upd us j (nI (m + 1)), ic, pc)) : wX_store_95 post (nI j) x (nI t) fp (nI c) ln (nI m) h so va nu en us ic pc := by
  have ck : (nI j).toNatClampNeg = j := nI_clamp (by omega)
  unfold wX_store_95
  refine sx_value hj ?_
  refine sx_end hj ht ?_
  refine sx_use hj ?_
  refine ⟨vp_in_nI hj (by decide), ?_⟩
  show post (upd nu j (ln + 1) (nI j).toNatClampNeg) (fp, nI c, ln + 1, nI (m + 1), h, so, upd va j x, upd nu j (ln + 1), upd en j (sc_eX t c), upd us j (nI (m + 1)), ic, pc)
  rw [ck, sc_us]
  exact q
theorem sx_st88 {post : Int32 → SX → Prop} (hj : j < 256) (hs : s < 3) (ht : t ≤ 1000) (q : post (ln + 1) (fp, nI c, ln + 1, nI (m + 1), upd h j 1, upd so j (nI s), upd va j x, upd nu j (ln + 1), upd en j (sc_eX t c), upd us j (nI (m + 1)), upd ic s (ic s + 1), pc)) : wX_store_88 post (nI j) x (nI t) (nI s) fp (nI c) ln (nI m) h so va nu en us ic pc := by
  unfold wX_store_88
  refine sx_take hj hs ?_
  exact sx_st95 hj ht q
theorem sx_st54 {post : Int32 → SX → Prop} (hj : j < 256) (hs : s < 3) (ht : t ≤ 1000)
    (q : ∀ Q : Int32 → SX → Prop, (∀ fp h ic pc, post (-2) (fp, nI c, ln, nI m, h, so, va, nu, en, us, ic, pc) → Q 0 (fp, nI c, ln, nI m, h, so, va, nu, en, us, ic, pc)) →
      (∀ fp h ic pc, h j = 0 → post (ln + 1) (fp, nI c, ln + 1, nI (m + 1), upd h j 1, upd so j (nI s), upd va j x, upd nu j (ln + 1), upd en j (sc_eX t c), upd us j (nI (m + 1)), upd ic s (ic s + 1), pc) → Q 1 (fp, nI c, ln, nI m, h, so, va, nu, en, us, ic, pc)) →
      (∀ fp h ic pc r, ¬ h j = 0 → r < 3 → so j = nI r → post (ln + 1) (fp, nI c, ln + 1, nI (m + 1), upd (upd h j 0) j 1, upd so j (nI s), upd va j x, upd nu j (ln + 1), upd en j (sc_eX t c), upd us j (nI (m + 1)), upd (upd ic r (ic r - 1)) s ((upd ic r (ic r - 1)) s + 1), pc) → Q 1 (fp, nI c, ln, nI m, h, so, va, nu, en, us, ic, pc)) →
      wpX_makeRoom Q (fp, nI c, ln, nI m, h, so, va, nu, en, us, ic, pc) (nI s)) : wX_store_54 post (nI j) x (nI t) (nI s) fp (nI c) ln (nI m) h so va nu en us ic pc := by
  have ck : (nI j).toNatClampNeg = j := nI_clamp (by omega)
  have vj : vp_in (nI j) 256 := vp_in_nI hj (by decide)
  unfold wX_store_54 wX_store_55
  refine br_t rfl ?_
  refine q _ (fun fp h ic pc w => ?_) (fun fp h ic pc h0 w => ?_) (fun fp h ic pc r h0 hr e w => ?_)
  · exact br_t rfl w
  · refine br_f sc_1n0 ⟨vj, ?_⟩
    refine br_t (by rw [ck]; exact h0) ?_
    exact sx_st88 hj hs ht w
  · refine br_f sc_1n0 ⟨vj, ?_⟩
    refine br_f (by rw [ck]; exact h0) ?_
    refine sx_drop hj hr e ?_
    exact sx_st88 hj hs ht w
theorem sx_storeK {post : Int32 → SX → Prop} (hx : x < 0 ∨ nI 256 ≤ x) (q : post (-1) (fp, cl, ln, lu, h, so, va, nu, en, us, ic, pc)) : wpX_store post (fp, cl, ln, lu, h, so, va, nu, en, us, ic, pc) x y z w := by
  unfold wpX_store
  refine sx_isKey0 hx ?_
  exact br_t rfl q
theorem sx_storeL {post : Int32 → SX → Prop} (hj : j < 256) (hx : y < 1 ∨ nI 13 ≤ y) (q : post (-1) (fp, cl, ln, lu, h, so, va, nu, en, us, ic, pc)) : wpX_store post (fp, cl, ln, lu, h, so, va, nu, en, us, ic, pc) (nI j) y z w := by
  unfold wpX_store
  refine sx_isKey1 hj ?_
  refine br_f sc_1n0 ?_
  refine sx_isLength0 hx ?_
  exact br_t rfl q
theorem sx_storeT {post : Int32 → SX → Prop} (hj : j < 256) (h1 : 1 ≤ l) (h2 : l ≤ 12) (hx : w < 0 ∨ nI 1001 ≤ w) (q : post (-1) (fp, cl, ln, lu, h, so, va, nu, en, us, ic, pc)) : wpX_store post (fp, cl, ln, lu, h, so, va, nu, en, us, ic, pc) (nI j) (nI l) z w := by
  unfold wpX_store
  refine sx_isKey1 hj ?_
  refine br_f sc_1n0 ?_
  refine sx_isLength1 h1 h2 ?_
  refine br_f sc_1n0 ?_
  refine sx_isTime0 hx ?_
  exact br_t rfl q
theorem sx_storeS {post : Int32 → SX → Prop} (hj : j < 256) (h1 : 1 ≤ l) (h2 : l ≤ 12) (ht : t ≤ 1000) (hh : ¬ h j = 0) (e : so j = nI (sc_sl l)) (q : post (ln + 1) (fp, nI c, ln + 1, nI (m + 1), h, so, upd va j x, upd nu j (ln + 1), upd en j (sc_eX t c), upd us j (nI (m + 1)), ic, pc)) : wpX_store post (fp, nI c, ln, nI m, h, so, va, nu, en, us, ic, pc) (nI j) (nI l) x (nI t) := by
  have ck : (nI j).toNatClampNeg = j := nI_clamp (by omega)
  have vj : vp_in (nI j) 256 := vp_in_nI hj (by decide)
  unfold wpX_store
  refine sx_isKey1 hj ?_
  refine br_f sc_1n0 ?_
  refine sx_isLength1 h1 h2 ?_
  refine br_f sc_1n0 ?_
  refine sx_isTime1 ht ?_
  refine br_f sc_1n0 ?_
  refine sx_sfl h2 ?_
  refine ⟨vj, br_f (by rw [ck]; exact hh) ⟨vj, br_t (by rw [ck]; exact e) ?_⟩⟩
  unfold wX_store_55
  refine br_f sc_1n0 ?_
  exact sx_st95 hj ht q
theorem sx_storeO {post : Int32 → SX → Prop} (hj : j < 256) (h1 : 1 ≤ l) (h2 : l ≤ 12) (ht : t ≤ 1000) (hh : h j = 0 ∨ ¬ so j = nI (sc_sl l)) (q : wX_store_54 post (nI j) x (nI t) (nI (sc_sl l)) fp cl ln lu h so va nu en us ic pc) : wpX_store post (fp, cl, ln, lu, h, so, va, nu, en, us, ic, pc) (nI j) (nI l) x (nI t) := by
  have ck : (nI j).toNatClampNeg = j := nI_clamp (by omega)
  have vj : vp_in (nI j) 256 := vp_in_nI hj (by decide)
  unfold wpX_store
  refine sx_isKey1 hj ?_
  refine br_f sc_1n0 ?_
  refine sx_isLength1 h1 h2 ?_
  refine br_f sc_1n0 ?_
  refine sx_isTime1 ht ?_
  refine br_f sc_1n0 ?_
  refine sx_sfl h2 ?_
  refine ⟨vj, ?_⟩
  by_cases h0 : h j = 0
  · exact br_t (by rw [ck]; exact h0) q
  · have e : ¬ so j = nI (sc_sl l) := by
      rcases hh with z | z
      · exact absurd z h0
      · exact z
    exact br_f (by rw [ck]; exact h0) ⟨vj, br_f (by rw [ck]; exact e) q⟩
end
