theorem sc_Lex {P : Nat → Prop} {us : Nat → Int32} (b : Nat) : b < 2 ^ 31 → ∃ fd, sc_L P us b fd := by
  induction b with
  | zero => intro _; exact ⟨-1, sc_l0⟩
  | succ b ih =>
    intro hb
    obtain ⟨fd, H⟩ := ih (by omega)
    by_cases hp : P b
    · by_cases h3 : fd = -1
      · subst h3
        exact ⟨_, sc_ltake0 H (by omega) hp⟩
      · obtain ⟨j, hj, rfl⟩ : ∃ j, j < b ∧ fd = nI j := by
          rcases H with ⟨e, _⟩ | ⟨j, hj, e, _⟩
          · exact absurd e h3
          · exact ⟨j, hj, e⟩
        by_cases h4 : us b < us j
        · exact ⟨_, sc_ltake H (by omega) (by omega) hp h4⟩
        · exact ⟨_, sc_lkeep H (by omega) (by omega) h4⟩
    · exact ⟨_, sc_lskip H hp⟩
theorem sc_oldE (h so us : Nat → Int32) (s : Nat) : (∀ l, l < 256 → ¬ (¬ h l = 0 ∧ so l = nI s)) ∨ ∃ j, sc_old h so us s j := by
  obtain ⟨fd, H⟩ := sc_Lex (P := fun l => ¬ h l = 0 ∧ so l = nI s) (us := us) 256 (by decide)
  rcases H with ⟨_, H⟩ | ⟨j, hj, _, hp, H⟩
  · exact Or.inl H
  · exact Or.inr ⟨j, hj, hp.1, hp.2, fun l hl hh e => H l hl ⟨hh, e⟩⟩
section
variable {k : Nat} {p : Nat → Nat} {f n c m : Nat} {h so va nu en us ic pc K S V N E U : Nat → Int32} {ln x y : Int32} {j s t : Nat}
theorem sc_storeF {X0 : SX} {Y0 : SY} (R : sc_R k p f n c m h so va nu en us ic pc K S V N E U) (hk : k + 5 ≤ 2560) (hj : j < 256) (hs : s < 3) (ht : t ≤ 1000) (hc : sc_cnt (sc_hs h so s) 256 < p s * sc_cells s)
    (hX0 : h j = 0 → ∀ post : Int32 → SX → Prop, post (ln + 1) (nI f, nI c, ln + 1, nI (m + 1), upd h j 1, upd so j (nI s), upd va j x, upd nu j (ln + 1), upd en j (sc_eX t c), upd us j (nI (m + 1)), upd ic s (ic s + 1), pc) → wpX_store post X0 (nI j) y x (nI t))
    (hX1 : ∀ r, ¬ h j = 0 → r < 3 → so j = nI r → ∀ post : Int32 → SX → Prop, post (ln + 1) (nI f, nI c, ln + 1, nI (m + 1), upd (upd h j 0) j 1, upd so j (nI s), upd va j x, upd nu j (ln + 1), upd en j (sc_eX t c), upd us j (nI (m + 1)), upd (upd ic r (ic r - 1)) s ((upd ic r (ic r - 1)) s + 1), pc) → wpX_store post X0 (nI j) y x (nI t))
    (hY0 : n < 32 → (∀ a, a < n → ¬ K a = nI j) → ∀ post : Int32 → SY → Prop, post (ln + 1) (nI (n + 1), nI c, ln + 1, nI (m + 1), upd K n (nI j), upd S n (nI s), upd V n x, upd N n (ln + 1), upd E n (sc_eY t c), upd U n (nI (m + 1)), pc) → wpY_store post Y0 (nI j) y x (nI t))
    (hY1 : ∀ b i, n = b + 1 → b + 1 ≤ 32 → i < b + 1 → K i = nI j → (∀ a, a < b + 1 → K a = nI j → a = i) → ∀ post : Int32 → SY → Prop, post (ln + 1) (nI (b + 1), nI c, ln + 1, nI (m + 1), upd (upd K i (K b)) b (nI j), upd (upd S i (S b)) b (nI s), upd (upd V i (V b)) b x, upd (upd N i (N b)) b (ln + 1), upd (upd E i (E b)) b (sc_eY t c), upd (upd U i (U b)) b (nI (m + 1)), pc) → wpY_store post Y0 (nI j) y x (nI t)) :
    wpX_store (fun r u' => wpY_store (fun r' v' => r' = r ∧ i_Rel (k + 5) u' v') Y0 (nI j) y x (nI t)) X0 (nI j) y x (nI t) := by
  by_cases h0 : h j = 0
  · refine hX0 h0 _ ?_
    refine hY0 (sc_n31 R.1 R.2.1 hs hc) (fun a ha e => (sc_at R.1 ha hj e).1 h0) _ ?_
    exact ⟨rfl, sc_mk (sc_rpush R hk hj h0 hs hc (fun l hl => ⟨sc_un hl, sc_un hl, sc_un hl⟩) (fun l hl => ⟨sc_un hl, sc_un hl, sc_un hl⟩) ⟨by rw [sc_us, sc_us], by rw [sc_us, sc_us], by rw [sc_us, sc_us]; exact sc_endE ht R.2.2.2.1 hk⟩)⟩
  · obtain ⟨r, hr, e⟩ := R.2.1.2.2 j hj h0
    obtain ⟨i, hi, hK⟩ := R.1.2.1 j hj h0
    obtain ⟨b, rfl⟩ : ∃ b, n = b + 1 := ⟨n - 1, by omega⟩
    have hn := sc_rn R
    have R2 := sc_rdrop R hi hj hK hr e
    have hc2 := Nat.lt_of_le_of_lt (sc_cdle R.2.1 hj h0 hs) hc
    refine hX1 r h0 hr e _ ?_
    refine hY1 b i rfl hn hi hK (sc_keyU R.1 hi hK) _ ?_
    exact ⟨rfl, sc_mk (sc_rpush R2 hk hj sc_us hs hc2 (fun l hl => ⟨sc_un hl, sc_un hl, sc_un hl⟩) (fun l hl => ⟨sc_un hl, sc_un hl, sc_un hl⟩) ⟨by rw [sc_us, sc_us], by rw [sc_us, sc_us], by rw [sc_us, sc_us]; exact sc_endE ht R.2.2.2.1 hk⟩)⟩
end
theorem i_vc_store {k : Nat} {u : SX} {v : SY} (I : i_Rel k u v) (hk : k + 5 ≤ 2560) (v1 : Int32) (v2 : Int32) (v3 : Int32) (v4 : Int32) : wpX_store (fun r u' => wpY_store (fun r' v' => r' = r ∧ i_Rel (k + 5) u' v') v v1 v2 v3 v4) u v1 v2 v3 v4 := by
  obtain ⟨p, f, n, c, m, h, so, va, nu, en, us, ic, pc, K, S, V, N, E, U, ln, rfl, rfl, R⟩ := I
  have hn := sc_rn R
  rcases sc_ix v1 (n := 256) (by decide) with hx | hx | ⟨j, hj, rfl⟩
  · exact sx_storeK (Or.inl hx) (sy_storeK (Or.inl hx) ⟨rfl, sc_mk (sc_rup R)⟩)
  · exact sx_storeK (Or.inr hx) (sy_storeK (Or.inr hx) ⟨rfl, sc_mk (sc_rup R)⟩)
  have hl : (v2 < 1 ∨ nI 13 ≤ v2) ∨ ∃ l, 1 ≤ l ∧ l ≤ 12 ∧ v2 = nI l := by
    rcases sc_ix v2 (n := 13) (by decide) with hx | hx | ⟨l, hl, rfl⟩
    · exact Or.inl (Or.inl (Int32.lt_trans hx (by decide)))
    · exact Or.inl (Or.inr hx)
    · by_cases z : l = 0
      · subst z
        exact Or.inl (Or.inl (by decide))
      · exact Or.inr ⟨l, by omega, by omega, rfl⟩
  rcases hl with hx | ⟨l, h1, h2, rfl⟩
  · exact sx_storeL hj hx (sy_storeL hj hx ⟨rfl, sc_mk (sc_rup R)⟩)
  rcases sc_ix v4 (n := 1001) (by decide) with hx | hx | ⟨t, ht, rfl⟩
  · exact sx_storeT hj h1 h2 (Or.inl hx) (sy_storeT hj h1 h2 (Or.inl hx) ⟨rfl, sc_mk (sc_rup R)⟩)
  · exact sx_storeT hj h1 h2 (Or.inr hx) (sy_storeT hj h1 h2 (Or.inr hx) ⟨rfl, sc_mk (sc_rup R)⟩)
  have ht : t ≤ 1000 := by omega
  have hs := sc_sl3 l
  by_cases same : ¬ h j = 0 ∧ so j = nI (sc_sl l)
  · obtain ⟨i, hi, hK⟩ := R.1.2.1 j hj same.1
    have A := sc_at R.1 hi hj hK
    exact sx_storeS hj h1 h2 ht same.1 same.2 (sy_storeS hj h1 h2 ht hn hi hK (sc_keyU R.1 hi hK) (A.2.1.trans same.2) ⟨rfl, sc_mk (sc_ruse R hk hi hj hK (fun l hl => ⟨sc_un hl, sc_un hl, sc_un hl⟩) (fun l hl => ⟨sc_un hl, sc_un hl, sc_un hl⟩) ⟨by rw [sc_us, sc_us], by rw [sc_us, sc_us], by rw [sc_us, sc_us]; exact sc_endE ht R.2.2.2.1 hk⟩)⟩)
  have hXo : h j = 0 ∨ ¬ so j = nI (sc_sl l) := by
    by_cases z : h j = 0
    · exact Or.inl z
    · exact Or.inr (fun y => same ⟨z, y⟩)
  have hYo : (∀ a, a < n → ¬ K a = nI j) ∨ ∃ i, i < n ∧ K i = nI j ∧ (∀ a, a < n → K a = nI j → a = i) ∧ ¬ S i = nI (sc_sl l) := by
    by_cases z : h j = 0
    · exact Or.inl (fun a ha e => (sc_at R.1 ha hj e).1 z)
    · obtain ⟨i, hi, hK⟩ := R.1.2.1 j hj z
      have A := sc_at R.1 hi hj hK
      exact Or.inr ⟨i, hi, hK, sc_keyU R.1 hi hK, fun y => same ⟨z, A.2.1.symm.trans y⟩⟩
  by_cases hc : sc_cnt (sc_hs h so (sc_sl l)) 256 < p (sc_sl l) * sc_cells (sc_sl l)
  · refine sc_storeF (ln := ln) R hk hj hs ht hc (fun h0 post w => ?_) (fun r h0 hr e post w => ?_) (fun hn' hU post w => ?_) (fun b i e hn' hi hK hU post w => ?_)
    · exact sx_storeO hj h1 h2 ht hXo (sx_st54 hj hs ht (fun Q q0 q1 q2 => sx_room1 R.2.1 hs hc (q1 _ _ _ _ h0 w)))
    · exact sx_storeO hj h1 h2 ht hXo (sx_st54 hj hs ht (fun Q q0 q1 q2 => sx_room1 R.2.1 hs hc (q2 _ _ _ _ r h0 hr e w)))
    · exact sy_storeO hj h1 h2 ht hn hYo (sy_67 ht (fun Q q0 q1 q2 => sy_room1 R.1 R.2.1 hs hc (q1 _ _ _ _ _ _ _ _ hn' hU w)))
    · subst e
      exact sy_storeO hj h1 h2 ht hn hYo (sy_67 ht (fun Q q0 q1 q2 => sy_room1 R.1 R.2.1 hs hc (q2 _ _ _ _ _ _ _ _ i hn' hi hK hU w)))
  by_cases hf : f = 0
  · subst hf
    rcases sc_oldE h so us (sc_sl l) with hno | ⟨o, ho⟩
    · refine sx_storeO hj h1 h2 ht hXo (sx_st54 hj hs ht (fun Q q0 q1 q2 => sx_room3 R.2.1 hs hc hno (q0 _ _ _ _ ?_)))
      exact sy_storeO hj h1 h2 ht hn hYo (sy_67 ht (fun Q q0 q1 q2 => sy_room3 R.1 R.2.1 hs hc hno (q0 _ _ _ _ _ _ _ _ ⟨rfl, sc_mk (sc_rup R)⟩)))
    · obtain ⟨io, hio, hKo⟩ := R.1.2.1 o ho.1 ho.2.1
      obtain ⟨b, rfl⟩ : ∃ b, n = b + 1 := ⟨n - 1, by omega⟩
      have R1 := sc_rdrop R hio ho.1 hKo hs ho.2.2.1
      have hc1 : sc_cnt (sc_hs (upd h o 0) so (sc_sl l)) 256 < p (sc_sl l) * sc_cells (sc_sl l) := by
        have a := sc_cd1 ho.1 ho.2.1 ho.2.2.1
        have b := (R.2.1.2.1 (sc_sl l) hs).2.2
        omega
      refine sc_storeF (ln := ln) R1 hk hj hs ht hc1 (fun h0 post w => ?_) (fun r h0 hr e post w => ?_) (fun hn' hU post w => ?_) (fun b i e hn' hi hK hU post w => ?_)
      · exact sx_storeO hj h1 h2 ht hXo (sx_st54 hj hs ht (fun Q q0 q1 q2 => sx_room4 R.2.1 R.2.2.1 hs hc ho (q1 _ _ _ _ h0 w)))
      · exact sx_storeO hj h1 h2 ht hXo (sx_st54 hj hs ht (fun Q q0 q1 q2 => sx_room4 R.2.1 R.2.2.1 hs hc ho (q2 _ _ _ _ r h0 hr e w)))
      · exact sy_storeO hj h1 h2 ht hn hYo (sy_67 ht (fun Q q0 q1 q2 => sy_room4 R.1 R.2.1 R.2.2.1 hs hc ho hio hKo (q1 _ _ _ _ _ _ _ _ hn' hU w)))
      · subst e
        exact sy_storeO hj h1 h2 ht hn hYo (sy_67 ht (fun Q q0 q1 q2 => sy_room4 R.1 R.2.1 R.2.2.1 hs hc ho hio hKo (q2 _ _ _ _ _ _ _ _ i hn' hi hK hU w)))
  · obtain ⟨g, rfl⟩ : ∃ g, f = g + 1 := ⟨f - 1, by omega⟩
    have R1 := sc_rpage R hs
    have hc1 : sc_cnt (sc_hs h so (sc_sl l)) 256 < (if sc_sl l = sc_sl l then p (sc_sl l) + 1 else p (sc_sl l)) * sc_cells (sc_sl l) := by
      rw [if_pos rfl, Nat.add_mul]
      have a := (R.2.1.2.1 (sc_sl l) hs).2.2
      have b : 0 < sc_cells (sc_sl l) := by
        obtain e | e | e : sc_sl l = 0 ∨ sc_sl l = 1 ∨ sc_sl l = 2 := by omega
        · rw [e]; decide
        · rw [e]; decide
        · rw [e]; decide
      omega
    refine sc_storeF (ln := ln) R1 hk hj hs ht hc1 (fun h0 post w => ?_) (fun r h0 hr e post w => ?_) (fun hn' hU post w => ?_) (fun b i e hn' hi hK hU post w => ?_)
    · exact sx_storeO hj h1 h2 ht hXo (sx_st54 hj hs ht (fun Q q0 q1 q2 => sx_room2 R.2.1 hs hc (q1 _ _ _ _ h0 w)))
    · exact sx_storeO hj h1 h2 ht hXo (sx_st54 hj hs ht (fun Q q0 q1 q2 => sx_room2 R.2.1 hs hc (q2 _ _ _ _ r h0 hr e w)))
    · exact sy_storeO hj h1 h2 ht hn hYo (sy_67 ht (fun Q q0 q1 q2 => sy_room2 R.1 R.2.1 hs hc (q1 _ _ _ _ _ _ _ _ hn' hU w)))
    · subst e
      exact sy_storeO hj h1 h2 ht hn hYo (sy_67 ht (fun Q q0 q1 q2 => sy_room2 R.1 R.2.1 hs hc (q2 _ _ _ _ _ _ _ _ i hn' hi hK hU w)))
