theorem i_up {k : Nat} {u : SX} {v : SY} (h : i_Rel k u v) : i_Rel (k + 5) u v := by
  obtain ⟨p, f, n, c, m, h, so, va, nu, en, us, ic, pc, K, S, V, N, E, U, ln, rfl, rfl, R⟩ := h
  exact sc_mk (sc_rup R)
theorem sc_R0 : sc_R 0 (fun _ => 0) 8 0 0 0 (fun _ => 0) (fun _ => 0) (fun _ => 0) (fun _ => 0) (fun _ => 0) (fun _ => 0) (fun _ => 0) (fun _ => 0) (fun _ => 0) (fun _ => 0) (fun _ => 0) (fun _ => 0) (fun _ => 0) (fun _ => 0) := by
  refine ⟨⟨fun i hi => absurd hi (Nat.not_lt_zero i), fun j _ z => absurd rfl z, fun i _ hi => absurd hi (Nat.not_lt_zero i)⟩, ⟨rfl, fun s _ => ?_, fun j _ z => absurd rfl z⟩, ⟨fun j _ z => absurd rfl z, fun i _ _ _ z => absurd rfl z⟩, Nat.le_refl _, Nat.le_refl _⟩
  have e : sc_cnt (sc_hs (fun _ => 0) (fun _ => 0) s) 256 = 0 := sc_cnt_z 256 (fun i _ => sc_hs_f1 rfl)
  rw [e]
  exact ⟨nI_0.symm, nI_0.symm, Nat.zero_le _⟩
theorem i_vc0 : wpX_init (fun u => wpY_init (fun v => i_Rel 0 u v)) := sc_mk sc_R0
theorem i_vc_get {k : Nat} {u : SX} {v : SY} (I : i_Rel k u v) (hk : k + 5 ≤ 2560) (v1 : Int32) : wpX_get (fun r u' => wpY_get (fun r' v' => r' = r ∧ i_Rel (k + 5) u' v') v v1) u v1 := by
  obtain ⟨p, f, n, c, m, h, so, va, nu, en, us, ic, pc, K, S, V, N, E, U, ln, rfl, rfl, R⟩ := I
  have hn := sc_rn R
  rcases sc_key R.1 v1 with ⟨j, i, hj, hi, rfl, hh, hK⟩ | ⟨h0, hU⟩
  · have A := sc_at R.1 hi hj hK
    exact sx_get1 hj hh (sy_get1 hn hi hK (sc_keyU R.1 hi hK) ⟨A.2.2.1, sc_mk (sc_ruse R hk hi hj hK (fun _ _ => ⟨rfl, rfl, rfl⟩) (fun _ _ => ⟨rfl, rfl, rfl⟩) ⟨A.2.2.1, A.2.2.2.1, A.2.2.2.2.1⟩)⟩)
  · exact sx_get0 h0 (sy_get0 hn hU ⟨rfl, sc_mk (sc_rup R)⟩)
theorem i_vc_has {k : Nat} {u : SX} {v : SY} (I : i_Rel k u v) (hk : k + 5 ≤ 2560) (v1 : Int32) : wpX_has (fun r => wpY_has (fun r' => r' = r ∧ i_Rel (k + 5) u v) v v1) u v1 := by
  obtain ⟨p, f, n, c, m, h, so, va, nu, en, us, ic, pc, K, S, V, N, E, U, ln, rfl, rfl, R⟩ := I
  have hn := sc_rn R
  rcases sc_key R.1 v1 with ⟨j, i, hj, hi, rfl, hh, hK⟩ | ⟨h0, hU⟩
  · exact sx_has1 hj hh (sy_has1 hn hi hK (sc_keyU R.1 hi hK) ⟨rfl, sc_mk (sc_rup R)⟩)
  · exact sx_has0 h0 (sy_has0 hn hU ⟨rfl, sc_mk (sc_rup R)⟩)
theorem i_vc_number {k : Nat} {u : SX} {v : SY} (I : i_Rel k u v) (hk : k + 5 ≤ 2560) (v1 : Int32) : wpX_number (fun r => wpY_number (fun r' => r' = r ∧ i_Rel (k + 5) u v) v v1) u v1 := by
  obtain ⟨p, f, n, c, m, h, so, va, nu, en, us, ic, pc, K, S, V, N, E, U, ln, rfl, rfl, R⟩ := I
  have hn := sc_rn R
  rcases sc_key R.1 v1 with ⟨j, i, hj, hi, rfl, hh, hK⟩ | ⟨h0, hU⟩
  · have A := sc_at R.1 hi hj hK
    exact sx_number1 hj hh (sy_number1 hn hi hK (sc_keyU R.1 hi hK) ⟨A.2.2.2.1, sc_mk (sc_rup R)⟩)
  · exact sx_number0 h0 (sy_number0 hn hU ⟨rfl, sc_mk (sc_rup R)⟩)
theorem i_vc_swap {k : Nat} {u : SX} {v : SY} (I : i_Rel k u v) (hk : k + 5 ≤ 2560) (v1 : Int32) (v2 : Int32) (v3 : Int32) : wpX_swap (fun r u' => wpY_swap (fun r' v' => r' = r ∧ i_Rel (k + 5) u' v') v v1 v2 v3) u v1 v2 v3 := by
  obtain ⟨p, f, n, c, m, h, so, va, nu, en, us, ic, pc, K, S, V, N, E, U, ln, rfl, rfl, R⟩ := I
  have hn := sc_rn R
  rcases sc_key R.1 v1 with ⟨j, i, hj, hi, rfl, hh, hK⟩ | ⟨h0, hU⟩
  · have A := sc_at R.1 hi hj hK
    by_cases e : nu j = v2
    · exact sx_swap1 hj hh e (sy_swap1 hn hi hK (sc_keyU R.1 hi hK) (A.2.2.2.1.trans e) ⟨rfl, sc_mk (sc_ruse R hk hi hj hK (fun _ hl => ⟨sc_un hl, sc_un hl, rfl⟩) (fun _ hl => ⟨sc_un hl, sc_un hl, rfl⟩) ⟨by rw [sc_us, sc_us], by rw [sc_us, sc_us], A.2.2.2.2.1⟩)⟩)
    · exact sx_swap0 hj hh e (sy_swap0 hn hi hK (sc_keyU R.1 hi hK) (fun z => e (A.2.2.2.1.symm.trans z)) ⟨rfl, sc_mk (sc_rup R)⟩)
  · exact sx_swapN h0 (sy_swapN hn hU ⟨rfl, sc_mk (sc_rup R)⟩)
theorem i_vc_add {k : Nat} {u : SX} {v : SY} (I : i_Rel k u v) (hk : k + 5 ≤ 2560) (v1 : Int32) (v2 : Int32) : wpX_add (fun r u' => wpY_add (fun r' v' => r' = r ∧ i_Rel (k + 5) u' v') v v1 v2) u v1 v2 := by
  obtain ⟨p, f, n, c, m, h, so, va, nu, en, us, ic, pc, K, S, V, N, E, U, ln, rfl, rfl, R⟩ := I
  have hn := sc_rn R
  rcases sc_key R.1 v1 with ⟨j, i, hj, hi, rfl, hh, hK⟩ | ⟨h0, hU⟩
  · have A := sc_at R.1 hi hj hK
    exact sx_add1 hj hh (sy_add1 hn hi hK (sc_keyU R.1 hi hK) ⟨by rw [A.2.2.1], sc_mk (sc_ruse R hk hi hj hK (fun _ hl => ⟨sc_un hl, sc_un hl, rfl⟩) (fun _ hl => ⟨sc_un hl, sc_un hl, rfl⟩) ⟨by rw [sc_us, sc_us, A.2.2.1], by rw [sc_us, sc_us], A.2.2.2.2.1⟩)⟩)
  · exact sx_add0 h0 (sy_add0 hn hU ⟨rfl, sc_mk (sc_rup R)⟩)
theorem i_vc_touch {k : Nat} {u : SX} {v : SY} (I : i_Rel k u v) (hk : k + 5 ≤ 2560) (v1 : Int32) (v2 : Int32) : wpX_touch (fun r u' => wpY_touch (fun r' v' => r' = r ∧ i_Rel (k + 5) u' v') v v1 v2) u v1 v2 := by
  obtain ⟨p, f, n, c, m, h, so, va, nu, en, us, ic, pc, K, S, V, N, E, U, ln, rfl, rfl, R⟩ := I
  have hn := sc_rn R
  rcases sc_ix v2 (n := 1001) (by decide) with ht | ht | ⟨t, ht, rfl⟩
  · exact sx_touchT (Or.inl ht) (sy_touchT (Or.inl ht) ⟨rfl, sc_mk (sc_rup R)⟩)
  · exact sx_touchT (Or.inr ht) (sy_touchT (Or.inr ht) ⟨rfl, sc_mk (sc_rup R)⟩)
  · rcases sc_key R.1 v1 with ⟨j, i, hj, hi, rfl, hh, hK⟩ | ⟨h0, hU⟩
    · have A := sc_at R.1 hi hj hK
      exact sx_touch1 (by omega) hj hh (sy_touch1 (by omega) hn hi hK (sc_keyU R.1 hi hK) ⟨rfl, sc_mk (sc_ruse R hk hi hj hK (fun _ hl => ⟨rfl, rfl, sc_un hl⟩) (fun _ hl => ⟨rfl, rfl, sc_un hl⟩) ⟨A.2.2.1, A.2.2.2.1, by rw [sc_us, sc_us]; exact sc_endE (by omega) R.2.2.2.1 hk⟩)⟩)
    · exact sx_touch0 (by omega) h0 (sy_touch0 (by omega) hn hU ⟨rfl, sc_mk (sc_rup R)⟩)
theorem i_vc_remove {k : Nat} {u : SX} {v : SY} (I : i_Rel k u v) (hk : k + 5 ≤ 2560) (v1 : Int32) : wpX_remove (fun r u' => wpY_remove (fun r' v' => r' = r ∧ i_Rel (k + 5) u' v') v v1) u v1 := by
  obtain ⟨p, f, n, c, m, h, so, va, nu, en, us, ic, pc, K, S, V, N, E, U, ln, rfl, rfl, R⟩ := I
  have hn := sc_rn R
  rcases sc_key R.1 v1 with ⟨j, i, hj, hi, rfl, hh, hK⟩ | ⟨h0, hU⟩
  · obtain ⟨s, hs, e⟩ := R.2.1.2.2 j hj hh
    obtain ⟨q, rfl⟩ : ∃ q, n = q + 1 := ⟨n - 1, by omega⟩
    exact sx_remove1 hj hh hs e (sy_remove1 hn hi hK (sc_keyU R.1 hi hK) ⟨rfl, sc_mk (sc_rup (sc_rdrop R hi hj hK hs e))⟩)
  · exact sx_remove0 h0 (sy_remove0 hn hU ⟨rfl, sc_mk (sc_rup R)⟩)
theorem i_vc_tick {k : Nat} {u : SX} {v : SY} (I : i_Rel k u v) (hk : k + 5 ≤ 2560) (v1 : Int32) : wpX_tick (fun r u' => wpY_tick (fun r' v' => r' = r ∧ i_Rel (k + 5) u' v') v v1) u v1 := by
  obtain ⟨p, f, n, c, m, h, so, va, nu, en, us, ic, pc, K, S, V, N, E, U, ln, rfl, rfl, R⟩ := I
  have hn := sc_rn R
  rcases sc_ix v1 (n := 1001) (by decide) with ht | ht | ⟨t, ht, rfl⟩
  · exact sx_tickT (Or.inl ht) (sy_tickT (Or.inl ht) ⟨rfl, sc_mk (sc_rup R)⟩)
  · exact sx_tickT (Or.inr ht) (sy_tickT (Or.inr ht) ⟨rfl, sc_mk (sc_rup R)⟩)
  · refine sx_tick (by omega) R.2.1 (fun h' ic' g T => sy_tick (by omega) R.1 hn (fun n' g' K' S' V' N' E' U' T' => ?_))
    obtain ⟨R', e⟩ := sc_tyE T' T.2.1
    refine ⟨by rw [T.2.2.2, e], sc_mk ⟨R', T.1, sc_xu_sub R.2.2.1 (fun l hl z y => z ((T.2.1 l hl).mpr (Or.inl y))), ?_, ?_⟩⟩
    · have := R.2.2.2.1
      omega
    · have := R.2.2.2.2
      omega
theorem i_vc_items {k : Nat} {u : SX} {v : SY} (I : i_Rel k u v) (hk : k + 5 ≤ 2560) (v1 : Int32) : wpX_items (fun r => wpY_items (fun r' => r' = r ∧ i_Rel (k + 5) u v) v v1) u v1 := by
  obtain ⟨p, f, n, c, m, h, so, va, nu, en, us, ic, pc, K, S, V, N, E, U, ln, rfl, rfl, R⟩ := I
  have hn := sc_rn R
  rcases sc_ix v1 (n := 3) (by decide) with ht | ht | ⟨s, hs, rfl⟩
  · exact sx_items0 (Or.inl ht) (sy_items0 (Or.inl ht) ⟨rfl, sc_mk (sc_rup R)⟩)
  · exact sx_items0 (Or.inr ht) (sy_items0 (Or.inr ht) ⟨rfl, sc_mk (sc_rup R)⟩)
  · exact sx_items1 hs (sy_items hn hs ⟨by rw [sc_cntY R.1 s, (R.2.1.2.1 s hs).2.1], sc_mk (sc_rup R)⟩)
theorem i_vc_pages {k : Nat} {u : SX} {v : SY} (I : i_Rel k u v) (hk : k + 5 ≤ 2560) (v1 : Int32) : wpX_pages (fun r => wpY_pages (fun r' => r' = r ∧ i_Rel (k + 5) u v) v v1) u v1 := by
  obtain ⟨p, f, n, c, m, h, so, va, nu, en, us, ic, pc, K, S, V, N, E, U, ln, rfl, rfl, R⟩ := I
  rcases sc_ix v1 (n := 4) (by decide) with ht | ht | ⟨s, hs, rfl⟩
  · exact sx_pages0 (Or.inl ht) (sy_pages0 (Or.inl ht) ⟨rfl, sc_mk (sc_rup R)⟩)
  · exact sx_pages0 (Or.inr ht) (sy_pages0 (Or.inr ht) ⟨rfl, sc_mk (sc_rup R)⟩)
  · by_cases e : s = 3
    · subst e
      exact sx_pages3 (sy_pages3 R.2.1.1 (fun s hs => (R.2.1.2.1 s hs).1) ⟨rfl, sc_mk (sc_rup R)⟩)
    · exact sx_pages1 (by omega) (sy_pages1 (by omega) ⟨rfl, sc_mk (sc_rup R)⟩)
theorem i_vc_oldest {k : Nat} {u : SX} {v : SY} (I : i_Rel k u v) (hk : k + 5 ≤ 2560) (v1 : Int32) : wpX_oldest (fun r => wpY_oldest (fun r' => r' = r ∧ i_Rel (k + 5) u v) v v1) u v1 := by
  obtain ⟨p, f, n, c, m, h, so, va, nu, en, us, ic, pc, K, S, V, N, E, U, ln, rfl, rfl, R⟩ := I
  have hn := sc_rn R
  rcases sc_ix v1 (n := 3) (by decide) with ht | ht | ⟨s, hs, rfl⟩
  · exact sx_oldest0 (Or.inl ht) (sy_oldest0 (Or.inl ht) ⟨rfl, sc_mk (sc_rup R)⟩)
  · exact sx_oldest0 (Or.inr ht) (sy_oldest0 (Or.inr ht) ⟨rfl, sc_mk (sc_rup R)⟩)
  · refine sx_oldest1 hs (fun z => ?_) (fun j hj => ?_)
    · refine sy_oldest1 hn hs (fun _ => ⟨rfl, sc_mk (sc_rup R)⟩) (fun i hi e _ => ?_)
      exact absurd e ((sc_noneY R.1).mpr z i hi)
    · refine sy_oldest1 hn hs (fun z => ?_) (fun i hi e H => ?_)
      · exact absurd ⟨hj.2.1, hj.2.2.1⟩ ((sc_noneY R.1).mp z j hj.1)
      · obtain ⟨j', hj', hK⟩ := sc_oldY R.1 hi e H
        rw [sc_old1 R.2.2.1 hj' hj] at hK
        exact ⟨hK, sc_mk (sc_rup R)⟩
