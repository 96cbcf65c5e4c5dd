def i_Rel (k : Nat) (u : SX) (v : SY) : Prop :=
  ∃ (p : Nat → Nat) (f n c m : Nat) (h so va nu en us ic pc K S V N E U : Nat → Int32) (ln : Int32), u = (nI f, nI c, ln, nI m, h, so, va, nu, en, us, ic, pc) ∧ v = (nI n, nI c, ln, nI m, K, S, V, N, E, U, pc) ∧ sc_R k p f n c m h so va nu en us ic pc K S V N E U
theorem sc_mk {k : Nat} {p : Nat → Nat} {f n c m : Nat} {h so va nu en us ic pc K S V N E U : Nat → Int32} {ln : Int32} (R : sc_R k p f n c m h so va nu en us ic pc K S V N E U) : i_Rel k (nI f, nI c, ln, nI m, h, so, va, nu, en, us, ic, pc) (nI n, nI c, ln, nI m, K, S, V, N, E, U, pc) :=
  ⟨p, f, n, c, m, h, so, va, nu, en, us, ic, pc, K, S, V, N, E, U, ln, rfl, rfl, R⟩
