/-! The reference lays its rows. -/
section Lays
variable {ms kc : Nat → Int32}
theorem sh10 : ∀ g, g < 11 → (10 : Int32) <<< (nI g &&& 31) = nI (10 * 2 ^ g) := by decide +kernel
theorem p2_le {n : Nat} (h : n ≤ 10) : 2 ^ n ≤ 1024 := Nat.pow_le_pow_right (n := 2) (by omega) h
theorem or_b {s y n : Nat} (hs : s < 2 ^ n) (hy : y < n) : s ||| 2 ^ y < 2 ^ n := Nat.or_lt_two_pow hs (Nat.pow_lt_pow_right (by omega) hy)
theorem or_gt {s y : Nat} (h : s.testBit y = false) : s < s ||| 2 ^ y := by
  have h1 : s ≤ s ||| 2 ^ y := Nat.left_le_or
  have h2 : s ≠ s ||| 2 ^ y := fun e => by
    have : (s ||| 2 ^ y).testBit y = true := by rw [Nat.testBit_or, Nat.testBit_two_pow_self, Bool.or_true]
    rw [← e, h] at this
    exact absurd this (by simp)
  omega
/-- one more piece below a row -/
def lyS (ms : Nat → Int32) (s0 l0 m0 : Nat) (y : Nat) (mf : Nat → Int32) : Nat → Int32 := if okB ms s0 l0 y = true then upd mf (10 * (s0 ||| 2 ^ y) + y) (mf (10 * (s0 ||| 2 ^ y) + y) ||| nI m0) else mf
theorem okB_n {s0 l0 y : Nat} (h : okB ms s0 l0 y = true) : s0.testBit y = false := by
  unfold okB at h
  simp only [Bool.and_eq_true, Bool.not_eq_true'] at h
  exact h.1.1
theorem l84 (w : WF ms) (K : (Nat → Int32) → Option (Nat → Int32)) {s0 l0 m0 : Nat} (hs : s0 < 2 ^ gn ms) (hl : l0 < gn ms) (hm : 0 < m0 ∧ m0 < 1024) : ∀ (c y n : Nat) (mf : Nat → Int32), y + c = gn ms → c < n → mf (10 * s0 + l0) = nI m0 → fX9_laysRows_84 K ms (nI (10 * s0 + l0)) (nI s0) n (nI y) mf = K (fo (lyS ms s0 l0 m0) c y mf) := by
  have h10 := w.1.2
  have hp := p2_le h10
  intro c
  induction c with
  | zero =>
    intro y n mf hy hn hz
    obtain ⟨n, rfl⟩ : ∃ k, n = k + 1 := ⟨n - 1, by omega⟩
    rw [fX9_laysRows_84, m_n w, sb, show y = gn ms by omega, mNe w]
    rfl
  | succ c ih =>
    intro y n mf hy hn hz
    obtain ⟨n, rfl⟩ : ∃ k, n = k + 1 := ⟨n - 1, by omega⟩
    have hyl : y < gn ms := by omega
    have hob := or_b hs hyl
    rw [fX9_laysRows_84, m_n w, sb, mN w hyl, aget_n (by omega) (by omega), sb, hz, if_neg (nI_ne0 hm.1 (by omega)), li 10, pk_rem (by omega) (by omega) (by omega), show (10 * s0 + l0) % 10 = l0 by omega, m_goesOn w (by omega) hl hyl, sb, ia, fo_succ]
    unfold lyS
    cases hk : okB ms s0 l0 y with
    | false =>
      rw [bI_f, if_pos rfl]
      exact ih (y + 1) n mf (by omega) (by omega) hz
    | true =>
      have hgt := or_gt (okB_n hk)
      rw [bI_t, if_neg one_n, sh1 y (by omega), nI_or, pk_mul, nI_add, aget_n (by omega) (by omega), sb, sb, aput_n (by omega) (by omega), sb]
      exact ih (y + 1) n _ (by omega) (by omega) (by rw [pk_un (by omega)]; exact hz)
end Lays
