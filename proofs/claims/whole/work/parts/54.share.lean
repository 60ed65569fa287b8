/-! The share of right totals. -/
def eqB (v : UInt64) : Bool := match fX7_bitsOf v, fJxe99ae_doubleToLongBits_ccdee v with
  | some x, some y => decide (x = y)
  | _, _ => false
def shB (a b : Nat) : Bool := match dok (FP.ddiv (FP.i2d (nI a)) (FP.i2d (nI b))) with
  | none => false
  | some v => eqB v
set_option maxRecDepth 100000 in
theorem sh_60 : ∀ b, b < 60 → ∀ a, a ≤ b + 1 → shB a (b + 1) = true := by decide +kernel
set_option maxRecDepth 100000 in
theorem sh_1 : eqB FP.dconst1 = true := by decide +kernel
theorem sh_of {v : UInt64} (h : eqB v = true) : ∃ L, fX7_bitsOf v = some L ∧ fJxe99ae_doubleToLongBits_ccdee v = some L := by
  unfold eqB at h
  cases h1 : fX7_bitsOf v with
  | none => rw [h1] at h; exact absurd h (by simp)
  | some x =>
    cases h2 : fJxe99ae_doubleToLongBits_ccdee v with
    | none => rw [h1, h2] at h; exact absurd h (by simp)
    | some y =>
      rw [h1, h2] at h
      exact ⟨x, rfl, by rw [of_decide_eq_true h]⟩
