/-! All of the reference's rows. -/
section Lays3
variable {ms kc : Nat → Int32}
theorem IV_0 (w : WF ms) {s l m0 : Nat} {mf : Nat → Int32} (hs : s < 2 ^ gn ms) (hl : l < 10) (h : IV ms (10 * s + l) mf) (hm : mf (10 * s + l) = nI 0) : IV ms (10 * s + l + 1) mf := by
  obtain ⟨m', b1, b2, b3⟩ := h s l hs hl
  have em : 0 = m' := (nI_eq (by omega) (by omega)).mp (by rw [← hm, b2])
  subst em
  intro s1 l1 hs1 hl1
  obtain ⟨m, c1, c2, c3⟩ := h s1 l1 hs1 hl1
  refine ⟨m, c1, c2, fun f => ?_⟩
  rw [c3 f, CE_s w hl]
  constructor
  · exact Or.inl
  · rintro (x | ⟨x1, -⟩)
    · exact x
    · have := (b3 f).mpr ((CE_fin w hl).mpr x1)
      rw [Nat.zero_testBit] at this
      exact absurd this (by simp)
theorem l64 (w : WF ms) : ∀ (c z n : Nat) (mf : Nat → Int32), z + c = 10 * 2 ^ gn ms → c < n → IV ms z mf → ∃ mf', fX9_laysRows_64 (fun u => some u) ms n (nI z) mf = some mf' ∧ IV ms (10 * 2 ^ gn ms) mf' := by
  have h10 := w.1.2
  have hp := p2_le h10
  intro c
  induction c with
  | zero =>
    intro z n mf hz hn h
    obtain ⟨n, rfl⟩ : ∃ k, n = k + 1 := ⟨n - 1, by omega⟩
    have e : z = 10 * 2 ^ gn ms := by omega
    subst e
    rw [fX9_laysRows_64, m_n w, sb, sh10 _ (by omega), ge_e (by omega)]
    exact ⟨mf, rfl, h⟩
  | succ c ih =>
    intro z n mf hz hn h
    obtain ⟨n, rfl⟩ : ∃ k, n = k + 1 := ⟨n - 1, by omega⟩
    obtain ⟨s0, l0, hl, rfl⟩ : ∃ s0 l0, l0 < 10 ∧ z = 10 * s0 + l0 := ⟨z / 10, z % 10, by omega, by omega⟩
    have hs : s0 < 2 ^ gn ms := by omega
    obtain ⟨m0, b1, b2, b3⟩ := h s0 l0 hs hl
    rw [fX9_laysRows_64, m_n w, sb, sh10 _ (by omega), ge_n (by omega) (by omega), li 10, pk_div (by omega) (by omega) (by omega), show (10 * s0 + l0) / 10 = s0 by omega, ia]
    by_cases h0 : m0 = 0
    · subst h0
      obtain ⟨mf', r1, r2⟩ := ih (10 * s0 + l0 + 1) n mf (by omega) (by omega) (IV_0 (m0 := 0) w hs hl h b2)
      refine ⟨mf', ?_, r2⟩
      rw [← r1, LF_eq, fX9_laysRows_84, m_n w, sb]
      by_cases hg : gn ms = 0
      · rw [if_pos (show nI (gn ms) ≤ (0 : Int32) by rw [hg]; decide)]
      · rw [if_neg (show ¬ nI (gn ms) ≤ (0 : Int32) from nI_nle (by omega) (by omega)), aget_n (by omega) (by omega), sb, b2, if_pos (show nI 0 = (0 : Int32) from rfl)]
    · have hbit : ∃ f, m0.testBit f = true := Nat.exists_testBit_of_ne_zero h0
      obtain ⟨f, hf⟩ := hbit
      have hln := (RO_l ((CE_fin w hl).mp ((b3 f).mp hf))).1
      have e := l84 w (fun mf_u26 => fX9_laysRows_64 (fun u => some u) ms n (nI (10 * s0 + l0 + 1)) mf_u26) hs hln ⟨by omega, b1⟩ (gn ms) 0 LF mf (by omega) (by rw [LF_eq]; omega) b2
      obtain ⟨mf', r1, r2⟩ := ih (10 * s0 + l0 + 1) n _ (by omega) (by omega) (IV_s w hs hl h b2 b1)
      exact ⟨mf', by rw [← r1]; exact e, r2⟩
theorem IV_end (w : WF ms) {mf : Nat → Int32} (h : IV ms (10 * 2 ^ gn ms) mf) : ∀ s l, s < 2 ^ gn ms → l < 10 → ∃ m, m < 1024 ∧ mf (10 * s + l) = nI m ∧ ∀ f, m.testBit f = true ↔ RO (okP ms) (gn ms) s f l := by
  have h10 := w.1.2
  intro s l hs hl
  obtain ⟨m, c1, c2, c3⟩ := h s l hs hl
  refine ⟨m, c1, c2, fun f => ?_⟩
  rw [c3 f, RO_iff]
  unfold CE
  constructor
  · rintro (x | ⟨s', x, a1, a2, a3, a4, a5, a6⟩)
    · exact Or.inl x
    · have := or_gt a4
      exact Or.inr ⟨s', x, by omega, a2, a3, a4, a5, a6⟩
  · rintro (x | ⟨s', x, a1, a2, a3, a4, a5, a6⟩)
    · exact Or.inl x
    · have := (RO_l a2).1
      exact Or.inr ⟨s', x, by omega, a2, a3, a4, a5, a6⟩
end Lays3
