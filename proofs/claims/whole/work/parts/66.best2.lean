/-! The reference's choice. -/
section Best2
variable {ms kc : Nat → Int32}
def RB (ms : Nat → Int32) (z k : Nat) : Prop := (k = 0 ∨ ∃ s f l, s < 2 ^ gn ms ∧ RO (okP ms) (gn ms) s f l ∧ k = ky s f l) ∧ ∀ s f l, s < 2 ^ gn ms → 10 * s + l < z → RO (okP ms) (gn ms) s f l → ky s f l ≤ k
theorem row_k (w : WF ms) {s f l : Nat} (hs : s < 2 ^ gn ms) (h : RO (okP ms) (gn ms) s f l) : 0 < pcN s ∧ pcN s ≤ 10 ∧ f < 10 ∧ l < 10 := by
  have h10 := w.1.2
  have hp := p2_le h10
  obtain ⟨b1, b2, b3⟩ := pcN_b s (by omega)
  have := RO_l h
  exact ⟨b3 (RO_0 h), b2, by omega, by omega⟩
theorem tl14 (w : WF ms) (x : Int32) (mf : Nat → Int32) (h : ∀ s l, s < 2 ^ gn ms → l < 10 → ∃ m, m < 1024 ∧ mf (10 * s + l) = nI m ∧ ∀ f, m.testBit f = true ↔ RO (okP ms) (gn ms) s f l) (K : Int32 → Int32 → Int32 → Option (Int32 × (Nat → Int32))) : ∀ (c z n k : Nat), z + c = 10 * 2 ^ gn ms → c < n → RB ms z k → ∃ k', fX9_tellsLongest_14 K ms mf x n (tA k) (tF k) (tL k) (nI z) = K (tA k') (tF k') (tL k') ∧ RB ms (10 * 2 ^ gn ms) k' := by
  have h10 := w.1.2
  have hp := p2_le h10
  intro c
  induction c with
  | zero =>
    intro z n k hz hn hk
    obtain ⟨n, rfl⟩ : ∃ k, n = k + 1 := ⟨n - 1, by omega⟩
    have e : z = 10 * 2 ^ gn ms := by omega
    subst e
    rw [fX9_tellsLongest_14, m_n w, sb, sh10 _ (by omega), ge_e (by omega)]
    exact ⟨k, rfl, hk⟩
  | succ c ih =>
    intro z n k hz hn hk
    obtain ⟨n, rfl⟩ : ∃ k, n = k + 1 := ⟨n - 1, by omega⟩
    obtain ⟨s0, l0, hl, rfl⟩ : ∃ s0 l0, l0 < 10 ∧ z = 10 * s0 + l0 := ⟨z / 10, z % 10, by omega, by omega⟩
    have hs : s0 < 2 ^ gn ms := by omega
    obtain ⟨m, b1, b2, b3⟩ := h s0 l0 hs hl
    rw [fX9_tellsLongest_14, m_n w, sb, sh10 _ (by omega), ge_n (by omega) (by omega), aget_n (by omega) (by omega), sb, b2, ia]
    by_cases h0 : m = 0
    · subst h0
      rw [if_pos (show nI 0 = (0 : Int32) from rfl)]
      refine ih (10 * s0 + l0 + 1) n k (by omega) (by omega) ⟨hk.1, fun s f l hs2 hz2 hr => ?_⟩
      have hl2 := row_k w hs2 hr
      by_cases e : 10 * s + l < 10 * s0 + l0
      · exact hk.2 s f l hs2 e hr
      · have e1 : s = s0 := by omega
        have e2 : l = l0 := by omega
        subst e1 e2
        have := (b3 f).mpr hr
        rw [Nat.zero_testBit] at this
        exact absurd this (by simp)
    · obtain ⟨g1, g2, g3⟩ := lwN_t m b1 h0
      have hr := (b3 (lwN m)).mp g2
      have hb := row_k w hs hr
      rw [if_neg (nI_ne0 (by omega) (by omega)), li 10, pk_rem (by omega) (by omega) (by omega), pk_div (by omega) (by omega) (by omega), show (10 * s0 + l0) / 10 = s0 by omega, show (10 * s0 + l0) % 10 = l0 by omega, m_ones s0 (by omega), sb, sb, m_lw m b1 h0, sb, (pcN_b s0 (by omega)).1]
      have hRB : RB ms (10 * s0 + l0 + 1) (max k (ky s0 (lwN m) l0)) := by
        refine ⟨?_, fun s f l hs2 hz2 hr2 => ?_⟩
        · by_cases e : k ≤ ky s0 (lwN m) l0
          · rw [mx_r e]
            exact Or.inr ⟨s0, lwN m, l0, hs, hr, rfl⟩
          · rw [mx_l (by omega)]
            exact hk.1
        · have hl2 := row_k w hs2 hr2
          by_cases e : 10 * s + l < 10 * s0 + l0
          · have := hk.2 s f l hs2 e hr2
            omega
          · have e1 : s = s0 := by omega
            have e2 : l = l0 := by omega
            subst e1 e2
            have hf : lwN m ≤ f := by
              by_cases hf : f < lwN m
              · have := (b3 f).mpr hr2
                rw [g3 f hf] at this
                exact absurd this (by simp)
              · omega
            have : ky s f l ≤ ky s (lwN m) l := by unfold ky kyN; omega
            omega
      obtain ⟨k', e1, e2⟩ := ih (10 * s0 + l0 + 1) n (max k (ky s0 (lwN m) l0)) (by omega) (by omega) hRB
      · refine ⟨k', ?_, e2⟩
        rw [← e1]
        exact m_bet (fun a f l => fX9_tellsLongest_14 K ms mf x n a f l (nI (10 * s0 + l0 + 1))) (hk.1.imp id (fun ⟨s, f, l, a1, a2, a3⟩ => by
          have := row_k w a1 a2
          exact ⟨pcN s, f, l, this.1, this.2.1, this.2.2.1, this.2.2.2, a3⟩)) hb.1 hb.2.1 hb.2.2.1 hb.2.2.2
theorem m_best (w : WF ms) {k : Nat} (hk : BK (okP ms) (gn ms) k) (x : Int32) (mf : Nat → Int32) : ∃ mf', fX9_tellsLongest ms mf x = some ((if x = 0 then tA k else if x = (1 : Int32) then tF k else tL k), mf') := by
  obtain ⟨mf', r1, r2⟩ := lays_ok w mf
  have h10 := w.1.2
  have hp := p2_le h10
  obtain ⟨k', e1, e2⟩ := tl14 w x mf' r2 (fun (u2_14 : Int32) (u3_14 : Int32) (u4_14 : Int32) => (if x = 0 then (some (u2_14, mf')) else (if x = (1 : Int32) then (some (u3_14, mf')) else (some (u4_14, mf'))))) (10 * 2 ^ gn ms) 0 LF 0 (by omega) (by rw [LF_eq]; omega) ⟨Or.inl rfl, fun s f l _ h => by omega⟩
  have ek : k = k' := BK_u hk ⟨e2.1, fun s f l hs hr => e2.2 s f l hs (by have := row_k w hs hr; omega) hr⟩
  subst ek
  refine ⟨mf', ?_⟩
  unfold fX9_tellsLongest
  rw [r1, sb]
  refine Eq.trans e1 ?_
  by_cases h0 : x = 0
  · rw [if_pos h0, if_pos h0]
  · rw [if_neg h0, if_neg h0]
    by_cases h1 : x = (1 : Int32)
    · rw [if_pos h1, if_pos h1]
    · rw [if_neg h1, if_neg h1]
end Best2
