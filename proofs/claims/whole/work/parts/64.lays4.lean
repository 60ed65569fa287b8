/-! The reference's rows, from the start. -/
section Lays4
variable {ms kc : Nat → Int32}
theorem fo_ba : ∀ (c y : Nat) (mf : Nat → Int32) (s l : Nat), y + c ≤ 10 → l < 10 → fo (fun y s => upd s (10 * 2 ^ y + y) (nI (2 ^ y))) c y mf (10 * s + l) = if (y ≤ l ∧ l < y + c) ∧ s = 2 ^ l then nI (2 ^ l) else mf (10 * s + l)
  | 0, y, mf, s, l, _, _ => by rw [if_neg (by omega)]; rfl
  | c + 1, y, mf, s, l, h, hl => by
    rw [fo_succ, fo_ba c (y + 1) _ s l (by omega) hl]
    by_cases e : l = y
    · subst e
      rw [if_neg (by omega)]
      by_cases e2 : s = 2 ^ l
      · subst e2
        rw [pk_us, if_pos ⟨by omega, rfl⟩]
      · rw [pk_un (by omega), if_neg (fun q => e2 q.2)]
    · rw [pk_un (by omega)]
      simp only [show (y + 1 ≤ l ∧ l < y + 1 + c) ↔ (y ≤ l ∧ l < y + (c + 1)) from by omega]
theorem lays_ok (w : WF ms) (mf : Nat → Int32) : ∃ mf', fX9_laysRows ms mf = some mf' ∧ ∀ s l, s < 2 ^ gn ms → l < 10 → ∃ m, m < 1024 ∧ mf' (10 * s + l) = nI m ∧ ∀ f, m.testBit f = true ↔ RO (okP ms) (gn ms) s f l := by
  have h10 := w.1.2
  have hp := p2_le h10
  unfold fX9_laysRows
  have s1 : ∀ K : (Nat → Int32) → Option (Nat → Int32), fX9_laysRows_2 K ms LF (0 : Int32) mf = K (fo (fun k s => upd s (0 + k) ((fun _ => (0 : Int32)) k)) (10 * 2 ^ gn ms) 0 mf) := fun K => by
    refine m_loop1 (10 * 2 ^ gn ms) (by omega) (fun m s i => fX9_laysRows_2 K ms m (nI i) s) K (fun k s => upd s (0 + k) ((fun _ => (0 : Int32)) k)) (fun m s => ?_) (fun m s i hi => ?_) mf
    · show fX9_laysRows_2 _ _ (m + 1) _ s = _
      rw [fX9_laysRows_2, m_n w, sb, sh10 _ (by omega), ge_e (by omega)]
    · show fX9_laysRows_2 _ _ (m + 1) _ s = _
      rw [fX9_laysRows_2, m_n w, sb, sh10 _ (by omega), ge_n hi (by omega), aput_n (by omega) (by omega), sb, ia, Nat.zero_add]
  have s2 : ∀ (K : (Nat → Int32) → Option (Nat → Int32)) (mf : Nat → Int32), fX9_laysRows_30 K ms LF (0 : Int32) mf = K (fo (fun y s => upd s (10 * 2 ^ y + y) (nI (2 ^ y))) (gn ms) 0 mf) := fun K mf => by
    refine m_loop1 (gn ms) (by omega) (fun m s i => fX9_laysRows_30 K ms m (nI i) s) K (fun y s => upd s (10 * 2 ^ y + y) (nI (2 ^ y))) (fun m s => ?_) (fun m s i hi => ?_) mf
    · show fX9_laysRows_30 _ _ (m + 1) _ s = _
      rw [fX9_laysRows_30, m_n w, sb, ge_e (by omega)]
    · have : 2 ^ i < 2 ^ gn ms := Nat.pow_lt_pow_right (by omega) hi
      show fX9_laysRows_30 _ _ (m + 1) _ s = _
      rw [fX9_laysRows_30, m_n w, sb, ge_n hi (by omega), sh1 i (by omega), li 10, pk_mul, nI_add, aput_n (by omega) (by omega), sb, ia]
  rw [s1, s2]
  have g1 : ∀ j, fo (fun k s => upd s (0 + k) ((fun _ => (0 : Int32)) k)) (10 * 2 ^ gn ms) 0 mf j = if 0 + 0 ≤ j ∧ j < 0 + 0 + 10 * 2 ^ gn ms then 0 else mf j := fun j => fo_fill 0 (fun _ => (0 : Int32)) (10 * 2 ^ gn ms) 0 mf j
  generalize fo (fun k s => upd s (0 + k) ((fun _ => (0 : Int32)) k)) (10 * 2 ^ gn ms) 0 mf = mf0 at *
  obtain ⟨mf', r1, r2⟩ := l64 w (10 * 2 ^ gn ms) 0 LF (fo (fun y s => upd s (10 * 2 ^ y + y) (nI (2 ^ y))) (gn ms) 0 mf0) (by omega) (by rw [LF_eq]; omega) (by
    intro s l hs hl
    rw [fo_ba (gn ms) 0 mf0 s l (by omega) hl]
    by_cases q : (0 ≤ l ∧ l < 0 + gn ms) ∧ s = 2 ^ l
    · rw [if_pos q]
      have : 2 ^ l < 2 ^ 10 := Nat.pow_lt_pow_right (by omega) hl
      refine ⟨2 ^ l, by omega, rfl, fun f => ?_⟩
      rw [Nat.testBit_two_pow, decide_eq_true_eq]
      unfold CE
      constructor
      · intro e
        subst e
        exact Or.inl ⟨by omega, rfl, q.2⟩
      · rintro (⟨x1, x2, x3⟩ | ⟨s', x, a1, -⟩)
        · exact x2
        · omega
    · rw [if_neg q, g1, if_pos (by omega)]
      refine ⟨0, by omega, rfl, fun f => ?_⟩
      rw [Nat.zero_testBit]
      unfold CE
      constructor
      · intro e; exact absurd e (by simp)
      · rintro (⟨x1, x2, x3⟩ | ⟨s', x, a1, -⟩)
        · subst x2
          exact absurd ⟨by omega, x3⟩ q
        · omega)
  exact ⟨mf', r1, IV_end w r2⟩
end Lays4
