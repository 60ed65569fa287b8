/-! The actual changes. -/
section Acts
variable {ms ms' kc kc' : Nat → Int32}
theorem c_sa {a i : Nat} {x : Int32} (h : a + i < 531) : fX0_set kc (nI a + nI i) x = some (upd kc (a + i) x) := by rw [nI_add, c_set h]
theorem c_addPiece (h : RC ms kc) (w : WF ms) (h9 : gn ms < 10) (a b : Int32) : fX0_addPiece kc a b = some (nI (gn ms), addC ms kc a b) := by
  unfold fX0_addPiece
  rw [c_pieces w h, sb, li 1, c_sa (by omega), sb, li 11, c_sa (by omega), sb, li 21, c_sa (by omega), sb, li 31, c_sa (by omega), sb, li 41, c_sa (by omega), sb, li 0, c_set (by omega), sb, nI_add]
  rfl
theorem c_link {u l : Nat} (hu : u < 10) (hl : l < 10) : fX0_link kc (nI u) (nI l) = some (lkC kc u l (nI l) (nI u)) := by
  unfold fX0_link
  rw [li 31, c_sa (by omega), sb, li 21, c_sa (by omega), sb]
  rfl
theorem c_unlink {u l : Nat} (hu : u < 10) (hl : l < 10) : fX0_unlink kc (nI u) (nI l) = some (lkC kc u l (-1) (-1)) := by
  unfold fX0_unlink
  rw [li 31, c_sa (by omega), sb, li 21, c_sa (by omega), sb]
  rfl
theorem m_lay {p f : Nat} {x : Int32} (h : 1 + 5 * p + f < 531) : fX9_lay ms (nI p) (nI f) x = some (upd ms (1 + 5 * p + f) x) := by
  unfold fX9_lay
  rw [ar_of, aput_n h (by omega), sb]
theorem m_joins {u l : Nat} (hu : u < 10) (hl : l < 10) : fX9_joins ms (nI u) (nI l) = some (lkM ms u l (nI (l + 1)) (nI (u + 1))) := by
  unfold fX9_joins
  rw [ia, ia, li 4, m_lay (by omega), sb, li 3, m_lay (by omega), sb]
  unfold lkM
  rw [show 1 + 5 * u + 4 = 5 * u + 5 by omega, show 1 + 5 * l + 3 = 5 * l + 4 by omega]
theorem link_ok (w : WF ms) (c : RC ms kc) {u l : Nat} (hu : u < gn ms) (hl : l < gn ms) (h1 : gl ms u = 0) (h2 : gu ms l = 0) (h3 : root ms u ≠ l) : WF (lkM ms u l (nI (l + 1)) (nI (u + 1))) ∧ RC (lkM ms u l (nI (l + 1)) (nI (u + 1))) (lkC kc u l (nI l) (nI u)) := by
  refine ⟨link_wf w hu hl h1 h2 h3, ?_⟩
  have := lk_rc w c hu hl (nI (l + 1)) (nI (u + 1))
  rw [nI_pred, nI_pred] at this
  exact this
theorem part_ok (w : WF ms) (c : RC ms kc) {u l : Nat} (hu : u < gn ms) (hl : l < gn ms) (h1 : gl ms u = l + 1) : WF (lkM ms u l (nI 0) (nI 0)) ∧ RC (lkM ms u l (nI 0) (nI 0)) (lkC kc u l (-1) (-1)) :=
  ⟨part_wf w hu hl h1, lk_rc w c hu hl (nI 0) (nI 0)⟩
theorem RV_congr {p r : Nat} (h : ∀ k, k < 8 → ms' (pl p r + k) = ms (pl p r + k)) (v : RV ms p r) : RV ms' p r ∧ gi ms' p r = gi ms p r := by
  have e : gi ms' p r = gi ms p r := by unfold gi; rw [h 2 (by omega)]
  refine ⟨?_, e⟩
  obtain ⟨v1, v2, v3, v4, v5⟩ := v
  have h0 : ms' (pl p r) = ms (pl p r) := h 0 (by omega)
  refine ⟨by rw [h0]; exact v1, by rw [h 1 (by omega)]; exact v2, by rw [h 2 (by omega), e]; exact v3, fun k hk => ?_, by rw [h 7 (by omega)]; exact v5⟩
  rw [e] at hk
  have := v4 k hk
  rw [show pl p r + 3 + k = pl p r + (3 + k) by omega] at this ⊢
  rw [h (3 + k) (by omega)]
  exact this
/-- what the class keeps of one receipt -/
def RQ (ms kc : Nat → Int32) (p r : Nat) : Prop := kc (51 + (6 * p + r)) = ms (pl p r) ∧ kc (111 + (6 * p + r)) = ms (pl p r + 1) ∧ kc (171 + (6 * p + r)) = ms (pl p r + 7) ∧ kc (231 + (6 * p + r)) = ms (pl p r + 2) ∧ ∀ k, k < gi ms p r → kc (291 + 4 * (6 * p + r) + k) = ms (pl p r + 3 + k)
/-- receipts of one piece change: its number, and one place -/
theorem rec_ok (w : WF ms) (c : RC ms kc) {p t n : Nat} (hp : p < gn ms) (hn : n ≤ 6) (ht : t < 6)
    (h1 : ms' (5 * p + 3) = nI n) (h2 : ∀ j, j < 531 → j ≠ 5 * p + 3 → (j < pl p t ∨ pl p t + 8 ≤ j) → ms' j = ms j)
    (h3 : ∀ r, r < n → r ≠ t → r < gc ms p) (h4 : t < n → RV ms' p t ∧ RQ ms' kc' p t)
    (k1 : kc' (41 + p) = nI n)
    (k2 : ∀ j, j < 531 → j ≠ 41 + p → j ≠ 51 + (6 * p + t) → j ≠ 111 + (6 * p + t) → j ≠ 171 + (6 * p + t) → j ≠ 231 + (6 * p + t) → (j < 291 + 4 * (6 * p + t) ∨ 291 + 4 * (6 * p + t) + 4 ≤ j) → kc' j = kc j) : WF ms' ∧ RC ms' kc' := by
  have h10 := w.1.2
  have ht' : 51 ≤ pl p t := by unfold pl; omega
  have a0 : gn ms' = gn ms := by unfold gn; rw [h2 0 (by omega) (by omega) (by omega)]
  have a1 : ∀ q, q < 10 → q ≠ p → gc ms' q = gc ms q := fun q hq hne => by unfold gc; rw [h2 _ (by omega) (by omega) (by omega)]
  have a1p : gc ms' p = n := by unfold gc; rw [h1, nN (by omega)]
  have a2 : ∀ q, q < 10 → gu ms' q = gu ms q := fun q hq => by unfold gu; rw [h2 _ (by omega) (by omega) (by omega)]
  have a3 : ∀ q, q < 10 → gl ms' q = gl ms q := fun q hq => by unfold gl; rw [h2 _ (by omega) (by omega) (by omega)]
  have aC : ∀ q r k, q < 10 → r < 6 → ¬ (q = p ∧ r = t) → k < 8 → ms' (pl q r + k) = ms (pl q r + k) := by
    intro q r k hq hr hne hk
    have hb := pl_b hq hr
    refine h2 _ (by omega) (by omega) ?_
    unfold pl
    rcases Nat.lt_trichotomy q p with e | e | e
    · omega
    · subst e
      have : r ≠ t := fun e => hne ⟨rfl, e⟩
      omega
    · omega
  obtain ⟨⟨w0, w1⟩, w2, w3, w4, ⟨ρ, w5⟩, w6⟩ := w
  obtain ⟨c1, c2, c3, c4⟩ := c
  refine ⟨⟨⟨by rw [h2 0 (by omega) (by omega) (by omega), a0, w0], by rw [a0]; exact w1⟩, fun q hq => ?_, fun q hq hge => ?_, fun q q' hq hq' => ?_, ⟨ρ, fun q q' hq hq' => ?_⟩, fun q r hq hr => ?_⟩, ?_, fun q hq => ?_, fun q hq => ?_, fun q r hq hr => ?_⟩
  · have b := w2 q hq
    refine ⟨?_, ?_⟩
    · by_cases e : q = p
      · subst e; rw [a1p, h1]; exact ⟨rfl, hn⟩
      · rw [a1 q hq e, h2 _ (by omega) (by omega) (by omega)]; exact b.1
    · rw [a0, a2 q hq, a3 q hq, h2 _ (by omega) (by omega) (by omega), h2 _ (by omega) (by omega) (by omega)]; exact b.2
  · rw [a0] at hge
    rw [a1 q hq (by omega), a2 q hq, a3 q hq]; exact w3 q hq hge
  · rw [a0] at hq hq'
    rw [a3 q (by omega), a2 q' (by omega)]; exact w4 q q' hq hq'
  · rw [a0] at hq
    rw [a2 q (by omega)] at hq'
    exact w5 q q' hq hq'
  · by_cases e : q = p ∧ r = t
    · obtain ⟨rfl, rfl⟩ := e
      rw [a1p] at hr
      exact (h4 hr).1
    · have hr' : r < gc ms q := by
        by_cases e2 : q = p
        · subst e2
          rw [a1p] at hr
          exact h3 r hr (fun x => e ⟨rfl, x⟩)
        · rw [a1 q hq e2] at hr; exact hr
      have h6 := (w2 q hq).1.2
      exact (RV_congr (fun k hk => aC q r k hq (by omega) e hk) (w6 q r hq hr')).1
  · rw [h2 0 (by omega) (by omega) (by omega), k2 0 (by omega) (by omega) (by omega) (by omega) (by omega) (by omega) (by omega)]; exact c1
  · by_cases e : q = p
    · subst e; rw [k1, h1]
    · rw [h2 _ (by omega) (by omega) (by omega), k2 _ (by omega) (by omega) (by omega) (by omega) (by omega) (by omega) (by omega)]; exact c2 q hq
  · rw [a0] at hq
    rw [h2 _ (by omega) (by omega) (by omega), h2 _ (by omega) (by omega) (by omega), h2 _ (by omega) (by omega) (by omega), h2 _ (by omega) (by omega) (by omega),
      k2 _ (by omega) (by omega) (by omega) (by omega) (by omega) (by omega) (by omega), k2 _ (by omega) (by omega) (by omega) (by omega) (by omega) (by omega) (by omega), k2 _ (by omega) (by omega) (by omega) (by omega) (by omega) (by omega) (by omega), k2 _ (by omega) (by omega) (by omega) (by omega) (by omega) (by omega) (by omega)]
    exact c3 q hq
  · by_cases e : q = p ∧ r = t
    · obtain ⟨rfl, rfl⟩ := e
      rw [a1p] at hr
      exact (h4 hr).2
    · have hr' : r < gc ms q := by
        by_cases e2 : q = p
        · subst e2
          rw [a1p] at hr
          exact h3 r hr (fun x => e ⟨rfl, x⟩)
        · rw [a1 q hq e2] at hr; exact hr
      have h6 := (w2 q hq).1.2
      have hne : 6 * q + r ≠ 6 * p + t := by
        intro x
        exact e ⟨by omega, by omega⟩
      have v := w6 q r hq hr'
      have v4 := v.2.2.1.2.2
      have eg := (RV_congr (fun k hk => aC q r k hq (by omega) e hk) v).2
      obtain ⟨d1, d2, d3, d4, d5⟩ := c4 q r hq hr'
      have b0 := aC q r 0 hq (by omega) e (by omega)
      rw [Nat.add_zero] at b0
      have hz : 6 * q + r < 60 := by omega
      have hy : 6 * p + t < 60 := by omega
      generalize 6 * q + r = z at *
      generalize 6 * p + t = y at *
      refine ⟨?_, ?_, ?_, ?_, fun k hk => ?_⟩
      · rw [b0, k2 _ (by omega) (by omega) (by omega) (by omega) (by omega) (by omega) (by omega)]; exact d1
      · rw [aC q r 1 hq (by omega) e (by omega), k2 _ (by omega) (by omega) (by omega) (by omega) (by omega) (by omega) (by omega)]; exact d2
      · rw [aC q r 7 hq (by omega) e (by omega), k2 _ (by omega) (by omega) (by omega) (by omega) (by omega) (by omega) (by omega)]; exact d3
      · rw [aC q r 2 hq (by omega) e (by omega), k2 _ (by omega) (by omega) (by omega) (by omega) (by omega) (by omega) (by omega)]; exact d4
      · rw [eg] at hk
        rw [show pl q r + 3 + k = pl q r + (3 + k) by omega, aC q r (3 + k) hq (by omega) e (by omega), k2 _ (by omega) (by omega) (by omega) (by omega) (by omega) (by omega) (by omega)]
        have := d5 k hk
        rw [show pl q r + 3 + k = pl q r + (3 + k) by omega] at this
        exact this
end Acts
