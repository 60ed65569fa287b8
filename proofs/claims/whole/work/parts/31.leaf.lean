/-! What the small methods answer. -/
def oI (u : Nat) : Int32 := nI u - 1
theorem oI_0 : oI 0 = (-1 : Int32) := rfl
theorem oI_s (q : Nat) : oI (q + 1) = nI q := by
  unfold oI
  exact nI_pred q
theorem nI_m1 {n : Nat} (h : n < 2 ^ 31) : nI n ≠ (-1 : Int32) := by
  intro e
  have e2 := congrArg Int32.toInt e
  rw [nI_toInt h] at e2
  have : ((-1 : Int32)).toInt = -1 := rfl
  omega
theorem oI_m1 {u : Nat} (h : u < 2 ^ 31) : oI u = (-1 : Int32) ↔ u = 0 := by
  cases u with
  | zero => exact ⟨fun _ => rfl, fun _ => rfl⟩
  | succ q => rw [oI_s]; exact ⟨fun e => absurd e (nI_m1 (by omega)), fun e => by omega⟩
def sI (ms : Nat → Int32) (p r : Nat) : Int32 := fo (fun k s => s + ms (pl p r + 3 + k)) (gi ms p r) 0 0
def pgI (ms : Nat → Int32) (p r : Nat) : Int32 := (ms (pl p r) + (720 : Int32)) / (1440 : Int32)
def hrI (ms : Nat → Int32) (p r : Nat) : Int32 := (ms (pl p r) / (60 : Int32)) - (ms (pl p r) / (60 : Int32)) / (24 : Int32) * (24 : Int32)
section LeafM
variable {ms : Nat → Int32} {p r : Nat}
theorem ar_of (p w : Nat) : (1 : Int32) + (5 : Int32) * nI p + nI w = nI (1 + 5 * p + w) := by rw [li 5, pk_mul, li 1, nI_add, nI_add]
theorem m_of {w : Nat} (h : 1 + 5 * p + w < 531) : fX9_of ms (nI p) (nI w) = some (ms (1 + 5 * p + w)) := by
  unfold fX9_of
  rw [ar_of, aget_n h (by omega)]
  rfl
theorem m_n (w : WF ms) : aget ms 531 (0 : Int32) = some (nI (gn ms)) := by
  rw [li 0, aget_n (by omega) (by omega), ← w.1.1]
theorem m_abv (h : p < 10) : fX9_of ms (nI p) (0 : Int32) = some (ms (5 * p + 1)) := by
  have e := m_of (ms := ms) (p := p) (w := 0) (by omega)
  rw [show 1 + 5 * p + 0 = 5 * p + 1 by omega] at e
  exact e
theorem m_blw (h : p < 10) : fX9_of ms (nI p) (1 : Int32) = some (ms (5 * p + 2)) := by
  have e := m_of (ms := ms) (p := p) (w := 1) (by omega)
  rw [show 1 + 5 * p + 1 = 5 * p + 2 by omega] at e
  exact e
theorem m_cnt (w : WF ms) (h : p < 10) : fX9_of ms (nI p) (2 : Int32) = some (nI (gc ms p)) := by
  have e := m_of (ms := ms) (p := p) (w := 2) (by omega)
  rw [show 1 + 5 * p + 2 = 5 * p + 3 by omega, (w.2.1 p h).1.1] at e
  exact e
theorem m_up (w : WF ms) (h : p < 10) : fX9_upperOf ms (nI p) = some (oI (gu ms p)) := by
  have e := m_of (ms := ms) (p := p) (w := 3) (by omega)
  rw [show 1 + 5 * p + 3 = 5 * p + 4 by omega, (w.2.1 p h).2.1.1] at e
  unfold fX9_upperOf
  rw [show fX9_of ms (nI p) (3 : Int32) = some (nI (gu ms p)) from e]
  rfl
theorem m_lo (w : WF ms) (h : p < 10) : fX9_lowerOf ms (nI p) = some (oI (gl ms p)) := by
  have e := m_of (ms := ms) (p := p) (w := 4) (by omega)
  rw [show 1 + 5 * p + 4 = 5 * p + 5 by omega, (w.2.1 p h).2.2.1] at e
  unfold fX9_lowerOf
  rw [show fX9_of ms (nI p) (4 : Int32) = some (nI (gl ms p)) from e]
  rfl
theorem m_place : fX9_placeOf (nI p) (nI r) = some (nI (pl p r)) := by
  unfold fX9_placeOf
  rw [li 6, pk_mul, nI_add, li 8, pk_mul, li 51, nI_add]
  rfl
theorem m_cell {a : Nat} (hp : p < 10) (hr : r < 6) (ha : a < 8) : aget ms 531 (nI (pl p r) + nI a) = some (ms (pl p r + a)) := by
  rw [nI_add, aget_n (by unfold pl; omega) (by omega)]
theorem m_time (hp : p < 10) (hr : r < 6) : fX9_timeOf ms (nI p) (nI r) = some (ms (pl p r)) := by
  unfold fX9_timeOf
  rw [m_place, sb, li 0, m_cell hp hr (by omega)]
  rfl
theorem m_shop (hp : p < 10) (hr : r < 6) : fX9_shopOf ms (nI p) (nI r) = some (ms (pl p r + 1)) := by
  unfold fX9_shopOf
  rw [m_place, sb, li 1, m_cell hp hr (by omega)]
  rfl
theorem m_tot (hp : p < 10) (hr : r < 6) : fX9_totalOf ms (nI p) (nI r) = some (ms (pl p r + 7)) := by
  unfold fX9_totalOf
  rw [m_place, sb, li 7, m_cell hp hr (by omega)]
  rfl
theorem m_page (hp : p < 10) (hr : r < 6) : fX9_pageOf ms (nI p) (nI r) = some (pgI ms p r) := by
  unfold fX9_pageOf
  rw [m_time hp hr]
  rfl
theorem m_hour (hp : p < 10) (hr : r < 6) : fX9_hourOf ms (nI p) (nI r) = some (hrI ms p r) := by
  unfold fX9_hourOf
  rw [m_time hp hr]
  rfl
theorem m_sum (hp : p < 10) (hr : r < 6) (h : ms (pl p r + 2) = nI (gi ms p r)) (h4 : gi ms p r ≤ 4) : fX9_sumOf ms (nI p) (nI r) = some (sI ms p r) := by
  unfold fX9_sumOf
  rw [m_place, sb]
  have e := m_loop1 (gi ms p r) (by omega) (fun n s i => fX9_sumOf_12 (fun u => some u) ms (nI (pl p r)) n s (nI i)) (fun u => some u) (fun k s => s + ms (pl p r + 3 + k)) (fun n s => by
    show fX9_sumOf_12 _ _ _ (n + 1) s _ = _
    rw [fX9_sumOf_12, li 2, m_cell hp hr (by omega), sb, h, if_pos (nI_le (Nat.le_refl _) (by omega))]) (fun n s i hi => by
    show fX9_sumOf_12 _ _ _ (n + 1) s _ = _
    rw [fX9_sumOf_12, li 2, m_cell hp hr (by omega), sb, h, if_neg (nI_ge hi (by omega)), li 3, nI_add, nI_add, aget_n (by unfold pl; omega) (by omega), sb, ia]) 0
  exact e
end LeafM
section LeafC
variable {ms kc : Nat → Int32} {p r z : Nat}
theorem c_ga (a : Nat) {i : Nat} (h : a + i < 531) : fX0_get kc (nI a + nI i) = some (kc (a + i)) := by rw [nI_add, c_get h]
theorem c_pieces (w : WF ms) (h : RC ms kc) : fX0_pieces kc = some (nI (gn ms)) := by
  unfold fX0_pieces
  rw [li 0, c_get (by omega), h.1, w.1.1]
  rfl
theorem c_abv (h : RC ms kc) (w : WF ms) (hp : p < gn ms) : fX0_get kc ((1 : Int32) + nI p) = some (ms (5 * p + 1)) := by
  have := w.1.2
  rw [li 1, c_ga 1 (by omega), (h.2.2.1 p hp).1]
theorem c_blw (h : RC ms kc) (w : WF ms) (hp : p < gn ms) : fX0_get kc ((11 : Int32) + nI p) = some (ms (5 * p + 2)) := by
  have := w.1.2
  rw [li 11, c_ga 11 (by omega), (h.2.2.1 p hp).2.1]
theorem c_up (h : RC ms kc) (w : WF ms) (hp : p < gn ms) : fX0_get kc ((21 : Int32) + nI p) = some (oI (gu ms p)) := by
  have h10 := w.1.2
  rw [li 21, c_ga 21 (by omega), (h.2.2.1 p hp).2.2.1, (w.2.1 p (by omega)).2.1.1]
  rfl
theorem c_lo (h : RC ms kc) (w : WF ms) (hp : p < gn ms) : fX0_get kc ((31 : Int32) + nI p) = some (oI (gl ms p)) := by
  have h10 := w.1.2
  rw [li 31, c_ga 31 (by omega), (h.2.2.1 p hp).2.2.2, (w.2.1 p (by omega)).2.2.1]
  rfl
theorem c_cnt (h : RC ms kc) (w : WF ms) (hp : p < 10) : fX0_get kc ((41 : Int32) + nI p) = some (nI (gc ms p)) := by
  rw [li 41, c_ga 41 (by omega), h.2.1 p hp, (w.2.1 p hp).1.1]
theorem c_recs (h : RC ms kc) (w : WF ms) (hp : p < 10) : fX0_receiptsOf kc (nI p) = some (nI (gc ms p)) := by
  unfold fX0_receiptsOf
  rw [c_cnt h w hp]
  rfl
theorem c_slotOf : fX0_slotOf (nI p) (nI r) = some (nI (6 * p + r)) := by
  unfold fX0_slotOf
  rw [li 6, pk_mul, nI_add, Nat.mul_comm]
theorem c_pieceOf (h : z < 60) : fX0_pieceOfSlot (nI z) = some (nI (z / 6)) := by
  unfold fX0_pieceOfSlot
  rw [li 6, pk_div (by omega) (by omega) (by omega)]
theorem c_numOf (h : z < 60) : fX0_numberOfSlot (nI z) = some (nI (z % 6)) := by
  unfold fX0_numberOfSlot
  rw [li 6, pk_rem (by omega) (by omega) (by omega)]
theorem c_used (h : RC ms kc) (w : WF ms) (hz : z < 60) : fX0_isUsed kc (nI z) = some (if z % 6 < gc ms (z / 6) then 1 else 0) := by
  unfold fX0_isUsed
  have h6 := (w.2.1 (z / 6) (by omega)).1.2
  rw [show nI z / (6 : Int32) = nI (z / 6) from pk_div (a := z) (d := 6) (by omega) (by omega) (by omega), c_cnt h w (by omega), sb, show nI z - nI (z / 6) * (6 : Int32) = nI (z % 6) from by rw [← pk_rem (a := z) (d := 6) (by omega) (by omega) (by omega), pk_div (a := z) (d := 6) (by omega) (by omega) (by omega)]; rfl]
  by_cases hu : z % 6 < gc ms (z / 6)
  · rw [if_neg (nI_ge hu (by omega)), if_pos hu]
  · rw [if_pos (nI_le (by omega) (by omega)), if_neg hu]
/-- a used slot's receipt -/
theorem rcz (h : RC ms kc) (hz : z < 60) (hu : z % 6 < gc ms (z / 6)) : kc (51 + z) = ms (pl (z / 6) (z % 6)) ∧ kc (111 + z) = ms (pl (z / 6) (z % 6) + 1) ∧ kc (171 + z) = ms (pl (z / 6) (z % 6) + 7) ∧ kc (231 + z) = ms (pl (z / 6) (z % 6) + 2) ∧ ∀ k, k < gi ms (z / 6) (z % 6) → kc (291 + 4 * z + k) = ms (pl (z / 6) (z % 6) + 3 + k) := by
  have e := h.2.2.2 (z / 6) (z % 6) (by omega) hu
  rw [show 6 * (z / 6) + z % 6 = z by omega] at e
  exact e
theorem wfr (w : WF ms) (hz : z < 60) (hu : z % 6 < gc ms (z / 6)) : RV ms (z / 6) (z % 6) := w.2.2.2.2.2 _ _ (by omega) hu
theorem c_time (h : RC ms kc) (hz : z < 60) (hu : z % 6 < gc ms (z / 6)) : fX0_get kc ((51 : Int32) + nI z) = some (ms (pl (z / 6) (z % 6))) := by
  rw [li 51, c_ga 51 (by omega), (rcz h hz hu).1]
theorem c_shop (h : RC ms kc) (hz : z < 60) (hu : z % 6 < gc ms (z / 6)) : fX0_get kc ((111 : Int32) + nI z) = some (ms (pl (z / 6) (z % 6) + 1)) := by
  rw [li 111, c_ga 111 (by omega), (rcz h hz hu).2.1]
theorem c_tot (h : RC ms kc) (hz : z < 60) (hu : z % 6 < gc ms (z / 6)) : fX0_get kc ((171 : Int32) + nI z) = some (ms (pl (z / 6) (z % 6) + 7)) := by
  rw [li 171, c_ga 171 (by omega), (rcz h hz hu).2.2.1]
theorem c_its (h : RC ms kc) (w : WF ms) (hz : z < 60) (hu : z % 6 < gc ms (z / 6)) : fX0_get kc ((231 : Int32) + nI z) = some (nI (gi ms (z / 6) (z % 6))) := by
  rw [li 231, c_ga 231 (by omega), (rcz h hz hu).2.2.2.1, (wfr w hz hu).2.2.1.1]
theorem c_item (h : RC ms kc) (w : WF ms) (hz : z < 60) (hu : z % 6 < gc ms (z / 6)) {k : Nat} (hk : k < gi ms (z / 6) (z % 6)) : fX0_get kc ((291 : Int32) + nI z * (4 : Int32) + nI k) = some (ms (pl (z / 6) (z % 6) + 3 + k)) := by
  have h4 := (wfr w hz hu).2.2.1.2.2
  rw [li 4, pk_mul, li 291, nI_add, nI_add, c_get (by omega), ← (rcz h hz hu).2.2.2.2 k hk, Nat.mul_comm]
theorem c_sum (h : RC ms kc) (w : WF ms) (hz : z < 60) (hu : z % 6 < gc ms (z / 6)) : fX0_sumOf kc (nI z) = some (sI ms (z / 6) (z % 6)) := by
  have h4 := (wfr w hz hu).2.2.1.2.2
  unfold fX0_sumOf
  rw [c_its h w hz hu, sb]
  exact m_loop1 (gi ms (z / 6) (z % 6)) (by omega) (fun n s i => fX0_sumOf_15 (fun u => some u) kc (nI z) (nI (gi ms (z / 6) (z % 6))) n s (nI i)) (fun u => some u) (fun k s => s + ms (pl (z / 6) (z % 6) + 3 + k)) (fun n s => by
    show fX0_sumOf_15 _ _ _ _ (n + 1) s _ = _
    rw [fX0_sumOf_15, if_pos (nI_le (Nat.le_refl _) (by omega))]) (fun n s i hi => by
    show fX0_sumOf_15 _ _ _ _ (n + 1) s _ = _
    rw [fX0_sumOf_15, if_neg (nI_ge hi (by omega)), c_item h w hz hu hi, sb, ia]) 0
theorem c_page (h : RC ms kc) (hz : z < 60) (hu : z % 6 < gc ms (z / 6)) : fX0_pageOfSlot kc (nI z) = some (pgI ms (z / 6) (z % 6)) := by
  unfold fX0_pageOfSlot
  rw [c_time h hz hu]
  rfl
theorem c_hour (h : RC ms kc) (hz : z < 60) (hu : z % 6 < gc ms (z / 6)) : fX0_hourOfSlot kc (nI z) = some (hrI ms (z / 6) (z % 6)) := by
  unfold fX0_hourOfSlot
  rw [c_time h hz hu]
  rfl
end LeafC
