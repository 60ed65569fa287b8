/-! Numbers and sums over the receipts: both sides are one fold. -/
theorem one_ne : ¬ (1 : Int32) = 0 := by decide
theorem i_0 (x : Int32) : x + (0 : Int32) = x := by grind
theorem NF_congr {σ : Type} {ms : Nat → Int32} {st st' : Nat → Nat → σ → σ} (w : WF ms) (h : ∀ p r s, p < 10 → r < gc ms p → st p r s = st' p r s) (s : σ) : NF ms st s = NF ms st' s := by
  unfold NF
  have h10 := w.1.2
  refine fo_congr _ _ _ (fun p s _ hp => fo_congr _ _ _ (fun r s _ hr => h p r s (by omega) (by omega)))
section Tally
variable {ms kc : Nat → Int32}
theorem c60 {α : Type} {z : Nat} (hz : z < 60) {a b : α} : (if (60 : Int32) ≤ nI z then a else b) = b := if_neg (by rw [li 60]; exact nI_ge hz (by omega))
theorem c60e {α : Type} {a b : α} : (if (60 : Int32) ≤ nI 60 then a else b) = a := if_pos (by rw [li 60]; exact nI_le (Nat.le_refl _) (by omega))
theorem cu1 {z : Nat} (h : RC ms kc) (w : WF ms) (hz : z < 60) (hu : z % 6 < gc ms (z / 6)) : fX0_isUsed kc (nI z) = some 1 := by rw [c_used h w hz, if_pos hu]
theorem cu0 {z : Nat} (h : RC ms kc) (w : WF ms) (hz : z < 60) (hu : ¬ z % 6 < gc ms (z / 6)) : fX0_isUsed kc (nI z) = some 0 := by rw [c_used h w hz, if_neg hu]
theorem mN {α : Type} {p : Nat} (w : WF ms) (hp : p < gn ms) {a b : α} : (if nI (gn ms) ≤ nI p then a else b) = b := if_neg (nI_ge hp (by have := w.1.2; omega))
theorem mNe {α : Type} (w : WF ms) {a b : α} : (if nI (gn ms) ≤ nI (gn ms) then a else b) = a := if_pos (nI_le (Nat.le_refl _) (by have := w.1.2; omega))
theorem mC {α : Type} {p r : Nat} (w : WF ms) (hp : p < gn ms) (hr : r < gc ms p) {a b : α} : (if nI (gc ms p) ≤ nI r then a else b) = b := if_neg (nI_ge hr (by have := w.1.2; have := (w.2.1 p (by omega)).1.2; omega))
theorem mCe {α : Type} {p : Nat} (w : WF ms) (hp : p < gn ms) {a b : α} : (if nI (gc ms p) ≤ nI (gc ms p) then a else b) = a := if_pos (nI_le (Nat.le_refl _) (by have := w.1.2; have := (w.2.1 p (by omega)).1.2; omega))
theorem p10 {p : Nat} (w : WF ms) (hp : p < gn ms) : p < 10 := by have := w.1.2; omega
theorem r6 {p r : Nat} (w : WF ms) (hp : p < gn ms) (hr : r < gc ms p) : r < 6 := by have := (w.2.1 p (p10 w hp)).1.2; omega
theorem rv {p r : Nat} (w : WF ms) (hp : p < gn ms) (hr : r < gc ms p) : RV ms p r := w.2.2.2.2.2 p r (p10 w hp) hr
theorem ms_sum {p r : Nat} (w : WF ms) (hp : p < gn ms) (hr : r < gc ms p) : fX9_sumOf ms (nI p) (nI r) = some (sI ms p r) := m_sum (p10 w hp) (r6 w hp hr) (rv w hp hr).2.2.1.1 (rv w hp hr).2.2.1.2.2
theorem ms_kind {p r : Nat} (w : WF ms) (hp : p < gn ms) (hr : r < gc ms p) : fX9_stateOf ms (nI p) (nI r) = some (kI ms p r) := m_state (p10 w hp) (r6 w hp hr) (rv w hp hr)
/-! sums by shops and hours -/
def shS (ms : Nat → Int32) (x1 x2 : Int32) (p r : Nat) (s : Int32) : Int32 := if x1 = (-1 : Int32) ∨ ms (pl p r + 1) = x1 then (if x2 = (-1 : Int32) ∨ hrI ms p r = x2 then s + sI ms p r else s) else s
theorem c_shs (h : RC ms kc) (w : WF ms) (x1 x2 : Int32) : fX7_shopHourSum kc x1 x2 = some (NF ms (shS ms x1 x2) 0) := by
  unfold fX7_shopHourSum
  refine c_loop60 w (fun n s z => fX7_shopHourSum_5 (fun u => some u) kc x1 x2 n s (nI z)) (fun u => some u) (shS ms x1 x2) (fun n s => ?_) (fun n s z hz hu => ?_) (fun n s z hz hu => ?_) 0
  · show fX7_shopHourSum_5 _ _ _ _ (n + 1) s _ = _
    rw [fX7_shopHourSum_5, c60e]
  · show fX7_shopHourSum_5 _ _ _ _ (n + 1) s _ = _
    rw [fX7_shopHourSum_5, c60 hz, cu1 h w hz hu, sb, if_neg one_ne, c_shop h hz hu, c_hour h hz hu, c_sum h w hz hu]
    simp only [sb, ia]
    unfold shS
    by_cases a : x1 = (-1 : Int32) <;> by_cases b : x2 = (-1 : Int32) <;> by_cases c : ms (pl (z / 6) (z % 6) + 1) = x1 <;> by_cases d : hrI ms (z / 6) (z % 6) = x2 <;> simp only [a, b, c, d, if_true, if_false, true_or, or_true, or_false, false_or, or_self, if_pos, if_neg] <;> simp_all
  · show fX7_shopHourSum_5 _ _ _ _ (n + 1) s _ = _
    rw [fX7_shopHourSum_5, c60 hz, cu0 h w hz hu, sb, if_pos rfl, ia]
theorem m_shs (w : WF ms) (x1 x2 : Int32) : fX9_sumBy ms x1 x2 = some (NF ms (shS ms x1 x2) 0) := by
  unfold fX9_sumBy
  refine m_loop2 w (fun n s p => fX9_sumBy_5 (fun u => some u) ms x1 x2 n s (nI p)) (fun k' p m s r => fX9_sumBy_19 k' ms x1 x2 (nI p) m s (nI r)) (fun u => some u) (shS ms x1 x2) (fun n s => ?_) (fun n s p hp => ?_) (fun k' p m s hp => ?_) (fun k' p m s r hp hr => ?_) 0
  · show fX9_sumBy_5 _ _ _ _ (n + 1) s _ = _
    rw [fX9_sumBy_5, m_n w, sb, mNe w]
  · show fX9_sumBy_5 _ _ _ _ (n + 1) s _ = _
    rw [fX9_sumBy_5, m_n w, sb, mN w hp]
    simp only [ia]
    rfl
  · show fX9_sumBy_19 _ _ _ _ _ (m + 1) s _ = _
    rw [fX9_sumBy_19, m_cnt w (p10 w hp), sb, mCe w hp]
  · show fX9_sumBy_19 _ _ _ _ _ (m + 1) s _ = _
    rw [fX9_sumBy_19, m_cnt w (p10 w hp), sb, mC w hp hr, m_shop (p10 w hp) (r6 w hp hr), m_hour (p10 w hp) (r6 w hp hr), ms_sum w hp hr]
    simp only [sb, ia, i_0]
    unfold shS
    by_cases a : x1 = (-1 : Int32) <;> by_cases b : x2 = (-1 : Int32) <;> by_cases c : ms (pl p r + 1) = x1 <;> by_cases d : hrI ms p r = x2 <;> simp only [a, b, c, d, if_true, if_false, true_or, or_true, or_false, false_or, or_self, if_pos, if_neg] <;> simp_all
end Tally
