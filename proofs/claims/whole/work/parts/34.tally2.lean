/-! Kinds, likes, hidden money, pages. -/
section Tally2
variable {ms kc : Nat → Int32}
def kS (ms : Nat → Int32) (k : Int32) (p r : Nat) (s : Int32) : Int32 := if kI ms p r = k then s + 1 else s
theorem c_kinds (h : RC ms kc) (w : WF ms) (k : Int32) : fX7_receiptsOfKind kc k = some (NF ms (kS ms k) 0) := by
  unfold fX7_receiptsOfKind
  refine c_loop60 w (fun n s z => fX7_receiptsOfKind_4 (fun u => some u) kc k n s (nI z)) (fun u => some u) (kS ms k) (fun n s => ?_) (fun n s z hz hu => ?_) (fun n s z hz hu => ?_) 0
  · show fX7_receiptsOfKind_4 _ _ _ (n + 1) s _ = _
    rw [fX7_receiptsOfKind_4, c60e]
  · show fX7_receiptsOfKind_4 _ _ _ (n + 1) s _ = _
    rw [fX7_receiptsOfKind_4, c60 hz, cu1 h w hz hu, sb, if_neg one_ne, c_kind h w hz hu, sb]
    simp only [ia]
    unfold kS
    by_cases a : kI ms (z / 6) (z % 6) = k <;> simp [a]
  · show fX7_receiptsOfKind_4 _ _ _ (n + 1) s _ = _
    rw [fX7_receiptsOfKind_4, c60 hz, cu0 h w hz hu, sb, if_pos rfl, ia]
def inS (_ _ : Nat) (s : Int32) : Int32 := s + 1
def alS (ms : Nat → Int32) (p0 r0 : Nat) (p r : Nat) (s : Int32) : Int32 := if p = p0 then s else if ms (pl p r) = ms (pl p0 r0) then (if ms (pl p r + 1) = ms (pl p0 r0 + 1) then (if sI ms p r = sI ms p0 r0 then s + 1 else s) else s) else s
theorem c_alike (h : RC ms kc) (w : WF ms) {z0 : Nat} (hz0 : z0 < 60) (hu0 : z0 % 6 < gc ms (z0 / 6)) : fX7_alikeTo kc (nI z0) = some (NF ms (alS ms (z0 / 6) (z0 % 6)) 0) := by
  unfold fX7_alikeTo
  rw [c_time h hz0 hu0, sb, c_shop h hz0 hu0, sb, c_sum h w hz0 hu0, sb]
  refine c_loop60 w (fun n s z => fX7_alikeTo_31 (fun u => some u) kc (nI z0) (ms (pl (z0 / 6) (z0 % 6))) (ms (pl (z0 / 6) (z0 % 6) + 1)) (sI ms (z0 / 6) (z0 % 6)) n s (nI z)) (fun u => some u) (alS ms (z0 / 6) (z0 % 6)) (fun n s => ?_) (fun n s z hz hu => ?_) (fun n s z hz hu => ?_) 0
  · show fX7_alikeTo_31 _ _ _ _ _ _ (n + 1) s _ = _
    rw [fX7_alikeTo_31, c60e]
  · show fX7_alikeTo_31 _ _ _ _ _ _ (n + 1) s _ = _
    rw [fX7_alikeTo_31, c60 hz, c_time h hz hu, c_shop h hz hu, cu1 h w hz hu, c_pieceOf hz, c_pieceOf hz0, c_sum h w hz hu]
    simp only [sb, ia, show (nI (z / 6) = nI (z0 / 6)) ↔ (z / 6 = z0 / 6) from nI_eq (by omega) (by omega), one_ne, if_false]
    unfold alS
    generalize ms (pl (z / 6) (z % 6) + 1) = g2
    generalize ms (pl (z / 6) (z % 6)) = g1
    generalize sI ms (z / 6) (z % 6) = g3
    by_cases a : z / 6 = z0 / 6 <;> by_cases b : g1 = ms (pl (z0 / 6) (z0 % 6)) <;> by_cases c : g2 = ms (pl (z0 / 6) (z0 % 6) + 1) <;> by_cases d : g3 = sI ms (z0 / 6) (z0 % 6) <;> simp only [a, b, c, d, if_true, if_false]
  · show fX7_alikeTo_31 _ _ _ _ _ _ (n + 1) s _ = _
    rw [fX7_alikeTo_31, c60 hz, li 51, c_ga 51 (by omega), sb, li 111, c_ga 111 (by omega), cu0 h w hz hu]
    simp only [sb, ia, if_true]
    by_cases b : kc (51 + z) = ms (pl (z0 / 6) (z0 % 6)) <;> by_cases c : kc (111 + z) = ms (pl (z0 / 6) (z0 % 6) + 1) <;> simp only [b, c, if_true, if_false]
theorem m_alike (w : WF ms) {p0 r0 : Nat} (hp0 : p0 < gn ms) (hr0 : r0 < gc ms p0) : fX9_alike ms (nI p0) (nI r0) = some (NF ms (alS ms p0 r0) 0) := by
  unfold fX9_alike
  have e10 := w.1.2
  have key : ∀ (k' : Int32 → Option Int32) (c r n : Nat) (s : Int32) (p : Nat), p < gn ms → r + c = gc ms p → c < n → fX9_alike_19 k' ms (nI p0) (nI r0) (nI p) n s (nI r) = k' (fo (fun r s => alS ms p0 r0 p r s) c r s) := by
    intro k' c
    induction c with
    | zero =>
      intro r n s p hp hi hn
      obtain ⟨m, rfl⟩ : ∃ m, n = m + 1 := ⟨n - 1, by omega⟩
      rw [show r = gc ms p by omega, fX9_alike_19, m_cnt w (p10 w hp), sb, mCe w hp]
      rfl
    | succ c ih =>
      intro r n s p hp hi hn
      obtain ⟨m, rfl⟩ : ∃ m, n = m + 1 := ⟨n - 1, by omega⟩
      have hr : r < gc ms p := by omega
      rw [fX9_alike_19, m_cnt w (p10 w hp), sb, mC w hp hr, fo_succ]
      by_cases a : p = p0
      · rw [if_pos (by rw [a])]
        have e1 : fo (fun r s => alS ms p0 r0 p r s) c (r + 1) (alS ms p0 r0 p r s) = s := by
          rw [fo_id c (r + 1) _ (fun j s _ _ => by unfold alS; rw [if_pos a])]
          unfold alS
          rw [if_pos a]
        rw [e1]
      · rw [if_neg (fun e => a ((nI_eq (by have := p10 w hp; omega) (by omega)).mp e)), m_time (p10 w hp) (r6 w hp hr), m_time (p10 w hp0) (r6 w hp0 hr0), m_shop (p10 w hp) (r6 w hp hr), m_shop (p10 w hp0) (r6 w hp0 hr0), ms_sum w hp hr, ms_sum w hp0 hr0]
        simp only [sb, ia, i_0]
        rw [ih (r + 1) m _ p hp (by omega) (by omega), ih (r + 1) m _ p hp (by omega) (by omega)]
        have e1 : alS ms p0 r0 p r s = if ms (pl p r) = ms (pl p0 r0) then (if ms (pl p r + 1) = ms (pl p0 r0 + 1) then (if sI ms p r = sI ms p0 r0 then s + 1 else s) else s) else s := by unfold alS; rw [if_neg a]
        rw [e1]
        by_cases b : ms (pl p r) = ms (pl p0 r0) <;> by_cases c : ms (pl p r + 1) = ms (pl p0 r0 + 1) <;> by_cases d : sI ms p r = sI ms p0 r0 <;> simp only [b, c, d, if_true, if_false]
  refine m_loop1 (gn ms) (by omega) (fun n s p => fX9_alike_5 (fun u => some u) ms (nI p0) (nI r0) n s (nI p)) (fun u => some u) (fun p s => fo (fun r s => alS ms p0 r0 p r s) (gc ms p) 0 s) (fun n s => ?_) (fun n s p hp => ?_) 0
  · show fX9_alike_5 _ _ _ _ (n + 1) s _ = _
    rw [fX9_alike_5, m_n w, sb, mNe w]
  · show fX9_alike_5 _ _ _ _ (n + 1) s _ = _
    rw [fX9_alike_5, m_n w, sb, mN w hp]
    have h6 := (w.2.1 p (p10 w hp)).1.2
    have e := key (fun u => fX9_alike_5 (fun u => some u) ms (nI p0) (nI r0) n u (nI p + 1)) (gc ms p) 0 LF s p hp (by omega) (by rw [LF_eq]; omega)
    rw [ia] at e
    rw [ia]
    exact e
/-- the count of likes of a receipt -/
def aI (ms : Nat → Int32) (p r : Nat) : Int32 := NF ms (alS ms p r) 0
def apS (ms : Nat → Int32) (p r : Nat) (s : Int32) : Int32 := s + aI ms p r
theorem c_pairs (h : RC ms kc) (w : WF ms) : fX7_alikePairs kc = some (NF ms (apS ms) 0 / (2 : Int32)) := by
  unfold fX7_alikePairs
  refine c_loop60 w (fun n s z => fX7_alikePairs_4 (fun u => some (u / (2 : Int32))) kc n s (nI z)) (fun u => some (u / (2 : Int32))) (apS ms) (fun n s => ?_) (fun n s z hz hu => ?_) (fun n s z hz hu => ?_) 0
  · show fX7_alikePairs_4 _ _ (n + 1) s _ = _
    rw [fX7_alikePairs_4, c60e]
  · show fX7_alikePairs_4 _ _ (n + 1) s _ = _
    rw [fX7_alikePairs_4, c60 hz, cu1 h w hz hu, sb, if_neg one_ne, c_alike h w hz hu, sb, ia]
    rfl
  · show fX7_alikePairs_4 _ _ (n + 1) s _ = _
    rw [fX7_alikePairs_4, c60 hz, cu0 h w hz hu, sb, if_pos rfl, ia]
/-- the reference's count over receipts -/
def ovS (ms : Nat → Int32) (x : Int32) (p r : Nat) (s : Int32) : Int32 := if x = (2 : Int32) then s + 1 else if x = (10 : Int32) then s + aI ms p r else if kI ms p r = x - (4 : Int32) then s + 1 else s
theorem m_over (w : WF ms) (x : Int32) : fX9_overReceipts ms x = some (NF ms (ovS ms x) 0) := by
  unfold fX9_overReceipts
  refine m_loop2 w (fun n s p => fX9_overReceipts_4 (fun u => some u) ms x n s (nI p)) (fun k' p m s r => fX9_overReceipts_17 k' ms x (nI p) m s (nI r)) (fun u => some u) (ovS ms x) (fun n s => ?_) (fun n s p hp => ?_) (fun k' p m s hp => ?_) (fun k' p m s r hp hr => ?_) 0
  · show fX9_overReceipts_4 _ _ _ (n + 1) s _ = _
    rw [fX9_overReceipts_4, m_n w, sb, mNe w]
  · show fX9_overReceipts_4 _ _ _ (n + 1) s _ = _
    rw [fX9_overReceipts_4, m_n w, sb, mN w hp]
    simp only [ia]
    rfl
  · show fX9_overReceipts_17 _ _ _ _ (m + 1) s _ = _
    rw [fX9_overReceipts_17, m_cnt w (p10 w hp), sb, mCe w hp]
  · show fX9_overReceipts_17 _ _ _ _ (m + 1) s _ = _
    rw [fX9_overReceipts_17, m_cnt w (p10 w hp), sb, mC w hp hr, m_alike w hp hr, ms_kind w hp hr]
    simp only [sb, ia, i_0]
    unfold ovS aI
    by_cases a : x = (2 : Int32)
    · simp only [a, if_true]
    · by_cases b : x = (10 : Int32)
      · simp only [b, if_true]; rfl
      · by_cases c : kI ms p r = x - (4 : Int32) <;> simp only [a, b, c, if_true, if_false]
def szI (ms : Nat → Int32) (p r : Nat) : Int32 := if 0 ≤ (sI ms p r - ms (pl p r + 7)) then (sI ms p r - ms (pl p r + 7)) else 0 - (sI ms p r - ms (pl p r + 7))
theorem c_size (h : RC ms kc) (w : WF ms) {z : Nat} (hz : z < 60) (hu : z % 6 < gc ms (z / 6)) : fX7_sizeHidden kc (nI z) = some (szI ms (z / 6) (z % 6)) := by
  unfold fX7_sizeHidden
  rw [c_sum h w hz hu, sb, c_tot h hz hu, sb]
  rfl
theorem m_size {p r : Nat} : fX9_size (sI ms p r - ms (pl p r + 7)) = some (szI ms p r) := by
  unfold fX9_size szI
  by_cases a : 0 ≤ (sI ms p r - ms (pl p r + 7))
  · rw [if_pos a, if_pos a]
  · rw [if_neg a, if_neg a, show -(sI ms p r - ms (pl p r + 7)) = 0 - (sI ms p r - ms (pl p r + 7)) by grind]
theorem kI_0 {p r : Nat} : kI ms p r = 0 ↔ ms (pl p r + 7) = sI ms p r := by
  unfold kI
  by_cases a : ms (pl p r + 7) = sI ms p r
  · rw [if_pos a]; exact ⟨fun _ => a, fun _ => rfl⟩
  · rw [if_neg a]
    refine ⟨fun e => ?_, fun e => absurd e a⟩
    exfalso
    revert e
    split
    · decide
    · split
      · decide
      · split <;> decide
theorem szI_0 {p r : Nat} (v : RV ms p r) : szI ms p r ≤ 0 ↔ kI ms p r = 0 := by
  obtain ⟨s1, s2, s3⟩ := sum_n v
  obtain ⟨t1, t2⟩ := tot_n v
  rw [kI_0]
  unfold szI
  rw [s1, t1]
  have e := pk_sub_toInt (a := sN ms p r) (b := tN ms p r) (by omega) (by omega)
  have e0 : ((0 : Int32)).toInt = 0 := rfl
  constructor
  · intro hle
    split at hle
    · rename_i h0
      rw [Int32.le_iff_toInt_le] at hle h0
      rw [show tN ms p r = sN ms p r by omega]
    · rename_i h0
      have h1 : nI (tN ms p r) - nI (sN ms p r) = 0 - (nI (sN ms p r) - nI (tN ms p r)) := by grind
      rw [← h1] at hle
      have e2 := pk_sub_toInt (a := tN ms p r) (b := sN ms p r) (by omega) (by omega)
      rw [Int32.le_iff_toInt_le] at hle h0
      rw [show tN ms p r = sN ms p r by omega]
  · intro he
    have he2 : tN ms p r = sN ms p r := (nI_eq (by omega) (by omega)).mp he
    have hz : nI (sN ms p r) - nI (tN ms p r) = 0 := by rw [he2]; grind
    rw [hz]
    decide
def hdS (ms : Nat → Int32) (x : Int32) (p r : Nat) (s : Int32) : Int32 := if x = (-1 : Int32) then s + szI ms p r else if ms (pl p r + 1) = x then s + szI ms p r else s
def nrS (ms : Nat → Int32) (x : Int32) (p r : Nat) (s : Int32) : Int32 := if ms (pl p r + 1) = x then (if kI ms p r = 0 then s else s + 1) else s
theorem c_hidden (h : RC ms kc) (w : WF ms) (x : Int32) : fX7_hiddenBy kc x = some (NF ms (hdS ms x) 0) := by
  unfold fX7_hiddenBy
  refine c_loop60 w (fun n s z => fX7_hiddenBy_4 (fun u => some u) kc x n s (nI z)) (fun u => some u) (hdS ms x) (fun n s => ?_) (fun n s z hz hu => ?_) (fun n s z hz hu => ?_) 0
  · show fX7_hiddenBy_4 _ _ _ (n + 1) s _ = _
    rw [fX7_hiddenBy_4, c60e]
  · show fX7_hiddenBy_4 _ _ _ (n + 1) s _ = _
    rw [fX7_hiddenBy_4, c60 hz, cu1 h w hz hu, sb, if_neg one_ne, c_size h w hz hu, c_shop h hz hu]
    simp only [sb, ia]
    unfold hdS
    by_cases a : x = (-1 : Int32) <;> by_cases b : ms (pl (z / 6) (z % 6) + 1) = x <;> simp only [a, b, if_true, if_false]
  · show fX7_hiddenBy_4 _ _ _ (n + 1) s _ = _
    rw [fX7_hiddenBy_4, c60 hz, cu0 h w hz hu, sb, if_pos rfl, ia]
theorem c_notRight (h : RC ms kc) (w : WF ms) (x : Int32) : fX7_notRightOf kc x = some (NF ms (nrS ms x) 0) := by
  unfold fX7_notRightOf
  refine c_loop60 w (fun n s z => fX7_notRightOf_4 (fun u => some u) kc x n s (nI z)) (fun u => some u) (nrS ms x) (fun n s => ?_) (fun n s z hz hu => ?_) (fun n s z hz hu => ?_) 0
  · show fX7_notRightOf_4 _ _ _ (n + 1) s _ = _
    rw [fX7_notRightOf_4, c60e]
  · show fX7_notRightOf_4 _ _ _ (n + 1) s _ = _
    rw [fX7_notRightOf_4, c60 hz, cu1 h w hz hu, sb, if_neg one_ne, c_size h w hz hu, c_shop h hz hu]
    simp only [sb, ia, szI_0 (wfr w hz hu)]
    unfold nrS
    by_cases a : kI ms (z / 6) (z % 6) = 0 <;> by_cases b : ms (pl (z / 6) (z % 6) + 1) = x <;> simp only [a, b, if_true, if_false]
  · show fX7_notRightOf_4 _ _ _ (n + 1) s _ = _
    rw [fX7_notRightOf_4, c60 hz, cu0 h w hz hu, sb, if_pos rfl, ia]
def wrS (ms : Nat → Int32) (x y : Int32) (p r : Nat) (s : Int32) : Int32 := if y = 0 then hdS ms x p r s else if x = (-1 : Int32) ∨ ms (pl p r + 1) = x then (if kI ms p r = 0 then s else s + 1) else s
theorem m_wrong (w : WF ms) (x y : Int32) : fX9_wrongOf ms x y = some (NF ms (wrS ms x y) 0) := by
  unfold fX9_wrongOf
  refine m_loop2 w (fun n s p => fX9_wrongOf_5 (fun u => some u) ms x y n s (nI p)) (fun k' p m s r => fX9_wrongOf_19 k' ms x y (nI p) m s (nI r)) (fun u => some u) (wrS ms x y) (fun n s => ?_) (fun n s p hp => ?_) (fun k' p m s hp => ?_) (fun k' p m s r hp hr => ?_) 0
  · show fX9_wrongOf_5 _ _ _ _ (n + 1) s _ = _
    rw [fX9_wrongOf_5, m_n w, sb, mNe w]
  · show fX9_wrongOf_5 _ _ _ _ (n + 1) s _ = _
    rw [fX9_wrongOf_5, m_n w, sb, mN w hp]
    simp only [ia]
    rfl
  · show fX9_wrongOf_19 _ _ _ _ _ (m + 1) s _ = _
    rw [fX9_wrongOf_19, m_cnt w (p10 w hp), sb, mCe w hp]
  · show fX9_wrongOf_19 _ _ _ _ _ (m + 1) s _ = _
    rw [fX9_wrongOf_19, m_cnt w (p10 w hp), sb, mC w hp hr, ms_sum w hp hr, m_tot (p10 w hp) (r6 w hp hr), ms_kind w hp hr, m_shop (p10 w hp) (r6 w hp hr)]
    simp only [sb, ia, i_0, m_size]
    unfold wrS hdS
    by_cases a : y = 0 <;> by_cases b : x = (-1 : Int32) <;> by_cases c : ms (pl p r + 1) = x <;> by_cases d : kI ms p r = 0 <;> simp only [a, b, c, d, if_true, if_false, true_or, or_true, or_false, false_or, or_self] <;> simp_all
end Tally2
