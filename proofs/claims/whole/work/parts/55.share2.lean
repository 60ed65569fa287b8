/-! The share, and sums. -/
section Share
variable {ms kc : Nat → Int32}
theorem share_ok (w : WF ms) (c : RC ms kc) : ∃ (v : UInt64) (L : Int64), fX7_shareOfRight kc = some v ∧ fX9_share ms = some v ∧ fX7_bitsOf v = some L ∧ fJxe99ae_doubleToLongBits_ccdee v = some L := by
  have e1 : rcI ms = nI (cnN (fun z => usB ms z && true) 60) := by
    rw [← NF_inc, ← NF_cn w (fun _ _ => true)]
    refine NF_congr w (fun p r s _ _ => ?_) 0
    rw [if_pos rfl]
    rfl
  have e2 : NF ms (kS ms 0) 0 = nI (cnN (fun z => usB ms z && decide (kI ms (z / 6) (z % 6) = 0)) 60) := by
    rw [← NF_cn w (fun p r => decide (kI ms p r = 0))]
    refine NF_congr w (fun p r s _ _ => ?_) 0
    unfold kS
    by_cases h : kI ms p r = 0 <;> simp [h]
  have l1 := cnN_le (fun z => usB ms z && true) 60
  have l2 : cnN (fun z => usB ms z && decide (kI ms (z / 6) (z % 6) = 0)) 60 ≤ cnN (fun z => usB ms z && true) 60 := cnN_mono 60 (fun x _ h => by
    rw [Bool.and_eq_true] at h
    rw [h.1]
    rfl)
  unfold fX7_shareOfRight fX9_share
  rw [c_receipts c w, m_receipts w, c_kinds c w, m_kinds w 0 4 rfl (by decide) (by decide)]
  simp only [sb]
  rw [e1, e2]
  generalize cnN (fun z => usB ms z && true) 60 = b at *
  generalize cnN (fun z => usB ms z && decide (kI ms (z / 6) (z % 6) = 0)) 60 = a at *
  by_cases hb : b = 0
  · subst hb
    rw [if_pos (show nI 0 = (0 : Int32) from rfl)]
    obtain ⟨L, h1, h2⟩ := sh_of sh_1
    exact ⟨_, L, rfl, rfl, h1, h2⟩
  · rw [if_neg (nI_ne0 (by omega) (by omega))]
    have h := sh_60 (b - 1) (by omega) a (by omega)
    rw [show b - 1 + 1 = b by omega] at h
    unfold shB at h
    cases hd : dok (FP.ddiv (FP.i2d (nI a)) (FP.i2d (nI b))) with
    | none => rw [hd] at h; exact absurd h (by simp)
    | some v =>
      rw [hd] at h
      obtain ⟨L, h1, h2⟩ := sh_of h
      exact ⟨v, L, rfl, rfl, h1, h2⟩
theorem f_rightShare (w : WF ms) (c : RC ms kc) (mt : Int32) : ∃ v, fX8_rightShare kc = some v ∧ fX9_rightShare ms mt = some (v, (0 : Int32)) := by
  obtain ⟨v, L, h1, h2, -⟩ := share_ok w c
  unfold fX8_rightShare fX9_rightShare
  rw [h1, h2, sb, sb]
  exact ⟨v, rfl, rfl⟩
theorem g_m1 (x : Int32) (y : Int32) (h : x ≠ (-1 : Int32)) : fX9_in x (-1 : Int32) y = fX9_in x (0 : Int32) y := by
  unfold fX9_in
  have e : x < (-1 : Int32) ↔ x < 0 := by
    rw [Int32.lt_iff_toInt_lt, Int32.lt_iff_toInt_lt, show (-1 : Int32).toInt = -1 from rfl, show (0 : Int32).toInt = 0 from rfl]
    have : x.toInt ≠ -1 := fun e => h (Int32.toInt_inj.mp e)
    omega
  simp only [e]
theorem f_sum (w : WF ms) (c : RC ms kc) (mt x y : Int32) : AL [(1, 1)] (fX8_sum kc x y) (fX9_sum ms mt x y) := by
  unfold fX8_sum fX9_sum
  have fin : ∀ a b : Int32, fX7_shopHourSum kc a b = some (NF ms (shS ms a b) 0) ∧ fX9_sumBy ms a b = some (NF ms (shS ms a b) 0) := fun a b => ⟨c_shs c w a b, m_shs w a b⟩
  have hy : (y = (-1 : Int32) ∧ fX9_in y (-1 : Int32) (23 : Int32) = some 1) ∨ (y ≠ (-1 : Int32) ∧ fX8_requireChoice y (24 : Int32) = some (.inl 1) ∧ fX9_in y (-1 : Int32) (23 : Int32) = some 0) ∨ (y ≠ (-1 : Int32) ∧ fX8_requireChoice y (24 : Int32) = some (.inr ()) ∧ fX9_in y (-1 : Int32) (23 : Int32) = some 1) := by
    by_cases h : y = (-1 : Int32)
    · left; rw [h]; exact ⟨rfl, rfl⟩
    · right
      rw [g_m1 y _ h, show (23 : Int32) = nI 24 - 1 from rfl, li 24]
      rcases g_ch y (n := 24) (by omega) with ⟨h1, h2⟩ | ⟨j, _, _, h1, h2⟩
      · left; exact ⟨h, h1, h2⟩
      · right; exact ⟨h, h1, h2⟩
  by_cases hx : x = (-1 : Int32)
  · rw [if_pos hx, show fX9_in x (-1 : Int32) (9 : Int32) = some 1 from by rw [hx]; rfl, sb, if_neg one_n]
    rcases hy with ⟨h1, h2⟩ | ⟨h1, h2, h3⟩ | ⟨h1, h2, h3⟩
    · rw [if_pos h1, h2, sb, if_neg one_n, (fin x y).1, (fin x y).2, sb, sb]
      exact Or.inr ⟨_, rfl, rfl⟩
    · rw [if_neg h1, h2, h3, sb, sb, if_pos rfl]
      exact Or.inl ⟨1, 1, by simp, rfl, rfl⟩
    · rw [if_neg h1, h2, h3, sb, sb, if_neg one_n, (fin x y).2, sb]
      unfold xs
      dsimp only
      rw [(fin x y).1, sb]
      exact Or.inr ⟨_, rfl, rfl⟩
  · rw [if_neg hx, g_m1 x _ hx, show (9 : Int32) = nI 10 - 1 from rfl, li 10]
    rcases g_ch x (n := 10) (by omega) with ⟨g1, g2⟩ | ⟨j, _, _, g1, g2⟩
    · rw [g1, g2, sb, sb, if_pos rfl]
      exact Or.inl ⟨1, 1, by simp, rfl, rfl⟩
    · rw [g1, g2, sb, sb, if_neg one_n]
      unfold xs
      dsimp only
      rcases hy with ⟨h1, h2⟩ | ⟨h1, h2, h3⟩ | ⟨h1, h2, h3⟩
      · rw [if_pos h1, h2, sb, if_neg one_n, (fin x y).1, (fin x y).2, sb, sb]
        exact Or.inr ⟨_, rfl, rfl⟩
      · rw [if_neg h1, h2, h3, sb, sb, if_pos rfl]
        exact Or.inl ⟨1, 1, by simp, rfl, rfl⟩
      · rw [if_neg h1, h2, h3, sb, sb, if_neg one_n, (fin x y).2, sb]
        dsimp only
        rw [(fin x y).1, sb]
        exact Or.inr ⟨_, rfl, rfl⟩
end Share
