/-! Saved states. -/
section Saves
variable {ms ms' kc kc' msv ksv : Nat → Int32}
theorem fo_fill (a : Nat) (g : Nat → Int32) : ∀ (c i : Nat) (s : Nat → Int32) (j : Nat), fo (fun k s => upd s (a + k) (g k)) c i s j = if a + i ≤ j ∧ j < a + i + c then g (j - a) else s j
  | 0, i, s, j => by rw [if_neg (by omega)]; rfl
  | c + 1, i, s, j => by
    rw [fo_succ, fo_fill a g c (i + 1)]
    by_cases h1 : a + (i + 1) ≤ j ∧ j < a + (i + 1) + c
    · rw [if_pos h1, if_pos (by omega)]
    · rw [if_neg h1]
      by_cases h2 : j = a + i
      · subst h2
        rw [pk_us, if_pos (by omega), show a + i - a = i by omega]
      · rw [pk_un h2, if_neg (by omega)]
theorem fo_down (d : Nat) (hd : 0 < d) : ∀ (c i : Nat) (s : Nat → Int32) (j : Nat), fo (fun k s => upd s k (s (k + d))) c i s j = if i ≤ j ∧ j < i + c then s (j + d) else s j
  | 0, i, s, j => by rw [if_neg (by omega)]; rfl
  | c + 1, i, s, j => by
    rw [fo_succ, fo_down d hd c (i + 1)]
    by_cases h1 : i + 1 ≤ j ∧ j < i + 1 + c
    · rw [if_pos h1, if_pos (by omega), pk_un (by omega)]
    · rw [if_neg h1]
      by_cases h2 : j = i
      · subst h2
        rw [pk_us, if_pos (by omega)]
      · rw [pk_un h2, if_neg (by omega)]
def blk (s : Nat → Int32) (i : Nat) : Nat → Int32 := fun j => s (531 * i + j)
def SV (msv ksv : Nat → Int32) (ns : Nat) : Prop := ∀ i, i < ns → WF (blk msv i) ∧ RC (blk msv i) (blk ksv i)
theorem m_sv52 (k : (Nat → Int32) → Option ((Nat → Int32) × Int32)) {n : Nat} (hn : n < 6) : fX9_saves_52 k ms (nI n) LF (0 : Int32) msv = k (fo (fun j s => upd s (531 * n + j) (ms j)) 531 0 msv) := by
  refine m_loop1 531 (by omega) (fun m s i => fX9_saves_52 k ms (nI n) m (nI i) s) k _ (fun m s => ?_) (fun m s i hi => ?_) msv
  · show (if (531 : Int32) ≤ nI 531 then _ else _) = _
    rw [if_pos (by decide)]
  · show (if (531 : Int32) ≤ nI i then _ else _) = _
    rw [li 531, if_neg (nI_ge hi (by omega)), aget_n hi (by omega), sb, pk_mul, nI_add, aput_n (by omega) (by omega), sb, ia]
theorem m_sv11 (k : (Nat → Int32) → Option ((Nat → Int32) × Int32)) : fX9_saves_11 k LF (0 : Int32) msv = k (fo (fun j s => upd s j (s (j + 531))) 2655 0 msv) := by
  refine m_loop1 2655 (by omega) (fun m s i => fX9_saves_11 k m (nI i) s) k _ (fun m s => ?_) (fun m s i hi => ?_) msv
  · show (if (2655 : Int32) ≤ nI 2655 then _ else _) = _
    rw [if_pos (by decide)]
  · show (if (2655 : Int32) ≤ nI i then _ else _) = _
    rw [li 2655, if_neg (nI_ge hi (by omega)), li 531, nI_add, aget_n (by omega) (by omega), sb, aput_n (by omega) (by omega), sb, ia]
theorem acpy_n {f g : Nat → Int32} {n0 n1 a b c : Nat} (h0 : a + c ≤ n0) (h1 : b + c ≤ n1) (hn : n0 < 2 ^ 31) (hm : n1 < 2 ^ 31) : acpy f n0 g n1 (nI a) (nI b) (nI c) = some (va_cpy f g a b c) := by
  unfold acpy
  rw [nI_clamp (by omega), nI_clamp (by omega), nI_clamp (by omega), if_neg]
  have := nI_pos (n := a) (by omega)
  have := nI_pos (n := b) (by omega)
  have := nI_pos (n := c) (by omega)
  rintro (h | h | h | h | h) <;> first | contradiction | omega
/-- one more saved state in place n -/
theorem sv_put (w : WF ms) (c : RC ms kc) {n : Nat} (hs : SV msv ksv n) {msv' ksv' : Nat → Int32}
    (h1 : ∀ j, msv' j = if 531 * n ≤ j ∧ j < 531 * n + 531 then ms (j - 531 * n) else msv j) (h2 : ∀ j, ksv' j = if 531 * n ≤ j ∧ j < 531 * n + 531 then kc (j - 531 * n) else ksv j) : SV msv' ksv' (n + 1) := by
  intro i hi
  by_cases e : i = n
  · subst e
    have e1 : ∀ j, j < 531 → blk msv' i j = ms j := fun j hj => by
      show msv' (531 * i + j) = _
      rw [h1, if_pos (by omega), show 531 * i + j - 531 * i = j by omega]
    have e2 : ∀ j, j < 531 → blk ksv' i j = kc j := fun j hj => by
      show ksv' (531 * i + j) = _
      rw [h2, if_pos (by omega), show 531 * i + j - 531 * i = j by omega]
    exact ⟨WF_congr e1 w, RC_congr w e1 e2 c⟩
  · have e1 : ∀ j, j < 531 → blk msv' i j = blk msv i j := fun j hj => by
      show msv' (531 * i + j) = _
      rw [h1, if_neg (by omega)]
      rfl
    have e2 : ∀ j, j < 531 → blk ksv' i j = blk ksv i j := fun j hj => by
      show ksv' (531 * i + j) = _
      rw [h2, if_neg (by omega)]
      rfl
    have := hs i (by omega)
    exact ⟨WF_congr e1 this.1, RC_congr this.1 e1 e2 this.2⟩
theorem sv_down {n : Nat} (hs : SV msv ksv (n + 1)) {msv' ksv' : Nat → Int32}
    (h1 : ∀ j, j < 531 * n → msv' j = msv (j + 531)) (h2 : ∀ j, j < 531 * n → ksv' j = ksv (j + 531)) : SV msv' ksv' n := by
  intro i hi
  have e1 : ∀ j, j < 531 → blk msv' i j = blk msv (i + 1) j := fun j hj => by
    show msv' (531 * i + j) = msv (531 * (i + 1) + j)
    rw [h1 _ (by omega), show 531 * i + j + 531 = 531 * (i + 1) + j by omega]
  have e2 : ∀ j, j < 531 → blk ksv' i j = blk ksv (i + 1) j := fun j hj => by
    show ksv' (531 * i + j) = ksv (531 * (i + 1) + j)
    rw [h2 _ (by omega), show 531 * i + j + 531 = 531 * (i + 1) + j by omega]
  have := hs (i + 1) (by omega)
  exact ⟨WF_congr e1 this.1, RC_congr this.1 e1 e2 this.2⟩
theorem save_ok (w : WF ms) (c : RC ms kc) {n : Nat} (hs : SV msv ksv n) (h6 : n ≤ 6) : ∃ (msv' ksv' : Nat → Int32) (n' : Nat), fX9_saves ms msv (nI n) = some (msv', nI n') ∧ fX0_save kc ksv (nI n) = some (ksv', nI n') ∧ n' ≤ 6 ∧ 1 ≤ n' ∧ SV msv' ksv' n' := by
  by_cases e : n = 6
  · subst e
    refine ⟨fo (fun j s => upd s (531 * 5 + j) (ms j)) 531 0 (fo (fun j s => upd s j (s (j + 531))) 2655 0 msv), va_cpy kc (va_cpy ksv ksv 531 0 2655) 0 2655 531, 6, ?_, ?_, Nat.le_refl _, by omega, ?_⟩
    · unfold fX9_saves
      rw [if_pos (show nI 6 = (6 : Int32) from rfl), m_sv11, show nI 6 - (1 : Int32) = nI 5 from nI_pred 5, m_sv52 _ (by omega), ia]
    · unfold fX0_save
      rw [if_neg (show ¬ nI 6 < (6 : Int32) by decide), li 531, li 0, li 2655, acpy_n (by omega) (by omega) (by omega) (by omega), sb, show (5 : Int32) * nI 531 = nI 2655 from rfl, acpy_n (by omega) (by omega) (by omega) (by omega), sb]
      rfl
    · refine sv_put w c (n := 5) (sv_down hs (n := 5) (msv' := fo (fun j s => upd s j (s (j + 531))) 2655 0 msv) (ksv' := va_cpy ksv ksv 531 0 2655) (fun j hj => ?_) (fun j hj => ?_)) (fun j => ?_) (fun j => ?_)
      · rw [fo_down 531 (by omega), if_pos (by omega)]
      · rw [pk_cpy_in (by omega) (by omega), show 531 + (j - 0) = j + 531 by omega]
      · exact fo_fill (531 * 5) ms 531 0 _ j
      · show (if 2655 ≤ j ∧ j < 2655 + 531 then kc (0 + (j - 2655)) else _) = _
        rw [Nat.zero_add]
  · refine ⟨fo (fun j s => upd s (531 * n + j) (ms j)) 531 0 msv, va_cpy kc ksv 0 (n * 531) 531, n + 1, ?_, ?_, by omega, by omega, ?_⟩
    · unfold fX9_saves
      rw [if_neg (show ¬ nI n = (6 : Int32) by rw [li 6, nI_eq (by omega) (by omega)]; exact e), m_sv52 _ (by omega), ia]
    · unfold fX0_save
      rw [li 6, if_pos (nI_lt (by omega) (by omega)), if_neg (nI_pos (by omega)), li 531, pk_mul, li 0, acpy_n (by omega) (by omega) (by omega) (by omega), sb, ia]
    · refine sv_put w c hs (fun j => ?_) (fun j => ?_)
      · exact fo_fill (531 * n) ms 531 0 _ j
      · show (if n * 531 ≤ j ∧ j < n * 531 + 531 then kc (0 + (j - n * 531)) else _) = _
        rw [Nat.zero_add, Nat.mul_comm n 531]
theorem m_un30 (k : (Nat → Int32) → Option (Int32 × (Nat → Int32) × Int32 × Int32)) {n : Nat} (hn : n < 6) : fX9_undo_30 k msv (nI n) LF (0 : Int32) ms = k (fo (fun j s => upd s (0 + j) (msv (531 * n + j))) 531 0 ms) := by
  refine m_loop1 531 (by omega) (fun m s i => fX9_undo_30 k msv (nI n) m (nI i) s) k _ (fun m s => ?_) (fun m s i hi => ?_) ms
  · show (if (531 : Int32) ≤ nI 531 then _ else _) = _
    rw [if_pos (by decide)]
  · show (if (531 : Int32) ≤ nI i then _ else _) = _
    rw [li 531, if_neg (nI_ge hi (by omega)), pk_mul, nI_add, aget_n (by omega) (by omega), sb, aput_n hi (by omega), sb, ia, Nat.zero_add]
theorem undo_ok {n : Nat} (hs : SV msv ksv (n + 1)) (h6 : n < 6) (mt : Int32) : ∃ (ms' kc' : Nat → Int32), fX9_undo ms msv mt (nI (n + 1)) = some (nI n, ms', (0 : Int32), nI n) ∧ fX0_restore kc ksv (nI (n + 1)) = some (kc', nI n) ∧ WF ms' ∧ RC ms' kc' ∧ SV msv ksv n := by
  refine ⟨fo (fun j s => upd s (0 + j) (msv (531 * n + j))) 531 0 ms, va_cpy ksv kc (n * 531) 0 531, ?_, ?_, ?_⟩
  · unfold fX9_undo
    rw [if_neg (nI_ne0 (by omega) (by omega)), nI_pred, m_un30 _ h6]
  · unfold fX0_restore
    rw [if_neg (nI_nle (by omega) (by omega)), li 6, if_neg (nI_nlt (by omega) (by omega)), nI_pred, li 531, pk_mul, li 0, acpy_n (by omega) (by omega) (by omega) (by omega), sb]
  · have := hs n (by omega)
    have e1 : ∀ j, j < 531 → fo (fun j s => upd s (0 + j) (msv (531 * n + j))) 531 0 ms j = blk msv n j := fun j hj => by
      rw [fo_fill 0 (fun j => msv (531 * n + j)) 531 0 ms j, if_pos (by omega)]
      rfl
    have e2 : ∀ j, j < 531 → va_cpy ksv kc (n * 531) 0 531 j = blk ksv n j := fun j hj => by
      rw [pk_cpy_in (by omega) (by omega), Nat.mul_comm]
      rfl
    exact ⟨WF_congr e1 this.1, RC_congr this.1 e1 e2 this.2, fun i hi => hs i (by omega)⟩
end Saves
