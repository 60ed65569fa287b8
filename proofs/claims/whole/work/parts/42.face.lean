/-! The calls that change pieces. -/
section Face
variable {ms msv kc ksv : Nat → Int32} {ns : Nat}
/-- the state of the class is that of the reference -/
def ST (ms msv kc ksv : Nat → Int32) (ns : Nat) : Prop := WF ms ∧ RC ms kc ∧ ns ≤ 6 ∧ SV msv ksv ns
theorem g_in (x : Int32) {n : Nat} (hn : n < 2 ^ 30) : (fX8_isIn x (nI n) = some 0 ∧ fX9_in x (0 : Int32) (nI n - 1) = some 0) ∨ ∃ j, j < n ∧ x = nI j ∧ fX8_isIn x (nI n) = some 1 ∧ fX9_in x (0 : Int32) (nI n - 1) = some 1 := by
  unfold fX8_isIn fX9_in
  by_cases h0 : x < 0
  · left; rw [if_pos h0, if_pos h0]; exact ⟨rfl, rfl⟩
  · obtain ⟨j, hj, rfl⟩ := nI_of h0
    rw [if_neg h0, if_neg h0]
    by_cases h1 : n ≤ j
    · left
      rw [if_pos (nI_le h1 (by omega)), if_pos]
      · exact ⟨rfl, rfl⟩
      · cases n with
        | zero => rw [Int32.lt_iff_toInt_lt, nI_toInt (by omega), show (nI 0 - 1).toInt = -1 from rfl]; omega
        | succ n => rw [nI_pred]; exact nI_lt (by omega) (by omega)
    · right
      obtain ⟨m, rfl⟩ : ∃ m, n = m + 1 := ⟨n - 1, by omega⟩
      refine ⟨j, by omega, rfl, ?_, ?_⟩
      · rw [if_neg (nI_ge (by omega) (by omega))]
      · rw [nI_pred, if_neg (nI_nlt (by omega) (by omega))]
theorem g_piece (w : WF ms) (c : RC ms kc) (x : Int32) : (fX8_requirePiece kc x = some (.inl 3) ∧ fX9_isPiece ms x = some 0) ∨ ∃ p, p < gn ms ∧ x = nI p ∧ fX8_requirePiece kc x = some (.inr ()) ∧ fX9_isPiece ms x = some 1 := by
  have h10 := w.1.2
  unfold fX8_requirePiece fX9_isPiece
  rw [c_pieces w c, sb, m_n w, sb]
  rcases g_in x (n := gn ms) (by omega) with ⟨h1, h2⟩ | ⟨j, hj, rfl, h1, h2⟩
  · left; rw [h1, h2]; exact ⟨rfl, rfl⟩
  · right; refine ⟨j, hj, rfl, ?_, ?_⟩
    · rw [h1]; rfl
    · rw [h2]; rfl
theorem g_rec (w : WF ms) (c : RC ms kc) (x y : Int32) : (fX8_requireReceipt kc x y = some (.inl 3) ∧ fX9_isReceipt ms x y = some 0) ∨ ∃ p r, p < gn ms ∧ r < gc ms p ∧ x = nI p ∧ y = nI r ∧ fX8_requireReceipt kc x y = some (.inr ()) ∧ fX9_isReceipt ms x y = some 1 := by
  unfold fX8_requireReceipt fX9_isReceipt
  rcases g_piece w c x with ⟨h1, h2⟩ | ⟨p, hp, rfl, h1, h2⟩
  · left; rw [h1, h2]; exact ⟨rfl, rfl⟩
  · have h6 := gc_b w (p10 w hp)
    rw [h1, h2, sb, sb, if_neg (show ¬ (1 : Int32) = 0 by decide), m_cnt w (p10 w hp), sb]
    unfold xs
    rw [c_recs c w (p10 w hp), sb]
    rcases g_in y (n := gc ms p) (by omega) with ⟨h3, h4⟩ | ⟨r, hr, rfl, h3, h4⟩
    · left; rw [h3, h4]; exact ⟨rfl, rfl⟩
    · right
      refine ⟨p, r, hp, hr, rfl, rfl, ?_, ?_⟩
      · rw [h3]; rfl
      · rw [h4]; rfl
theorem fl (a b : Int32) : fX9_fails a b = some ((0 : Int32), b) := rfl
theorem one_n : ¬ (1 : Int32) = 0 := by decide
/-- how a call that changes pieces answers on both sides -/
def AN (T : List (Nat × Int32)) (ms msv : Nat → Int32) (ns : Nat) (a : Option (Nat ⊕ (Int32 × (Nat → Int32) × (Nat → Int32) × Int32))) (b : Option (Int32 × (Nat → Int32) × (Nat → Int32) × Int32 × Int32)) : Prop :=
  (∃ k m, (k, m) ∈ T ∧ a = some (.inl k) ∧ b = some ((0 : Int32), ms, msv, m, nI ns)) ∨
  (∃ (v : Int32) (ms' msv' kc' ksv' : Nat → Int32) (ns' : Nat), a = some (.inr (v, kc', ksv', nI ns')) ∧ b = some (v, ms', msv', (0 : Int32), nI ns') ∧ ST ms' msv' kc' ksv' ns')
theorem f_piece (S : ST ms msv kc ksv ns) (mt x y : Int32) : AN [(1, 1), (2, 2)] ms msv ns (fX8_piece kc ksv (nI ns) x y) (fX9_piece ms msv mt (nI ns) x y) := by
  obtain ⟨w, c, h6, hs⟩ := S
  have h10 := w.1.2
  unfold fX8_piece fX9_piece
  rw [show (99 : Int32) = nI 100 - 1 from rfl, li 100]
  rcases g_in x (n := 100) (by omega) with ⟨h1, h2⟩ | ⟨a, ha, rfl, h1, h2⟩
  · rw [h1, h2, sb, sb, if_pos rfl, if_pos rfl]
    exact Or.inl ⟨1, 1, by simp, rfl, rfl⟩
  · rw [h1, h2, sb, sb, if_neg one_n, if_neg one_n]
    rcases g_in y (n := 100) (by omega) with ⟨h1, h2⟩ | ⟨b, hb, rfl, h1, h2⟩
    · rw [h1, h2, sb, sb, if_pos rfl, if_pos rfl]
      exact Or.inl ⟨1, 1, by simp, rfl, rfl⟩
    · rw [h1, h2, sb, sb, if_neg one_n, if_neg one_n, c_pieces w c, sb, m_n w, sb, li 10]
      by_cases h9 : gn ms = 10
      · rw [if_neg (nI_nlt (by omega) (by omega)), if_pos (by rw [h9])]
        exact Or.inl ⟨2, 2, by simp, rfl, rfl⟩
      · obtain ⟨msv', ksv', n', e1, e2, e3, -, e5⟩ := save_ok w c hs h6
        rw [if_pos (nI_lt (by omega) (by omega)), if_neg (by rw [nI_eq (by omega) (by omega)]; exact h9), e1, e2, sb, sb, sb, c_addPiece c w (by omega), sb]
        refine Or.inr ⟨nI (gn ms), addM ms (nI a) (nI b), msv', addC ms kc (nI a) (nI b), ksv', n', rfl, ?_, (add_ok w c (by omega) _ _).1, (add_ok w c (by omega) _ _).2, e3, e5⟩
        have u1 : ∀ z : Int32, upd ms (1 + 5 * gn ms + 0) z 0 = ms 0 := fun z => pk_un (by omega)
        rw [show fX9_lay ms (nI (gn ms)) (0 : Int32) (nI a) = some (upd ms (1 + 5 * gn ms + 0) (nI a)) from m_lay (f := 0) (by omega), sb, li 0, aget_n (by omega) (by omega), sb, u1, w.1.1,
          show fX9_lay (upd ms (1 + 5 * gn ms + 0) (nI a)) (nI (gn ms)) (1 : Int32) (nI b) = some (upd (upd ms (1 + 5 * gn ms + 0) (nI a)) (1 + 5 * gn ms + 1) (nI b)) from m_lay (f := 1) (by omega), sb, aget_n (by omega) (by omega), sb, pk_un (by omega), u1, w.1.1, aput_n (by omega) (by omega), sb, aget_n (by omega) (by omega), sb, pk_us, ia, nI_pred]
        unfold addM
        rw [show 1 + 5 * gn ms + 0 = 5 * gn ms + 1 by omega, show 1 + 5 * gn ms + 1 = 5 * gn ms + 2 by omega]
theorem m_cut_l (k : (Nat → Int32) → Option (Int32 × (Nat → Int32) × (Nat → Int32) × Int32 × Int32)) {p r : Nat} (hp : p < 10) (hr : r < 6) (x3 : Int32) : fX9_cut_57 k (nI p) (nI r) x3 LF (0 : Int32) ms = k (fo (fun j s => upd s (pl p r + j) ((fun _ => (0 : Int32)) j)) 8 0 ms) := by
  have hb := pl_b hp hr
  refine m_loop1 8 (by omega) (fun m s i => fX9_cut_57 k (nI p) (nI r) x3 m (nI i) s) k _ (fun m s => ?_) (fun m s i hi => ?_) ms
  · show (if (8 : Int32) ≤ nI 8 then _ else _) = _
    rw [if_pos (by decide)]
  · show (if (8 : Int32) ≤ nI i then _ else _) = _
    rw [li 8, if_neg (nI_ge hi (by omega)), m_place, sb, nI_add, aput_n (by omega) (by omega), sb, ia]
theorem f_cut (S : ST ms msv kc ksv ns) (mt x : Int32) : AN [(3, 1), (2, 2)] ms msv ns (fX8_cut kc ksv (nI ns) x) (fX9_cut ms msv mt (nI ns) x) := by
  obtain ⟨w, c, h6, hs⟩ := S
  unfold fX8_cut fX9_cut
  rcases g_piece w c x with ⟨h1, h2⟩ | ⟨p, hp, rfl, h1, h2⟩
  · rw [h1, h2, sb, sb, if_pos rfl]
    exact Or.inl ⟨3, 1, by simp, rfl, rfl⟩
  · have hp10 := p10 w hp
    have hc6 := gc_b w hp10
    rw [h1, h2, sb, sb, if_neg one_n]
    unfold xs
    rw [c_recs c w hp10, sb, m_cnt w hp10, sb]
    by_cases h0 : gc ms p = 0
    · rw [h0, if_neg (show ¬ 0 ≤ nI 0 - (1 : Int32) by decide), if_pos (show nI 0 = (0 : Int32) from rfl)]
      exact Or.inl ⟨2, 2, by simp, rfl, rfl⟩
    · obtain ⟨t, ht⟩ : ∃ t, gc ms p = t + 1 := ⟨gc ms p - 1, by omega⟩
      obtain ⟨msv', ksv', n', e1, e2, e3, -, e5⟩ := save_ok w c hs h6
      have hz : 6 * p + t < 60 := by omega
      have hd : (6 * p + t) / 6 = p := by omega
      have hm : (6 * p + t) % 6 = t := by omega
      have hu : (6 * p + t) % 6 < gc ms ((6 * p + t) / 6) := by rw [hd, hm]; omega
      have hb := pl_b hp10 (show t < 6 by omega)
      rw [ht, if_neg (nI_ne0 (by omega) (by omega)), nI_pred, if_pos (nI_pos' (by omega)), e1, e2, sb, sb, sb, li 41, c_sa (by omega), sb, c_slotOf, sb, nI_pred, ms_sum w hp (by omega), sb, m_cut_l _ hp10 (by omega), li 2, m_lay (by omega), sb]
      have g1 : ∀ j, fo (fun j s => upd s (pl p t + j) ((fun _ => (0 : Int32)) j)) 8 0 ms j = if pl p t + 0 ≤ j ∧ j < pl p t + 0 + 8 then 0 else ms j := fun j => fo_fill (pl p t) (fun _ => 0) 8 0 ms j
      generalize fo (fun j s => upd s (pl p t + j) ((fun _ => (0 : Int32)) j)) 8 0 ms = m1 at *
      have ok := rec_ok (ms' := upd m1 (1 + 5 * p + 2) (nI t)) (kc' := upd kc (41 + p) (nI t)) w c hp (n := t) (t := t) (by omega) (by omega) (by rw [show 5 * p + 3 = 1 + 5 * p + 2 by omega, pk_us])
        (fun j hj h h' => by rw [pk_un (by omega), g1, if_neg (by omega)]) (fun r hr hne => by omega) (fun h => by omega) pk_us (fun j hj h _ _ _ _ _ => pk_un h)
      refine Or.inr ⟨sI ms p t, _, msv', _, ksv', n', ?_, rfl, ok.1, ok.2, e3, e5⟩
      have es : fX0_sumOf (upd kc (41 + p) (nI t)) (nI (6 * p + t)) = fX0_sumOf kc (nI (6 * p + t)) := by
        have v := wfr w hz hu
        rw [hd, hm] at v
        have gi4 := v.2.2.1.2.2
        unfold fX0_sumOf
        have i0 : fX0_get (upd kc (41 + p) (nI t)) ((231 : Int32) + nI (6 * p + t)) = fX0_get kc ((231 : Int32) + nI (6 * p + t)) := by
          rw [li 231, c_ga 231 (by omega), c_ga 231 (by omega), pk_un (by omega)]
        rw [i0, c_its c w hz hu, sb, sb, hd, hm]
        have key : ∀ (k : Int32 → Option Int32) (c n i : Nat) (s : Int32), i + c = gi ms p t → fX0_sumOf_15 k (upd kc (41 + p) (nI t)) (nI (6 * p + t)) (nI (gi ms p t)) n s (nI i) = fX0_sumOf_15 k kc (nI (6 * p + t)) (nI (gi ms p t)) n s (nI i) := by
          intro k c
          induction c with
          | zero =>
            intro n i s hi
            cases n with
            | zero => rfl
            | succ n => rw [fX0_sumOf_15, fX0_sumOf_15, show i = gi ms p t by omega, if_pos (nI_le (Nat.le_refl _) (by omega)), if_pos (nI_le (Nat.le_refl _) (by omega))]
          | succ c ih =>
            intro n i s hi
            cases n with
            | zero => rfl
            | succ n =>
              rw [fX0_sumOf_15, fX0_sumOf_15, if_neg (nI_ge (by omega) (by omega)), if_neg (nI_ge (by omega) (by omega)), li 291, li 4, pk_mul, nI_add, nI_add, c_get (by omega), c_get (by omega), sb, sb, ia, pk_un (by omega)]
              exact ih n (i + 1) _ (by omega)
        exact key _ (gi ms p t) LF 0 0 (by omega)
      rw [es, c_sum c w hz hu, sb, hd, hm]
end Face
