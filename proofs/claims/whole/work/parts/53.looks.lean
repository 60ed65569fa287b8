/-! Looks. -/
section Looks
variable {ms kc : Nat → Int32}
def AL (T : List (Nat × Int32)) (a : Option (Nat ⊕ Int32)) (b : Option (Int32 × Int32)) : Prop :=
  (∃ k m, (k, m) ∈ T ∧ a = some (.inl k) ∧ b = some ((0 : Int32), m)) ∨ ∃ v : Int32, a = some (.inr v) ∧ b = some (v, (0 : Int32))
theorem g_ch (x : Int32) {n : Nat} (hn : n < 2 ^ 30) : (fX8_requireChoice x (nI n) = some (.inl 1) ∧ fX9_in x (0 : Int32) (nI n - 1) = some 0) ∨ ∃ j, j < n ∧ x = nI j ∧ fX8_requireChoice x (nI n) = some (.inr ()) ∧ fX9_in x (0 : Int32) (nI n - 1) = some 1 := by
  unfold fX8_requireChoice
  rcases g_in x hn with ⟨h1, h2⟩ | ⟨j, hj, rfl, h1, h2⟩
  · left; rw [h1, h2]; exact ⟨rfl, rfl⟩
  · right; exact ⟨j, hj, rfl, by rw [h1]; rfl, h2⟩
theorem bs {α : Type} (a : Option α) : Option.bind a (fun q => some q) = a := by cases a <;> rfl
theorem pp_ok (w : WF ms) (c : RC ms kc) {p j : Nat} (hp : p < gn ms) (hj : j < 8) : ∃ v, fX8_pieceProperty kc (nI p) (nI j) = some v ∧ fX9_tellsPiece ms (nI p) (nI j) = some v := by
  have h10 := p10 w hp
  have : j = 0 ∨ j = 1 ∨ j = 2 ∨ j = 3 ∨ j = 4 ∨ j = 5 ∨ j = 6 ∨ j = 7 := by omega
  rcases this with rfl | rfl | rfl | rfl | rfl | rfl | rfl | rfl
  · refine ⟨ms (5 * p + 1), ?_, ?_⟩
    · show Option.bind (fX0_get kc ((1 : Int32) + nI p)) (fun q => some q) = _
      rw [bs, c_abv c w hp]
    · show Option.bind (fX9_of ms (nI p) (0 : Int32)) (fun q => some q) = _
      rw [bs, m_abv h10]
  · refine ⟨ms (5 * p + 2), ?_, ?_⟩
    · show Option.bind (fX0_get kc ((11 : Int32) + nI p)) (fun q => some q) = _
      rw [bs, c_blw c w hp]
    · show Option.bind (fX9_of ms (nI p) (1 : Int32)) (fun q => some q) = _
      rw [bs, m_blw h10]
  · refine ⟨nI (gc ms p), ?_, ?_⟩
    · show Option.bind (fX0_receiptsOf kc (nI p)) (fun q => some q) = _
      rw [bs, c_recs c w h10]
    · show Option.bind (fX9_of ms (nI p) (2 : Int32)) (fun q => some q) = _
      rw [bs, m_cnt w h10]
  · refine ⟨oI (gu ms p), ?_, ?_⟩
    · show Option.bind (fX0_get kc ((21 : Int32) + nI p)) (fun q => some q) = _
      rw [bs, c_up c w hp]
    · show Option.bind (fX9_upperOf ms (nI p)) (fun q => some q) = _
      rw [bs, m_up w h10]
  · refine ⟨oI (gl ms p), ?_, ?_⟩
    · show Option.bind (fX0_get kc ((31 : Int32) + nI p)) (fun q => some q) = _
      rw [bs, c_lo c w hp]
    · show Option.bind (fX9_lowerOf ms (nI p)) (fun q => some q) = _
      rw [bs, m_lo w h10]
  · refine ⟨nI (root ms p), ?_, ?_⟩
    · show Option.bind (fX0_firstOfRoll kc (nI p)) (fun q => some q) = _
      rw [bs, c_first c w hp]
    · show Option.bind (fX9_firstOf ms (nI p)) (fun q => some q) = _
      rw [bs, m_first w hp]
  · refine ⟨nI (mkN (belP ms p) (gn ms)), ?_, ?_⟩
    · show Option.bind (fX3_lowersOf kc (nI p)) (fun q => some q) = _
      rw [bs, c_lowers c w hp]
    · show Option.bind (fX9_canBelow ms (nI p)) (fun q => some q) = _
      rw [bs, m_below w hp]
  · refine ⟨spI ms p, ?_, ?_⟩
    · show Option.bind (fX7_sumOfPiece kc (nI p)) (fun q => some q) = _
      rw [bs, c_sumPiece c w hp]
    · show Option.bind (fX9_sumOfPiece ms (nI p)) (fun q => some q) = _
      rw [bs, m_sumPiece w hp]
theorem rp_ok (w : WF ms) (c : RC ms kc) {p r j : Nat} (hp : p < gn ms) (hr : r < gc ms p) (hj : j < 9) : ∃ v, fX8_receiptProperty kc (nI (6 * p + r)) (nI j) = some v ∧ fX9_tellsReceipt ms (nI p) (nI r) (nI j) = some v := by
  have h10 := p10 w hp
  have h6 := r6 w hp hr
  have hd : (6 * p + r) / 6 = p := by omega
  have hm : (6 * p + r) % 6 = r := by omega
  have hz : 6 * p + r < 60 := by omega
  have hu : (6 * p + r) % 6 < gc ms ((6 * p + r) / 6) := by rw [hd, hm]; exact hr
  have cell : ∀ k, k < 8 → Option.bind (fX9_placeOf (nI p) (nI r)) (fun q => Option.bind (aget ms 531 (q + nI k)) (fun t => some t)) = some (ms (pl p r + k)) := fun k hk => by rw [m_place, sb, m_cell h10 h6 hk, sb]
  have : j = 0 ∨ j = 1 ∨ j = 2 ∨ j = 3 ∨ j = 4 ∨ j = 5 ∨ j = 6 ∨ j = 7 ∨ j = 8 := by omega
  rcases this with rfl | rfl | rfl | rfl | rfl | rfl | rfl | rfl | rfl
  · refine ⟨ms (pl p r), ?_, cell 0 (by omega)⟩
    show Option.bind (fX0_get kc ((51 : Int32) + nI (6 * p + r))) (fun q => some q) = _
    rw [bs, c_time c hz hu, hd, hm]
  · refine ⟨ms (pl p r + 1), ?_, cell 1 (by omega)⟩
    show Option.bind (fX0_get kc ((111 : Int32) + nI (6 * p + r))) (fun q => some q) = _
    rw [bs, c_shop c hz hu, hd, hm]
  · refine ⟨ms (pl p r + 2), ?_, cell 2 (by omega)⟩
    show Option.bind (fX0_get kc ((231 : Int32) + nI (6 * p + r))) (fun q => some q) = _
    rw [bs, c_its c w hz hu, hd, hm, (rv w hp hr).2.2.1.1]
  · refine ⟨sI ms p r, ?_, ?_⟩
    · show Option.bind (fX0_sumOf kc (nI (6 * p + r))) (fun q => some q) = _
      rw [bs, c_sum c w hz hu, hd, hm]
    · show Option.bind (fX9_sumOf ms (nI p) (nI r)) (fun q => some q) = _
      rw [bs, ms_sum w hp hr]
  · refine ⟨ms (pl p r + 7), ?_, ?_⟩
    · show Option.bind (fX0_get kc ((171 : Int32) + nI (6 * p + r))) (fun q => some q) = _
      rw [bs, c_tot c hz hu, hd, hm]
    · show Option.bind (fX9_totalOf ms (nI p) (nI r)) (fun q => some q) = _
      rw [bs, m_tot h10 h6]
  · refine ⟨kI ms p r, ?_, ?_⟩
    · show Option.bind (fX2_kindOf kc (nI (6 * p + r))) (fun q => some q) = _
      rw [bs, c_kind c w hz hu, hd, hm]
    · show Option.bind (fX9_stateOf ms (nI p) (nI r)) (fun q => some q) = _
      rw [bs, ms_kind w hp hr]
  · refine ⟨pgI ms p r, ?_, ?_⟩
    · show Option.bind (fX0_pageOfSlot kc (nI (6 * p + r))) (fun q => some q) = _
      rw [bs, c_page c hz hu, hd, hm]
    · show Option.bind (fX9_pageOf ms (nI p) (nI r)) (fun q => some q) = _
      rw [bs, m_page h10 h6]
  · refine ⟨hrI ms p r, ?_, ?_⟩
    · show Option.bind (fX0_hourOfSlot kc (nI (6 * p + r))) (fun q => some q) = _
      rw [bs, c_hour c hz hu, hd, hm]
    · show Option.bind (fX9_hourOf ms (nI p) (nI r)) (fun q => some q) = _
      rw [bs, m_hour h10 h6]
  · refine ⟨aI ms p r, ?_, ?_⟩
    · show Option.bind (fX7_alikeTo kc (nI (6 * p + r))) (fun q => some q) = _
      rw [bs, c_alike c w hz hu, hd, hm]
      rfl
    · show Option.bind (fX9_alike ms (nI p) (nI r)) (fun q => some q) = _
      rw [bs, m_alike w hp hr]
      rfl
theorem no_ok (w : WF ms) (c : RC ms kc) (x : Int32) {j : Nat} (hj : j < 13) : ∃ v, fX8_overallNumber kc x (nI j) = some v ∧ fX9_counts ms x (nI j) = some v := by
  have kind : ∀ k, (k = 4 ∨ k = 5 ∨ k = 6 ∨ k = 7 ∨ k = 8) → Option.bind (fX7_receiptsOfKind kc (nI k - (4 : Int32))) (fun q => some q) = some (NF ms (kS ms (nI k - (4 : Int32))) 0) ∧ Option.bind (fX9_overReceipts ms (nI k)) (fun q => some q) = some (NF ms (kS ms (nI k - (4 : Int32))) 0) := fun k hk => by
    rw [bs, bs]
    refine ⟨c_kinds c w _, m_kinds w _ _ rfl ?_ ?_⟩
    · rw [li 2, Ne, nI_eq (by omega) (by omega)]; omega
    · rw [li 10, Ne, nI_eq (by omega) (by omega)]; omega
  have : j = 0 ∨ j = 1 ∨ j = 2 ∨ j = 3 ∨ j = 4 ∨ j = 5 ∨ j = 6 ∨ j = 7 ∨ j = 8 ∨ j = 9 ∨ j = 10 ∨ j = 11 ∨ j = 12 := by omega
  rcases this with rfl | rfl | rfl | rfl | rfl | rfl | rfl | rfl | rfl | rfl | rfl | rfl | rfl
  · refine ⟨nI (gn ms), ?_, ?_⟩
    · show Option.bind (fX0_pieces kc) (fun q => some q) = _
      rw [bs, c_pieces w c]
    · show Option.bind (aget ms 531 (0 : Int32)) (fun q => some q) = _
      rw [bs, m_n w]
  · refine ⟨nI (gn ms) - jnI ms, ?_, ?_⟩
    · show Option.bind (fX0_pieces kc) (fun q => Option.bind (fX0_joins kc) (fun q5 => some (q - q5))) = _
      rw [c_pieces w c, sb, c_joins c w, sb]
    · show Option.bind (aget ms 531 (0 : Int32)) (fun q => Option.bind (fX9_joined ms) (fun q5 => some (q - q5))) = _
      rw [m_n w, sb, m_joined w, sb]
  · refine ⟨rcI ms, ?_, ?_⟩
    · show Option.bind (fX7_receiptsOf kc) (fun q => some q) = _
      rw [bs, c_receipts c w]
    · show Option.bind (fX9_overReceipts ms (2 : Int32)) (fun q => some q) = _
      rw [bs, m_receipts w]
  · refine ⟨NF ms (shS ms (-1) (-1)) 0, ?_, ?_⟩
    · show Option.bind (fX7_shopHourSum kc (-1 : Int32) (-1 : Int32)) (fun q => some q) = _
      rw [bs, c_shs c w]
    · show Option.bind (fX9_sumBy ms (-1 : Int32) (-1 : Int32)) (fun q => some q) = _
      rw [bs, m_shs w]
  · exact ⟨_, (kind 4 (by omega)).1, (kind 4 (by omega)).2⟩
  · exact ⟨_, (kind 5 (by omega)).1, (kind 5 (by omega)).2⟩
  · exact ⟨_, (kind 6 (by omega)).1, (kind 6 (by omega)).2⟩
  · exact ⟨_, (kind 7 (by omega)).1, (kind 7 (by omega)).2⟩
  · exact ⟨_, (kind 8 (by omega)).1, (kind 8 (by omega)).2⟩
  · refine ⟨jnI ms, ?_, ?_⟩
    · show Option.bind (fX0_joins kc) (fun q => some q) = _
      rw [bs, c_joins c w]
    · show Option.bind (fX9_joined ms) (fun q => some q) = _
      rw [bs, m_joined w]
  · refine ⟨NF ms (apS ms) 0 / (2 : Int32), ?_, ?_⟩
    · show Option.bind (fX7_alikePairs kc) (fun q => some q) = _
      rw [bs, c_pairs c w]
    · show Option.bind (fX9_overReceipts ms (10 : Int32)) (fun q => some (q / (2 : Int32))) = _
      rw [m_pairs w, sb]
  · refine ⟨puI ms, ?_, ?_⟩
    · show Option.bind (fX7_pagesUsed kc) (fun q => some q) = _
      rw [bs, c_pagesUsed c w, pages_eq w, sb]
    · show Option.bind (fX9_pages ms) (fun q => some q) = _
      rw [bs, m_pages w]
  · exact ⟨x, rfl, rfl⟩
theorem f_pieceOf (w : WF ms) (c : RC ms kc) (mt x y : Int32) : AL [(3, 1), (1, 2)] (fX8_pieceOf kc x y) (fX9_pieceOf ms mt x y) := by
  unfold fX8_pieceOf fX9_pieceOf
  rcases g_piece w c x with ⟨h1, h2⟩ | ⟨p, hp, rfl, h1, h2⟩
  · rw [h1, h2, sb, sb, if_pos rfl]
    exact Or.inl ⟨3, 1, by simp, rfl, rfl⟩
  · rw [h1, h2, sb, sb, if_neg one_n]
    unfold xs
    rw [show (7 : Int32) = nI 8 - 1 from rfl, li 8]
    rcases g_ch y (n := 8) (by omega) with ⟨h3, h4⟩ | ⟨j, hj, rfl, h3, h4⟩
    · rw [h3, h4, sb, sb, if_pos rfl]
      exact Or.inl ⟨1, 2, by simp, rfl, rfl⟩
    · obtain ⟨v, v1, v2⟩ := pp_ok w c hp hj
      rw [h3, h4, sb, sb, if_neg one_n, v2, sb]
      dsimp only
      rw [v1, sb]
      exact Or.inr ⟨v, rfl, rfl⟩
theorem f_receipt (w : WF ms) (c : RC ms kc) (mt x y z : Int32) : AL [(3, 1), (1, 2)] (fX8_receipt kc x y z) (fX9_receipt ms mt x y z) := by
  unfold fX8_receipt fX9_receipt
  rcases g_rec w c x y with ⟨h1, h2⟩ | ⟨p, r, hp, hr, rfl, rfl, h1, h2⟩
  · rw [h1, h2, sb, sb, if_pos rfl]
    exact Or.inl ⟨3, 1, by simp, rfl, rfl⟩
  · rw [h1, h2, sb, sb, if_neg one_n]
    unfold xs
    rw [show (8 : Int32) = nI 9 - 1 from rfl, li 9]
    rcases g_ch z (n := 9) (by omega) with ⟨h3, h4⟩ | ⟨j, hj, rfl, h3, h4⟩
    · rw [h3, h4, sb, sb, if_pos rfl]
      exact Or.inl ⟨1, 2, by simp, rfl, rfl⟩
    · obtain ⟨v, v1, v2⟩ := rp_ok w c hp hr hj
      rw [h3, h4, sb, sb, if_neg one_n, v2, sb]
      dsimp only
      rw [c_slotOf, sb, v1, sb]
      exact Or.inr ⟨v, rfl, rfl⟩
theorem f_page (w : WF ms) (c : RC ms kc) (mt x y : Int32) : AL [(1, 1)] (fX8_page kc x y) (fX9_page ms mt x y) := by
  unfold fX8_page fX9_page
  rw [show (7 : Int32) = nI 8 - 1 from rfl, li 8]
  rcases g_ch x (n := 8) (by omega) with ⟨h1, h2⟩ | ⟨i, hi, rfl, h1, h2⟩
  · rw [h1, h2, sb, sb, if_pos rfl]
    exact Or.inl ⟨1, 1, by simp, rfl, rfl⟩
  · rw [h1, h2, sb, sb, if_neg one_n]
    unfold xs
    rw [show (4 : Int32) = nI 5 - 1 from rfl, li 5]
    rcases g_ch y (n := 5) (by omega) with ⟨h3, h4⟩ | ⟨j, hj, rfl, h3, h4⟩
    · rw [h3, h4, sb, sb, if_pos rfl]
      exact Or.inl ⟨1, 1, by simp, rfl, rfl⟩
    · have hj' : nI j = 0 ∨ nI j = 1 ∨ nI j = 2 ∨ nI j = 3 ∨ nI j = 4 := by
        have : j = 0 ∨ j = 1 ∨ j = 2 ∨ j = 3 ∨ j = 4 := by omega
        rcases this with rfl | rfl | rfl | rfl | rfl <;> simp [li]
      rw [h3, h4, sb, sb, if_neg one_n, m_pageNo w _ hj', sb]
      dsimp only
      rw [c_pageNo c w, sb]
      exact Or.inr ⟨_, rfl, rfl⟩
theorem f_count (w : WF ms) (c : RC ms kc) (mt n x : Int32) : AL [(1, 1)] (fX8_count kc n x) (fX9_count ms mt n x) := by
  unfold fX8_count fX9_count
  rw [show (12 : Int32) = nI 13 - 1 from rfl, li 13]
  rcases g_ch x (n := 13) (by omega) with ⟨h1, h2⟩ | ⟨i, hi, rfl, h1, h2⟩
  · rw [h1, h2, sb, sb, if_pos rfl]
    exact Or.inl ⟨1, 1, by simp, rfl, rfl⟩
  · obtain ⟨v, v1, v2⟩ := no_ok w c n hi
    rw [h1, h2, sb, sb, if_neg one_n, v2, sb]
    unfold xs
    rw [v1, sb]
    exact Or.inr ⟨v, rfl, rfl⟩
theorem f_fits (w : WF ms) (c : RC ms kc) (mt x y : Int32) : AL [(3, 1)] (fX8_fits kc x y) (fX9_fits ms mt x y) := by
  unfold fX8_fits fX9_fits
  rcases g_piece w c x with ⟨h1, h2⟩ | ⟨p, hp, rfl, h1, h2⟩
  · rw [h1, h2, sb, sb, if_pos rfl]
    exact Or.inl ⟨3, 1, by simp, rfl, rfl⟩
  · rw [h1, h2, sb, sb, if_neg one_n]
    unfold xs
    rcases g_piece w c y with ⟨h3, h4⟩ | ⟨q, hq, rfl, h3, h4⟩
    · rw [h3, h4, sb, sb, if_pos rfl]
      exact Or.inl ⟨3, 1, by simp, rfl, rfl⟩
    · rw [h3, h4, sb, sb, if_neg one_n, m_fit w hp hq, sb]
      dsimp only
      rw [c_fit c w hp hq, sb]
      exact Or.inr ⟨_, rfl, rfl⟩
theorem f_hidden (w : WF ms) (c : RC ms kc) (mt : Int32) : ∃ v, fX8_hidden kc = some v ∧ fX9_hidden ms mt = some (v, (0 : Int32)) := by
  unfold fX8_hidden fX9_hidden
  rw [c_hidden c w, m_wr0 w, sb, sb]
  exact ⟨_, rfl, rfl⟩
theorem f_suspect (w : WF ms) (c : RC ms kc) (mt : Int32) : ∃ v, fX8_suspect kc = some v ∧ fX9_suspect ms mt = some (v, (0 : Int32)) := by
  unfold fX8_suspect fX9_suspect
  rw [c_suspect c w, m_suspect w, sb, sb]
  exact ⟨_, rfl, rfl⟩
theorem f_line (w : WF ms) (c : RC ms kc) (kln : Nat → Int32) (klr mt x y z : Int32) : (fX8_line kc kln klr x y z = some (.inl 1) ∧ fX9_line ms mt x y z = some ((0 : Int32), (1 : Int32))) ∨ ∃ (v : Int32) (kln' : Nat → Int32) (klr' : Int32), fX8_line kc kln klr x y z = some (.inr (v, kln', klr')) ∧ fX9_line ms mt x y z = some (v, (0 : Int32)) := by
  unfold fX8_line fX9_line
  rw [show (7 : Int32) = nI 8 - 1 from rfl, li 8]
  rcases g_ch x (n := 8) (by omega) with ⟨h1, h2⟩ | ⟨i, hi, rfl, h1, h2⟩
  · rw [h1, h2, sb, sb, if_pos rfl]
    exact Or.inl ⟨rfl, rfl⟩
  · rw [h1, h2, sb, sb, if_neg one_n]
    unfold xs
    dsimp only
    rw [show (3 : Int32) = nI 3 from rfl]
    have z2 : ∀ a : Int32, fX9_in a (0 : Int32) (2 : Int32) = fX9_in a (0 : Int32) (nI 3 - 1) := fun a => rfl
    rw [z2]
    by_cases hy : y < 0
    · rw [if_pos hy]
      have hny : ¬ 0 ≤ y := by
        rw [Int32.lt_iff_toInt_lt] at hy
        rw [Int32.le_iff_toInt_le]
        omega
      rcases g_ch z (n := 3) (by omega) with ⟨h3, h4⟩ | ⟨j, hj, rfl, h3, h4⟩
      · rw [h3, sb]
        exact Or.inl ⟨rfl, rfl⟩
      · rw [h3, sb]
        dsimp only
        rw [if_neg hny]
        exact Or.inl ⟨rfl, rfl⟩
    · obtain ⟨L, hL, rfl⟩ := nI_of hy
      rw [if_neg hy]
      rcases g_ch z (n := 3) (by omega) with ⟨h3, h4⟩ | ⟨j, hj, rfl, h3, h4⟩
      · rw [h3, h4, sb, sb, if_pos rfl]
        exact Or.inl ⟨rfl, rfl⟩
      · rw [h3, h4, sb, sb, if_neg one_n]
        dsimp only
        rw [if_pos (nI_pos' hL)]
        obtain ⟨a, n, kln', s1, s2, s3⟩ := sort_ok c w kln klr
        rw [s1, sb]
        dsimp only
        have hs2 := s2
        obtain ⟨o0, o1, -, -⟩ := hs2
        right
        rcases c_slotAt c w s2 s3 (pg := nI i) hL with ⟨g1, g2⟩ | ⟨q, q1, q2, q3, q4⟩
        · rw [g2, sb, if_pos rfl, (m_line w s2 hL).1 g1, sb]
          exact ⟨_, _, _, rfl, rfl⟩
        · obtain ⟨b1, b2⟩ := o1 q q1
          rw [q4, sb, if_neg (nI_m1 (by omega)), (m_line w s2 hL).2 q q1 q2 q3, sb, c_pieceOf b1, c_numOf b1, c_sum c w b1 b2]
          unfold vl
          have : j = 0 ∨ j = 1 ∨ j = 2 := by omega
          rcases this with rfl | rfl | rfl
          · exact ⟨_, kln', nI n, rfl, rfl⟩
          · exact ⟨_, kln', nI n, rfl, rfl⟩
          · exact ⟨_, kln', nI n, rfl, rfl⟩
end Looks
