/-! Pasting. -/
section Paste
variable {b : Nat → Nat} {len : Nat} {mb kbc ms kc mr : Nat → Int32} {p : Nat}
/-- whether a receipt of a time can be added -/
theorem can_ok (w : WF ms) (c : RC ms kc) (hp : p < gn ms) {t : Nat} (ht : t ≤ 9999) {kit : Nat → Int32} {r1 r4 r5 : Int32} :
    (fX9_canAdd ms (nI p) (nI t) = some 0 ∧ fX8_addRead kc kit r1 (nI t) r4 r5 (nI p) = some (0, kc)) ∨
    (fX9_canAdd ms (nI p) (nI t) = some 1 ∧ gc ms p < 6 ∧ fX8_addRead kc kit r1 (nI t) r4 r5 (nI p) =
      Option.bind (fX0_set kc ((51 : Int32) + nI (6 * p + gc ms p)) (nI t)) (fun q10 => Option.bind (fX0_set q10 ((111 : Int32) + nI (6 * p + gc ms p)) r4) (fun q12 => Option.bind (fX0_set q12 ((171 : Int32) + nI (6 * p + gc ms p)) r1) (fun q14 => Option.bind (fX0_set q14 ((231 : Int32) + nI (6 * p + gc ms p)) r5) (fun q16 => fX8_addRead_141 (fun k => Option.bind (fX0_set k ((41 : Int32) + nI p) (nI (gc ms p) + (1 : Int32))) (fun q26 => some ((1 : Int32), q26))) kit r5 (nI p) (nI (gc ms p)) (nI (6 * p + gc ms p)) LF (0 : Int32) q16))))) := by
  have h10 := w.1.2
  have hp10 := p10 w hp
  have h6 := gc_b w hp10
  have hle := gl_le w p hp
  unfold fX9_canAdd fX8_addRead fX6_time fX6_shop fX6_printed fX6_items
  rw [m_lo w hp10, sb, m_cnt w hp10, c_recs c w hp10]
  simp only [sb]
  by_cases hg : gl ms p = 0
  · rw [hg, if_pos oI_0]
    by_cases hf : gc ms p = 6
    · left
      rw [hf, if_pos (show (6 : Int32) ≤ nI 6 by decide), if_pos (show (6 : Int32) ≤ nI 6 by decide)]
      exact ⟨rfl, rfl⟩
    · have n6 : ¬ (6 : Int32) ≤ nI (gc ms p) := by rw [li 6]; exact nI_ge (by omega) (by omega)
      rw [if_neg n6, if_neg n6, m_last w hp, c_last c w hp]
      simp only [sb]
      by_cases hl : nI t < ltF ms 10 (p + 1)
      · left
        rw [if_pos hl, if_pos hl]
        exact ⟨rfl, rfl⟩
      · right
        rw [if_neg hl, if_neg hl, c_lo c w hp, sb, hg, c_firstT c w (by omega), sb, if_pos]
        · refine ⟨rfl, by omega, ?_⟩
          rw [c_slotOf, sb]
        · show nI t ≤ nI 10000
          exact nI_le (by omega) (by omega)
  · have hne : ¬ oI (gl ms p) = (-1 : Int32) := fun e => hg ((oI_m1 (gl_b w hp)).mp e)
    rw [if_neg hne, m_firstT w hle]
    simp only [sb]
    by_cases hf : gc ms p = 6
    · left
      rw [hf, if_pos (show (6 : Int32) ≤ nI 6 by decide), if_pos (show (6 : Int32) ≤ nI 6 by decide)]
      exact ⟨rfl, rfl⟩
    · have n6 : ¬ (6 : Int32) ≤ nI (gc ms p) := by rw [li 6]; exact nI_ge (by omega) (by omega)
      rw [if_neg n6, if_neg n6, m_last w hp, c_last c w hp]
      simp only [sb]
      by_cases hl : nI t < ltF ms 10 (p + 1)
      · left
        rw [if_pos hl, if_pos hl]
        exact ⟨rfl, rfl⟩
      · rw [if_neg hl, if_neg hl, c_lo c w hp, sb, c_firstT c w hle, sb]
        cases hft : ftF ms 10 (gl ms p) with
        | none =>
          right
          rw [if_pos (show (none : Option Int32).getD (-1) = (-1 : Int32) from rfl), if_pos (show nI t ≤ (none : Option Int32).getD 10000 from (nI_le (show t ≤ 10000 by omega) (show 10000 < 2 ^ 31 by omega) : nI t ≤ nI 10000))]
          refine ⟨rfl, by omega, ?_⟩
          rw [c_slotOf, sb]
        | some f =>
          obtain ⟨n, hn, rfl⟩ := ftF_n w 10 _ hle _ hft
          rw [show (some (nI n)).getD (-1) = nI n from rfl, show (some (nI n)).getD 10000 = nI n from rfl, if_neg (nI_m1 (by omega))]
          by_cases hlt : n < t
          · left
            rw [if_pos (nI_lt hlt (by omega)), if_neg (nI_ge hlt (by omega))]
            exact ⟨rfl, rfl⟩
          · right
            rw [if_neg (nI_nlt (by omega) (by omega)), if_pos (nI_le (by omega) (by omega))]
            refine ⟨rfl, by omega, ?_⟩
            rw [c_slotOf, sb]
def cpM (ms mr : Nat → Int32) (p m : Nat) : Nat → Int32 := fo (fun k s => upd s (pl p (gc ms p) + k) (mr (8 * m + k))) 8 0 ms
def adM (ms mr : Nat → Int32) (p m : Nat) : Nat → Int32 := upd (cpM ms mr p m) (5 * p + 3) (nI (gc ms p + 1))
theorem rec_add (w : WF ms) (c : RC ms kc) (hp : p < gn ms) {m v n d : Nat} {kit : Nat → Int32} {r3 r4 : Int32} (R : RR m mr kit v r3 r4 n) (hv : DN v d) (hm : m ≤ 7) :
    (fX9_canAdd ms (nI p) (mr (8 * m)) = some 0 ∧ fX8_addRead kc kit (nI v) r3 r4 (nI n) (nI p) = some (0, kc)) ∨
    (fX9_canAdd ms (nI p) (mr (8 * m)) = some 1 ∧ gc ms p < 6 ∧ ∃ kc', fX8_addRead kc kit (nI v) r3 r4 (nI n) (nI p) = some (1, kc') ∧ WF (adM ms mr p m) ∧ RC (adM ms mr p m) kc' ∧ gn (adM ms mr p m) = gn ms) := by
  obtain ⟨R0, R1, R2, R3, ⟨n1, n4⟩, ⟨t, ht, rt⟩, ⟨z, hz, rz⟩, R7⟩ := R
  have hp10 := p10 w hp
  have hdn := dn_b hv
  rw [← R0, rt]
  rcases can_ok w c hp ht (kit := kit) (r1 := nI v) (r4 := r4) (r5 := nI n) with h | ⟨h1, h6, h2⟩
  · exact Or.inl h
  · right
    rw [h2]
    have hb := pl_b hp10 h6
    generalize hq : gc ms p = q at *
    have hs : 6 * p + q < 60 := by omega
    generalize hy : 6 * p + q = y at *
    have lp : ∀ s : Nat → Int32, fX8_addRead_141 (fun k => Option.bind (fX0_set k ((41 : Int32) + nI p) (nI q + (1 : Int32))) (fun q26 => some ((1 : Int32), q26))) kit (nI n) (nI p) (nI q) (nI y) LF (0 : Int32) s = some ((1 : Int32), upd (fo (fun k s => upd s (291 + 4 * y + k) (kit k)) n 0 s) (41 + p) (nI (q + 1))) := by
      intro s
      refine Eq.trans (m_loop1 n (by omega) (fun m s i => fX8_addRead_141 (fun k => Option.bind (fX0_set k ((41 : Int32) + nI p) (nI q + (1 : Int32))) (fun q26 => some ((1 : Int32), q26))) kit (nI n) (nI p) (nI q) (nI y) m (nI i) s) (fun k => Option.bind (fX0_set k ((41 : Int32) + nI p) (nI q + (1 : Int32))) (fun q26 => some ((1 : Int32), q26))) (fun k s => upd s (291 + 4 * y + k) (kit k)) (fun m s => ?_) (fun m s i hi => ?_) s) ?_
      · show Option.bind (fX6_items (nI n)) _ = _
        unfold fX6_items
        rw [sb, if_pos (nI_le (Nat.le_refl _) (by omega))]
      · show Option.bind (fX6_items (nI n)) _ = _
        unfold fX6_items
        rw [sb, if_neg (nI_ge hi (by omega))]
        unfold fX6_itemAt
        rw [if_neg (nI_pos (by omega)), li 4, if_neg (nI_ge (by omega) (by omega)), aget_n (by omega) (by omega), sb, sb, li 291, pk_mul, nI_add, nI_add, c_set (by omega), sb, show 291 + y * 4 + i = 291 + 4 * y + i by omega, show nI i + (1 : Int32) = nI (i + 1) from ia i]
      · show Option.bind (fX0_set _ ((41 : Int32) + nI p) (nI q + (1 : Int32))) _ = _
        rw [li 41, c_sa (by omega), sb, ia]
    rw [li 51, c_sa (by omega), sb, li 111, c_sa (by omega), sb, li 171, c_sa (by omega), sb, li 231, c_sa (by omega), sb, lp]
    have g1 : ∀ j, cpM ms mr p m j = if pl p q + 0 ≤ j ∧ j < pl p q + 0 + 8 then mr (8 * m + (j - pl p q)) else ms j := fun j => by
      unfold cpM
      rw [hq]
      exact fo_fill (pl p q) (fun k => mr (8 * m + k)) 8 0 ms j
    have g2 : ∀ (s : Nat → Int32) (j : Nat), fo (fun k s => upd s (291 + 4 * y + k) (kit k)) n 0 s j = if 291 + 4 * y + 0 ≤ j ∧ j < 291 + 4 * y + 0 + n then kit (j - (291 + 4 * y)) else s j := fun s j => fo_fill (291 + 4 * y) kit n 0 s j
    have hA : adM ms mr p m = upd (cpM ms mr p m) (5 * p + 3) (nI (q + 1)) := by unfold adM; rw [hq]
    have k1 : ∀ k, k < 8 → adM ms mr p m (pl p q + k) = mr (8 * m + k) := fun k hk => by
      rw [hA, pk_un (by omega), g1, if_pos (by omega), show pl p q + k - pl p q = k by omega]
    have k0 : adM ms mr p m (pl p q) = mr (8 * m) := k1 0 (by omega)
    have kg : gi (adM ms mr p m) p q = n := by
      unfold gi
      rw [k1 2 (by omega), ← R3, nN (by omega)]
    have k3 : ∀ k, k < n → adM ms mr p m (pl p q + 3 + k) = kit k ∧ ∃ x : Nat, 1 ≤ x ∧ x ≤ 999 ∧ kit k = nI x := fun k hk => by
      obtain ⟨x, x1, x2, x3, x4⟩ := R7 k hk
      refine ⟨?_, x, x1, x2, x3⟩
      rw [show pl p q + 3 + k = pl p q + (3 + k) by omega, k1 _ (by omega), show 8 * m + (3 + k) = 8 * m + 3 + k by omega, x3, x4]
    have hgn : gn (adM ms mr p m) = gn ms := by
      unfold gn
      rw [hA, pk_un (by omega), g1, if_neg (by omega)]
    generalize hK : upd (fo (fun k s => upd s (291 + 4 * y + k) (kit k)) n 0 (upd (upd (upd (upd kc (51 + y) (nI t)) (111 + y) r4) (171 + y) (nI v)) (231 + y) (nI n))) (41 + p) (nI (q + 1)) = kc' at *
    have e1 : kc' (51 + y) = nI t := by rw [← hK, pk_un (by omega), g2, if_neg (by omega), pk_un (by omega), pk_un (by omega), pk_un (by omega), pk_us]
    have e2 : kc' (111 + y) = r4 := by rw [← hK, pk_un (by omega), g2, if_neg (by omega), pk_un (by omega), pk_un (by omega), pk_us]
    have e3 : kc' (171 + y) = nI v := by rw [← hK, pk_un (by omega), g2, if_neg (by omega), pk_un (by omega), pk_us]
    have e4 : kc' (231 + y) = nI n := by rw [← hK, pk_un (by omega), g2, if_neg (by omega), pk_us]
    have e5 : ∀ k, k < n → kc' (291 + 4 * y + k) = kit k := fun k hk => by rw [← hK, pk_un (by omega), g2, if_pos (by omega), show 291 + 4 * y + k - (291 + 4 * y) = k by omega]
    have ok := rec_ok (ms' := adM ms mr p m) (kc' := kc') w c hp (n := q + 1) (t := q) (by omega) h6 (by rw [hA, pk_us])
      (fun j hj h h' => by rw [hA, pk_un h, g1, if_neg (by omega)]) (fun r hr hne => by omega)
      (fun _ => ⟨⟨⟨t, ht, by rw [k0, ← R0, rt]⟩, ⟨z, hz, by rw [k1 1 (by omega), ← R1, rz]⟩, ⟨by rw [kg, k1 2 (by omega), R3], by omega, by omega⟩, fun k hk => by
        rw [kg] at hk
        obtain ⟨a, x, x1, x2, x3⟩ := k3 k hk
        exact ⟨x, x1, x2, by rw [a, x3]⟩, ⟨v, hdn.1, by rw [k1 7 (by omega), R2]⟩⟩,
        by rw [hy, e1, k0, ← R0, rt], by rw [hy, e2, k1 1 (by omega), R1], by rw [hy, e3, k1 7 (by omega), R2], by rw [hy, e4, k1 2 (by omega), R3], fun k hk => by
        rw [kg] at hk
        rw [hy, e5 k hk, (k3 k hk).1]⟩) (by rw [← hK, pk_us]) (fun j hj a0 a1 a2 a3 a4 a5 => by
          rw [hy] at a1 a2 a3 a4 a5
          rw [← hK, pk_un a0, g2, if_neg (by omega), pk_un a4, pk_un a3, pk_un a2, pk_un a1])
    exact ⟨h1, h6, kc', rfl, ok.1, ok.2, hgn⟩
end Paste
