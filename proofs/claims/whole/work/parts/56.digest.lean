/-! Parts of the digest. -/
def mx (h : Int64) (v : Int32) : Int64 := (31 : Int64) * h + v.toInt64
theorem c_mx (h : Int64) (v : Int32) : fX8_mixed h v.toInt64 = some (mx h v) := rfl
theorem m_mx (h : Int64) (v : Int32) : fX9_hashes h v.toInt64 = some (mx h v) := rfl
theorem fo_flat {σ : Type} (d : Nat) (hd : 0 < d) (st : Nat → Nat → σ → σ) : ∀ (n : Nat) (s : σ), fo (fun z s => st (z / d) (z % d) s) (d * n) 0 s = fo (fun r s => fo (fun k s => st r k s) d 0 s) n 0 s
  | 0, _ => rfl
  | n + 1, s => by
    rw [show d * (n + 1) = d * n + d from Nat.mul_succ d n, fo_add, fo_flat d hd st n, fo_add _ n 1, Nat.zero_add]
    generalize fo (fun r s => fo (fun k s => st r k s) d 0 s) n 0 s = s1
    show _ = fo (fun k s => st (0 + n) k s) d 0 s1
    rw [Nat.zero_add]
    have e := fo_shift (fun z s => st (z / d) (z % d) s) (d * n) d 0 s1
    rw [Nat.add_zero] at e
    rw [e]
    refine fo_congr _ _ _ (fun j s _ hj => ?_)
    have hj : j < d := by omega
    rw [Nat.mul_add_div hd, Nat.mul_add_mod, Nat.div_eq_of_lt hj, Nat.mod_eq_of_lt hj, Nat.add_zero]
section Digest
variable {ms kc mb kbc : Nat → Int32} {a : Nat → Nat} {n : Nat}
theorem ge_n {i e : Nat} {α : Type} {x y : α} (h : i < e) (he : e < 2 ^ 31) : (if nI e ≤ nI i then x else y) = y := if_neg (nI_ge h he)
theorem ge_e {e : Nat} {α : Type} {x y : α} (he : e < 2 ^ 31) : (if nI e ≤ nI e then x else y) = x := if_pos (nI_le (Nat.le_refl _) he)
def nv (ms : Nat → Int32) (x : Int32) (j : Nat) : Int32 := (fX9_counts ms x (nI j)).getD 0
theorem nv_ok (w : WF ms) (c : RC ms kc) (x : Int32) {j : Nat} (hj : j < 13) : fX8_overallNumber kc x (nI j) = some (nv ms x j) ∧ fX9_counts ms x (nI j) = some (nv ms x j) := by
  obtain ⟨v, h1, h2⟩ := no_ok w c x hj
  unfold nv
  rw [h2]
  exact ⟨h1, rfl⟩
def nuF (ms : Nat → Int32) (x : Int32) (h : Int64) : Int64 := fo (fun j h => mx h (nv ms x j)) 13 0 h
theorem c_nu (w : WF ms) (c : RC ms kc) (x : Int32) (h : Int64) : fX8_hashWithNumbers kc x h = some (nuF ms x h) := by
  unfold fX8_hashWithNumbers
  refine m_loop1 13 (by omega) (fun m s i => fX8_hashWithNumbers_5 (fun u => some u) kc x m s (nI i)) (fun u => some u) _ (fun m s => ?_) (fun m s i hi => ?_) h
  · show (if nI 13 ≤ nI 13 then _ else _) = _
    rw [ge_e (by omega)]
  · show (if nI 13 ≤ nI i then _ else _) = _
    rw [ge_n hi (by omega), (nv_ok w c x hi).1, sb, c_mx, sb, ia]
theorem m_nu (w : WF ms) (c : RC ms kc) (x : Int32) (K : Int64 → Option (Int64 × (Nat → Int32) × Int32 × Int64)) (h : Int64) : fX9_digest_14 K ms x LF (0 : Int32) h = K (nuF ms x h) := by
  refine m_loop1 13 (by omega) (fun m s i => fX9_digest_14 K ms x m (nI i) s) K _ (fun m s => ?_) (fun m s i hi => ?_) h
  · show (if nI 13 ≤ nI 13 then _ else _) = _
    rw [ge_e (by omega)]
  · show (if nI 13 ≤ nI i then _ else _) = _
    rw [ge_n hi (by omega), (nv_ok w c x hi).2, sb, m_mx, sb, ia]
def pv (ms : Nat → Int32) (p j : Nat) : Int32 := (fX9_tellsPiece ms (nI p) (nI j)).getD 0
theorem pv_ok (w : WF ms) (c : RC ms kc) {p j : Nat} (hp : p < gn ms) (hj : j < 8) : fX8_pieceProperty kc (nI p) (nI j) = some (pv ms p j) ∧ fX9_tellsPiece ms (nI p) (nI j) = some (pv ms p j) := by
  obtain ⟨v, h1, h2⟩ := pp_ok w c hp hj
  unfold pv
  rw [h2]
  exact ⟨h1, rfl⟩
def rvv (ms : Nat → Int32) (p r j : Nat) : Int32 := (fX9_tellsReceipt ms (nI p) (nI r) (nI j)).getD 0
theorem rvv_ok (w : WF ms) (c : RC ms kc) {p r j : Nat} (hp : p < gn ms) (hr : r < gc ms p) (hj : j < 9) : fX8_receiptProperty kc (nI (6 * p + r)) (nI j) = some (rvv ms p r j) ∧ fX9_tellsReceipt ms (nI p) (nI r) (nI j) = some (rvv ms p r j) := by
  obtain ⟨v, h1, h2⟩ := rp_ok w c hp hr hj
  unfold rvv
  rw [h2]
  exact ⟨h1, rfl⟩
def piF (ms : Nat → Int32) (h : Int64) : Int64 := fo (fun p h => fo (fun r h => fo (fun k h => mx h (rvv ms p r k)) 9 0 h) (gc ms p) 0 (fo (fun j h => mx h (pv ms p j)) 8 0 h)) (gn ms) 0 h
theorem c_pi (w : WF ms) (c : RC ms kc) (h : Int64) : fX8_hashWithPieces kc h = some (piF ms h) := by
  have h10 := w.1.2
  unfold fX8_hashWithPieces
  refine m_loop1 (gn ms) (by omega) (fun m s i => fX8_hashWithPieces_5 (fun u => some u) kc m s (nI i)) (fun u => some u) (fun p h => fo (fun r h => fo (fun k h => mx h (rvv ms p r k)) 9 0 h) (gc ms p) 0 (fo (fun j h => mx h (pv ms p j)) 8 0 h)) (fun m s => ?_) (fun m s p hp => ?_) h
  · show fX8_hashWithPieces_5 _ _ (m + 1) s _ = _
    rw [fX8_hashWithPieces_5, c_pieces w c, sb, ge_e (by omega)]
  · have h6 := gc_b w (p10 w hp)
    show fX8_hashWithPieces_5 _ _ (m + 1) s _ = _
    rw [fX8_hashWithPieces_5, c_pieces w c, sb, ge_n hp (by omega), ia]
    refine Eq.trans (m_loop1 8 (by omega) (fun q s i => fX8_hashWithPieces_20 (fun u3_6 => fX8_hashWithPieces_50 (fun u3_21 => fX8_hashWithPieces_5 (fun u => some u) kc m u3_21 (nI (p + 1))) kc (nI p) LF u3_6 (0 : Int32)) kc (nI p) q s (nI i)) (fun u3_6 => fX8_hashWithPieces_50 (fun u3_21 => fX8_hashWithPieces_5 (fun u => some u) kc m u3_21 (nI (p + 1))) kc (nI p) LF u3_6 (0 : Int32)) (fun j h => mx h (pv ms p j)) (fun q s => ?_) (fun q s i hi => ?_) s) ?_
    · show (if nI 8 ≤ nI 8 then _ else _) = _
      rw [ge_e (by omega)]
    · show (if nI 8 ≤ nI i then _ else _) = _
      rw [ge_n hi (by omega), (pv_ok w c hp hi).1, sb, c_mx, sb, ia]
    · refine m_loop1 (gc ms p) (by omega) (fun q s i => fX8_hashWithPieces_50 (fun u3_21 => fX8_hashWithPieces_5 (fun u => some u) kc m u3_21 (nI (p + 1))) kc (nI p) q s (nI i)) (fun u3_21 => fX8_hashWithPieces_5 (fun u => some u) kc m u3_21 (nI (p + 1))) (fun r h => fo (fun k h => mx h (rvv ms p r k)) 9 0 h) (fun q s => ?_) (fun q s r hr => ?_) _
      · show fX8_hashWithPieces_50 _ _ _ (q + 1) s _ = _
        rw [fX8_hashWithPieces_50, c_recs c w (p10 w hp), sb, ge_e (by omega)]
      · show fX8_hashWithPieces_50 _ _ _ (q + 1) s _ = _
        rw [fX8_hashWithPieces_50, c_recs c w (p10 w hp), sb, ge_n hr (by omega), ia]
        refine m_loop1 9 (by omega) (fun t s i => fX8_hashWithPieces_67 (fun u3_16 => fX8_hashWithPieces_50 (fun u3_21 => fX8_hashWithPieces_5 (fun u => some u) kc m u3_21 (nI (p + 1))) kc (nI p) q u3_16 (nI (r + 1))) kc (nI p) (nI r) t s (nI i)) (fun u3_16 => fX8_hashWithPieces_50 (fun u3_21 => fX8_hashWithPieces_5 (fun u => some u) kc m u3_21 (nI (p + 1))) kc (nI p) q u3_16 (nI (r + 1))) (fun k h => mx h (rvv ms p r k)) (fun t s => ?_) (fun t s i hi => ?_) s
        · show (if nI 9 ≤ nI 9 then _ else _) = _
          rw [ge_e (by omega)]
        · show (if nI 9 ≤ nI i then _ else _) = _
          rw [ge_n hi (by omega), c_slotOf, sb, (rvv_ok w c hp hr hi).1, sb, c_mx, sb, ia]
def fiF (ms : Nat → Int32) (h : Int64) : Int64 := fo (fun p h => fo (fun q h => mx h (ftI ms p q)) (gn ms) 0 h) (gn ms) 0 h
theorem c_fi (w : WF ms) (c : RC ms kc) (h : Int64) : fX8_hashWithFits kc h = some (fiF ms h) := by
  have h10 := w.1.2
  unfold fX8_hashWithFits
  refine m_loop1 (gn ms) (by omega) (fun m s i => fX8_hashWithFits_5 (fun u => some u) kc m s (nI i)) (fun u => some u) (fun p h => fo (fun q h => mx h (ftI ms p q)) (gn ms) 0 h) (fun m s => ?_) (fun m s p hp => ?_) h
  · show fX8_hashWithFits_5 _ _ (m + 1) s _ = _
    rw [fX8_hashWithFits_5, c_pieces w c, sb, ge_e (by omega)]
  · show fX8_hashWithFits_5 _ _ (m + 1) s _ = _
    rw [fX8_hashWithFits_5, c_pieces w c, sb, ge_n hp (by omega), ia]
    refine m_loop1 (gn ms) (by omega) (fun t s i => fX8_hashWithFits_20 (fun u3_7 => fX8_hashWithFits_5 (fun u => some u) kc m u3_7 (nI (p + 1))) kc (nI p) t s (nI i)) (fun u3_7 => fX8_hashWithFits_5 (fun u => some u) kc m u3_7 (nI (p + 1))) (fun q h => mx h (ftI ms p q)) (fun t s => ?_) (fun t s i hi => ?_) s
    · show fX8_hashWithFits_20 _ _ _ (t + 1) s _ = _
      rw [fX8_hashWithFits_20, c_pieces w c, sb, ge_e (by omega)]
    · show fX8_hashWithFits_20 _ _ _ (t + 1) s _ = _
      rw [fX8_hashWithFits_20, c_pieces w c, sb, ge_n hi (by omega), c_fit c w hp hi, sb, c_mx, sb, ia]
theorem m_pi (w : WF ms) (c : RC ms kc) (h : Int64) : fX9_hashesPieces ms h = some (fiF ms (piF ms h)) := by
  have h10 := w.1.2
  unfold fX9_hashesPieces
  refine Eq.trans (m_loop1 (gn ms) (by omega) (fun m s i => fX9_hashesPieces_2 (fun mh_u19 => fX9_hashesPieces_84 (fun u => some u) ms LF (0 : Int32) mh_u19) ms m (nI i) s) (fun mh_u19 => fX9_hashesPieces_84 (fun u => some u) ms LF (0 : Int32) mh_u19) (fun p h => fo (fun r h => fo (fun k h => mx h (rvv ms p r k)) 9 0 h) (gc ms p) 0 (fo (fun j h => mx h (pv ms p j)) 8 0 h)) (fun m s => ?_) (fun m s p hp => ?_) h) ?_
  · show fX9_hashesPieces_2 _ _ (m + 1) _ s = _
    rw [fX9_hashesPieces_2, m_n w, sb, ge_e (by omega)]
  · have hp10 := p10 w hp
    have h6 := gc_b w hp10
    show fX9_hashesPieces_2 _ _ (m + 1) _ s = _
    rw [fX9_hashesPieces_2, m_n w, sb, ge_n hp (by omega), ia]
    show _ = (fun mh_u14 => fX9_hashesPieces_2 (fun mh_u19 => fX9_hashesPieces_84 (fun u => some u) ms LF (0 : Int32) mh_u19) ms m (nI (p + 1)) mh_u14) _
    generalize (fun mh_u14 => fX9_hashesPieces_2 (fun mh_u19 => fX9_hashesPieces_84 (fun u => some u) ms LF (0 : Int32) mh_u19) ms m (nI (p + 1)) mh_u14) = K
    refine Eq.trans (m_loop1 8 (by omega) (fun q s i => fX9_hashesPieces_14 (fun mh_u6 => fX9_hashesPieces_39 K ms (nI p) LF (0 : Int32) mh_u6) ms (nI p) q (nI i) s) (fun mh_u6 => fX9_hashesPieces_39 K ms (nI p) LF (0 : Int32) mh_u6) (fun j h => mx h (pv ms p j)) (fun q s => ?_) (fun q s i hi => ?_) s) ?_
    · show (if nI 8 ≤ nI 8 then _ else _) = _
      rw [ge_e (by omega)]
    · show (if nI 8 ≤ nI i then _ else _) = _
      rw [ge_n hi (by omega), (pv_ok w c hp hi).2, sb, m_mx, sb, ia]
    · rw [← fo_flat 9 (by omega) (fun r k h => mx h (rvv ms p r k))]
      refine m_loop1 (9 * gc ms p) (by omega) (fun q s i => fX9_hashesPieces_39 K ms (nI p) q (nI i) s) K (fun z h => mx h (rvv ms p (z / 9) (z % 9))) (fun q s => ?_) (fun q s i hi => ?_) _
      · show fX9_hashesPieces_39 _ _ _ (q + 1) _ s = _
        rw [fX9_hashesPieces_39, m_cnt w hp10, sb, li 9, pk_mul, ge_e (by omega)]
      · show fX9_hashesPieces_39 _ _ _ (q + 1) _ s = _
        rw [fX9_hashesPieces_39, m_cnt w hp10, sb, li 9, pk_mul, ge_n hi (by omega), pk_rem (by omega) (by omega) (by omega), pk_div (by omega) (by omega) (by omega), (rvv_ok w c hp (show i / 9 < gc ms p by omega) (show i % 9 < 9 by omega)).2, sb, m_mx, sb, ia]
  · by_cases h0 : gn ms = 0
    · have e : fiF ms (piF ms h) = piF ms h := by unfold fiF; rw [h0]; rfl
      rw [e, LF_eq, fX9_hashesPieces_84, m_n w, sb, sb, pk_mul, h0, if_pos (show nI (0 * 0) ≤ (0 : Int32) by decide)]
      unfold piF
      rw [h0]
    · have hd : 0 < gn ms := by omega
      have h100 : gn ms * gn ms ≤ 100 := Nat.mul_le_mul h10 h10
      have hf : fiF ms (piF ms h) = fo (fun z h => mx h (ftI ms (z / gn ms) (z % gn ms))) (gn ms * gn ms) 0 (piF ms h) := (fo_flat (gn ms) hd (fun p q h => mx h (ftI ms p q)) (gn ms) (piF ms h)).symm
      rw [hf]
      refine m_loop1 (gn ms * gn ms) (by omega) (fun q s i => fX9_hashesPieces_84 (fun u => some u) ms q (nI i) s) (fun u => some u) (fun z h => mx h (ftI ms (z / gn ms) (z % gn ms))) (fun q s => ?_) (fun q s i hi => ?_) _
      · show fX9_hashesPieces_84 _ _ (q + 1) _ s = _
        rw [fX9_hashesPieces_84, m_n w, sb, sb, pk_mul, ge_e (by omega)]
      · have hq : i / gn ms < gn ms := Nat.div_lt_of_lt_mul hi
        have hr : i % gn ms < gn ms := Nat.mod_lt _ hd
        show fX9_hashesPieces_84 _ _ (q + 1) _ s = _
        rw [fX9_hashesPieces_84, m_n w, sb, sb, pk_mul, ge_n hi (by omega), sb]
        unfold jdiv jrem
        rw [if_neg (nI_ne0 hd (by omega)), sb, sb, if_neg (nI_ne0 hd (by omega)), sb, pk_rem (by omega) hd (by omega), pk_div (by omega) hd (by omega), m_fit w hq hr, sb, m_mx, sb, ia]
def smF (ms : Nat → Int32) (h : Int64) : Int64 := fo (fun j h => mx h (NF ms (shS ms (nI j) (-1)) 0)) 10 0 (mx h (NF ms (shS ms (-1) (-1)) 0))
def sm2F (ms : Nat → Int32) (h : Int64) : Int64 := fo (fun j h => mx h (NF ms (shS ms (-1) (nI j)) 0)) 24 0 h
theorem c_sm (w : WF ms) (c : RC ms kc) (h : Int64) : fX8_hashWithSums kc h = some (sm2F ms (smF ms h)) := by
  unfold fX8_hashWithSums
  rw [c_shs c w, sb, c_mx, sb]
  refine Eq.trans (m_loop1 10 (by omega) (fun m s i => fX8_hashWithSums_18 (fun u3_6 => fX8_hashWithSums_50 (fun u => some u) kc LF u3_6 (0 : Int32)) kc m s (nI i)) (fun u3_6 => fX8_hashWithSums_50 (fun u => some u) kc LF u3_6 (0 : Int32)) (fun j h => mx h (NF ms (shS ms (nI j) (-1)) 0)) (fun m s => ?_) (fun m s i hi => ?_) _) ?_
  · show (if nI 10 ≤ nI 10 then _ else _) = _
    rw [ge_e (by omega)]
  · show (if nI 10 ≤ nI i then _ else _) = _
    rw [ge_n hi (by omega), c_shs c w, sb, c_mx, sb, ia]
  · refine m_loop1 24 (by omega) (fun m s i => fX8_hashWithSums_50 (fun u => some u) kc m s (nI i)) (fun u => some u) (fun j h => mx h (NF ms (shS ms (-1) (nI j)) 0)) (fun m s => ?_) (fun m s i hi => ?_) _
    · show (if nI 24 ≤ nI 24 then _ else _) = _
      rw [ge_e (by omega)]
    · show (if nI 24 ≤ nI i then _ else _) = _
      rw [ge_n hi (by omega), c_shs c w, sb, c_mx, sb, ia]
theorem m_sm (w : WF ms) (K : Int64 → Option (Int64 × (Nat → Int32) × Int32 × Int64)) (h : Int64) : Option.bind (fX9_sumBy ms (-1 : Int32) (-1 : Int32)) (fun q10 => Option.bind (fX9_hashes h q10.toInt64) (fun q11 => fX9_digest_57 (fun u => fX9_digest_82 K ms LF (0 : Int32) u) ms LF (0 : Int32) q11)) = K (sm2F ms (smF ms h)) := by
  rw [m_shs w, sb, m_mx, sb]
  refine Eq.trans (m_loop1 10 (by omega) (fun m s i => fX9_digest_57 (fun u => fX9_digest_82 K ms LF (0 : Int32) u) ms m (nI i) s) (fun u => fX9_digest_82 K ms LF (0 : Int32) u) (fun j h => mx h (NF ms (shS ms (nI j) (-1)) 0)) (fun m s => ?_) (fun m s i hi => ?_) _) ?_
  · show (if nI 10 ≤ nI 10 then _ else _) = _
    rw [ge_e (by omega)]
  · show (if nI 10 ≤ nI i then _ else _) = _
    rw [ge_n hi (by omega), m_shs w, sb, m_mx, sb, ia]
  · refine m_loop1 24 (by omega) (fun m s i => fX9_digest_82 K ms m (nI i) s) K (fun j h => mx h (NF ms (shS ms (-1) (nI j)) 0)) (fun m s => ?_) (fun m s i hi => ?_) _
    · show (if nI 24 ≤ nI 24 then _ else _) = _
      rw [ge_e (by omega)]
    · show (if nI 24 ≤ nI i then _ else _) = _
      rw [ge_n hi (by omega), m_shs w, sb, m_mx, sb, ia]
theorem bu_ok {len : Nat} (B : BU mb kbc len) (h : Int64) (K : Int64 → Option (Int64 × (Nat → Int32) × Int32 × Int64)) : ∃ H : Int64, fX8_hashWithBuffer kbc (nI len) h = some H ∧ Option.bind (fX9_hashes h (nI len).toInt64) (fun q40 => fX9_digest_170 K mb (nI len) LF (0 : Int32) q40) = K H := by
  obtain ⟨hl, b, hm, hk⟩ := B
  refine ⟨fo (fun j h => mx h (nI (b j))) len 0 (mx h (nI len)), ?_, ?_⟩
  · unfold fX8_hashWithBuffer fX1_length
    rw [sb, c_mx, sb]
    refine m_loop1 len (by omega) (fun m s i => fX8_hashWithBuffer_16 (fun u => some u) kbc (nI len) m s (nI i)) (fun u => some u) (fun j h => mx h (nI (b j))) (fun m s => ?_) (fun m s i hi => ?_) _
    · show fX8_hashWithBuffer_16 _ _ _ (m + 1) s _ = _
      rw [fX8_hashWithBuffer_16]
      unfold fX1_length
      rw [sb, ge_e (by omega)]
    · show fX8_hashWithBuffer_16 _ _ _ (m + 1) s _ = _
      rw [fX8_hashWithBuffer_16]
      unfold fX1_length
      rw [sb, ge_n hi (by omega), cod hk hi, sb, c_mx, sb, ia]
  · rw [m_mx, sb]
    refine m_loop1 len (by omega) (fun m s i => fX9_digest_170 K mb (nI len) m (nI i) s) K (fun j h => mx h (nI (b j))) (fun m s => ?_) (fun m s i hi => ?_) _
    · show (if nI len ≤ nI len then _ else _) = _
      rw [ge_e (by omega)]
    · show (if nI len ≤ nI i then _ else _) = _
      rw [ge_n hi (by omega), aget_n (by omega) (by omega), sb, (hm.2 i hi).1, m_mx, sb, ia]
end Digest
