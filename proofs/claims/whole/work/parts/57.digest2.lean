/-! The pages' part of the digest. -/
section Digest2
variable {ms kc : Nat → Int32} {a : Nat → Nat} {n : Nat}
theorem pg_all (w : WF ms) (o : OR ms a n 60) (pg : Int32) : NF ms (pgS ms pg 0) 0 = nI (plN ms a pg n) := by
  have ho := o
  obtain ⟨o0, o1, o2, o3⟩ := ho
  rw [NF_congr w (st' := fun p r s => if decide (pgI ms p r = pg) = true then s + 1 else s) (fun p r s _ _ => by
    unfold pgS
    by_cases h : pgI ms p r = pg <;> simp [h]) 0, NF_cn w]
  congr 1
  unfold plN
  refine cn_im n _ (fun j hj => (o1 j hj).1) (fun i j hi hj e => or_inj o hi hj e) (fun z hz => ?_)
  unfold usB pgz
  simp only [Bool.and_eq_true, decide_eq_true_eq]
  constructor
  · rintro ⟨hu, hp⟩
    obtain ⟨j, hj, e⟩ := o3 z hz hu
    exact ⟨j, hj, e, by rw [e]; exact hp⟩
  · rintro ⟨j, hj, e, hp⟩
    rw [e] at hp
    have := (o1 j hj).2
    rw [e] at this
    exact ⟨this, hp⟩
def plS (ms : Nat → Int32) (a : Nat → Nat) (pg : Int32) (x : Nat) (h : Int64) : Int64 := if pgz ms (a x) = pg then mx (mx h (nI (a x / 6))) (nI (a x % 6)) else h
def pgF (ms : Nat → Int32) (a : Nat → Nat) (n : Nat) (h : Int64) : Int64 := fo (fun g h => fo (plS ms a (nI g)) n 0 (fo (fun j h => mx h (NF ms (pgS ms (nI g) (nI j)) 0)) 5 0 h)) 8 0 h
theorem c_pg (w : WF ms) (c : RC ms kc) (o : OR ms a n 60) {kln kln' : Nat → Int32} {klr : Int32} (hs : fX4_sort kc kln klr = some (kln', nI n)) (l : LN kln' a n) (h : Int64) : fX8_hashWithPages kc kln klr h = some (pgF ms a n h, kln', nI n) := by
  obtain ⟨o0, o1, o2, o3⟩ := o
  unfold fX8_hashWithPages
  rw [hs, sb]
  dsimp only
  refine m_loop1 8 (by omega) (fun m s i => fX8_hashWithPages_16 (fun u => some (u, kln', nI n)) kc kln' (nI n) m s (nI i)) (fun u => some (u, kln', nI n)) (fun g h => fo (plS ms a (nI g)) n 0 (fo (fun j h => mx h (NF ms (pgS ms (nI g) (nI j)) 0)) 5 0 h)) (fun m s => ?_) (fun m s g hg => ?_) h
  · show (if nI 8 ≤ nI 8 then _ else _) = _
    rw [ge_e (by omega)]
  · show (if nI 8 ≤ nI g then _ else _) = _
    rw [ge_n hg (by omega)]
    show _ = (fun u => fX8_hashWithPages_16 (fun u => some (u, kln', nI n)) kc kln' (nI n) m u (nI (g + 1))) _
    rw [ia]
    generalize (fun u => fX8_hashWithPages_16 (fun u => some (u, kln', nI n)) kc kln' (nI n) m u (nI (g + 1))) = K
    refine Eq.trans (m_loop1 5 (by omega) (fun q s i => fX8_hashWithPages_26 (fun u => fX8_hashWithPages_58 K kc kln' (nI n) (nI g) LF u (0 : Int32)) kc (nI g) q s (nI i)) (fun u => fX8_hashWithPages_58 K kc kln' (nI n) (nI g) LF u (0 : Int32)) (fun j h => mx h (NF ms (pgS ms (nI g) (nI j)) 0)) (fun q s => ?_) (fun q s i hi => ?_) s) ?_
    · show (if nI 5 ≤ nI 5 then _ else _) = _
      rw [ge_e (by omega)]
    · show (if nI 5 ≤ nI i then _ else _) = _
      rw [ge_n hi (by omega), c_pageNo c w, sb, c_mx, sb, ia]
    · refine m_loop1 n (by omega) (fun q s i => fX8_hashWithPages_58 K kc kln' (nI n) (nI g) q s (nI i)) K (plS ms a (nI g)) (fun q s => ?_) (fun q s x hx => ?_) _
      · show fX8_hashWithPages_58 _ _ _ _ _ (q + 1) s _ = _
        rw [fX8_hashWithPages_58]
        unfold fX4_receipts
        rw [sb, ge_e (by omega)]
      · obtain ⟨b1, b2⟩ := o1 x hx
        show fX8_hashWithPages_58 _ _ _ _ _ (q + 1) s _ = _
        rw [fX8_hashWithPages_58]
        unfold fX4_receipts
        rw [sb, ge_n hx (by omega), c_at (by omega), sb, l x hx, c_page c b1 b2, sb, c_pieceOf b1, c_numOf b1]
        simp only [sb, c_mx, ia]
        unfold plS
        by_cases hp : pgI ms (a x / 6) (a x % 6) = nI g
        · rw [if_pos hp, if_pos (show pgz ms (a x) = nI g from hp)]
        · rw [if_neg hp, if_neg (show ¬ pgz ms (a x) = nI g from hp)]
theorem m_pg (w : WF ms) (o : OR ms a n 60) (h : Int64) : fX9_hashesPages ms h = some (pgF ms a n h) := by
  have ho := o
  obtain ⟨o0, o1, o2, o3⟩ := ho
  unfold fX9_hashesPages
  refine m_loop1 8 (by omega) (fun m s i => fX9_hashesPages_2 (fun u => some u) ms m (nI i) s) (fun u => some u) (fun g h => fo (plS ms a (nI g)) n 0 (fo (fun j h => mx h (NF ms (pgS ms (nI g) (nI j)) 0)) 5 0 h)) (fun m s => ?_) (fun m s g hg => ?_) h
  · show (if nI 8 ≤ nI 8 then _ else _) = _
    rw [ge_e (by omega)]
  · show (if nI 8 ≤ nI g then _ else _) = _
    rw [ge_n hg (by omega)]
    show _ = (fun u => fX9_hashesPages_2 (fun u => some u) ms m (nI (g + 1)) u) _
    rw [ia]
    generalize (fun u => fX9_hashesPages_2 (fun u => some u) ms m (nI (g + 1)) u) = K
    refine Eq.trans (m_loop1 5 (by omega) (fun q s i => fX9_hashesPages_10 (fun u => fX9_hashesPages_34 K ms (nI g) LF (0 : Int32) u) ms (nI g) q (nI i) s) (fun u => fX9_hashesPages_34 K ms (nI g) LF (0 : Int32) u) (fun j h => mx h (NF ms (pgS ms (nI g) (nI j)) 0)) (fun q s => ?_) (fun q s i hi => ?_) s) ?_
    · show (if nI 5 ≤ nI 5 then _ else _) = _
      rw [ge_e (by omega)]
    · have hj' : nI i = 0 ∨ nI i = 1 ∨ nI i = 2 ∨ nI i = 3 ∨ nI i = 4 := by
        have : i = 0 ∨ i = 1 ∨ i = 2 ∨ i = 3 ∨ i = 4 := by omega
        rcases this with rfl | rfl | rfl | rfl | rfl <;> simp [li]
      show (if nI 5 ≤ nI i then _ else _) = _
      rw [ge_n hi (by omega), m_pageNo w _ hj', sb, m_mx, sb, ia]
    · have key : ∀ (c x q : Nat) (s : Int64), x + c = n → c < q → fX9_hashesPages_34 K ms (nI g) q (nI (plN ms a (nI g) x)) s = K (fo (plS ms a (nI g)) c x s) := by
        intro c
        induction c with
        | zero =>
          intro x q s hx hq
          obtain ⟨q, rfl⟩ : ∃ k, q = k + 1 := ⟨q - 1, by omega⟩
          have hle : plN ms a (nI g) n ≤ n := cnN_le _ _
          rw [fX9_hashesPages_34, m_pageNo w _ (Or.inl rfl), sb, pg_all w o, show x = n by omega, ge_e (by omega)]
          rfl
        | succ c ih =>
          intro x q s hx hq
          have hle : plN ms a (nI g) n ≤ n := cnN_le _ _
          by_cases hp : pgz ms (a x) = nI g
          · obtain ⟨q, rfl⟩ : ∃ k, q = k + 1 := ⟨q - 1, by omega⟩
            have hlt := plN_mono (ms := ms) (a := a) (pg := nI g) (show x < n by omega) hp
            have e0 := (m_line w o (pg := nI g) (x3 := (0 : Int32)) (L := plN ms a (nI g) x) (by omega)).2 x (by omega) hp rfl
            have e1 := (m_line w o (pg := nI g) (x3 := (1 : Int32)) (L := plN ms a (nI g) x) (by omega)).2 x (by omega) hp rfl
            rw [fX9_hashesPages_34, m_pageNo w _ (Or.inl rfl), sb, pg_all w o, ge_n hlt (by omega), e0, e1]
            simp only [sb, m_mx, ia]
            rw [fo_succ]
            have hn := plN_s (ms := ms) (a := a) (nI g) x
            rw [if_pos hp] at hn
            rw [← hn, ih (x + 1) q _ (by omega) (by omega)]
            unfold plS
            rw [if_pos hp]
            rfl
          · have hn : plN ms a (nI g) (x + 1) = plN ms a (nI g) x := by
              rw [plN_s, if_neg hp]
              rfl
            rw [← hn, ih (x + 1) q s (by omega) (by omega), fo_succ]
            have e2 : plS ms a (nI g) x s = s := by unfold plS; rw [if_neg hp]
            rw [e2]
      exact key n 0 LF _ (by omega) (by rw [LF_eq]; omega)
theorem pg_ok (w : WF ms) (c : RC ms kc) (kln : Nat → Int32) (klr : Int32) (h : Int64) : ∃ (H : Int64) (kln' : Nat → Int32) (klr' : Int32), fX8_hashWithPages kc kln klr h = some (H, kln', klr') ∧ fX9_hashesPages ms h = some H := by
  obtain ⟨a, n, kln', s1, s2, s3⟩ := sort_ok c w kln klr
  exact ⟨_, _, _, c_pg w c s2 s1 s3 h, m_pg w s2 h⟩
end Digest2
