/-! Pages, suspects, joins, sums of pieces. -/
theorem fo_rel {σ τ : Type} (R : σ → τ → Prop) {st : Nat → σ → σ} {st' : Nat → τ → τ} : ∀ (c i : Nat) (a : σ) (b : τ), (∀ j a b, i ≤ j → j < i + c → R a b → R (st j a) (st' j b)) → R a b → R (fo st c i a) (fo st' c i b)
  | 0, _, _, _, _, h => h
  | c + 1, i, a, b, hs, h => fo_rel R c (i + 1) _ _ (fun j a b h1 h2 => hs j a b (by omega) (by omega)) (hs i a b (Nat.le_refl _) (by omega) h)
theorem NF_rel {σ τ : Type} {ms : Nat → Int32} (R : σ → τ → Prop) {st : Nat → Nat → σ → σ} {st' : Nat → Nat → τ → τ} (h : ∀ p r a b, p < gn ms → r < gc ms p → R a b → R (st p r a) (st' p r b)) {a : σ} {b : τ} (h0 : R a b) : R (NF ms st a) (NF ms st' b) := by
  unfold NF
  exact fo_rel R _ _ _ _ (fun p a b _ hp hab => fo_rel R _ _ _ _ (fun r a b _ hr hab => h p r a b (by omega) (by omega) hab) hab) h0
theorem fo_le {st : Nat → Nat → Nat} {d : Nat} : ∀ (c i s : Nat), (∀ j s, i ≤ j → j < i + c → st j s ≤ s + d) → fo st c i s ≤ s + d * c
  | 0, _, _, _ => by show _ ≤ _; exact Nat.le_add_right _ _
  | c + 1, i, s, h => by
    have h1 := h i s (Nat.le_refl _) (by omega)
    have h2 := fo_le (st := st) (d := d) c (i + 1) (st i s) (fun j s h1 h2 => h j s (by omega) (by omega))
    rw [fo_succ, Nat.mul_succ]
    omega
/-- there are at most sixty receipts -/
theorem NF_60 {ms : Nat → Int32} (w : WF ms) : NF ms (fun _ _ s => s + 1) (0 : Nat) ≤ 60 := by
  have h10 := w.1.2
  have e : NF ms (fun _ _ s => s + 1) (0 : Nat) ≤ 0 + 6 * gn ms := by
    refine fo_le (d := 6) (gn ms) 0 0 (fun p s _ hp => ?_)
    have h6 := (w.2.1 p (by omega)).1.2
    have e := fo_le (st := fun _ s => s + 1) (d := 1) (gc ms p) 0 s (fun _ s _ _ => Nat.le_refl _)
    exact Nat.le_trans e (by omega)
  omega
theorem sh1 : ∀ g, g < 10 → (1 : Int32) <<< (nI g &&& 31) = nI (2 ^ g) := by decide +kernel
theorem nI_or (a b : Nat) : nI a ||| nI b = nI (a ||| b) := by
  unfold nI
  apply Int32.toBitVec_inj.mp
  rw [Int32.toBitVec_or]
  show BitVec.ofNat 32 a ||| BitVec.ofNat 32 b = BitVec.ofNat 32 (a ||| b)
  apply BitVec.eq_of_getLsbD_eq
  intro i hi
  simp [BitVec.getLsbD_or, BitVec.getLsbD_ofNat, hi]
def pcI (m : Nat) : Int32 := fo (fun j s => if m.testBit j = true then s + 1 else s) 10 0 (0 : Int32)
theorem bitc : ∀ m, m < 1024 → fJ6_bitCount_0f7a4 (nI m) = some (pcI m) := by decide +kernel
section Pages
variable {ms kc : Nat → Int32}
def pgN (ms : Nat → Int32) (p r : Nat) : Nat := (pgI ms p r).toNatClampNeg
theorem pg_n {p r : Nat} (v : RV ms p r) : pgI ms p r = nI (pgN ms p r) ∧ pgN ms p r < 8 := by
  obtain ⟨t, h1, h2⟩ := v.1
  have e : pgI ms p r = nI ((t + 720) / 1440) := by
    unfold pgI
    rw [h2, li 720, nI_add, li 1440, dq (by omega) (by omega) (by omega)]
  have e2 : pgN ms p r = (t + 720) / 1440 := by unfold pgN; rw [e, nI_clamp (by omega)]
  rw [e2]
  exact ⟨e, by omega⟩
def pgS (ms : Nat → Int32) (x y : Int32) (p r : Nat) (s : Int32) : Int32 :=
  if pgI ms p r = x then (if y = (0 : Int32) then s + 1 else if y = (1 : Int32) then s + sI ms p r else if y = (2 : Int32) then s + ms (pl p r + 7) else if y = (3 : Int32) then (if kI ms p r = 0 then s else s + 1) else s ||| ((1 : Int32) <<< (ms (pl p r + 1) &&& 31))) else s
theorem c_pageNo (h : RC ms kc) (w : WF ms) (x y : Int32) : fX7_numberOfPage kc x y = some (NF ms (pgS ms x y) 0) := by
  unfold fX7_numberOfPage
  refine c_loop60 w (fun n s z => fX7_numberOfPage_5 (fun u => some u) kc x y n s (nI z)) (fun u => some u) (pgS ms x y) (fun n s => ?_) (fun n s z hz hu => ?_) (fun n s z hz hu => ?_) 0
  · show fX7_numberOfPage_5 _ _ _ _ (n + 1) s _ = _
    rw [fX7_numberOfPage_5, c60e]
  · show fX7_numberOfPage_5 _ _ _ _ (n + 1) s _ = _
    rw [fX7_numberOfPage_5, c60 hz, cu1 h w hz hu, sb, if_neg one_ne, c_page h hz hu, c_sum h w hz hu, c_tot h hz hu, c_size h w hz hu, c_shop h hz hu]
    simp only [sb, ia, i_0, szI_0 (wfr w hz hu)]
    unfold pgS
    generalize pgI ms (z / 6) (z % 6) = g1
    generalize kI ms (z / 6) (z % 6) = g2
    by_cases a : g1 = x <;> simp only [a, if_true, if_false]
    by_cases b0 : y = (0 : Int32) <;> simp only [b0, if_true, if_false]
    by_cases b1 : y = (1 : Int32) <;> simp only [b1, if_true, if_false]
    by_cases b2 : y = (2 : Int32) <;> simp only [b2, if_true, if_false]
    by_cases b3 : y = (3 : Int32) <;> simp only [b3, if_true, if_false]
    by_cases d : g2 = 0 <;> simp only [d, if_true, if_false]
  · show fX7_numberOfPage_5 _ _ _ _ (n + 1) s _ = _
    rw [fX7_numberOfPage_5, c60 hz, cu0 h w hz hu, sb, if_pos rfl, ia]
theorem m_pageNo (w : WF ms) (x : Int32) {y : Int32} (hy : y = 0 ∨ y = 1 ∨ y = 2 ∨ y = 3 ∨ y = 4) : fX9_tellsPage ms x y = some (NF ms (pgS ms x y) 0) := by
  unfold fX9_tellsPage
  refine m_loop2 w (fun n s p => fX9_tellsPage_5 (fun u => some u) ms x y n s (nI p)) (fun k' p m s r => fX9_tellsPage_19 k' ms x y (nI p) m s (nI r)) (fun u => some u) (pgS ms x y) (fun n s => ?_) (fun n s p hp => ?_) (fun k' p m s hp => ?_) (fun k' p m s r hp hr => ?_) 0
  · show fX9_tellsPage_5 _ _ _ _ (n + 1) s _ = _
    rw [fX9_tellsPage_5, m_n w, sb, mNe w]
  · show fX9_tellsPage_5 _ _ _ _ (n + 1) s _ = _
    rw [fX9_tellsPage_5, m_n w, sb, mN w hp]
    simp only [ia]
    rfl
  · show fX9_tellsPage_19 _ _ _ _ _ (m + 1) s _ = _
    rw [fX9_tellsPage_19, m_cnt w (p10 w hp), sb, mCe w hp]
  · show fX9_tellsPage_19 _ _ _ _ _ (m + 1) s _ = _
    rw [fX9_tellsPage_19, m_cnt w (p10 w hp), sb, mC w hp hr, m_page (p10 w hp) (r6 w hp hr), ms_sum w hp hr, m_tot (p10 w hp) (r6 w hp hr), ms_kind w hp hr, m_shop (p10 w hp) (r6 w hp hr)]
    simp only [sb, ia, i_0]
    unfold pgS
    generalize pgI ms p r = g1
    generalize kI ms p r = g2
    by_cases a : g1 = x <;> simp only [a, if_true, if_false]
    rcases hy with rfl | rfl | rfl | rfl | rfl <;> by_cases d : g2 = 0 <;> simp only [d, if_true, if_false] <;> rfl
def mkS (ms : Nat → Int32) (p r : Nat) (s : Int32) : Int32 := s ||| ((1 : Int32) <<< (pgI ms p r &&& 31))
theorem c_pagesUsed (h : RC ms kc) (w : WF ms) : fX7_pagesUsed kc = Option.bind (fJ6_bitCount_0f7a4 (NF ms (mkS ms) 0)) (fun q => some q) := by
  unfold fX7_pagesUsed
  refine c_loop60 w (fun n s z => fX7_pagesUsed_4 (fun u => Option.bind (fJ6_bitCount_0f7a4 u) (fun q => some q)) kc n s (nI z)) (fun u => Option.bind (fJ6_bitCount_0f7a4 u) (fun q => some q)) (mkS ms) (fun n s => ?_) (fun n s z hz hu => ?_) (fun n s z hz hu => ?_) 0
  · show fX7_pagesUsed_4 _ _ (n + 1) s _ = _
    rw [fX7_pagesUsed_4, c60e]
  · show fX7_pagesUsed_4 _ _ (n + 1) s _ = _
    rw [fX7_pagesUsed_4, c60 hz, cu1 h w hz hu, sb, if_neg one_ne, c_page h hz hu, sb, ia]
    rfl
  · show fX7_pagesUsed_4 _ _ (n + 1) s _ = _
    rw [fX7_pagesUsed_4, c60 hz, cu0 h w hz hu, sb, if_pos rfl, ia]
/-- pages with receipts -/
def puI (ms : Nat → Int32) : Int32 := fo (fun j s => if 0 < NF ms (pgS ms (nI j) 0) 0 then s + 1 else s) 8 0 (0 : Int32)
theorem m_pages (w : WF ms) : fX9_pages ms = some (puI ms) := by
  unfold fX9_pages
  refine m_loop1 8 (by omega) (fun n s j => fX9_pages_4 (fun u => some u) ms n s (nI j)) (fun u => some u) (fun j s => if 0 < NF ms (pgS ms (nI j) 0) 0 then s + 1 else s) (fun n s => ?_) (fun n s j hj => ?_) 0
  · show fX9_pages_4 _ _ (n + 1) s _ = _
    rw [fX9_pages_4, li 8, if_pos (nI_le (Nat.le_refl _) (by omega))]
  · show fX9_pages_4 _ _ (n + 1) s _ = _
    rw [fX9_pages_4, li 8, if_neg (nI_ge hj (by omega)), m_pageNo w (nI j) (Or.inl rfl), sb, ia]
    have e : (NF ms (pgS ms (nI j) 0) 0 ≤ 0) ↔ ¬ (0 < NF ms (pgS ms (nI j) 0) 0) := by rw [Int32.not_lt]
    simp only [e]
    by_cases c : 0 < NF ms (pgS ms (nI j) 0) 0 <;> simp [c]
theorem pages_eq (w : WF ms) : fJ6_bitCount_0f7a4 (NF ms (mkS ms) 0) = some (puI ms) := by
  have h1 : ∃ (M : Nat) (c : Nat → Nat) (t : Nat), NF ms (mkS ms) 0 = nI M ∧ M < 256 ∧ t ≤ 60 ∧ ∀ j, j < 8 → NF ms (pgS ms (nI j) 0) 0 = nI (c j) ∧ c j ≤ t ∧ (M.testBit j = true ↔ 0 < c j) := by
    have key := NF_rel (ms := ms) (fun (a : Int32) (q : (Nat → Int32) × Nat) => ∃ (M : Nat) (c : Nat → Nat), a = nI M ∧ M < 256 ∧ ∀ j, j < 8 → q.1 j = nI (c j) ∧ c j ≤ q.2 ∧ (M.testBit j = true ↔ 0 < c j)) (st := mkS ms) (st' := fun p r q => (fun j => pgS ms (nI j) 0 p r (q.1 j), q.2 + 1)) (fun p r a q hp hr hR => by
      obtain ⟨M, c, ha, hM, hj⟩ := hR
      obtain ⟨g1, g2⟩ := pg_n (rv w hp hr)
      refine ⟨M ||| 2 ^ pgN ms p r, fun j => if pgN ms p r = j then c j + 1 else c j, ?_, ?_, fun j hj8 => ?_⟩
      · unfold mkS
        rw [ha, g1, sh1 _ (by omega), nI_or]
      · exact Nat.or_lt_two_pow (n := 8) hM (Nat.pow_lt_pow_right (by omega) g2)
      · obtain ⟨c1, c2, c3⟩ := hj j hj8
        have hb : (M ||| 2 ^ pgN ms p r).testBit j = (M.testBit j || decide (pgN ms p r = j)) := by
          rw [Nat.testBit_or, Nat.testBit_two_pow]
        show pgS ms (nI j) 0 p r (q.1 j) = _ ∧ _
        unfold pgS
        rw [g1, hb]
        by_cases e : pgN ms p r = j
        · rw [if_pos (by rw [e]), if_pos rfl, c1]
          simp only [e, if_true, decide_true, Bool.or_true, true_iff]
          exact ⟨ia _, by omega, by omega⟩
        · rw [if_neg (fun q => e ((nI_eq (by omega) (by omega)).mp q)), c1]
          simp only [e, if_false, decide_false, Bool.or_false]
          exact ⟨trivial, by omega, c3⟩) (a := (0 : Int32)) (b := (fun _ => (0 : Int32), 0)) ⟨0, fun _ => 0, rfl, by omega, fun j _ => ⟨rfl, Nat.le_refl _, by simp⟩⟩
    have k2 := NF_rel (ms := ms) (fun (q : (Nat → Int32) × Nat) (t : Nat) => q.2 = t) (st := fun p r q => (fun j => pgS ms (nI j) 0 p r (q.1 j), q.2 + 1)) (st' := fun _ _ s => s + 1) (fun p r a b _ _ hR => by show a.2 + 1 = b + 1; rw [hR]) (a := (fun _ => (0 : Int32), 0)) (b := (0 : Nat)) rfl
    have k3 : ∀ j, (NF ms (fun p r (q : (Nat → Int32) × Nat) => (fun j => pgS ms (nI j) 0 p r (q.1 j), q.2 + 1)) (fun _ => (0 : Int32), 0)).1 j = NF ms (pgS ms (nI j) 0) 0 := fun j =>
      NF_rel (ms := ms) (fun (q : (Nat → Int32) × Nat) (t : Int32) => q.1 j = t) (st := fun p r q => (fun j => pgS ms (nI j) 0 p r (q.1 j), q.2 + 1)) (st' := pgS ms (nI j) 0) (fun p r a b _ _ hR => by show pgS ms (nI j) 0 p r (a.1 j) = _; rw [hR]) rfl
    obtain ⟨M, c, e1, e2, e3⟩ := key
    refine ⟨M, c, _, e1, e2, NF_60 w, fun j hj => ?_⟩
    obtain ⟨a1, a2, a3⟩ := e3 j hj
    rw [k3 j] at a1
    rw [k2] at a2
    exact ⟨a1, a2, a3⟩
  obtain ⟨M, c, t, e1, e2, e3, e4⟩ := h1
  rw [e1, bitc M (by omega)]
  congr 1
  unfold pcI puI
  rw [show (10 : Nat) = 8 + 2 from rfl, fo_add]
  have z8 : M.testBit 8 = false := Nat.testBit_lt_two_pow (by omega)
  have z9 : M.testBit 9 = false := Nat.testBit_lt_two_pow (by omega)
  have e5 : ∀ s : Int32, fo (fun j s => if M.testBit j = true then s + 1 else s) 2 (0 + 8) s = s := fun s => by
    refine fo_id _ _ _ (fun j s h1 h2 => ?_)
    rcases (show j = 8 ∨ j = 9 by omega) with rfl | rfl
    · rw [z8]; rfl
    · rw [z9]; rfl
  rw [e5]
  refine fo_congr _ _ _ (fun j s _ hj => ?_)
  obtain ⟨a1, a2, a3⟩ := e4 j (by omega)
  have e6 : (0 < NF ms (pgS ms (nI j) 0) 0) ↔ M.testBit j = true := by
    rw [a1, a3]
    exact nI_ltI (a := 0) (by omega) (by omega)
  simp only [e6]
end Pages
