/-! What fits, what is clear. -/
section Fits
variable {ms kc : Nat → Int32}
/-- why two pieces can't be joined: 0 to 5 -/
def ftI (ms : Nat → Int32) (p q : Nat) : Int32 :=
  if ms (5 * p + 2) + ms (5 * q + 1) = (99 : Int32) then (if gl ms p = 0 then (if gu ms q = 0 then (if root ms p = q then 4 else match ftF ms 10 (q + 1) with
    | none => 0
    | some t => if ltF ms 10 (p + 1) ≤ t then 0 else 5) else 3) else 2) else 1
theorem ltF_b (w : WF ms) : ∀ (k u : Nat), u ≤ gn ms → ltF ms k u ≤ (10000 : Int32)
  | 0, _, _ => by show (-1 : Int32) ≤ 10000; decide
  | _ + 1, 0, _ => by show (-1 : Int32) ≤ 10000; decide
  | k + 1, p + 1, hu => by
    have hp : p < gn ms := hu
    unfold ltF
    by_cases a : gc ms p = 0
    · rw [if_pos a]; exact ltF_b w k _ (gu_le w p hp)
    · rw [if_neg a]
      obtain ⟨t, h1, h2⟩ := (rv w hp (show gc ms p - 1 < gc ms p by omega)).1
      rw [h2]
      exact nI_le (b := 10000) (by omega) (by omega)
theorem ftF_n (w : WF ms) : ∀ (k u : Nat), u ≤ gn ms → ∀ t, ftF ms k u = some t → ∃ n : Nat, n ≤ 9999 ∧ t = nI n
  | 0, _, _, t, h => by cases h
  | _ + 1, 0, _, t, h => by cases h
  | k + 1, p + 1, hu, t, h => by
    have hp : p < gn ms := hu
    unfold ftF at h
    by_cases a : gc ms p = 0
    · rw [if_pos a] at h; exact ftF_n w k _ (gl_le w p hp) t h
    · rw [if_neg a] at h
      obtain ⟨n, h1, h2⟩ := (rv w hp (show 0 < gc ms p by omega)).1
      exact ⟨n, h1, by rw [← Option.some.inj h, h2]⟩
theorem c_fit (h : RC ms kc) (w : WF ms) {p q : Nat} (hp : p < gn ms) (hq : q < gn ms) : fX3_obstacle kc (nI p) (nI q) = some (ftI ms p q) := by
  unfold fX3_obstacle ftI
  have e1 := c_firstT h w (u := q + 1) hq
  rw [oI_s] at e1
  rw [c_blw h w hp, sb, c_abv h w hq, sb, c_lo h w hp, c_up h w hq, c_first h w hp, c_last h w hp, e1]
  simp only [sb, oI_m1 (gl_b w hp), oI_m1 (gu_b w hq), show (nI (root ms p) = nI q) ↔ (root ms p = q) from nI_eq (by have := root_lt w hp; have := w.1.2; omega) (by have := w.1.2; omega)]
  by_cases a : ms (5 * p + 2) + ms (5 * q + 1) = (99 : Int32) <;> simp only [a, if_true, if_false]
  by_cases b : gl ms p = 0 <;> simp only [b, if_true, if_false]
  by_cases c : gu ms q = 0 <;> simp only [c, if_true, if_false]
  by_cases d : root ms p = q <;> simp only [d, if_true, if_false]
  cases e : ftF ms 10 (q + 1) with
  | none =>
    show (if ltF ms 10 (p + 1) ≤ (10000 : Int32) then some (0 : Int32) else some 5) = some 0
    rw [if_pos (ltF_b w 10 _ hp)]
  | some t =>
    show (if ltF ms 10 (p + 1) ≤ t then some (0 : Int32) else some 5) = some (if ltF ms 10 (p + 1) ≤ t then 0 else 5)
    by_cases f : ltF ms 10 (p + 1) ≤ t <;> simp only [f, if_true, if_false]
theorem m_fit (w : WF ms) {p q : Nat} (hp : p < gn ms) (hq : q < gn ms) : fX9_fitting ms (nI p) (nI q) = some (ftI ms p q) := by
  unfold fX9_fitting ftI
  have e1 := m_firstT w (u := q + 1) hq
  rw [oI_s] at e1
  rw [m_blw (p10 w hp), sb, m_abv (p10 w hq), sb, m_lo w (p10 w hp), m_up w (p10 w hq), m_first w hp, m_first w hq, m_last w hp, e1]
  simp only [sb, oI_m1 (gl_b w hp), oI_m1 (gu_b w hq)]
  by_cases a : ms (5 * p + 2) + ms (5 * q + 1) = (99 : Int32) <;> simp only [a, if_true, if_false]
  by_cases b : gl ms p = 0 <;> simp only [b, if_true, if_false]
  by_cases c : gu ms q = 0 <;> simp only [c, if_true, if_false]
  rw [root_self c]
  simp only [show (nI (root ms p) = nI q) ↔ (root ms p = q) from nI_eq (by have := root_lt w hp; have := w.1.2; omega) (by have := w.1.2; omega)]
  by_cases d : root ms p = q <;> simp only [d, if_true, if_false]
  cases e : ftF ms 10 (q + 1) with
  | none => rfl
  | some t =>
    obtain ⟨n, n1, n2⟩ := ftF_n w 10 (q + 1) hq t e
    show (if t = (-1 : Int32) then some (0 : Int32) else if ltF ms 10 (p + 1) ≤ t then some (0 : Int32) else some 5) = some (if ltF ms 10 (p + 1) ≤ t then 0 else 5)
    rw [if_neg (by rw [n2]; exact nI_m1 (by omega))]
    by_cases f : ltF ms 10 (p + 1) ≤ t <;> simp only [f, if_true, if_false]
/-! masks -/
/-- the mask of those below n with P -/
def mkN (P : Nat → Bool) (n : Nat) : Nat := fo (fun q m => if P q = true then m ||| 2 ^ q else m) n 0 0
theorem mkN_s (P : Nat → Bool) (n : Nat) : mkN P (n + 1) = if P n = true then mkN P n ||| 2 ^ n else mkN P n := by
  unfold mkN
  rw [fo_add _ n 1]
  show (if P (0 + n) = true then _ else _) = _
  rw [Nat.zero_add]
theorem mkN_b (P : Nat → Bool) : ∀ n, mkN P n < 2 ^ n
  | 0 => by show 0 < 1; omega
  | n + 1 => by
    rw [mkN_s]
    have := mkN_b P n
    have h2 : mkN P n < 2 ^ (n + 1) := by rw [Nat.pow_succ]; omega
    split
    · exact Nat.or_lt_two_pow h2 (Nat.pow_lt_pow_right (by omega) (by omega))
    · exact h2
theorem mkN_t (P : Nat → Bool) (j : Nat) : ∀ n, (mkN P n).testBit j = (decide (j < n) && P j)
  | 0 => by show (0 : Nat).testBit j = _; simp
  | n + 1 => by
    rw [mkN_s]
    have ih := mkN_t P j n
    by_cases a : P n = true
    · rw [if_pos a, Nat.testBit_or, ih, Nat.testBit_two_pow]
      by_cases b : j = n
      · subst b; simp [a]
      · have hb : ¬ n = j := fun e => b e.symm
        have : decide (j < n + 1) = decide (j < n) := by apply decide_eq_decide.mpr; omega
        rw [this]
        simp [hb]
    · rw [if_neg a, ih]
      by_cases b : j = n
      · subst b; simp [a]
      · have : decide (j < n + 1) = decide (j < n) := by apply decide_eq_decide.mpr; omega
        rw [this]
theorem mkN_b10 (P : Nat → Bool) {n : Nat} (h : n ≤ 10) : mkN P n < 1024 := Nat.lt_of_lt_of_le (mkN_b P n) (Nat.pow_le_pow_right (n := 2) (by omega) h)
/-- a mask made by ors of shifted ones -/
theorem mk_fo {P : Nat → Bool} {st : Nat → Int32 → Int32} : ∀ n, n ≤ 10 → (∀ q s, q < n → st q s = if P q = true then s ||| ((1 : Int32) <<< (nI q &&& 31)) else s) → fo st n 0 (0 : Int32) = nI (mkN P n)
  | 0, _, _ => rfl
  | n + 1, hn, h => by
    rw [fo_add _ n 1, mk_fo n (by omega) (fun q s hq => h q s (by omega)), mkN_s]
    show st (0 + n) _ = _
    rw [Nat.zero_add, h n _ (by omega), sh1 n (by omega), nI_or]
    split <;> rfl
def belP (ms : Nat → Int32) (p q : Nat) : Bool := decide (ftI ms p q = 0)
def aboP (ms : Nat → Int32) (q p : Nat) : Bool := decide (ftI ms p q = 0)
theorem or_0 (x : Int32) : x ||| (0 : Int32) = x := by
  apply Int32.toBitVec_inj.mp
  rw [Int32.toBitVec_or]
  show x.toBitVec ||| 0#32 = x.toBitVec
  simp
theorem c_lowers (h : RC ms kc) (w : WF ms) {p : Nat} (hp : p < gn ms) : fX3_lowersOf kc (nI p) = some (nI (mkN (belP ms p) (gn ms))) := by
  unfold fX3_lowersOf
  have h10 := w.1.2
  have e := m_loop1 (gn ms) (by omega) (fun n s q => fX3_lowersOf_4 (fun u => some u) kc (nI p) n s (nI q)) (fun u => some u) (fun q s => if belP ms p q = true then s ||| ((1 : Int32) <<< (nI q &&& 31)) else s) (fun n s => by
    show fX3_lowersOf_4 _ _ _ (n + 1) s _ = _
    rw [fX3_lowersOf_4, c_pieces w h, sb, mNe w]) (fun n s q hq => by
    show fX3_lowersOf_4 _ _ _ (n + 1) s _ = _
    rw [fX3_lowersOf_4, c_pieces w h, sb, mN w hq, c_fit h w hp hq, sb, ia]
    unfold belP
    by_cases a : ftI ms p q = 0 <;> simp [a]) 0
  rw [mk_fo (P := belP ms p) (gn ms) h10 (fun q s _ => rfl)] at e
  exact e
theorem m_below (w : WF ms) {p : Nat} (hp : p < gn ms) : fX9_canBelow ms (nI p) = some (nI (mkN (belP ms p) (gn ms))) := by
  unfold fX9_canBelow
  have h10 := w.1.2
  have e := m_loop1 (gn ms) (by omega) (fun n s q => fX9_canBelow_4 (fun u => some u) ms (nI p) n s (nI q)) (fun u => some u) (fun q s => if belP ms p q = true then s ||| ((1 : Int32) <<< (nI q &&& 31)) else s) (fun n s => by
    show fX9_canBelow_4 _ _ _ (n + 1) s _ = _
    rw [fX9_canBelow_4, m_n w, sb, mNe w]) (fun n s q hq => by
    show fX9_canBelow_4 _ _ _ (n + 1) s _ = _
    rw [fX9_canBelow_4, m_n w, sb, mN w hq, m_fit w hp hq, sb, ia, or_0]
    unfold belP
    by_cases a : ftI ms p q = 0 <;> simp [a]) 0
  rw [mk_fo (P := belP ms p) (gn ms) h10 (fun q s _ => rfl)] at e
  exact e
theorem m_above (w : WF ms) {q : Nat} (hq : q < gn ms) : fX9_canAbove ms (nI q) = some (nI (mkN (aboP ms q) (gn ms))) := by
  unfold fX9_canAbove
  have h10 := w.1.2
  have e := m_loop1 (gn ms) (by omega) (fun n s p => fX9_canAbove_4 (fun u => some u) ms (nI q) n s (nI p)) (fun u => some u) (fun p s => if aboP ms q p = true then s ||| ((1 : Int32) <<< (nI p &&& 31)) else s) (fun n s => by
    show fX9_canAbove_4 _ _ _ (n + 1) s _ = _
    rw [fX9_canAbove_4, m_n w, sb, mNe w]) (fun n s p hp => by
    show fX9_canAbove_4 _ _ _ (n + 1) s _ = _
    rw [fX9_canAbove_4, m_n w, sb, mN w hp, m_fit w hp hq, sb, ia, or_0]
    unfold aboP
    by_cases a : ftI ms p q = 0 <;> simp [a]) 0
  rw [mk_fo (P := aboP ms q) (gn ms) h10 (fun q s _ => rfl)] at e
  exact e
theorem pcI_mk (P : Nat → Bool) {n : Nat} (h : n ≤ 10) : pcI (mkN P n) = fo (fun j s => if P j = true then s + 1 else s) n 0 (0 : Int32) := by
  unfold pcI
  have e := fo_add (fun j s => if (mkN P n).testBit j = true then s + 1 else s) n (10 - n) 0 (0 : Int32)
  rw [show n + (10 - n) = 10 by omega] at e
  rw [e, fo_id (10 - n)]
  · refine fo_congr _ _ _ (fun j s _ hj => ?_)
    rw [mkN_t, decide_eq_true (show j < n by omega)]
    rfl
  · intro j s h1 h2
    rw [mkN_t, decide_eq_false (by omega)]
    rfl
theorem c_uppers (h : RC ms kc) (w : WF ms) {q : Nat} (hq : q < gn ms) : fX3_uppersOf kc (nI q) = some (pcI (mkN (aboP ms q) (gn ms))) := by
  unfold fX3_uppersOf
  have h10 := w.1.2
  rw [pcI_mk _ h10]
  refine m_loop1 (gn ms) (by omega) (fun n s p => fX3_uppersOf_4 (fun u => some u) kc (nI q) n s (nI p)) (fun u => some u) (fun p s => if aboP ms q p = true then s + 1 else s) (fun n s => ?_) (fun n s p hp => ?_) 0
  · show fX3_uppersOf_4 _ _ _ (n + 1) s _ = _
    rw [fX3_uppersOf_4, c_pieces w h, sb, mNe w]
  · show fX3_uppersOf_4 _ _ _ (n + 1) s _ = _
    rw [fX3_uppersOf_4, c_pieces w h, sb, mN w hp, c_fit h w hp hq, sb, ia]
    unfold aboP
    by_cases a : ftI ms p q = 0 <;> simp [a]
def lwN (m : Nat) : Nat := (List.range 10).findIdx (fun j => m.testBit j)
theorem m_ones : ∀ m, m < 1024 → fX9_ones (nI m) = some (pcI m) := by decide +kernel
theorem c_lw : ∀ m, m < 1024 → m ≠ 0 → fX8_lowestOf (nI m) = some (nI (lwN m)) := by decide +kernel
theorem m_lw : ∀ m, m < 1024 → m ≠ 0 → fX9_lowest (nI m) = some (nI (lwN m)) := by decide +kernel
theorem lwN_t : ∀ m, m < 1024 → m ≠ 0 → lwN m < 10 ∧ m.testBit (lwN m) = true ∧ ∀ j, j < lwN m → m.testBit j = false := by decide +kernel
theorem pcI_0 : pcI 0 ≠ 1 := by decide +kernel
/-- the lowest clear piece, from i on -/
def clP (ms : Nat → Int32) (p : Nat) : Bool := decide (pcI (mkN (belP ms p) (gn ms)) = 1) && decide (pcI (mkN (aboP ms (lwN (mkN (belP ms p) (gn ms)))) (gn ms)) = 1)
def clF (ms : Nat → Int32) : Nat → Nat → Int32
  | 0, _ => (-1 : Int32)
  | c + 1, i => if clP ms i = true then nI i else clF ms c (i + 1)
theorem lw_in {ms : Nat → Int32} (w : WF ms) {p : Nat} (h : mkN (belP ms p) (gn ms) ≠ 0) : lwN (mkN (belP ms p) (gn ms)) < gn ms ∧ belP ms p (lwN (mkN (belP ms p) (gn ms))) = true := by
  obtain ⟨h1, h2, -⟩ := lwN_t _ (mkN_b10 _ w.1.2) h
  rw [mkN_t] at h2
  simp only [Bool.and_eq_true, decide_eq_true_eq] at h2
  exact h2
theorem c_clear (h : RC ms kc) (w : WF ms) : fX3_lowestClear kc = some (clF ms (gn ms) 0) := by
  unfold fX3_lowestClear
  have h10 := w.1.2
  have key : ∀ (c i n : Nat), i + c = gn ms → c < n → fX3_lowestClear_2 (fun _ => some (-1 : Int32)) kc n (nI i) = some (clF ms c i) := by
    intro c
    induction c with
    | zero =>
      intro i n hi hn
      obtain ⟨m, rfl⟩ : ∃ m, n = m + 1 := ⟨n - 1, by omega⟩
      rw [fX3_lowestClear_2, c_pieces w h, sb, show i = gn ms by omega, mNe w]
      rfl
    | succ c ih =>
      intro i n hi hn
      obtain ⟨m, rfl⟩ : ∃ m, n = m + 1 := ⟨n - 1, by omega⟩
      have hp : i < gn ms := by omega
      rw [fX3_lowestClear_2, c_pieces w h, sb, mN w hp, c_lowers h w hp, sb, bitc _ (mkN_b10 _ h10), sb, ia, ih (i + 1) m (by omega) (by omega)]
      rw [show clF ms (c + 1) i = if clP ms i = true then nI i else clF ms c (i + 1) from rfl]
      unfold clP
      by_cases a : pcI (mkN (belP ms i) (gn ms)) = 1
      · have hne : mkN (belP ms i) (gn ms) ≠ 0 := fun e => by rw [e] at a; exact pcI_0 a
        rw [if_pos a, c_lw _ (mkN_b10 _ h10) hne, sb, c_uppers h w (lw_in w hne).1, sb]
        by_cases b : pcI (mkN (aboP ms (lwN (mkN (belP ms i) (gn ms)))) (gn ms)) = 1 <;> simp [a, b]
      · rw [if_neg a]
        simp [a]
  exact key (gn ms) 0 LF (by omega) (by rw [LF_eq]; omega)
theorem m_clear (w : WF ms) : fX9_clearOne ms = some (clF ms (gn ms) 0) := by
  unfold fX9_clearOne
  have h10 := w.1.2
  have key : ∀ (c i n : Nat), i + c = gn ms → c < n → fX9_clearOne_2 (fun _ => some (-1 : Int32)) ms n (nI i) = some (clF ms c i) := by
    intro c
    induction c with
    | zero =>
      intro i n hi hn
      obtain ⟨m, rfl⟩ : ∃ m, n = m + 1 := ⟨n - 1, by omega⟩
      rw [fX9_clearOne_2, m_n w, sb, show i = gn ms by omega, mNe w]
      rfl
    | succ c ih =>
      intro i n hi hn
      obtain ⟨m, rfl⟩ : ∃ m, n = m + 1 := ⟨n - 1, by omega⟩
      have hp : i < gn ms := by omega
      rw [fX9_clearOne_2, m_n w, sb, mN w hp, m_below w hp, sb, m_ones _ (mkN_b10 _ h10), sb, ia, ih (i + 1) m (by omega) (by omega)]
      rw [show clF ms (c + 1) i = if clP ms i = true then nI i else clF ms c (i + 1) from rfl]
      unfold clP
      by_cases a : pcI (mkN (belP ms i) (gn ms)) = 1
      · have hne : mkN (belP ms i) (gn ms) ≠ 0 := fun e => by rw [e] at a; exact pcI_0 a
        rw [if_pos a, m_lw _ (mkN_b10 _ h10) hne, sb, m_above w (lw_in w hne).1, sb, m_ones _ (mkN_b10 _ h10), sb]
        by_cases b : pcI (mkN (aboP ms (lwN (mkN (belP ms i) (gn ms)))) (gn ms)) = 1 <;> simp [a, b]
      · rw [if_neg a]
        simp [a]
  exact key (gn ms) 0 LF (by omega) (by rw [LF_eq]; omega)
end Fits
