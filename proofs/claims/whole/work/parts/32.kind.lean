/-! How a printed total is. -/
theorem l2 (n : Nat) : (OfNat.ofNat n : Int32) = nI n := Eq.symm (Eq.symm (Eq.trans rfl rfl))
def dg (n : Nat) : Nat := if n < 10 then 1 else if n < 100 then 2 else if n < 1000 then 3 else 4
def tn1 (s z : Nat) : Bool := decide (z + 9 * (s / 10 % 10) = s + 9 * (s % 10))
def tn2 (s z : Nat) : Bool := decide (z + 90 * (s / 100 % 10) = s + 90 * (s / 10 % 10))
def tn3 (s z : Nat) : Bool := decide (z + 900 * (s / 1000 % 10) = s + 900 * (s / 100 % 10))
def tnB (s z : Nat) : Bool := decide (dg s = dg z) && (tn1 s z || tn2 s z || tn3 s z)
def bI (b : Bool) : Int32 := if b then 1 else 0
theorem c_digits {n : Nat} (h : n < 10000) : fX2_digitsOf (nI n) = some (nI (dg n)) := by
  unfold fX2_digitsOf dg
  simp only [l2 10, l2 100, l2 1000, show (nI 10 ≤ nI n) ↔ (10 ≤ n) from nI_leI (by omega) (by omega), show (nI 100 ≤ nI n) ↔ (100 ≤ n) from nI_leI (by omega) (by omega), show (nI 1000 ≤ nI n) ↔ (1000 ≤ n) from nI_leI (by omega) (by omega)]
  by_cases h1 : n < 10
  · rw [if_neg (by omega), if_pos h1]; rfl
  · rw [if_pos (by omega), if_neg h1]
    by_cases h2 : n < 100
    · rw [if_neg (by omega), if_pos h2]; rfl
    · rw [if_pos (by omega), if_neg h2]
      by_cases h3 : n < 1000
      · rw [if_neg (by omega), if_pos h3]; rfl
      · rw [if_pos (by omega), if_neg h3]; rfl
theorem m_digits {n : Nat} (h : n < 10000) : fX9_digits (nI n) = some (nI (dg n)) := by
  unfold fX9_digits dg
  simp only [l2 9, l2 99, l2 999, show (nI n ≤ nI 9) ↔ (n ≤ 9) from nI_leI (by omega) (by omega), show (nI n ≤ nI 99) ↔ (n ≤ 99) from nI_leI (by omega) (by omega), show (nI n ≤ nI 999) ↔ (n ≤ 999) from nI_leI (by omega) (by omega)]
  by_cases h1 : n < 10
  · rw [if_pos (by omega), if_pos (by omega), if_pos (by omega), if_pos h1]; rfl
  · rw [if_neg h1]
    by_cases h2 : n < 100
    · rw [if_pos (by omega), if_pos (by omega), if_neg (by omega), if_pos h2]; rfl
    · rw [if_neg h2]
      by_cases h3 : n < 1000
      · rw [if_pos (by omega), if_neg (by omega), if_pos h3]; rfl
      · rw [if_neg (by omega), if_neg h3]; rfl
theorem dq {a d : Nat} (ha : a < 2 ^ 31) (h0 : 0 < d) (hd : d < 2 ^ 31) : nI a / nI d = nI (a / d) := pk_div ha h0 hd
theorem r10 {a : Nat} (ha : a < 2 ^ 31) : nI a - nI a / nI 10 * nI 10 = nI (a % 10) := pk_rem ha (by omega) (by omega)
theorem i_swap (a b c d e : Int32) : (b - a = c * (d - e)) ↔ (b + c * e = a + c * d) := by grind
theorem i_swap2 (a b c d e f : Int32) : (a + (b - c) * d * e = f) ↔ (f + d * e * c = a + d * e * b) := by grind
theorem c_turned {s z : Nat} (hs : s ≤ 3996) (hz : z ≤ 9999) : fX2_isTurned (nI s) (nI z) = some (bI (tnB s z)) := by
  unfold fX2_isTurned
  rw [c_digits (by omega), sb, c_digits (by omega), sb]
  simp only [l2 10, l2 100, l2 1000, l2 9, l2 90, l2 900]
  have a1 : nI s - nI s / nI 10 * nI 10 = nI (s % 10) := r10 (by omega)
  have a2 : nI s / nI 10 = nI (s / 10) := dq (by omega) (by omega) (by omega)
  have a3 : nI s / nI 100 = nI (s / 100) := dq (by omega) (by omega) (by omega)
  have a4 : nI s / nI 1000 = nI (s / 1000) := dq (by omega) (by omega) (by omega)
  have a5 : nI (s / 10) - nI (s / 10) / nI 10 * nI 10 = nI (s / 10 % 10) := r10 (by omega)
  have a6 : nI (s / 100) - nI (s / 100) / nI 10 * nI 10 = nI (s / 100 % 10) := r10 (by omega)
  have a7 : nI (s / 1000) - nI (s / 1000) / nI 10 * nI 10 = nI (s / 1000 % 10) := r10 (by omega)
  simp only [a1]
  simp only [a2, a3, a4, a5, a6, a7, i_swap, pk_mul, nI_add,
    show (nI (dg s) = nI (dg z)) ↔ (dg s = dg z) from nI_eq (by unfold dg; split <;> (try split) <;> (try split) <;> omega) (by unfold dg; split <;> (try split) <;> (try split) <;> omega),
    show (nI (z + 9 * (s / 10 % 10)) = nI (s + 9 * (s % 10))) ↔ (z + 9 * (s / 10 % 10) = s + 9 * (s % 10)) from nI_eq (by omega) (by omega),
    show (nI (z + 90 * (s / 100 % 10)) = nI (s + 90 * (s / 10 % 10))) ↔ (z + 90 * (s / 100 % 10) = s + 90 * (s / 10 % 10)) from nI_eq (by omega) (by omega),
    show (nI (z + 900 * (s / 1000 % 10)) = nI (s + 900 * (s / 100 % 10))) ↔ (z + 900 * (s / 1000 % 10) = s + 900 * (s / 100 % 10)) from nI_eq (by omega) (by omega)]
  unfold tnB tn1 tn2 tn3 bI
  by_cases h0 : dg s = dg z <;> by_cases h1 : z + 9 * (s / 10 % 10) = s + 9 * (s % 10) <;> by_cases h2 : z + 90 * (s / 100 % 10) = s + 90 * (s / 10 % 10) <;> by_cases h3 : z + 900 * (s / 1000 % 10) = s + 900 * (s / 100 % 10) <;> simp [h0, h1, h2, h3]
/-- where the reference looks at no more digits, there are none to exchange -/
theorem tn_low1 {s z : Nat} (h : s < 10) (hd : dg s = dg z) (hz : z ≠ s) : tn1 s z = false ∧ tn2 s z = false ∧ tn3 s z = false := by
  unfold dg at hd
  rw [if_pos h] at hd
  have hz' : z < 10 := by
    rcases Nat.lt_or_ge z 10 with h1 | h1
    · exact h1
    · rw [if_neg (by omega)] at hd; split at hd <;> (try split at hd) <;> omega
  unfold tn1 tn2 tn3
  refine ⟨decide_eq_false (by omega), decide_eq_false (by omega), decide_eq_false (by omega)⟩
theorem tn_low2 {s z : Nat} (h : s < 100) (h1 : 10 ≤ s) (hd : dg s = dg z) (hz : z ≠ s) : tn2 s z = false ∧ tn3 s z = false := by
  unfold dg at hd
  rw [if_neg (by omega), if_pos h] at hd
  have hz' : z < 100 := by
    rcases Nat.lt_or_ge z 100 with h1 | h1
    · exact h1
    · rw [if_neg (by omega), if_neg (by omega)] at hd; split at hd <;> omega
  unfold tn2 tn3
  refine ⟨decide_eq_false (by omega), decide_eq_false (by omega)⟩
theorem tn_low3 {s z : Nat} (h : s < 1000) (h1 : 100 ≤ s) (hd : dg s = dg z) (hz : z ≠ s) : tn3 s z = false := by
  unfold dg at hd
  rw [if_neg (by omega), if_neg (by omega), if_pos h] at hd
  have hz' : z < 1000 := by
    rcases Nat.lt_or_ge z 1000 with h1 | h1
    · exact h1
    · rw [if_neg (by omega), if_neg (by omega), if_neg (by omega)] at hd; omega
  unfold tn3
  exact decide_eq_false (by omega)
theorem mt_unit (k : Int32 → Option Int32) {s z u n : Nat} {f : Bool} (hs : s ≤ 3996) (hz : z ≤ 9999) (hu : u ≤ 100) (h0 : 0 < u) (h : 10 * u ≤ s) : fX9_isTurned_4 k (nI z) (nI s) (n + 1) (bI f) (nI u) = fX9_isTurned_4 k (nI z) (nI s) n (bI (f || decide (z + 9 * u * (s / u / 10 % 10) = s + 9 * u * (s / u % 10)))) (nI (u * 10)) := by
  have hq : s / u ≤ s := Nat.div_le_self _ _
  have hm : u * (s / u) ≤ s := Nat.mul_div_le _ _
  have b1 : 9 * u * (s / u / 10 % 10) ≤ 9 * u * 9 := Nat.mul_le_mul_left _ (by omega)
  have b2 : 9 * u * (s / u % 10) ≤ 9 * u * 9 := Nat.mul_le_mul_left _ (by omega)
  rw [fX9_isTurned_4]
  have a1 : nI (s / u) - nI (s / u) / nI 10 * nI 10 = nI (s / u % 10) := r10 (by omega)
  have a2 : nI (s / u) / nI 10 = nI (s / u / 10) := dq (by omega) (by omega) (by omega)
  have a3 : nI (s / u / 10) - nI (s / u / 10) / nI 10 * nI 10 = nI (s / u / 10 % 10) := r10 (by omega)
  have a4 : jdiv (nI s) (nI u) = some (nI (s / u)) := by
    unfold jdiv
    rw [if_neg (nI_ne0 h0 (by omega)), dq (by omega) h0 (by omega)]
  rw [a4, sb, sb]
  simp only [l2 10, l2 9, a1]
  simp only [a2, a3, pk_mul, i_swap2, nI_add,
    show (nI (z + 9 * u * (s / u / 10 % 10)) = nI (s + 9 * u * (s / u % 10))) ↔ (z + 9 * u * (s / u / 10 % 10) = s + 9 * u * (s / u % 10)) from nI_eq (by omega) (by omega)]
  rw [if_neg (nI_nlt h (by omega))]
  cases f with
  | true => rw [if_neg (by decide)]; rfl
  | false =>
    rw [if_pos (show bI false = 0 from rfl)]
    by_cases hc : z + 9 * u * (s / u / 10 % 10) = s + 9 * u * (s / u % 10)
    · rw [if_pos hc]; simp [hc, bI]
    · rw [if_neg hc]; simp [hc, bI]
theorem mt_end (k : Int32 → Option Int32) {s z u n : Nat} {x : Int32} (hs : s ≤ 3996) (hu : u ≤ 1000) (h : s < 10 * u) : fX9_isTurned_4 k (nI z) (nI s) (n + 1) x (nI u) = k x := by
  rw [fX9_isTurned_4, li 10, pk_mul, if_pos (nI_lt h (by omega))]
theorem m_turned {s z : Nat} (hs : s ≤ 3996) (hz : z ≤ 9999) (hne : z ≠ s) : fX9_isTurned (nI z) (nI s) = some (bI (tnB s z)) := by
  unfold fX9_isTurned
  rw [show LF = 19996 + 1 + 1 + 1 + 1 from rfl]
  have fin : ∀ f : Bool, (dg s = dg z → f = (tn1 s z || tn2 s z || tn3 s z)) → (fun (u2_6 : Int32) => (if u2_6 = 0 then (some (0 : Int32)) else (Option.bind (fX9_digits (nI z)) (fun q13 => (Option.bind (fX9_digits (nI s)) (fun q14 => (if q13 = q14 then (some (1 : Int32)) else (some (0 : Int32))))))))) (bI f) = some (bI (tnB s z)) := by
    intro f hf
    show (if bI f = 0 then some (0 : Int32) else _) = _
    rw [m_digits (by omega), sb, m_digits (by omega), sb]
    simp only [show (nI (dg z) = nI (dg s)) ↔ (dg z = dg s) from nI_eq (by unfold dg; split <;> (try split) <;> (try split) <;> omega) (by unfold dg; split <;> (try split) <;> (try split) <;> omega)]
    unfold tnB
    by_cases hd : dg s = dg z
    · rw [hf hd, if_pos hd.symm]
      cases (tn1 s z || tn2 s z || tn3 s z) <;> simp [hd, bI]
    · have hd2 : ¬ dg z = dg s := fun e => hd e.symm
      cases f <;> simp [hd, hd2, bI]
  have e1 : decide (z + 9 * 1 * (s / 1 / 10 % 10) = s + 9 * 1 * (s / 1 % 10)) = tn1 s z := by unfold tn1; rw [Nat.div_one]
  have e2 : decide (z + 9 * 10 * (s / 10 / 10 % 10) = s + 9 * 10 * (s / 10 % 10)) = tn2 s z := by unfold tn2; rw [Nat.div_div_eq_div_mul]
  have e3 : decide (z + 9 * 100 * (s / 100 / 10 % 10) = s + 9 * 100 * (s / 100 % 10)) = tn3 s z := by unfold tn3; rw [Nat.div_div_eq_div_mul]
  show fX9_isTurned_4 _ (nI z) (nI s) (19996 + 1 + 1 + 1 + 1) (bI false) (nI 1) = _
  by_cases h1 : s < 10
  · rw [mt_end _ hs (by omega) (by omega)]
    exact fin false (fun hd => by obtain ⟨a, b, c⟩ := tn_low1 h1 hd hne; rw [a, b, c]; rfl)
  · rw [mt_unit _ hs hz (by omega) (by omega) (by omega), e1]
    by_cases h2 : s < 100
    · rw [mt_end _ hs (by omega) (by omega)]
      exact fin _ (fun hd => by obtain ⟨b, c⟩ := tn_low2 h2 (by omega) hd hne; rw [b, c]; simp)
    · rw [mt_unit _ hs hz (by omega) (by omega) (by omega), show (1 * 10) = 10 from rfl, e2]
      by_cases h3 : s < 1000
      · rw [mt_end _ hs (by omega) (by omega)]
        exact fin _ (fun hd => by rw [tn_low3 h3 (by omega) hd hne]; simp)
      · rw [mt_unit _ hs hz (by omega) (by omega) (by omega), show (10 * 10) = 100 from rfl, e3, mt_end _ hs (by omega) (by omega)]
        exact fin _ (fun _ => by simp [Bool.or_assoc])

section Kind
variable {ms kc : Nat → Int32} {p r z : Nat}
/-- one of the items is x -/
def exI (ms : Nat → Int32) (p r : Nat) (x : Int32) (n : Nat) : Bool := (List.range n).any (fun k => decide (ms (pl p r + 3 + k) = x))
def sN (ms : Nat → Int32) (p r : Nat) : Nat := (sI ms p r).toNatClampNeg
def tN (ms : Nat → Int32) (p r : Nat) : Nat := (ms (pl p r + 7)).toNatClampNeg
/-- how the total is: 0 to 4 -/
def kI (ms : Nat → Int32) (p r : Nat) : Int32 :=
  if ms (pl p r + 7) = sI ms p r then 0 else if tnB (sN ms p r) (tN ms p r) = true then 1 else if exI ms p r (sI ms p r - ms (pl p r + 7)) (gi ms p r) = true then 2 else if exI ms p r (ms (pl p r + 7) - sI ms p r) (gi ms p r) = true then 3 else 4
theorem sum_b (v : RV ms p r) : ∀ (c : Nat), c ≤ gi ms p r → ∃ t : Nat, c ≤ t ∧ t ≤ 999 * c ∧ fo (fun k s => s + ms (pl p r + 3 + k)) c 0 0 = nI t
  | 0, _ => ⟨0, by omega, by omega, rfl⟩
  | c + 1, h => by
    obtain ⟨t, h1, h2, h3⟩ := sum_b v c (by omega)
    obtain ⟨x, hx1, hx2, hx3⟩ := v.2.2.2.1 c (by omega)
    refine ⟨t + x, by omega, by omega, ?_⟩
    rw [fo_add _ c 1, h3]
    show nI t + ms (pl p r + 3 + (0 + c)) = _
    rw [Nat.zero_add, hx3, nI_add]
theorem sum_n (v : RV ms p r) : sI ms p r = nI (sN ms p r) ∧ 1 ≤ sN ms p r ∧ sN ms p r ≤ 3996 := by
  obtain ⟨t, h1, h2, h3⟩ := sum_b v (gi ms p r) (Nat.le_refl _)
  have h4 := v.2.2.1.2
  have e : sI ms p r = nI t := h3
  have e2 : sN ms p r = t := by unfold sN; rw [e, nI_clamp (by omega)]
  rw [e2]
  exact ⟨e, by omega, by omega⟩
theorem tot_n (v : RV ms p r) : ms (pl p r + 7) = nI (tN ms p r) ∧ tN ms p r ≤ 9999 := by
  obtain ⟨t, h1, h2⟩ := v.2.2.2.2
  have e2 : tN ms p r = t := by unfold tN; rw [h2, nI_clamp (by omega)]
  rw [e2]
  exact ⟨h2, h1⟩
theorem exI_s (x : Int32) (n : Nat) : exI ms p r x (n + 1) = (exI ms p r x n || decide (ms (pl p r + 3 + n) = x)) := by
  unfold exI
  rw [List.range_succ, List.any_append]
  simp
theorem c_hasItem (h : RC ms kc) (w : WF ms) (hz : z < 60) (hu : z % 6 < gc ms (z / 6)) (x : Int32) : fX2_hasItem kc (nI z) x = some (bI (exI ms (z / 6) (z % 6) x (gi ms (z / 6) (z % 6)))) := by
  have h4 := (wfr w hz hu).2.2.1.2.2
  unfold fX2_hasItem
  rw [c_its h w hz hu, sb]
  have key : ∀ (c i n : Nat), i + c = gi ms (z / 6) (z % 6) → c < n → exI ms (z / 6) (z % 6) x i = false → fX2_hasItem_13 (fun (_ : Unit) => some (0 : Int32)) kc (nI z) x (nI (gi ms (z / 6) (z % 6))) n (nI i) = some (bI (exI ms (z / 6) (z % 6) x (gi ms (z / 6) (z % 6)))) := by
    intro c
    induction c with
    | zero =>
      intro i n hi hn he
      obtain ⟨m, rfl⟩ : ∃ m, n = m + 1 := ⟨n - 1, by omega⟩
      rw [fX2_hasItem_13, show i = gi ms (z / 6) (z % 6) by omega, if_pos (nI_le (Nat.le_refl _) (by omega))]
      rw [show i = gi ms (z / 6) (z % 6) by omega] at he
      rw [he]
      rfl
    | succ c ih =>
      intro i n hi hn he
      obtain ⟨m, rfl⟩ : ∃ m, n = m + 1 := ⟨n - 1, by omega⟩
      rw [fX2_hasItem_13, if_neg (nI_ge (show i < gi ms (z / 6) (z % 6) by omega) (by omega)), c_item h w hz hu (by omega), sb]
      by_cases hx : ms (pl (z / 6) (z % 6) + 3 + i) = x
      · rw [if_pos hx]
        have ht : exI ms (z / 6) (z % 6) x (gi ms (z / 6) (z % 6)) = true := by
          unfold exI
          rw [List.any_eq_true]
          exact ⟨i, List.mem_range.mpr (by omega), decide_eq_true hx⟩
        rw [ht]
        rfl
      · rw [if_neg hx, ia]
        refine ih (i + 1) m (by omega) (by omega) ?_
        rw [exI_s, he, decide_eq_false hx]
        rfl
  exact key (gi ms (z / 6) (z % 6)) 0 LF (by omega) (by rw [LF_eq]; omega) rfl
theorem bI_0 (b : Bool) : bI b = 0 ↔ b = false := by cases b <;> decide
theorem c_kind (h : RC ms kc) (w : WF ms) (hz : z < 60) (hu : z % 6 < gc ms (z / 6)) : fX2_kindOf kc (nI z) = some (kI ms (z / 6) (z % 6)) := by
  have v := wfr w hz hu
  obtain ⟨s1, s2, s3⟩ := sum_n v
  obtain ⟨t1, t2⟩ := tot_n v
  unfold fX2_kindOf kI
  rw [c_sum h w hz hu, sb, c_tot h hz hu, sb]
  by_cases h0 : ms (pl (z / 6) (z % 6) + 7) = sI ms (z / 6) (z % 6)
  · rw [if_pos h0, if_pos h0]
  · rw [if_neg h0, if_neg h0]
    have e := c_turned (s := sN ms (z / 6) (z % 6)) (z := tN ms (z / 6) (z % 6)) s3 t2
    rw [← s1, ← t1] at e
    rw [e, sb, c_hasItem h w hz hu, sb, c_hasItem h w hz hu, sb]
    simp only [bI_0]
    generalize tnB (sN ms (z / 6) (z % 6)) (tN ms (z / 6) (z % 6)) = b1
    generalize exI ms (z / 6) (z % 6) (sI ms (z / 6) (z % 6) - ms (pl (z / 6) (z % 6) + 7)) (gi ms (z / 6) (z % 6)) = b2
    generalize exI ms (z / 6) (z % 6) (ms (pl (z / 6) (z % 6) + 7) - sI ms (z / 6) (z % 6)) (gi ms (z / 6) (z % 6)) = b3
    cases b1 <;> cases b2 <;> cases b3 <;> rfl
theorem i_short (a b c : Int32) : (a = b - c) ↔ (c = b - a) := by grind
theorem i_twice (a b c : Int32) : (a = b + c) ↔ (c = a - b) := by grind
theorem m_state (hp : p < 10) (hr : r < 6) (v : RV ms p r) : fX9_stateOf ms (nI p) (nI r) = some (kI ms p r) := by
  obtain ⟨s1, s2, s3⟩ := sum_n v
  obtain ⟨t1, t2⟩ := tot_n v
  have h4 := v.2.2.1
  unfold fX9_stateOf kI
  rw [m_place, sb, m_sum hp hr h4.1 h4.2.2, sb, li 7, m_cell hp hr (by omega), sb]
  by_cases h0 : ms (pl p r + 7) = sI ms p r
  · rw [if_pos h0, if_pos h0, if_pos h0]
  · rw [if_neg h0, if_neg h0, if_neg h0]
    have hne : tN ms p r ≠ sN ms p r := fun e => h0 (by rw [t1, s1, e])
    have e := m_turned (s := sN ms p r) (z := tN ms p r) s3 t2 hne
    rw [← s1, ← t1] at e
    rw [e, sb]
    simp only [bI_0]
    by_cases hb : tnB (sN ms p r) (tN ms p r) = true
    · rw [if_neg (by rw [hb]; decide), if_pos hb]
    · rw [if_pos (by simpa using hb), if_neg hb]
      have key : ∀ (c i n : Nat), i + c = gi ms p r → c < n → fX9_stateOf_64 (fun (u6_22 : Int32) (u7_22 : Int32) => (if u6_22 = 0 then (if u7_22 = 0 then (some (4 : Int32)) else (some (3 : Int32))) else (some (2 : Int32)))) ms (nI (pl p r)) (sI ms p r) (ms (pl p r + 7)) n (bI (exI ms p r (sI ms p r - ms (pl p r + 7)) i)) (bI (exI ms p r (ms (pl p r + 7) - sI ms p r) i)) (nI i) = some (if exI ms p r (sI ms p r - ms (pl p r + 7)) (gi ms p r) = true then 2 else if exI ms p r (ms (pl p r + 7) - sI ms p r) (gi ms p r) = true then 3 else 4) := by
        intro c
        induction c with
        | zero =>
          intro i n hi hn
          obtain ⟨m, rfl⟩ : ∃ m, n = m + 1 := ⟨n - 1, by omega⟩
          rw [fX9_stateOf_64, li 2, m_cell hp hr (by omega), sb, h4.1, show i = gi ms p r by omega, if_pos (nI_le (Nat.le_refl _) (by omega))]
          generalize exI ms p r (sI ms p r - ms (pl p r + 7)) (gi ms p r) = b2
          generalize exI ms p r (ms (pl p r + 7) - sI ms p r) (gi ms p r) = b3
          cases b2 <;> cases b3 <;> rfl
        | succ c ih =>
          intro i n hi hn
          obtain ⟨m, rfl⟩ : ∃ m, n = m + 1 := ⟨n - 1, by omega⟩
          have e2 := ih (i + 1) m (by omega) (by omega)
          rw [exI_s, exI_s] at e2
          rw [← e2, fX9_stateOf_64, li 2, m_cell hp hr (by omega), sb, h4.1, if_neg (nI_ge (show i < gi ms p r by omega) (by omega)), li 3, nI_add, nI_add, aget_n (by unfold pl; omega) (by omega), ia]
          simp only [sb, i_short (ms (pl p r + 7)), i_twice (ms (pl p r + 7)), bI_0]
          generalize exI ms p r (sI ms p r - ms (pl p r + 7)) i = b2
          generalize exI ms p r (ms (pl p r + 7) - sI ms p r) i = b3
          by_cases c1 : ms (pl p r + 3 + i) = sI ms p r - ms (pl p r + 7) <;> by_cases c2 : ms (pl p r + 3 + i) = ms (pl p r + 7) - sI ms p r <;> cases b2 <;> cases b3 <;> simp [c1, c2, bI] <;> simp_all [bI]
      exact key (gi ms p r) 0 LF (by omega) (by rw [LF_eq]; omega)
end Kind
