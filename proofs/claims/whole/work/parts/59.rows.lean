/-! Rows that could be joined: what may follow. -/
/-- with k steps at most: a row of the pieces s, from f to l -/
def RK (ok : Nat → Nat → Nat → Prop) (n : Nat) : Nat → Nat → Nat → Nat → Prop
  | 0, _, _, _ => False
  | k + 1, s, f, l => (f < n ∧ l = f ∧ s = 2 ^ f) ∨ ∃ s' x, s' < s ∧ RK ok n k s' f x ∧ l < n ∧ s'.testBit l = false ∧ s = s' ||| 2 ^ l ∧ ok s' x l
theorem RK_up {ok : Nat → Nat → Nat → Prop} {n : Nat} : ∀ (k m s f l : Nat), s < k → s < m → RK ok n k s f l → RK ok n m s f l
  | 0, _, _, _, _, h, _, _ => by omega
  | _ + 1, 0, _, _, _, _, h, _ => by omega
  | k + 1, m + 1, s, f, l, h1, h2, h => by
    rcases h with h | ⟨s', x, a1, a2, a3⟩
    · exact Or.inl h
    · exact Or.inr ⟨s', x, a1, RK_up k m s' f x (by omega) (by omega) a2, a3⟩
def RO (ok : Nat → Nat → Nat → Prop) (n s f l : Nat) : Prop := RK ok n (s + 1) s f l
theorem RO_iff {ok : Nat → Nat → Nat → Prop} {n s f l : Nat} : RO ok n s f l ↔ (f < n ∧ l = f ∧ s = 2 ^ f) ∨ ∃ s' x, s' < s ∧ RO ok n s' f x ∧ l < n ∧ s'.testBit l = false ∧ s = s' ||| 2 ^ l ∧ ok s' x l := by
  constructor
  · rintro (h | ⟨s', x, a1, a2, a3⟩)
    · exact Or.inl h
    · exact Or.inr ⟨s', x, a1, RK_up s (s' + 1) s' f x (by omega) (by omega) a2, a3⟩
  · rintro (h | ⟨s', x, a1, a2, a3⟩)
    · exact Or.inl h
    · exact Or.inr ⟨s', x, a1, RK_up (s' + 1) s s' f x (by omega) (by omega) a2, a3⟩
set_option maxRecDepth 100000 in
theorem bit_ok : ∀ m, m < 1024 → ∀ g, g < 10 → ((nI m >>> (nI g &&& 31)) &&& (1 : Int32)) = bI (m.testBit g) := by decide +kernel
section Rows
variable {ms kc : Nat → Int32}
def laT (ms : Nat → Int32) (x : Nat) : Int32 := if gc ms x = 0 then (-1 : Int32) else ms (pl x (gc ms x - 1))
def eaT (ms : Nat → Int32) (y : Nat) : Int32 := if gc ms y = 0 then (10000 : Int32) else ms (pl y 0)
def gtB (ms : Nat → Int32) (s y i : Nat) : Bool := decide (∀ x, x < gn ms → i ≤ x → s.testBit x = true → laT ms x ≤ eaT ms y)
theorem laT_b (w : WF ms) {x : Nat} (hx : x < gn ms) : laT ms x ≤ (10000 : Int32) ∧ ∀ t : Nat, t ≤ 9999 → gc ms x = 0 → laT ms x ≤ nI t := by
  unfold laT
  by_cases h : gc ms x = 0
  · rw [if_pos h]
    refine ⟨by decide, fun t ht _ => ?_⟩
    rw [Int32.le_iff_toInt_le, nI_toInt (by omega), show (-1 : Int32).toInt = -1 from rfl]
    omega
  · rw [if_neg h]
    obtain ⟨t1, t2⟩ := tm_n (rv w hx (show gc ms x - 1 < gc ms x by omega))
    refine ⟨?_, fun _ _ h0 => absurd h0 h⟩
    rw [t1, li 10000]
    exact nI_le (by omega) (by omega)
theorem eaT_n (w : WF ms) {y : Nat} (hy : y < gn ms) : ∃ t : Nat, t ≤ 10000 ∧ eaT ms y = nI t ∧ (gc ms y ≠ 0 → ms (pl y 0) = nI t) := by
  unfold eaT
  by_cases h : gc ms y = 0
  · rw [if_pos h]
    exact ⟨10000, Nat.le_refl _, rfl, fun h' => absurd h h'⟩
  · rw [if_neg h]
    obtain ⟨t1, t2⟩ := tm_n (rv w hy (show 0 < gc ms y by omega))
    exact ⟨_, by omega, t1, fun _ => t1⟩
theorem gtB_s (s y i : Nat) (hi : i < gn ms) : gtB ms s y i = ((!s.testBit i || decide (laT ms i ≤ eaT ms y)) && gtB ms s y (i + 1)) := by
  unfold gtB
  rw [Bool.eq_iff_iff]
  simp only [decide_eq_true_eq, Bool.and_eq_true, Bool.or_eq_true, Bool.not_eq_true']
  constructor
  · intro h
    refine ⟨?_, fun x hx hx2 => h x hx (by omega)⟩
    cases hb : s.testBit i with
    | false => exact Or.inl rfl
    | true => exact Or.inr (h i hi (Nat.le_refl _) hb)
  · rintro ⟨h1, h2⟩ x hx hx2 hb
    by_cases e : x = i
    · subst e
      rcases h1 with h1 | h1
      · rw [hb] at h1; exact absurd h1 (by simp)
      · exact h1
    · exact h2 x hx (by omega) hb
theorem gtB_e (s y i : Nat) (hi : gn ms ≤ i) : gtB ms s y i = true := by
  unfold gtB
  rw [decide_eq_true_eq]
  intro x hx hx2
  omega
theorem gtB_0 (w : WF ms) (s y i : Nat) (hy : gc ms y = 0) : gtB ms s y i = true := by
  unfold gtB
  rw [decide_eq_true_eq]
  intro x hx _ _
  have : eaT ms y = (10000 : Int32) := by unfold eaT; rw [if_pos hy]
  rw [this]
  exact (laT_b w hx).1
end Rows
