/-! The best of the rows: most pieces, then the least first, then the least last, as one number. -/
section Best
variable {ms kc : Nat → Int32}
def pcN (m : Nat) : Nat := (pcI m).toNatClampNeg
theorem pcN_b : ∀ m, m < 1024 → pcI m = nI (pcN m) ∧ pcN m ≤ 10 ∧ (m ≠ 0 → 0 < pcN m) := by decide +kernel
theorem pcN_n : ∀ n, n < 11 → ∀ m, m < 1024 → m < 2 ^ n → pcN m ≤ n := by decide +kernel
def kyN (a f l : Nat) : Nat := 100 * a + 10 * (9 - f) + (9 - l)
def ky (s f l : Nat) : Nat := kyN (pcN s) f l
def tA (k : Nat) : Int32 := nI (k / 100)
def tF (k : Nat) : Int32 := if k = 0 then (-1 : Int32) else nI (9 - k / 10 % 10)
def tL (k : Nat) : Int32 := if k = 0 then (-1 : Int32) else nI (9 - k % 10)
theorem tA_k {a f l : Nat} (hf : f < 10) (hl : l < 10) : tA (kyN a f l) = nI a := by
  unfold tA kyN
  rw [show (100 * a + 10 * (9 - f) + (9 - l)) / 100 = a by omega]
theorem tF_k {a f l : Nat} (ha : 0 < a) (hf : f < 10) (hl : l < 10) : tF (kyN a f l) = nI f := by
  unfold tF kyN
  rw [if_neg (by omega), show 9 - (100 * a + 10 * (9 - f) + (9 - l)) / 10 % 10 = f by omega]
theorem tL_k {a f l : Nat} (ha : 0 < a) (hf : f < 10) (hl : l < 10) : tL (kyN a f l) = nI l := by
  unfold tL kyN
  rw [if_neg (by omega), show 9 - (100 * a + 10 * (9 - f) + (9 - l)) % 10 = l by omega]
theorem mx_l {a b : Nat} (h : b ≤ a) : max a b = a := by omega
theorem mx_r {a b : Nat} (h : a ≤ b) : max a b = b := by omega
/-- the reference's comparison -/
theorem m_bet {α : Type} (K : Int32 → Int32 → Int32 → α) {k a f l : Nat} (hk : k = 0 ∨ ∃ a' f' l', 0 < a' ∧ a' ≤ 10 ∧ f' < 10 ∧ l' < 10 ∧ k = kyN a' f' l') (ha : 0 < a) (ha2 : a ≤ 10) (hf : f < 10) (hl : l < 10) :
    (if tA k < nI a then K (nI a) (nI f) (nI l) else if nI a = tA k then (if nI f < tF k then K (nI a) (nI f) (nI l) else if nI f = tF k then (if tL k ≤ nI l then K (tA k) (tF k) (tL k) else K (nI a) (nI f) (nI l)) else K (tA k) (tF k) (tL k)) else K (tA k) (tF k) (tL k)) = K (tA (max k (kyN a f l))) (tF (max k (kyN a f l))) (tL (max k (kyN a f l))) := by
  have new : max k (kyN a f l) = kyN a f l → K (nI a) (nI f) (nI l) = K (tA (max k (kyN a f l))) (tF (max k (kyN a f l))) (tL (max k (kyN a f l))) := fun e => by
    rw [e, tA_k hf hl, tF_k ha hf hl, tL_k ha hf hl]
  have old : max k (kyN a f l) = k → K (tA k) (tF k) (tL k) = K (tA (max k (kyN a f l))) (tF (max k (kyN a f l))) (tL (max k (kyN a f l))) := fun e => by rw [e]
  rcases hk with rfl | ⟨a', f', l', b1, b2, b3, b4, rfl⟩
  · rw [if_pos (show tA 0 < nI a from nI_lt (a := 0) (by omega) (by omega))]
    exact new (by omega)
  · rw [tA_k b3 b4, tF_k b1 b3 b4, tL_k b1 b3 b4] at *
    by_cases c1 : a' < a
    · rw [if_pos (nI_lt c1 (by omega))]
      exact new (by unfold kyN; omega)
    rw [if_neg (nI_nlt (by omega) (by omega))]
    by_cases c2 : a = a'
    · subst c2
      rw [if_pos rfl]
      by_cases c3 : f < f'
      · rw [if_pos (nI_lt c3 (by omega))]
        exact new (by unfold kyN; omega)
      rw [if_neg (nI_nlt (by omega) (by omega))]
      by_cases c4 : f = f'
      · subst c4
        rw [if_pos rfl]
        by_cases c5 : l' ≤ l
        · rw [if_pos (nI_le c5 (by omega))]
          exact old (by unfold kyN; omega)
        · rw [if_neg (nI_ge (by omega) (by omega))]
          exact new (by unfold kyN; omega)
      · rw [if_neg (fun e => c4 ((nI_eq (by omega) (by omega)).mp e))]
        exact old (by unfold kyN; omega)
    · rw [if_neg (fun e => c2 ((nI_eq (by omega) (by omega)).mp e))]
      exact old (by unfold kyN; omega)
/-- the class's comparison -/
theorem c_bet {α : Type} (K : Int32 → Int32 → Int32 → α) {k a f l : Nat} (hk : k = 0 ∨ ∃ a' f' l', 0 < a' ∧ a' ≤ 10 ∧ f' ≤ f ∧ l' < 10 ∧ k = kyN a' f' l') (ha : 0 < a) (ha2 : a ≤ 10) (hf : f < 10) (hl : l < 10) :
    (if tA k < nI a then K (nI a) (nI f) (nI l) else if nI a = tA k then (if nI f = tF k then (if tL k ≤ nI l then K (tA k) (tF k) (tL k) else K (nI a) (nI f) (nI l)) else K (tA k) (tF k) (tL k)) else K (tA k) (tF k) (tL k)) = K (tA (max k (kyN a f l))) (tF (max k (kyN a f l))) (tL (max k (kyN a f l))) := by
  rw [← m_bet K (hk.imp id (fun ⟨a', f', l', b1, b2, b3, b4⟩ => ⟨a', f', l', b1, b2, by omega, b4⟩)) ha ha2 hf hl]
  rcases hk with rfl | ⟨a', f', l', b1, b2, b3, b4, rfl⟩
  · have h0 : tA 0 < nI a := nI_lt (a := 0) (by omega) (by omega)
    rw [if_pos h0, if_pos h0]
  · rw [tF_k b1 (by omega) b4, if_neg (nI_nlt (show f' ≤ f by omega) (by omega))]
/-- the number of the best row -/
def BK (ok : Nat → Nat → Nat → Prop) (n k : Nat) : Prop := (k = 0 ∨ ∃ s f l, s < 2 ^ n ∧ RO ok n s f l ∧ k = ky s f l) ∧ ∀ s f l, s < 2 ^ n → RO ok n s f l → ky s f l ≤ k
theorem BK_u {ok : Nat → Nat → Nat → Prop} {n k j : Nat} (h : BK ok n k) (g : BK ok n j) : k = j := by
  have a : k ≤ j := by
    rcases h.1 with e | ⟨s, f, l, h1, h2, e⟩
    · omega
    · rw [e]; exact g.2 s f l h1 h2
  have b : j ≤ k := by
    rcases g.1 with e | ⟨s, f, l, h1, h2, e⟩
    · omega
    · rw [e]; exact h.2 s f l h1 h2
  omega
theorem RO_ge {ok : Nat → Nat → Nat → Prop} {n f : Nat} : ∀ (s l : Nat), RO ok n s f l → 2 ^ f ≤ s := by
  intro s
  induction s using Nat.strongRecOn with
  | ind s ih =>
    intro l h
    rcases RO_iff.mp h with ⟨h1, h2, h3⟩ | ⟨s', x, a1, a2, a3, -⟩
    · omega
    · have := ih s' a1 x a2
      omega
theorem RO_0 {ok : Nat → Nat → Nat → Prop} {n s f l : Nat} (h : RO ok n s f l) : s ≠ 0 := by
  have := RO_ge s l h
  have := Nat.two_pow_pos f
  omega
end Best
