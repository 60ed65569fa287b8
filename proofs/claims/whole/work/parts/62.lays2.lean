/-! What the reference's rows hold. -/
section Lays2
variable {ms kc : Nat → Int32}
def okP (ms : Nat → Int32) (s x l : Nat) : Prop := okB ms s x l = true
theorem RO_l {ok : Nat → Nat → Nat → Prop} {n s f l : Nat} (h : RO ok n s f l) : l < n ∧ f < n := by
  induction s using Nat.strongRecOn generalizing l with
  | ind s ih =>
    rcases RO_iff.mp h with ⟨h1, h2, -⟩ | ⟨s', x, a1, a2, a3, -⟩
    · exact ⟨by omega, h1⟩
    · exact ⟨a3, (ih s' a1 a2).2⟩
def CE (ms : Nat → Int32) (z s f l : Nat) : Prop := (f < gn ms ∧ l = f ∧ s = 2 ^ f) ∨ ∃ s' x, 10 * s' + x < z ∧ RO (okP ms) (gn ms) s' f x ∧ l < gn ms ∧ s'.testBit l = false ∧ s = s' ||| 2 ^ l ∧ okP ms s' x l
def IV (ms : Nat → Int32) (z : Nat) (mf : Nat → Int32) : Prop := ∀ s l, s < 2 ^ gn ms → l < 10 → ∃ m, m < 1024 ∧ mf (10 * s + l) = nI m ∧ ∀ f, m.testBit f = true ↔ CE ms z s f l
theorem CE_fin (w : WF ms) {s f l : Nat} (hl : l < 10) : CE ms (10 * s + l) s f l ↔ RO (okP ms) (gn ms) s f l := by
  have h10 := w.1.2
  rw [RO_iff]
  unfold CE
  constructor
  · rintro (h | ⟨s', x, a1, a2, a3, a4, a5, a6⟩)
    · exact Or.inl h
    · have := or_gt a4
      exact Or.inr ⟨s', x, by omega, a2, a3, a4, a5, a6⟩
  · rintro (h | ⟨s', x, a1, a2, a3, a4, a5, a6⟩)
    · exact Or.inl h
    · have := (RO_l a2).1
      exact Or.inr ⟨s', x, by omega, a2, a3, a4, a5, a6⟩
theorem CE_s (w : WF ms) {s0 l0 s f l : Nat} (hl : l0 < 10) : CE ms (10 * s0 + l0 + 1) s f l ↔ CE ms (10 * s0 + l0) s f l ∨ (RO (okP ms) (gn ms) s0 f l0 ∧ l < gn ms ∧ s = s0 ||| 2 ^ l ∧ okP ms s0 l0 l) := by
  have h10 := w.1.2
  unfold CE
  constructor
  · rintro (h | ⟨s', x, a1, a2, a3, a4, a5, a6⟩)
    · exact Or.inl (Or.inl h)
    · have hx := (RO_l a2).1
      by_cases e : 10 * s' + x < 10 * s0 + l0
      · exact Or.inl (Or.inr ⟨s', x, e, a2, a3, a4, a5, a6⟩)
      · have e1 : s' = s0 := by omega
        have e2 : x = l0 := by omega
        subst e1 e2
        exact Or.inr ⟨a2, a3, a5, a6⟩
  · rintro ((h | ⟨s', x, a1, a2⟩) | ⟨b1, b2, b3, b4⟩)
    · exact Or.inl h
    · exact Or.inr ⟨s', x, by omega, a2⟩
    · exact Or.inr ⟨s0, l0, by omega, b1, b2, okB_n b4, b3, b4⟩
theorem fo_ly {s0 l0 m0 : Nat} : ∀ (c y : Nat) (mf : Nat → Int32) (s l : Nat), y + c ≤ 10 → l < 10 → fo (lyS ms s0 l0 m0) c y mf (10 * s + l) = if (y ≤ l ∧ l < y + c) ∧ okB ms s0 l0 l = true ∧ s = s0 ||| 2 ^ l then mf (10 * s + l) ||| nI m0 else mf (10 * s + l)
  | 0, y, mf, s, l, _, _ => by rw [if_neg (by omega)]; rfl
  | c + 1, y, mf, s, l, h, hl => by
    rw [fo_succ, fo_ly c (y + 1) _ s l (by omega) hl]
    unfold lyS
    cases hk : okB ms s0 l0 y with
    | false =>
      rw [if_neg (show ¬ (false = true) by simp)]
      by_cases e : l = y
      · subst e
        rw [if_neg (by omega), if_neg (by rw [hk]; simp)]
      · simp only [show (y + 1 ≤ l ∧ l < y + 1 + c) ↔ (y ≤ l ∧ l < y + (c + 1)) from by omega]
    | true =>
      rw [if_pos rfl]
      by_cases e : l = y
      · subst e
        rw [if_neg (by omega)]
        by_cases e2 : s = s0 ||| 2 ^ l
        · subst e2
          rw [pk_us, if_pos ⟨by omega, hk, rfl⟩]
        · rw [pk_un (by omega), if_neg (fun q => e2 q.2.2)]
      · rw [pk_un (by omega)]
        simp only [show (y + 1 ≤ l ∧ l < y + 1 + c) ↔ (y ≤ l ∧ l < y + (c + 1)) from by omega]
theorem IV_s (w : WF ms) {s0 l0 m0 : Nat} {mf : Nat → Int32} (hs : s0 < 2 ^ gn ms) (hl : l0 < 10) (h : IV ms (10 * s0 + l0) mf) (hm : mf (10 * s0 + l0) = nI m0) (hm2 : m0 < 1024) : IV ms (10 * s0 + l0 + 1) (fo (lyS ms s0 l0 m0) (gn ms) 0 mf) := by
  have h10 := w.1.2
  obtain ⟨m', b1, b2, b3⟩ := h s0 l0 hs hl
  have em : m0 = m' := (nI_eq (by omega) (by omega)).mp (by rw [← hm, b2])
  subst em
  intro s l hs2 hl2
  obtain ⟨m, c1, c2, c3⟩ := h s l hs2 hl2
  rw [fo_ly (gn ms) 0 mf s l (by omega) hl2]
  by_cases q : (0 ≤ l ∧ l < 0 + gn ms) ∧ okB ms s0 l0 l = true ∧ s = s0 ||| 2 ^ l
  · rw [if_pos q, c2, nI_or]
    refine ⟨m ||| m0, Nat.or_lt_two_pow (n := 10) c1 hm2, rfl, fun f => ?_⟩
    rw [Nat.testBit_or, Bool.or_eq_true, c3 f, b3 f, CE_s w hl, CE_fin w hl]
    constructor
    · rintro (x | x)
      · exact Or.inl x
      · exact Or.inr ⟨x, by omega, q.2.2, q.2.1⟩
    · rintro (x | x)
      · exact Or.inl x
      · exact Or.inr x.1
  · rw [if_neg q]
    refine ⟨m, c1, c2, fun f => ?_⟩
    rw [c3 f, CE_s w hl]
    constructor
    · exact Or.inl
    · rintro (x | ⟨x1, x2, x3, x4⟩)
      · exact x
      · exact absurd ⟨⟨by omega, by omega⟩, x4, x3⟩ q
end Lays2
