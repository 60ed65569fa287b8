/-! The class lets its rows grow. -/
section Grow
variable {ms kc : Nat → Int32}
theorem an_b : ∀ m, m < 1024 → ∀ y, y < 10 → ((nI m &&& nI (2 ^ y)) = (0 : Int32) ↔ m.testBit y = false) := by decide +kernel
theorem nt_1 : ∀ s, s < 1024 → (nI 1023 &&& (nI s ^^^ (-1 : Int32))) = nI (1023 - s) := by decide +kernel
theorem nt_2 : ∀ m, m < 1024 → nI m = nI m &&& nI 1023 := by decide +kernel
theorem nt_t : ∀ s, s < 1024 → ∀ y, y < 10 → (1023 - s).testBit y = !s.testBit y := by decide +kernel
theorem nI_and (a b : Nat) : nI a &&& nI b = nI (a &&& b) := by
  apply Int32.toBitVec_inj.mp
  rw [Int32.toBitVec_and]
  show BitVec.ofNat 32 a &&& BitVec.ofNat 32 b = BitVec.ofNat 32 (a &&& b)
  exact (BitVec.ofNat_and).symm
theorem nt_3 {m s : Nat} (hm : m < 1024) (hs : s < 1024) : nI m &&& (nI s ^^^ (-1 : Int32)) = nI (m &&& (1023 - s)) := by
  rw [← nI_and, ← nt_1 s hs]
  conv => lhs; rw [nt_2 m hm]
  exact Int32.and_assoc _ _ _
/-- what may follow a row that ends with one of e -/
def foM (ms : Nat → Int32) (e : Nat) : Nat := fo (fun y m => if e.testBit y = true then m ||| mkN (seB ms y) (gn ms) else m) (gn ms) 0 0
theorem foM_b (w : WF ms) (e : Nat) : foM ms e < 1024 := by
  refine fo_inv (fun m => m < 1024) (gn ms) 0 0 (fun j s _ _ h => ?_) (by omega)
  split
  · exact Nat.or_lt_two_pow (n := 10) h (mkN_b10 _ w.1.2)
  · exact h
theorem foM_g (e b : Nat) : ∀ (c i m : Nat), (fo (fun y m => if e.testBit y = true then m ||| mkN (seB ms y) (gn ms) else m) c i m).testBit b = true ↔ m.testBit b = true ∨ ∃ y, i ≤ y ∧ y < i + c ∧ e.testBit y = true ∧ b < gn ms ∧ seB ms y b = true
  | 0, i, m => by
    constructor
    · exact Or.inl
    · rintro (h | ⟨y, h1, h2, -⟩)
      · exact h
      · omega
  | c + 1, i, m => by
    rw [fo_succ, foM_g e b c (i + 1)]
    constructor
    · rintro (h | ⟨y, h1, h2, h3⟩)
      · by_cases a : e.testBit i = true
        · rw [if_pos a, Nat.testBit_or, Bool.or_eq_true, mkN_t, Bool.and_eq_true, decide_eq_true_eq] at h
          rcases h with h | h
          · exact Or.inl h
          · exact Or.inr ⟨i, by omega, by omega, a, h.1, h.2⟩
        · rw [if_neg a] at h
          exact Or.inl h
      · exact Or.inr ⟨y, by omega, by omega, h3⟩
    · rintro (h | ⟨y, h1, h2, h3, h4, h5⟩)
      · left
        by_cases a : e.testBit i = true
        · rw [if_pos a, Nat.testBit_or, h, Bool.true_or]
        · rw [if_neg a]; exact h
      · by_cases ey : y = i
        · subst ey
          left
          rw [if_pos h3, Nat.testBit_or, mkN_t, h5, decide_eq_true h4, Bool.and_true, Bool.or_true]
        · exact Or.inr ⟨y, by omega, by omega, h3, h4, h5⟩
theorem foM_t (e b : Nat) : (foM ms e).testBit b = true ↔ ∃ y, y < gn ms ∧ e.testBit y = true ∧ b < gn ms ∧ seB ms y b = true := by
  unfold foM
  rw [foM_g e b (gn ms) 0 0, Nat.zero_testBit]
  constructor
  · rintro (h | ⟨y, h1, h2, h3⟩)
    · exact absurd h (by simp)
    · exact ⟨y, by omega, h3⟩
  · rintro ⟨y, h2, h3⟩
    exact Or.inr ⟨y, by omega, by omega, h3⟩
def grP (ms : Nat → Int32) (e s l : Nat) : Bool := (foM ms e).testBit l && !s.testBit l && gtB ms s l 0
def grS (ms : Nat → Int32) (e s l : Nat) (ken : Nat → Int32) : Nat → Int32 := if grP ms e s l = true then upd ken (s ||| 2 ^ l) (ken (s ||| 2 ^ l) ||| nI (2 ^ l)) else ken
theorem g4 (w : WF ms) {kla kfi kea : Nat → Int32} (h : LI ms (gn ms) kla kfi kea) (K : Int32 → Option (Nat → Int32)) {ken : Nat → Int32} {s e : Nat} (hs : s < 1024) (he : e < 1024) (hk : ken s = nI e) : fX5_grow_4 K ken kfi (nI (gn ms)) (nI s) LF (0 : Int32) (0 : Int32) = K (nI (foM ms e)) := by
  have h10 := w.1.2
  have e1 := m_loop1 (gn ms) (by omega) (fun n x i => fX5_grow_4 K ken kfi (nI (gn ms)) (nI s) n x (nI i)) K (fun y x => if e.testBit y = true then x ||| nI (mkN (seB ms y) (gn ms)) else x) (fun n x => by
    show fX5_grow_4 _ _ _ _ _ (n + 1) x _ = _
    rw [fX5_grow_4, ge_e (by omega)]) (fun n x i hi => by
    show fX5_grow_4 _ _ _ _ _ (n + 1) x _ = _
    rw [fX5_grow_4, ge_n hi (by omega), aget_n hs (by omega), sb, hk, sh1 i (by omega), ia]
    cases hb : e.testBit i with
    | false => rw [if_pos ((an_b e he i (by omega)).mpr hb), if_neg (by simp)]
    | true => rw [if_neg (fun q => by rw [(an_b e he i (by omega)).mp q] at hb; exact absurd hb (by simp)), aget_n (show i < 10 by omega) (by omega), sb, if_pos rfl, (h.2 i hi).1]) 0
  refine Eq.trans e1 ?_
  congr 1
  refine fo_rel (fun (x : Int32) (m : Nat) => x = nI m) (gn ms) 0 (0 : Int32) 0 (fun j a b _ _ r => ?_) rfl
  split
  · rw [r, nI_or]
  · exact r
theorem g48 (w : WF ms) {kla kfi kea : Nat → Int32} (h : LI ms (gn ms) kla kfi kea) (K : (Nat → Int32) → Option (Nat → Int32)) (ken : Nat → Int32) {s e : Nat} (hs : s < 2 ^ gn ms) : fX5_grow_48 K kla kea (nI (gn ms)) (nI s) (nI (foM ms e &&& (1023 - s))) LF (0 : Int32) ken = K (fo (grS ms e s) (gn ms) 0 ken) := by
  have h10 := w.1.2
  have hp := p2_le h10
  refine m_loop1 (gn ms) (by omega) (fun n k i => fX5_grow_48 K kla kea (nI (gn ms)) (nI s) (nI (foM ms e &&& (1023 - s))) n (nI i) k) K (grS ms e s) (fun n k => ?_) (fun n k i hi => ?_) ken
  · show fX5_grow_48 _ _ _ _ _ _ (n + 1) _ k = _
    rw [fX5_grow_48, ge_e (by omega)]
  · show fX5_grow_48 _ _ _ _ _ _ (n + 1) _ k = _
    have hi10 : i < 10 := by omega
    have hor := or_b hs hi
    have hmb : foM ms e &&& (1023 - s) < 1024 := Nat.lt_of_le_of_lt Nat.and_le_left (foM_b w e)
    have hmt : (foM ms e &&& (1023 - s)).testBit i = ((foM ms e).testBit i && !s.testBit i) := by rw [Nat.testBit_and, nt_t s (by omega) i hi10]
    rw [fX5_grow_48, ge_n hi (by omega), sh1 i hi10, ia]
    unfold grS grP
    rw [← hmt]
    cases hb : (foM ms e &&& (1023 - s)).testBit i with
    | false =>
      rw [if_pos ((an_b _ hmb i hi10).mpr hb), Bool.false_and, if_neg (by simp)]
    | true =>
      obtain ⟨t, t1, t2, -⟩ := eaT_n w hi
      have hg : gtB ms s i 0 = true ↔ kla s ≤ kea i := by
        rw [(h.2 i hi).2, t2, h.1 s hs t t1]
        unfold gtB
        rw [decide_eq_true_eq, t2]
        exact ⟨fun a x hx hb => a x hx (by omega) hb, fun a x hx _ hb => a x hx hb⟩
      rw [if_neg (fun q => by rw [(an_b _ hmb i hi10).mp q] at hb; exact absurd hb (by simp)), aget_n (show s < 1024 by omega) (by omega), sb, aget_n hi10 (by omega), sb, Bool.true_and]
      by_cases hc : kla s ≤ kea i
      · rw [if_neg (fun q => by rw [Int32.lt_iff_toInt_lt] at q; rw [Int32.le_iff_toInt_le] at hc; omega), if_pos (hg.mpr hc), nI_or, aget_n (by omega) (by omega), sb, aput_n (by omega) (by omega), sb]
      · rw [if_pos (by rw [Int32.lt_iff_toInt_lt]; rw [Int32.le_iff_toInt_le] at hc; omega), if_neg (fun q => hc (hg.mp q))]
theorem grow_ok (w : WF ms) {kla kfi kea : Nat → Int32} (h : LI ms (gn ms) kla kfi kea) {ken : Nat → Int32} {s e : Nat} (hs : s < 2 ^ gn ms) (he : e < 1024) (hk : ken s = nI e) : fX5_grow ken kla kfi kea (nI (gn ms)) (nI s) = some (fo (grS ms e s) (gn ms) 0 ken) := by
  have h10 := w.1.2
  have hp := p2_le h10
  unfold fX5_grow
  rw [g4 w h _ (by omega) he hk, nt_3 (foM_b w e) (by omega), g48 w h _ ken hs]
theorem fo_gr {e s0 : Nat} {j : Nat} : ∀ (c i : Nat) (ken : Nat → Int32) (m : Nat), i + c ≤ 10 → m < 1024 → ken j = nI m → ∃ m', m' < 1024 ∧ fo (grS ms e s0) c i ken j = nI m' ∧ ∀ l, m'.testBit l = true ↔ m.testBit l = true ∨ ((i ≤ l ∧ l < i + c) ∧ grP ms e s0 l = true ∧ j = s0 ||| 2 ^ l)
  | 0, i, ken, m, _, hm, hk => ⟨m, hm, hk, fun l => ⟨Or.inl, fun h => by
    rcases h with h | h
    · exact h
    · omega⟩⟩
  | c + 1, i, ken, m, hi, hm, hk => by
    have h2 : 2 ^ i < 2 ^ 10 := Nat.pow_lt_pow_right (by omega) (by omega)
    rw [fo_succ]
    by_cases q : grP ms e s0 i = true ∧ j = s0 ||| 2 ^ i
    · obtain ⟨m', a1, a2, a3⟩ := fo_gr (e := e) (s0 := s0) (j := j) c (i + 1) (grS ms e s0 i ken) (m ||| 2 ^ i) (by omega) (Nat.or_lt_two_pow (n := 10) hm h2) (by
        unfold grS
        rw [if_pos q.1, q.2, pk_us, ← q.2, hk, nI_or])
      refine ⟨m', a1, a2, fun l => ?_⟩
      rw [a3 l, Nat.testBit_or, Bool.or_eq_true, Nat.testBit_two_pow, decide_eq_true_eq]
      constructor
      · rintro ((h | h) | ⟨h1, h3⟩)
        · exact Or.inl h
        · subst h
          exact Or.inr ⟨⟨by omega, by omega⟩, q⟩
        · exact Or.inr ⟨by omega, h3⟩
      · rintro (h | ⟨h1, h3⟩)
        · exact Or.inl (Or.inl h)
        · by_cases el : i = l
          · exact Or.inl (Or.inr el)
          · exact Or.inr ⟨by omega, h3⟩
    · obtain ⟨m', a1, a2, a3⟩ := fo_gr (e := e) (s0 := s0) (j := j) c (i + 1) (grS ms e s0 i ken) m (by omega) hm (by
        unfold grS
        by_cases q1 : grP ms e s0 i = true
        · rw [if_pos q1, pk_un (fun q2 => q ⟨q1, q2⟩), hk]
        · rw [if_neg q1, hk])
      refine ⟨m', a1, a2, fun l => ?_⟩
      rw [a3 l]
      constructor
      · rintro (h | ⟨h1, h3⟩)
        · exact Or.inl h
        · exact Or.inr ⟨by omega, h3⟩
      · rintro (h | ⟨h1, h3⟩)
        · exact Or.inl h
        · by_cases el : i = l
          · subst el
            exact absurd h3 q
          · exact Or.inr ⟨by omega, h3⟩
def CC (ms : Nat → Int32) (f s0 s l : Nat) : Prop := (f < gn ms ∧ l = f ∧ s = 2 ^ f) ∨ ∃ s' x, s' < s0 ∧ RO (okP ms) (gn ms) s' f x ∧ l < gn ms ∧ s'.testBit l = false ∧ s = s' ||| 2 ^ l ∧ okP ms s' x l
def IC (ms : Nat → Int32) (f s0 : Nat) (ken : Nat → Int32) : Prop := ∀ s, s < 2 ^ gn ms → ∃ m, m < 1024 ∧ ken s = nI m ∧ ∀ l, m.testBit l = true ↔ CC ms f s0 s l
theorem CC_s {f s0 s l : Nat} : CC ms f (s0 + 1) s l ↔ CC ms f s0 s l ∨ ∃ x, RO (okP ms) (gn ms) s0 f x ∧ l < gn ms ∧ s = s0 ||| 2 ^ l ∧ okP ms s0 x l := by
  unfold CC
  constructor
  · rintro (h | ⟨s', x, a1, a2, a3, a4, a5, a6⟩)
    · exact Or.inl (Or.inl h)
    · by_cases e : s' < s0
      · exact Or.inl (Or.inr ⟨s', x, e, a2, a3, a4, a5, a6⟩)
      · have e1 : s' = s0 := by omega
        subst e1
        exact Or.inr ⟨x, a2, a3, a5, a6⟩
  · rintro ((h | ⟨s', x, a1, a2⟩) | ⟨x, b1, b2, b3, b4⟩)
    · exact Or.inl h
    · exact Or.inr ⟨s', x, by omega, a2⟩
    · exact Or.inr ⟨s0, x, by omega, b1, b2, okB_n b4, b3, b4⟩
theorem IC_s (w : WF ms) {f s0 e : Nat} {ken : Nat → Int32} (hs : s0 < 2 ^ gn ms) (h : IC ms f s0 ken) (he : ken s0 = nI e) (he2 : e < 1024) : IC ms f (s0 + 1) (fo (grS ms e s0) (gn ms) 0 ken) := by
  have h10 := w.1.2
  obtain ⟨e', b1, b2, b3⟩ := h s0 hs
  have em : e = e' := (nI_eq (by omega) (by omega)).mp (by rw [← he, b2])
  subst em
  intro s hs2
  obtain ⟨m, c1, c2, c3⟩ := h s hs2
  obtain ⟨m', d1, d2, d3⟩ := fo_gr (e := e) (s0 := s0) (j := s) (gn ms) 0 ken m (by omega) c1 c2
  refine ⟨m', d1, d2, fun l => ?_⟩
  rw [d3 l, c3 l, CC_s]
  refine or_congr Iff.rfl ?_
  have hok : ∀ x, okP ms s0 x l ↔ s0.testBit l = false ∧ seB ms x l = true ∧ gtB ms s0 l 0 = true := fun x => by
    unfold okP okB seB
    rw [Bool.and_eq_true, Bool.and_eq_true, Bool.not_eq_true', and_assoc]
  unfold grP
  rw [Bool.and_eq_true, Bool.and_eq_true, Bool.not_eq_true', foM_t]
  constructor
  · rintro ⟨⟨-, h1⟩, ⟨⟨⟨x, x1, x2, x3, x4⟩, x5⟩, x6⟩, h3⟩
    exact ⟨x, RO_iff.mpr ((b3 x).mp x2), x3, h3, (hok x).mpr ⟨x5, x4, x6⟩⟩
  · rintro ⟨x, a1, a2, a3, a4⟩
    obtain ⟨x5, x4, x6⟩ := (hok x).mp a4
    exact ⟨⟨by omega, by omega⟩, ⟨⟨⟨x, (RO_l a1).1, (b3 x).mpr (RO_iff.mp a1), a2, x4⟩, x5⟩, x6⟩, a3⟩
theorem IC_0 (w : WF ms) {f s0 : Nat} {ken : Nat → Int32} (hs : s0 < 2 ^ gn ms) (h : IC ms f s0 ken) (he : ken s0 = nI 0) : IC ms f (s0 + 1) ken := by
  obtain ⟨e', b1, b2, b3⟩ := h s0 hs
  have em : 0 = e' := (nI_eq (by omega) (by omega)).mp (by rw [← he, b2])
  subst em
  intro s hs2
  obtain ⟨m, c1, c2, c3⟩ := h s hs2
  refine ⟨m, c1, c2, fun l => ?_⟩
  rw [c3 l, CC_s]
  constructor
  · exact Or.inl
  · rintro (x | ⟨x, x1, -⟩)
    · exact x
    · have := (b3 x).mpr (RO_iff.mp x1)
      rw [Nat.zero_testBit] at this
      exact absurd this (by simp)
end Grow
