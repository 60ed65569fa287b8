/-! Whether a row goes on, in the reference. -/
section Rows2
variable {ms kc : Nat → Int32}
theorem bI_t : bI true = (1 : Int32) := rfl
theorem bI_f : bI false = (0 : Int32) := rfl
theorem go_l (w : WF ms) (K : Int32 → Option Int32) {s y : Nat} (hs : s < 1024) (hy : y < gn ms) : ∀ (c i n : Nat) (b : Bool), i + c = gn ms → c < n → fX9_goesOn_36 K ms (nI s) (nI y) n (bI b) (nI i) = K (bI (b && gtB ms s y i)) := by
  intro c
  induction c with
  | zero =>
    intro i n b hi hn
    obtain ⟨n, rfl⟩ : ∃ k, n = k + 1 := ⟨n - 1, by omega⟩
    rw [fX9_goesOn_36, m_n w, sb, show i = gn ms by omega, mNe w, gtB_e s y (gn ms) (Nat.le_refl _), Bool.and_true]
  | succ c ih =>
    intro i n b hi hn
    obtain ⟨n, rfl⟩ : ∃ k, n = k + 1 := ⟨n - 1, by omega⟩
    have hil : i < gn ms := by omega
    have hi10 := p10 w hil
    have hy10 := p10 w hy
    have h6 := gc_b w hi10
    have h6y := gc_b w hy10
    rw [fX9_goesOn_36, m_n w, sb, mN w hil, m_cnt w hy10, sb]
    by_cases h0 : gc ms y = 0
    · rw [h0, if_pos (show nI 0 ≤ (0 : Int32) by decide), gtB_0 w s y i h0, Bool.and_true]
    · obtain ⟨t, ht, -, hte⟩ := eaT_n w hy
      have hee : eaT ms y = nI t := by unfold eaT; rw [if_neg h0]; exact hte h0
      have htime : fX9_timeOf ms (nI y) (0 : Int32) = some (nI t) := by rw [show fX9_timeOf ms (nI y) (0 : Int32) = _ from m_time (r := 0) hy10 (by omega), hte h0]
      have ht9 : t ≤ 9999 := by
        obtain ⟨t1, t2⟩ := tm_n (rv w hy (show 0 < gc ms y by omega))
        have := (nI_eq (by omega) (by omega)).mp ((hte h0).symm.trans t1)
        omega
      rw [if_neg (nI_nle (by omega) (by omega)), bit_ok s hs i hi10, m_cnt w hi10, sb, ia, gtB_s s y i hil]
      cases hb : s.testBit i with
      | false =>
        rw [bI_f, if_neg (show ¬ (0 : Int32) = 1 by decide)]
        cases b with
        | false =>
          rw [bI_f, if_pos rfl, ← bI_f, ih (i + 1) n false (by omega) (by omega)]
          rfl
        | true =>
          rw [bI_t, if_neg one_n, ← bI_t, ih (i + 1) n true (by omega) (by omega)]
          rfl
      | true =>
        rw [bI_t, if_pos rfl]
        by_cases h1 : gc ms i = 0
        · have hle : laT ms i ≤ eaT ms y := by rw [hee]; exact (laT_b w hil).2 t ht9 h1
          rw [h1, if_pos (show nI 0 ≤ (0 : Int32) by decide)]
          cases b with
          | false =>
            rw [bI_f, if_pos rfl, ← bI_f, ih (i + 1) n false (by omega) (by omega)]
            rfl
          | true =>
            rw [bI_t, if_neg one_n, ← bI_t, ih (i + 1) n true (by omega) (by omega)]
            simp [hle]
        · rw [if_neg (nI_nle (by omega) (by omega))]
          cases b with
          | false =>
            rw [bI_f, if_pos rfl, ← bI_f, ih (i + 1) n false (by omega) (by omega)]
            rfl
          | true =>
            obtain ⟨q, hq⟩ : ∃ q, gc ms i = q + 1 := ⟨gc ms i - 1, by omega⟩
            have hla : laT ms i = ms (pl i q) := by unfold laT; rw [if_neg h1, hq]; rfl
            obtain ⟨t1, t2⟩ := tm_n (rv w hil (show q < gc ms i by omega))
            rw [bI_t, if_neg one_n, hq, sb, nI_pred, m_time hi10 (by omega), sb, htime, sb, t1]
            by_cases hlt : t < tmP ms i q
            · have hle : ¬ laT ms i ≤ eaT ms y := by rw [hee, hla, t1]; exact nI_ge hlt (by omega)
              rw [if_pos (nI_lt hlt (by omega)), ← bI_f, ih (i + 1) n false (by omega) (by omega)]
              simp [hle]
            · have hle : laT ms i ≤ eaT ms y := by rw [hee, hla, t1]; exact nI_le (by omega) (by omega)
              rw [if_neg (nI_nlt (by omega) (by omega)), ← bI_t, ih (i + 1) n true (by omega) (by omega)]
              simp [hle]
def okB (ms : Nat → Int32) (s x y : Nat) : Bool := !s.testBit y && decide (ms (5 * x + 2) + ms (5 * y + 1) = (99 : Int32)) && gtB ms s y 0
theorem bz_b (b : Bool) : bz (bI b) = some () := by cases b <;> rfl
theorem m_goesOn (w : WF ms) {s x y : Nat} (hs : s < 1024) (hx : x < gn ms) (hy : y < gn ms) : fX9_goesOn ms (nI s) (nI x) (nI y) = some (bI (okB ms s x y)) := by
  unfold fX9_goesOn okB
  have go := fun (K : Int32 → Option Int32) (b : Bool) => go_l w K hs hy (gn ms) 0 LF b (by omega) (by rw [LF_eq]; have := w.1.2; omega)
  have go1 := fun K => go K true
  have go0 := fun K => go K false
  rw [bI_t, show nI 0 = (0 : Int32) from rfl] at go1
  rw [bI_f, show nI 0 = (0 : Int32) from rfl] at go0
  rw [bit_ok s hs y (p10 w hy), m_blw (p10 w hx), m_abv (p10 w hy), sb, sb]
  cases hb : s.testBit y with
  | true =>
    rw [bI_t, if_neg one_n, go0, bz_b, sb]
    rfl
  | false =>
    rw [bI_f, if_pos rfl]
    by_cases h : ms (5 * x + 2) + ms (5 * y + 1) = (99 : Int32)
    · rw [if_pos h, go1, bz_b, sb]
      simp [h]
    · rw [if_neg h, go0, bz_b, sb]
      simp [h]
end Rows2
