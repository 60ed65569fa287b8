/-! The class looks at each piece. -/
section Look
variable {ms kc : Nat → Int32}
def seB (ms : Nat → Int32) (x y : Nat) : Bool := decide (ms (5 * x + 2) + ms (5 * y + 1) = (99 : Int32))
theorem l42 (w : WF ms) (c : RC ms kc) {x : Nat} (hx : x < gn ms) (K : Int32 → Option ((Nat → Int32) × (Nat → Int32) × (Nat → Int32))) (q1 q2 : Int32) : fX5_lookAt_42 K kc (nI (gn ms)) (nI x) q1 q2 LF (0 : Int32) (0 : Int32) = K (nI (mkN (seB ms x) (gn ms))) := by
  have h10 := w.1.2
  rw [← mk_fo (P := seB ms x) (gn ms) h10 (fun q s _ => rfl)]
  refine m_loop1 (gn ms) (by omega) (fun n s i => fX5_lookAt_42 K kc (nI (gn ms)) (nI x) q1 q2 n s (nI i)) K (fun q s => if seB ms x q = true then s ||| ((1 : Int32) <<< (nI q &&& 31)) else s) (fun n s => ?_) (fun n s i hi => ?_) 0
  · show fX5_lookAt_42 _ _ _ _ _ _ (n + 1) s _ = _
    rw [fX5_lookAt_42, ge_e (by omega)]
  · show fX5_lookAt_42 _ _ _ _ _ _ (n + 1) s _ = _
    rw [fX5_lookAt_42, ge_n hi (by omega), c_blw c w hx, sb, c_abv c w hi, sb, ia]
    unfold seB
    by_cases a : ms (5 * x + 2) + ms (5 * i + 1) = (99 : Int32) <;> simp [a]
theorem l42a (w : WF ms) (c : RC ms kc) {x : Nat} (hx : x < gn ms) (K : Int32 → Option ((Nat → Int32) × (Nat → Int32) × (Nat → Int32))) (q1 q2 q3 : Int32) : fX5_lookAt_42a K kc (nI (gn ms)) (nI x) q1 q2 q3 LF (0 : Int32) (0 : Int32) = K (nI (mkN (seB ms x) (gn ms))) := by
  have h10 := w.1.2
  rw [← mk_fo (P := seB ms x) (gn ms) h10 (fun q s _ => rfl)]
  refine m_loop1 (gn ms) (by omega) (fun n s i => fX5_lookAt_42a K kc (nI (gn ms)) (nI x) q1 q2 q3 n s (nI i)) K (fun q s => if seB ms x q = true then s ||| ((1 : Int32) <<< (nI q &&& 31)) else s) (fun n s => ?_) (fun n s i hi => ?_) 0
  · show fX5_lookAt_42a _ _ _ _ _ _ _ (n + 1) s _ = _
    rw [fX5_lookAt_42a, ge_e (by omega)]
  · show fX5_lookAt_42a _ _ _ _ _ _ _ (n + 1) s _ = _
    rw [fX5_lookAt_42a, ge_n hi (by omega), c_blw c w hx, sb, c_abv c w hi, sb, ia]
    unfold seB
    by_cases a : ms (5 * x + 2) + ms (5 * i + 1) = (99 : Int32) <;> simp [a]
def mxI (q t : Int32) : Int32 := if t < q then q else t
theorem l139 (K : (Nat → Int32) → Option ((Nat → Int32) × (Nat → Int32) × (Nat → Int32))) {x : Nat} (hx : x < 10) (kla : Nat → Int32) : fX5_lookAt_139 K (nI (2 ^ x)) LF (0 : Int32) kla = K (fo (fun k s => upd s (2 ^ x + k) (mxI (-1) (s k))) (2 ^ x) 0 kla) := by
  have hp : 2 ^ x ≤ 2 ^ 9 := Nat.pow_le_pow_right (by omega) (by omega)
  refine m_loop1 (2 ^ x) (by omega) (fun n s i => fX5_lookAt_139 K (nI (2 ^ x)) n (nI i) s) K (fun k s => upd s (2 ^ x + k) (mxI (-1) (s k))) (fun n s => ?_) (fun n s i hi => ?_) kla
  · show fX5_lookAt_139 _ _ (n + 1) _ s = _
    rw [fX5_lookAt_139, ge_e (by omega)]
  · show fX5_lookAt_139 _ _ (n + 1) _ s = _
    rw [fX5_lookAt_139, ge_n hi (by omega), aget_n (by omega) (by omega), sb, nI_add, aput_n (by omega) (by omega), sb, ia]
    rfl
theorem l139a (K : (Nat → Int32) → Option ((Nat → Int32) × (Nat → Int32) × (Nat → Int32))) (q : Int32) {x : Nat} (hx : x < 10) (kla : Nat → Int32) : fX5_lookAt_139a K q (nI (2 ^ x)) LF (0 : Int32) kla = K (fo (fun k s => upd s (2 ^ x + k) (mxI q (s k))) (2 ^ x) 0 kla) := by
  have hp : 2 ^ x ≤ 2 ^ 9 := Nat.pow_le_pow_right (by omega) (by omega)
  refine m_loop1 (2 ^ x) (by omega) (fun n s i => fX5_lookAt_139a K q (nI (2 ^ x)) n (nI i) s) K (fun k s => upd s (2 ^ x + k) (mxI q (s k))) (fun n s => ?_) (fun n s i hi => ?_) kla
  · show fX5_lookAt_139a _ _ _ (n + 1) _ s = _
    rw [fX5_lookAt_139a, ge_e (by omega)]
  · show fX5_lookAt_139a _ _ _ (n + 1) _ s = _
    rw [fX5_lookAt_139a, ge_n hi (by omega), aget_n (by omega) (by omega), sb, nI_add, aput_n (by omega) (by omega), sb, ia]
    rfl
theorem c_time0 (c : RC ms kc) (w : WF ms) {p r : Nat} (hp : p < gn ms) (hr : r < gc ms p) : fX0_get kc ((51 : Int32) + nI (6 * p + r)) = some (ms (pl p r)) := by
  have h10 := w.1.2
  have h6 := gc_b w (p10 w hp)
  rw [li 51, c_ga 51 (by omega), (c.2.2.2 p r (by omega) hr).1]
def laS (ms : Nat → Int32) (x : Nat) (kla : Nat → Int32) : Nat → Int32 := fo (fun k s => upd s (2 ^ x + k) (mxI (laT ms x) (s k))) (2 ^ x) 0 kla
theorem look_ok (w : WF ms) (c : RC ms kc) {x : Nat} (hx : x < gn ms) (kla kfi kea : Nat → Int32) : fX5_lookAt kc kla kfi kea (nI (gn ms)) (nI x) = some (laS ms x kla, upd kfi x (nI (mkN (seB ms x) (gn ms))), upd kea x (eaT ms x)) := by
  have h10 := w.1.2
  have hx10 := p10 w hx
  have h6 := gc_b w hx10
  unfold fX5_lookAt laS
  rw [c_recs c w hx10, sb, show fX0_slotOf (nI x) (0 : Int32) = some (nI (6 * x + 0)) from c_slotOf (r := 0), sb]
  have hle : ¬ (10 : Int32) ≤ nI x := nI_ge (b := 10) hx10 (by omega)
  by_cases h0 : gc ms x = 0
  · have e1 : laT ms x = (-1 : Int32) := by unfold laT; rw [if_pos h0]
    have e2 : eaT ms x = (10000 : Int32) := by unfold eaT; rw [if_pos h0]
    rw [h0, if_pos (show nI 0 ≤ (0 : Int32) by decide), l42 w c hx, if_neg (nI_pos (by omega)), if_neg hle, aput_n hx10 (by omega), sb, if_pos (show nI 0 ≤ (0 : Int32) by decide), aput_n hx10 (by omega), sb, sh1 x hx10, l139 _ hx10, e1, e2]
  · have e1 : laT ms x = ms (pl x (gc ms x - 1)) := by unfold laT; rw [if_neg h0]
    have e2 : eaT ms x = ms (pl x 0) := by unfold eaT; rw [if_neg h0]
    have hq : (((51 : Int32) + nI (6 * x + 0)) + nI (gc ms x)) - (1 : Int32) = (51 : Int32) + nI (6 * x + (gc ms x - 1)) := by
      rw [li 51, nI_add, nI_add, nI_add, show 51 + (6 * x + 0) + gc ms x = (51 + (6 * x + (gc ms x - 1))) + 1 by omega, nI_pred]
    rw [if_neg (nI_nle (by omega) (by omega)), hq, c_time0 c w hx (by omega), sb, l42a w c hx, if_neg (nI_pos (by omega)), if_neg hle, aput_n hx10 (by omega), sb, if_neg (nI_nle (by omega) (by omega)), c_time0 c w hx (by omega), sb, aput_n hx10 (by omega), sb, sh1 x hx10, l139a _ _ hx10, e1, e2]
theorem fo_la (d : Nat) (q : Int32) : ∀ (c i : Nat) (s : Nat → Int32) (j : Nat), i + c ≤ d → fo (fun k s => upd s (d + k) (mxI q (s k))) c i s j = if d + i ≤ j ∧ j < d + i + c then mxI q (s (j - d)) else s j
  | 0, i, s, j, _ => by rw [if_neg (by omega)]; rfl
  | c + 1, i, s, j, h => by
    rw [fo_succ, fo_la d q c (i + 1) _ j (by omega)]
    by_cases e : j = d + i
    · subst e
      rw [if_neg (by omega), if_pos (by omega), pk_us, show d + i - d = i by omega]
    · rw [pk_un e]
      by_cases e2 : d + (i + 1) ≤ j ∧ j < d + (i + 1) + c
      · rw [if_pos e2, if_pos (by omega), pk_un (by omega)]
      · rw [if_neg e2, if_neg (by omega)]
theorem mxI_le {q t v : Int32} : mxI q t ≤ v ↔ q ≤ v ∧ t ≤ v := by
  unfold mxI
  rw [Int32.le_iff_toInt_le, Int32.le_iff_toInt_le, Int32.le_iff_toInt_le]
  by_cases h : t < q
  · rw [if_pos h]
    rw [Int32.lt_iff_toInt_lt] at h
    omega
  · rw [if_neg h]
    rw [Int32.lt_iff_toInt_lt] at h
    omega
/-- after the pieces below i -/
def LI (ms : Nat → Int32) (i : Nat) (kla kfi kea : Nat → Int32) : Prop := (∀ s, s < 2 ^ i → ∀ t : Nat, t ≤ 10000 → (kla s ≤ nI t ↔ ∀ x, x < i → s.testBit x = true → laT ms x ≤ nI t)) ∧ ∀ x, x < i → kfi x = nI (mkN (seB ms x) (gn ms)) ∧ kea x = eaT ms x
theorem LI_s {i : Nat} {kla kfi kea : Nat → Int32} (h : LI ms i kla kfi kea) : LI ms (i + 1) (laS ms i kla) (upd kfi i (nI (mkN (seB ms i) (gn ms)))) (upd kea i (eaT ms i)) := by
  refine ⟨fun s hs t ht => ?_, fun x hx => ?_⟩
  · unfold laS
    rw [fo_la (2 ^ i) (laT ms i) (2 ^ i) 0 kla s (by omega)]
    rw [Nat.pow_succ] at hs
    by_cases e : 2 ^ i + 0 ≤ s ∧ s < 2 ^ i + 0 + 2 ^ i
    · rw [if_pos e, mxI_le, h.1 (s - 2 ^ i) (by omega) t ht]
      obtain ⟨u, rfl⟩ : ∃ u, s = 2 ^ i + u := ⟨s - 2 ^ i, by omega⟩
      have hu : u < 2 ^ i := by omega
      rw [show 2 ^ i + u - 2 ^ i = u by omega]
      constructor
      · rintro ⟨a, b⟩ x hx hb
        by_cases ex : x = i
        · subst ex; exact a
        · refine b x (by omega) ?_
          rw [Nat.testBit_two_pow_add_gt (by omega)] at hb
          exact hb
      · intro a
        refine ⟨a i (by omega) ?_, fun x hx hb => a x (by omega) ?_⟩
        · rw [Nat.testBit_two_pow_add_eq, Nat.testBit_lt_two_pow hu]
          rfl
        · rw [Nat.testBit_two_pow_add_gt hx]
          exact hb
    · have hs2 : s < 2 ^ i := by omega
      rw [if_neg e, h.1 s hs2 t ht]
      constructor
      · intro a x hx hb
        by_cases ex : x = i
        · subst ex
          rw [Nat.testBit_lt_two_pow hs2] at hb
          exact absurd hb (by simp)
        · exact a x (by omega) hb
      · intro a x hx hb
        exact a x (by omega) hb
  · by_cases ex : x = i
    · subst ex
      exact ⟨pk_us, pk_us⟩
    · rw [pk_un ex, pk_un ex]
      exact h.2 x (by omega)
theorem l37 (w : WF ms) (c : RC ms kc) (K : (Nat → Int32) → (Nat → Int32) → (Nat → Int32) → Option ((Nat → Int32) × (Nat → Int32) × (Nat → Int32) × (Nat → Int32) × Int32 × Int32 × Int32 × Int32)) : ∀ (d i n : Nat) (kla kfi kea : Nat → Int32), i + d = gn ms → d < n → LI ms i kla kfi kea → ∃ kla' kfi' kea', fX5_search_37 K kc (nI (gn ms)) n (nI i) kla kfi kea = K kla' kfi' kea' ∧ LI ms (gn ms) kla' kfi' kea' := by
  have h10 := w.1.2
  intro d
  induction d with
  | zero =>
    intro i n kla kfi kea hi hn h
    obtain ⟨n, rfl⟩ : ∃ k, n = k + 1 := ⟨n - 1, by omega⟩
    have e : i = gn ms := by omega
    subst e
    rw [fX5_search_37, ge_e (by omega)]
    exact ⟨kla, kfi, kea, rfl, h⟩
  | succ d ih =>
    intro i n kla kfi kea hi hn h
    obtain ⟨n, rfl⟩ : ∃ k, n = k + 1 := ⟨n - 1, by omega⟩
    rw [fX5_search_37, ge_n (by omega) (by omega), look_ok w c (show i < gn ms by omega), sb, ia]
    exact ih (i + 1) n _ _ _ (by omega) (by omega) (LI_s h)
end Look
