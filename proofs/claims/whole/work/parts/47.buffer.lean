/-! The whole buffer. -/
/-- receipts, one behind the other, to the end -/
def CH (mr : Nat → Int32) (b : Nat → Nat) (len : Nat) : Nat → Nat → RS → Nat → Prop
  | 0, i, S, mm => ∃ (n : Nat) (kit : Nat → Int32) (v d c : Nat) (r3 r4 : Int32), i + n = len ∧ rn b n i S (kit, nI 3, nI v, nI d, r3, r4, nI c) ∧ (∀ j, i ≤ j → j < i + n → b j ≠ 59) ∧ DN v d ∧ RR mm mr kit v r3 r4 c
  | k + 1, i, S, mm => ∃ (n : Nat) (kit : Nat → Int32) (v d c : Nat) (r3 r4 : Int32), i + n < len ∧ b (i + n) = 59 ∧ rn b n i S (kit, nI 3, nI v, nI d, r3, r4, nI c) ∧ (∀ j, i ≤ j → j < i + n → b j ≠ 59) ∧ DN v d ∧ RR mm mr kit v r3 r4 c ∧ CH mr b len k (i + n + 1) (kit, nI 0, 0, 0, r3, r4, nI 0) (mm + 1)
theorem RR_congr {mm v c : Nat} {mr mr' kit : Nat → Int32} {r3 r4 : Int32} (h : ∀ j, j < 8 * mm + 8 → mr' j = mr j) (r : RR mm mr kit v r3 r4 c) : RR mm mr' kit v r3 r4 c := by
  obtain ⟨a0, a1, a2, a3, a4, a5, a6, a7⟩ := r
  refine ⟨by rw [h _ (by omega)]; exact a0, by rw [h _ (by omega)]; exact a1, by rw [h _ (by omega)]; exact a2, by rw [h _ (by omega)]; exact a3, a4, a5, a6, fun k hk => ?_⟩
  obtain ⟨x, x1, x2, x3, x4⟩ := a7 k hk
  exact ⟨x, x1, x2, x3, by rw [h _ (by omega)]; exact x4⟩
/-- how reading ends -/
def RE (b : Nat → Nat) (len i : Nat) (S : RS) (mm : Nat) (mr' : Nat → Int32) (e : Nat) (w : Int32) (M : Nat) : Prop :=
  (w = 0 ∧ i ≤ e ∧ e ≤ len ∧ ∃ T : RS, rn b (e - i) i S T ∧ stp b len e T ∧ (e < len ∨ T.2.1 ≠ (3 : Int32) ∨ T.2.2.2.1 = 0)) ∨ (w = 1 ∧ e = len ∧ ∃ k, M = mm + 1 + k ∧ CH mr' b len k i S mm)
section Buf
variable {b : Nat → Nat} {len : Nat} {mb : Nat → Int32}
theorem ra_0 {K : (Nat → Int32) → Int32 → Int32 → Int32 → Option ((Nat → Int32) × Int32 × Int32 × Int32)} {n : Nat} {mr : Nat → Int32} {at_ mm : Int32} : fX9_readsAll_19 K mb (nI len) (n + 1) mr at_ (0 : Int32) mm = K mr at_ 0 mm := by
  rw [fX9_readsAll_19, if_pos rfl]
theorem ra_ok (hb : BF b len mb) (K : (Nat → Int32) → Int32 → Int32 → Int32 → Option ((Nat → Int32) × Int32 × Int32 × Int32)) : ∀ (q i mm n : Nat) (mr kit : Nat → Int32) (r3 r4 : Int32), len - i ≤ q → 8 * mm ≤ i → i ≤ len → q + 2 < n →
    ∃ (mr' : Nat → Int32) (e : Nat) (w : Int32) (M : Nat), Option.bind (fX9_readsReceipt mb mr (nI len) (nI i) (1 : Int32) (nI mm)) (fun q1 => fX9_readsAll_19 K mb (nI len) n q1.1 q1.2.1 q1.2.2.1 q1.2.2.2) = K mr' (nI e) w (nI M) ∧ (∀ j, j < 8 * mm → mr' j = mr j) ∧ M ≤ 8 ∧ RE b len i (kit, nI 0, 0, 0, r3, r4, nI 0) mm mr' e w M := by
  intro q
  induction q using Nat.strongRecOn with
  | ind q ih =>
    intro i mm n mr kit r3 r4 hq h8 hi hn
    have hl := hb.1
    have hm : mm ≤ 7 := by omega
    obtain ⟨n, rfl⟩ : ∃ k, n = k + 2 := ⟨n - 2, by omega⟩
    rcases rr_ok hb (kit := kit) (mr := mr) (r3 := r3) (r4 := r4) hm hi with ⟨m, mr', T, q1, q2, q3, q4, q5, q6, q7⟩ | ⟨m, mr', kit', v, d, c, r3', r4', q0, q1, q2, q3, q4, q5, q6, q7, q8⟩
    · rw [q2, sb]
      refine ⟨mr', i + m, 0, mm, ra_0, fun j hj => q3 j (Or.inl hj), by omega, Or.inl ⟨rfl, by omega, q1, T, ?_, q6, Or.inr q7⟩⟩
      rw [show i + m - i = m by omega]
      exact q4
    · have hdn := dn_b q7
      rw [q2, sb]
      dsimp only
      rw [fX9_readsAll_19, if_neg one_n]
      by_cases hend : i + m = len
      · rw [hend, if_pos (nI_le (Nat.le_refl _) (by omega))]
        refine ⟨mr', len, 1, mm + 1, rfl, fun j hj => q3 j (Or.inl hj), by omega, Or.inr ⟨rfl, rfl, 0, rfl, ?_⟩⟩
        exact ⟨m, kit', v, d, c, r3', r4', hend, q4, q5, q7, q8⟩
      · have hil : i + m < len := by omega
        rw [if_neg (nI_ge hil (by omega))]
        by_cases h59 : b (i + m) = 59
        · rw [li 59, tk1 hb hil h59, sb, bz1, sb, if_neg one_n]
          dsimp only
          obtain ⟨mr2, e, w, M, z1, z2, z3, z4⟩ := ih (len - (i + m + 1)) (by omega) (i + m + 1) (mm + 1) (n + 1) mr' kit' r3' r4' (Nat.le_refl _) (by omega) (by omega) (by omega)
          refine ⟨mr2, e, w, M, z1, fun j hj => by rw [z2 j (by omega)]; exact q3 j (Or.inl hj), z3, ?_⟩
          have step : rn b (m + 1) i (kit, nI 0, 0, 0, r3, r4, nI 0) (kit', nI 0, 0, 0, r3', r4', nI 0) := rn_add m 1 i _ _ _ q4 ⟨_, by rw [h59]; exact mk3 hdn.2, rfl⟩
          rcases z4 with ⟨y1, y2, y3, T, y4, y5, y6⟩ | ⟨y1, y2, k, y3, y4⟩
          · refine Or.inl ⟨y1, by omega, y3, T, ?_, y5, y6⟩
            have := rn_add (m + 1) (e - (i + m + 1)) i _ _ _ step (show rn b _ (i + (m + 1)) _ T from by rw [show i + (m + 1) = i + m + 1 by omega]; exact y4)
            rw [show m + 1 + (e - (i + m + 1)) = e - i by omega] at this
            exact this
          · exact Or.inr ⟨y1, y2, k + 1, by omega, m, kit', v, d, c, r3', r4', hil, h59, q4, q5, q7, RR_congr (fun j hj => z2 j (by omega)) q8, y4⟩
        · rw [li 59, tkn hb q1 ⟨by omega, by omega⟩ (Or.inr h59), sb, bz0, sb, if_pos rfl]
          dsimp only
          refine ⟨mr', i + m, 0, mm + 1, ra_0, fun j hj => q3 j (Or.inl hj), by omega, Or.inl ⟨rfl, by omega, q1, (kit', nI 3, nI v, nI d, r3', r4', nI c), ?_, ?_, Or.inl hil⟩⟩
          · rw [show i + m - i = m by omega]
            exact q4
          · rcases q6 with e | e | e
            · exact Or.inl e
            · exact Or.inr ⟨hil, _, no3 hdn.2 ((hb.2 _ hil).2.2) e h59⟩
            · exact e
theorem all_ok (hb : BF b len mb) (mr kit : Nat → Int32) (mat mw mm r3 r4 : Int32) : ∃ (mr' : Nat → Int32) (e : Nat) (w : Int32) (M : Nat), fX9_readsAll mb mr (nI len) mat mw mm = some (mr', nI e, w, nI M) ∧ M ≤ 8 ∧ RE b len 0 (kit, nI 0, 0, 0, r3, r4, nI 0) 0 mr' e w M := by
  have hl := hb.1
  obtain ⟨mr', e, w, M, z1, -, z3, z4⟩ := ra_ok hb (fun a b c d => some (a, b, c, d)) len 0 0 LF mr kit r3 r4 (by omega) (by omega) (by omega) (by rw [LF_eq]; omega)
  exact ⟨mr', e, w, M, z1, z3, z4⟩
theorem ch_run {mr : Nat → Int32} : ∀ (k i : Nat) (S : RS) (mm : Nat), CH mr b len k i S mm → i ≤ len ∧ ∃ (kit : Nat → Int32) (v d : Nat) (r3 r4 r5 : Int32), (1 ≤ d ∧ d ≤ 4) ∧ rn b (len - i) i S (kit, nI 3, nI v, nI d, r3, r4, r5)
  | 0, i, S, mm, h => by
    obtain ⟨n, kit, v, d, c, r3, r4, h1, h2, -, h3, -⟩ := h
    refine ⟨by omega, kit, v, d, r3, r4, nI c, (dn_b h3).2, ?_⟩
    rw [show len - i = n by omega]
    exact h2
  | k + 1, i, S, mm, h => by
    obtain ⟨n, kit, v, d, c, r3, r4, h1, h59, h2, -, h3, -, h5⟩ := h
    obtain ⟨h6, kit', v', d', r3', r4', r5', h7, h8⟩ := ch_run k _ _ _ h5
    refine ⟨by omega, kit', v', d', r3', r4', r5', h7, ?_⟩
    have step : rn b (n + 1) i S (kit, nI 0, 0, 0, r3, r4, nI 0) := rn_add n 1 i _ _ _ h2 ⟨_, by rw [h59]; exact mk3 (dn_b h3).2, rfl⟩
    have := rn_add (n + 1) (len - (i + n + 1)) i _ _ _ step (show rn b _ (i + (n + 1)) _ _ from by rw [show i + (n + 1) = i + n + 1 by omega]; exact h8)
    rw [show n + 1 + (len - (i + n + 1)) = len - i by omega] at this
    exact this
/-! the class's first look -/
def rbF (K : (Nat → Int32) → Int32 → Int32 → Int32 → Int32 → Int32 → Int32 → Option (Int32 × RS)) (kbc : Nat → Int32) (len n i : Nat) (S : RS) : Option (Int32 × RS) := fX8_readBuffer_9 K kbc (nI len) n (nI i) S.1 S.2.1 S.2.2.1 S.2.2.2.1 S.2.2.2.2.1 S.2.2.2.2.2.1 S.2.2.2.2.2.2
theorem cod (hb : BF b len mb) {i : Nat} (h : i < len) : fX1_codeAt mb (nI i) = some (nI (b i)) := by
  have hl := hb.1
  unfold fX1_codeAt
  rw [if_neg (nI_pos (by omega)), li 60, if_neg (nI_ge (by omega) (by omega)), aget_n (by omega) (by omega), sb, (hb.2 i h).1]
theorem rb_s (hb : BF b len mb) {K : (Nat → Int32) → Int32 → Int32 → Int32 → Int32 → Int32 → Int32 → Option (Int32 × RS)} {n i : Nat} {S : RS} (h : i < len) : rbF K mb len (n + 1) i S = Option.bind (acc S (nI (b i))) (fun q => if q.1 = 0 then some (nI i, q.2) else rbF K mb len n (i + 1) q.2) := by
  have hl := hb.1
  unfold rbF acc
  rw [fX8_readBuffer_9]
  unfold fX1_length
  rw [sb, if_neg (nI_ge h (by omega)), cod hb h, sb, ia]
theorem rb_e (hb : BF b len mb) {K : (Nat → Int32) → Int32 → Int32 → Int32 → Int32 → Int32 → Int32 → Option (Int32 × RS)} {n : Nat} {S : RS} : rbF K mb len (n + 1) len S = K S.1 S.2.1 S.2.2.1 S.2.2.2.1 S.2.2.2.2.1 S.2.2.2.2.2.1 S.2.2.2.2.2.2 := by
  have hl := hb.1
  unfold rbF
  rw [fX8_readBuffer_9]
  unfold fX1_length
  rw [sb, if_pos (nI_le (Nat.le_refl _) (by omega))]
theorem rb_rn (hb : BF b len mb) {K : (Nat → Int32) → Int32 → Int32 → Int32 → Int32 → Int32 → Int32 → Option (Int32 × RS)} : ∀ (c i n : Nat) (S T : RS), i + c ≤ len → rn b c i S T → rbF K mb len (n + c) i S = rbF K mb len n (i + c) T
  | 0, i, n, S, T, _, h => by
    have e : S = T := h
    rw [e]
    rfl
  | c + 1, i, n, S, T, hi, h => by
    obtain ⟨S', h1, h2⟩ := h
    rw [show n + (c + 1) = (n + c) + 1 by omega, rb_s hb (by omega), h1, sb, if_neg one_n, rb_rn hb c (i + 1) n S' T (by omega) h2, show i + 1 + c = i + (c + 1) by omega]
end Buf
