/-! Calls of the buffer. -/
/-- both buffers hold the same characters -/
def BU (mb kbc : Nat → Int32) (len : Nat) : Prop := len ≤ 60 ∧ ∃ b, BF b len mb ∧ BF b len kbc
section Calls
variable {b : Nat → Nat} {len : Nat} {mb kbc : Nat → Int32}
theorem rb_all (hb : BF b len kbc) {mr' kit : Nat → Int32} {r0 r1 r2 r3 r4 r5 w : Int32} {e M : Nat} (h : RE b len 0 (kit, nI 0, 0, 0, r3, r4, nI 0) 0 mr' e w M) : ∃ T : RS, fX8_readBuffer kbc kit (nI len) r0 r1 r2 r3 r4 r5 = some (nI e, T) ∧ e ≤ len ∧
    ((w = 0 ∧ (e < len ∨ T.2.1 ≠ (3 : Int32) ∨ T.2.2.2.1 = 0)) ∨ (w = 1 ∧ e = len ∧ T.2.1 = (3 : Int32) ∧ ∃ d, (1 ≤ d ∧ d ≤ 4) ∧ T.2.2.2.1 = nI d)) := by
  have hl := hb.1
  have go : ∀ (K : (Nat → Int32) → Int32 → Int32 → Int32 → Int32 → Int32 → Int32 → Option (Int32 × RS)) (c : Nat) (T : RS), c ≤ len → rn b c 0 (kit, nI 0, 0, 0, r3, r4, nI 0) T → rbF K kbc len LF 0 (kit, nI 0, 0, 0, r3, r4, nI 0) = rbF K kbc len (LF - c) c T := by
    intro K c T hc hr
    have := rb_rn (K := K) hb c 0 (LF - c) _ _ (by omega) hr
    rw [Nat.zero_add] at this
    rw [← this]
    rw [show LF - c + c = LF by rw [LF_eq]; omega]
  have sur : ∀ c, c ≤ len → ∃ k, LF - c = k + 1 := fun c hc => ⟨LF - c - 1, by rw [LF_eq]; omega⟩
  have un : fX8_readBuffer kbc kit (nI len) r0 r1 r2 r3 r4 r5 = rbF (fun a b0 b1 b2 b3 b4 b5 => some (nI len, (a, b0, b1, b2, b3, b4, b5))) kbc len LF 0 (kit, nI 0, 0, 0, r3, r4, nI 0) := by
    unfold fX8_readBuffer fX6_restart fX6_begin rbF
    dsimp only
    rw [sb, sb, show nI 0 = (0 : Int32) from rfl]
    unfold fX1_length
    rfl
  rw [un]
  rcases h with ⟨hw, -, he, T, h1, h2, h3⟩ | ⟨hw, he, k, -, h4⟩
  · rw [Nat.sub_zero] at h1
    obtain ⟨k, hk⟩ := sur e he
    rw [go _ e T he h1, hk]
    rcases h2 with rfl | ⟨hlt, T', h2⟩
    · rw [rb_e hb]
      exact ⟨T, rfl, he, Or.inl ⟨hw, h3⟩⟩
    · rw [rb_s hb hlt, h2, sb, if_pos rfl]
      exact ⟨T', rfl, he, Or.inl ⟨hw, Or.inl hlt⟩⟩
  · obtain ⟨-, kit', v, d, r3', r4', r5', h5, h6⟩ := ch_run k _ _ _ h4
    rw [Nat.sub_zero] at h6
    obtain ⟨k, hk⟩ := sur len (Nat.le_refl _)
    rw [go _ len _ (Nat.le_refl _) h6, hk, rb_e hb, he]
    exact ⟨(kit', nI 3, nI v, nI d, r3', r4', r5'), rfl, Nat.le_refl _, Or.inr ⟨hw, rfl, rfl, d, h5, rfl⟩⟩
theorem tells (hb : BF b len kbc) {mr' kit : Nat → Int32} {r0 r1 r2 r3 r4 r5 w : Int32} {e M : Nat} (h : RE b len 0 (kit, nI 0, 0, 0, r3, r4, nI 0) 0 mr' e w M) : ∃ T : RS, fX8_bufferTellsReceipts kbc kit (nI len) r0 r1 r2 r3 r4 r5 = some (w, T) ∧ (w = 0 ∨ w = 1) := by
  have hl := hb.1
  obtain ⟨T, h1, he, h2⟩ := rb_all hb (r0 := r0) (r1 := r1) (r2 := r2) (r5 := r5) h
  refine ⟨T, ?_, ?_⟩
  · unfold fX8_bufferTellsReceipts fX1_length
    rw [h1, sb, sb]
    rcases h2 with ⟨hw, h3⟩ | ⟨hw, h3, h4, d, hd, h5⟩
    · rw [hw]
      by_cases hlt : e = len
      · have h4 : T.2.1 ≠ (3 : Int32) ∨ T.2.2.2.1 = 0 := by
          rcases h3 with h3 | h3
          · omega
          · exact h3
        rw [hlt, if_pos rfl]
        have z : fX6_isAtEndOfReceipt T.2.1 T.2.2.2.1 = some 0 := by
          unfold fX6_isAtEndOfReceipt
          by_cases h5 : T.2.1 = (3 : Int32)
          · rcases h4 with h4 | h4
            · exact absurd h5 h4
            · rw [if_pos h5, h4, if_pos (show (0 : Int32) ≤ 0 by decide)]
          · rw [if_neg h5]
        dsimp only
        rw [z, sb, if_pos rfl]
      · rw [if_neg (by dsimp only; rw [nI_eq (by omega) (by omega)]; exact hlt)]
    · rw [hw, h3, if_pos rfl]
      have z : fX6_isAtEndOfReceipt T.2.1 T.2.2.2.1 = some 1 := by
        unfold fX6_isAtEndOfReceipt
        rw [if_pos h4, h5, if_neg (nI_nle (by omega) (by omega))]
      dsimp only
      rw [z, sb, if_neg one_n]
  · rcases h2 with ⟨hw, -⟩ | ⟨hw, -⟩
    · exact Or.inl hw
    · exact Or.inr hw
theorem f_firstError (B : BU mb kbc len) (mr kit : Nat → Int32) (mt mat mw mm r0 r1 r2 r3 r4 r5 : Int32) : ∃ (v : Int32) (T : RS) (mr' : Nat → Int32) (w M : Int32), fX8_firstError kbc kit (nI len) r0 r1 r2 r3 r4 r5 = some (v, T) ∧ fX9_firstError mb mr mt (nI len) mat mw mm = some (v, mr', (0 : Int32), v, w, M) := by
  obtain ⟨-, b, hm, hk⟩ := B
  obtain ⟨mr', e, w, M, h1, -, h2⟩ := all_ok hm mr kit mat mw mm r3 r4
  obtain ⟨T, h3, -, -⟩ := rb_all hk (r0 := r0) (r1 := r1) (r2 := r2) (r5 := r5) h2
  refine ⟨nI e, T, mr', w, nI M, ?_, ?_⟩
  · unfold fX8_firstError
    rw [h3, sb]
  · unfold fX9_firstError
    rw [h1, sb]
theorem f_append (B : BU mb kbc len) (mt x : Int32) : (∃ k m, (k, m) ∈ [(1, (1 : Int32)), (2, 2)] ∧ fX8_append kbc (nI len) x = some (.inl k) ∧ fX9_append mb mt (nI len) x = some ((0 : Int32), mb, m, nI len)) ∨
    ∃ (mb' kbc' : Nat → Int32), fX8_append kbc (nI len) x = some (.inr (nI (len + 1), kbc', nI (len + 1))) ∧ fX9_append mb mt (nI len) x = some (nI (len + 1), mb', (0 : Int32), nI (len + 1)) ∧ BU mb' kbc' (len + 1) := by
  obtain ⟨hl, b, hm, hk⟩ := B
  unfold fX8_append fX9_append fX9_in
  by_cases h1 : x < (33 : Int32)
  · rw [if_pos h1, if_pos h1, sb, if_pos rfl]
    exact Or.inl ⟨1, 1, by simp, rfl, rfl⟩
  · rw [if_neg h1, if_neg h1]
    by_cases h2 : x ≤ (126 : Int32)
    · have h3 : ¬ (126 : Int32) < x := by
        rw [Int32.lt_iff_toInt_lt]
        rw [Int32.le_iff_toInt_le] at h2
        omega
      have h0 : ¬ x < 0 := by
        rw [Int32.lt_iff_toInt_lt] at h1 ⊢
        rw [show (33 : Int32).toInt = 33 from rfl] at h1
        rw [show (0 : Int32).toInt = 0 from rfl]
        omega
      obtain ⟨g, hg, rfl⟩ := nI_of h0
      have g1 : 33 ≤ g := by
        rcases Nat.lt_or_ge g 33 with a | a
        · exact absurd (nI_lt a (by omega)) h1
        · exact a
      have g2 : g ≤ 126 := by
        rcases Nat.lt_or_ge 126 g with a | a
        · exact absurd (nI_lt a hg) h3
        · exact a
      rw [if_pos h2, if_neg h3, sb, if_neg one_n]
      unfold fX1_length
      rw [sb]
      by_cases h60 : len = 60
      · rw [h60, if_neg (show ¬ nI 60 < (60 : Int32) by decide), if_pos (show nI 60 = (60 : Int32) from rfl)]
        exact Or.inl ⟨2, 2, by simp, rfl, rfl⟩
      · rw [li 60, if_pos (nI_lt (by omega) (by omega)), if_neg (by rw [nI_eq (by omega) (by omega)]; exact h60)]
        refine Or.inr ⟨upd mb len (nI g), upd kbc len (nI g), ?_, ?_, by omega, fun j => if j = len then g else b j, ⟨by omega, fun j hj => ?_⟩, ⟨by omega, fun j hj => ?_⟩⟩
        · unfold fX1_add
          rw [if_neg (nI_pos (by omega)), li 60, if_neg (nI_ge (by omega) (by omega)), aput_n (by omega) (by omega), sb, sb, sb, ia]
        · rw [aput_n (by omega) (by omega), sb, ia]
        · by_cases e : j = len
          · subst e
            rw [pk_us]
            simp only [if_true]
            exact ⟨trivial, g1, g2⟩
          · rw [pk_un e]
            simp only [e, if_false]
            exact hm.2 j (by omega)
        · by_cases e : j = len
          · subst e
            rw [pk_us]
            simp only [if_true]
            exact ⟨trivial, g1, g2⟩
          · rw [pk_un e]
            simp only [e, if_false]
            exact hk.2 j (by omega)
    · have h3 : (126 : Int32) < x := by
        rw [Int32.lt_iff_toInt_lt]
        rw [Int32.le_iff_toInt_le] at h2
        omega
      rw [if_neg h2, if_pos h3, sb, if_pos rfl]
      exact Or.inl ⟨1, 1, by simp, rfl, rfl⟩
theorem f_clearBuffer (mt : Int32) : fX8_clearBuffer (nI len) = some (nI len, nI 0) ∧ fX9_clearBuffer mt (nI len) = some (nI len, (0 : Int32), nI 0) := ⟨rfl, rfl⟩
theorem BU_0 (B : BU mb kbc len) : BU mb kbc 0 := by
  obtain ⟨-, b, hm, hk⟩ := B
  exact ⟨by omega, b, ⟨by omega, fun j hj => by omega⟩, ⟨by omega, fun j hj => by omega⟩⟩
end Calls
