/-! The class's choice. -/
section Best3
variable {ms kc : Nat → Int32}
/-- rows with a first piece below f0 are done, and those from f0 below the set s0 -/
def SB (ms : Nat → Int32) (f0 s0 k : Nat) : Prop := (k = 0 ∨ ∃ s f l, f ≤ f0 ∧ s < 2 ^ gn ms ∧ RO (okP ms) (gn ms) s f l ∧ k = ky s f l) ∧ (∀ s f l, f < f0 → s < 2 ^ gn ms → RO (okP ms) (gn ms) s f l → ky s f l ≤ k) ∧ ∀ s l, s < s0 → s < 2 ^ gn ms → RO (okP ms) (gn ms) s f0 l → ky s f0 l ≤ k
def FB (ms : Nat → Int32) (f0 k : Nat) : Prop := (k = 0 ∨ ∃ s f l, f < f0 ∧ s < 2 ^ gn ms ∧ RO (okP ms) (gn ms) s f l ∧ k = ky s f l) ∧ ∀ s f l, f < f0 → s < 2 ^ gn ms → RO (okP ms) (gn ms) s f l → ky s f l ≤ k
theorem take_ok (w : WF ms) {f s e k : Nat} {ken : Nat → Int32} (hs : s < 2 ^ gn ms) (he : e < 1024) (h0 : e ≠ 0) (hk : ken s = nI e) (hr : RO (okP ms) (gn ms) s f (lwN e)) (h : SB ms f s k) : fX5_take ken (tA k) (tF k) (tL k) (nI f) (nI s) = some (tA (max k (ky s f (lwN e))), tF (max k (ky s f (lwN e))), tL (max k (ky s f (lwN e)))) := by
  have h10 := w.1.2
  have hp := p2_le h10
  have hb := row_k w hs hr
  unfold fX5_take
  rw [bitc s (by omega), sb, (pcN_b s (by omega)).1, aget_n (show s < 1024 by omega) (by omega), sb, hk, c_lw e he h0, sb]
  exact c_bet (fun a f l => some (a, f, l)) (h.1.imp id (fun ⟨s', f', l', a0, a1, a2, a3⟩ => by
    have := row_k w a1 a2
    exact ⟨pcN s', f', l', this.1, this.2.1, a0, this.2.2.2, a3⟩)) hb.1 hb.2.1 hb.2.2.1 hb.2.2.2
theorem sf50 (w : WF ms) {f : Nat} (hf : f < gn ms) {kla kfi kea : Nat → Int32} (hL : LI ms (gn ms) kla kfi kea) (K : (Nat → Int32) → Int32 → Int32 → Int32 → Option ((Nat → Int32) × Int32 × Int32 × Int32)) : ∀ (c s n k : Nat) (ken : Nat → Int32), s + c = 2 ^ gn ms → c < n → IC ms f s ken → SB ms f s k → ∃ ken' k', fX5_searchFrom_50 K kla kfi kea (nI (gn ms)) (nI f) (nI (2 ^ gn ms)) n (nI s) ken (tA k) (tF k) (tL k) = K ken' (tA k') (tF k') (tL k') ∧ SB ms f (2 ^ gn ms) k' := by
  have h10 := w.1.2
  have hp := p2_le h10
  intro c
  induction c with
  | zero =>
    intro s n k ken hs hn hI hk
    obtain ⟨n, rfl⟩ : ∃ k, n = k + 1 := ⟨n - 1, by omega⟩
    have e : s = 2 ^ gn ms := by omega
    subst e
    rw [fX5_searchFrom_50, ge_e (by omega)]
    exact ⟨ken, k, rfl, hk⟩
  | succ c ih =>
    intro s n k ken hs hn hI hk
    obtain ⟨n, rfl⟩ : ∃ k, n = k + 1 := ⟨n - 1, by omega⟩
    have hs2 : s < 2 ^ gn ms := by omega
    obtain ⟨e, b1, b2, b3⟩ := hI s hs2
    rw [fX5_searchFrom_50, ge_n hs2 (by omega), aget_n (show s < 1024 by omega) (by omega), sb, b2, ia]
    by_cases h0 : e = 0
    · subst h0
      rw [if_pos (show nI 0 = (0 : Int32) from rfl)]
      refine ih (s + 1) n k ken (by omega) (by omega) (IC_0 w hs2 hI b2) ⟨hk.1, hk.2.1, fun s' l h1 h2 h3 => ?_⟩
      by_cases es : s' = s
      · subst es
        have := (b3 l).mpr (RO_iff.mp h3)
        rw [Nat.zero_testBit] at this
        exact absurd this (by simp)
      · exact hk.2.2 s' l (by omega) h2 h3
    · obtain ⟨g1, g2, g3⟩ := lwN_t e b1 h0
      have hr : RO (okP ms) (gn ms) s f (lwN e) := RO_iff.mpr ((b3 _).mp g2)
      have hb := row_k w hs2 hr
      rw [if_neg (nI_ne0 (by omega) (by omega)), take_ok w hs2 b1 h0 b2 hr hk, sb, grow_ok w hL hs2 b1 b2, sb]
      refine ih (s + 1) n (max k (ky s f (lwN e))) _ (by omega) (by omega) (IC_s w hs2 hI b2 b1) ⟨?_, fun s' f' l' h1 h2 h3 => ?_, fun s' l h1 h2 h3 => ?_⟩
      · by_cases q : k ≤ ky s f (lwN e)
        · rw [mx_r q]
          exact Or.inr ⟨s, f, lwN e, Nat.le_refl _, hs2, hr, rfl⟩
        · rw [mx_l (by omega)]
          exact hk.1
      · have := hk.2.1 s' f' l' h1 h2 h3
        omega
      · by_cases es : s' = s
        · subst es
          have hl : lwN e ≤ l := by
            by_cases hl : l < lwN e
            · have := (b3 l).mpr (RO_iff.mp h3)
              rw [g3 l hl] at this
              exact absurd this (by simp)
            · omega
          have : ky s' f l ≤ ky s' f (lwN e) := by unfold ky kyN; omega
          omega
        · have := hk.2.2 s' l (by omega) h2 h3
          omega
theorem fill_ok (ken : Nat → Int32) (x : Int32) : ∃ ken', fJ7_fill_53178 ken x = some ken' ∧ ∀ j, j < 1024 → ken' j = x := by
  refine ⟨fo (fun k s => upd s (0 + k) ((fun _ => x) k)) 1024 0 ken, ?_, fun j hj => ?_⟩
  · unfold fJ7_fill_53178
    refine m_loop1 1024 (by omega) (fun m s i => fJ7_fill_53178_5 (fun u => some u) x m (nI i) s) (fun u => some u) (fun k s => upd s (0 + k) ((fun _ => x) k)) (fun m s => ?_) (fun m s i hi => ?_) ken
    · show fJ7_fill_53178_5 _ _ (m + 1) _ s = _
      rw [fJ7_fill_53178_5, li 1024, ge_e (by omega)]
    · show fJ7_fill_53178_5 _ _ (m + 1) _ s = _
      rw [fJ7_fill_53178_5, li 1024, ge_n hi (by omega), aput_n (by omega) (by omega), sb, ia, Nat.zero_add]
  · rw [fo_fill 0 (fun _ => x) 1024 0 ken j, if_pos (by omega)]
theorem sh11 : ∀ g, g < 11 → (1 : Int32) <<< (nI g &&& 31) = nI (2 ^ g) := by decide +kernel
theorem from_ok (w : WF ms) {f : Nat} (hf : f < gn ms) {kla kfi kea : Nat → Int32} (hL : LI ms (gn ms) kla kfi kea) (ken : Nat → Int32) {k : Nat} (hk : FB ms f k) : ∃ ken' k', fX5_searchFrom ken kla kfi kea (nI (gn ms)) (tA k) (tF k) (tL k) (nI f) = some (ken', tA k', tF k', tL k') ∧ FB ms (f + 1) k' := by
  have h10 := w.1.2
  have hp := p2_le h10
  have hff : 2 ^ f < 2 ^ gn ms := Nat.pow_lt_pow_right (by omega) hf
  have hf0 := Nat.two_pow_pos f
  obtain ⟨k0, r1, r2⟩ := fill_ok ken 0
  obtain ⟨ken', k', e1, e2⟩ := sf50 w hf hL (fun (ken_u11 : (Nat → Int32)) (kp1_u11 : Int32) (kp2_u11 : Int32) (kp3_u11 : Int32) => (some (ken_u11, kp1_u11, kp2_u11, kp3_u11))) (2 ^ gn ms - 2 ^ f) (2 ^ f) LF k (upd k0 (2 ^ f) (nI (2 ^ f))) (by omega) (by rw [LF_eq]; omega) (by
      intro s hs
      by_cases es : s = 2 ^ f
      · subst es
        refine ⟨2 ^ f, by omega, pk_us, fun l => ?_⟩
        rw [Nat.testBit_two_pow, decide_eq_true_eq]
        unfold CC
        constructor
        · intro e
          exact Or.inl ⟨hf, e.symm, rfl⟩
        · rintro (⟨x1, x2, x3⟩ | ⟨s', x, a1, a2, -⟩)
          · exact x2.symm
          · have := RO_ge s' x a2
            omega
      · refine ⟨0, by omega, by rw [pk_un es, r2 s (by omega)]; rfl, fun l => ?_⟩
        rw [Nat.zero_testBit]
        unfold CC
        constructor
        · intro e; exact absurd e (by simp)
        · rintro (⟨x1, x2, x3⟩ | ⟨s', x, a1, a2, -⟩)
          · exact absurd x3 es
          · have := RO_ge s' x a2
            omega) ⟨hk.1.imp id (fun ⟨s, g, l, a1, a2⟩ => ⟨s, g, l, by omega, a2⟩), hk.2, fun s l h1 h2 h3 => by
        have := RO_ge s l h3
        omega⟩
  refine ⟨ken', k', ?_, e2.1.imp id (fun ⟨s, g, l, a1, a2⟩ => ⟨s, g, l, by omega, a2⟩), fun s g l h1 h2 h3 => ?_⟩
  · unfold fX5_searchFrom
    rw [r1, sb, if_neg (nI_pos (by omega)), ge_n hf (by omega), sh11 (gn ms) (by omega), li 1024, if_pos (nI_le hp (by omega)), sh1 f (by omega), aput_n (by omega) (by omega), sb]
    exact e1
  · by_cases eg : g = f
    · subst eg
      exact e2.2.2 s l h2 h2 h3
    · exact e2.2.1 s g l (by omega) h2 h3
theorem s59 (w : WF ms) {kla kfi kea : Nat → Int32} (hL : LI ms (gn ms) kla kfi kea) (K : (Nat → Int32) → Int32 → Int32 → Int32 → Option ((Nat → Int32) × (Nat → Int32) × (Nat → Int32) × (Nat → Int32) × Int32 × Int32 × Int32 × Int32)) : ∀ (c f n k : Nat) (ken : Nat → Int32), f + c = gn ms → c < n → FB ms f k → ∃ ken' k', fX5_search_59 K kla kfi kea (nI (gn ms)) n (nI f) ken (tA k) (tF k) (tL k) = K ken' (tA k') (tF k') (tL k') ∧ BK (okP ms) (gn ms) k' := by
  have h10 := w.1.2
  have hp := p2_le h10
  intro c
  induction c with
  | zero =>
    intro f n k ken hf hn hk
    obtain ⟨n, rfl⟩ : ∃ k, n = k + 1 := ⟨n - 1, by omega⟩
    have e : f = gn ms := by omega
    subst e
    rw [fX5_search_59, ge_e (by omega)]
    exact ⟨ken, k, rfl, hk.1.imp id (fun ⟨s, g, l, a1, a2⟩ => ⟨s, g, l, a2⟩), fun s g l h1 h2 => hk.2 s g l (RO_l h2).2 h1 h2⟩
  | succ c ih =>
    intro f n k ken hf hn hk
    obtain ⟨n, rfl⟩ : ∃ k, n = k + 1 := ⟨n - 1, by omega⟩
    rw [fX5_search_59, ge_n (show f < gn ms by omega) (by omega), ia]
    by_cases hs : nI (gn ms) ≤ tA k
    · rw [if_pos hs]
      refine ⟨ken, k, rfl, hk.1.imp id (fun ⟨s, g, l, a1, a2⟩ => ⟨s, g, l, a2⟩), fun s g l h1 h2 => ?_⟩
      by_cases hg : g < f
      · exact hk.2 s g l hg h1 h2
      · rcases hk.1 with e | ⟨s', f', l', a0, a1, a2, a3⟩
        · rw [e] at hs
          exact absurd hs (nI_ge (a := 0) (by omega) (by omega))
        · have b := row_k w a1 a2
          have b' := row_k w h1 h2
          rw [a3, show tA (ky s' f' l') = nI (pcN s') from tA_k b.2.2.1 b.2.2.2, nI_leI (by omega) (by omega)] at hs
          have := pcN_n (gn ms) (by omega) s (by omega) h1
          rw [a3]
          unfold ky kyN
          omega
    · obtain ⟨ken', k', e1, e2⟩ := from_ok w (show f < gn ms by omega) hL ken hk
      rw [if_neg hs, e1, sb]
      exact ih (f + 1) n k' ken' (by omega) (by omega) e2
theorem lg_ok (w : WF ms) (c : RC ms kc) : LGP ms kc := by
  have h10 := w.1.2
  have hp := p2_le h10
  have main : ∀ (ken kla kfi kea : Nat → Int32) (p0 p1 p2 p3 : Int32), ∃ (ken' kla' kfi' kea' : Nat → Int32) (p0' : Int32) (k : Nat), fX5_search kc ken kla kfi kea p0 p1 p2 p3 = some (ken', kla', kfi', kea', p0', tA k, tF k, tL k) ∧ BK (okP ms) (gn ms) k := by
    intro ken kla kfi kea p0 p1 p2 p3
    have e10 : (if (10 : Int32) < nI (gn ms) then (10 : Int32) else nI (gn ms)) = nI (gn ms) := if_neg (nI_nlt (a := 10) h10 (by omega))
    have hL0 : LI ms 0 (upd kla 0 (-1)) kfi kea := ⟨fun s hs t ht => by
      have e : s = 0 := by omega
      subst e
      rw [pk_us]
      refine ⟨fun _ x hx => by omega, fun _ => ?_⟩
      rw [Int32.le_iff_toInt_le, nI_toInt (by omega), show (-1 : Int32).toInt = -1 from rfl]
      omega, fun x hx => by omega⟩
    obtain ⟨kla', kfi', kea', r1, r2⟩ := l37 w c (fun (kla_u5 : (Nat → Int32)) (kfi_u5 : (Nat → Int32)) (kea_u5 : (Nat → Int32)) => (fX5_search_59 (fun (ken_u11 : (Nat → Int32)) (kp1_u11 : Int32) (kp2_u11 : Int32) (kp3_u11 : Int32) => (some (ken_u11, kla_u5, kfi_u5, kea_u5, nI (gn ms), kp1_u11, kp2_u11, kp3_u11))) kla_u5 kfi_u5 kea_u5 (nI (gn ms)) LF (0 : Int32) ken (0 : Int32) (-1 : Int32) (-1 : Int32))) (gn ms) 0 LF _ kfi kea (by omega) (by rw [LF_eq]; omega) hL0
    obtain ⟨ken', k, s1, s2⟩ := s59 w r2 (fun (ken_u11 : (Nat → Int32)) (kp1_u11 : Int32) (kp2_u11 : Int32) (kp3_u11 : Int32) => (some (ken_u11, kla', kfi', kea', nI (gn ms), kp1_u11, kp2_u11, kp3_u11))) (gn ms) 0 LF 0 ken (by omega) (by rw [LF_eq]; omega) ⟨Or.inl rfl, fun s f l h => by omega⟩
    refine ⟨ken', kla', kfi', kea', nI (gn ms), k, ?_, s2⟩
    unfold fX5_search
    rw [c_pieces w c, sb, e10, show aput kla 1024 (0 : Int32) (-1 : Int32) = some (upd kla 0 (-1)) from aput_n (i := 0) (by omega) (by omega), sb]
    exact Eq.trans r1 s1
  obtain ⟨-, -, -, -, -, k, -, hk⟩ := main ms ms ms ms 0 0 0 0
  refine ⟨tA k, tF k, tL k, fun ken kla kfi kea p0 p1 p2 p3 => ?_, fun x mf => m_best w hk x mf⟩
  obtain ⟨ken', kla', kfi', kea', p0', k', e1, e2⟩ := main ken kla kfi kea p0 p1 p2 p3
  have ek : k = k' := BK_u hk e2
  subst ek
  exact ⟨ken', kla', kfi', kea', p0', e1⟩
end Best3
