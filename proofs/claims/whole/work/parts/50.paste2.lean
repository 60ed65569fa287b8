/-! Pasting, all of the buffer. -/
abbrev PR := Int32 × (Nat → Int32) × RS
abbrev PM := Int32 × (Nat → Int32) × (Nat → Int32) × (Nat → Int32) × Int32 × Int32 × Int32 × Int32 × Int32 × Int32
def afF (K : Int32 → (Nat → Int32) → (Nat → Int32) → Int32 → Int32 → Int32 → Int32 → Int32 → Int32 → Option PR) (kbc : Nat → Int32) (len p n x2 i : Nat) (kc : Nat → Int32) (S : RS) : Option PR := fX8_addFromBuffer_11 K kbc (nI len) (nI p) n (nI x2) (nI i) kc S.1 S.2.1 S.2.2.1 S.2.2.2.1 S.2.2.2.2.1 S.2.2.2.2.2.1 S.2.2.2.2.2.2
section Paste2
variable {b : Nat → Nat} {len : Nat} {mb kbc ms kc mr msv ksv : Nat → Int32} {p : Nat} {K : Int32 → (Nat → Int32) → (Nat → Int32) → Int32 → Int32 → Int32 → Int32 → Int32 → Int32 → Option PR}
theorem af_s (hb : BF b len kbc) {n x2 i : Nat} {S : RS} (h : i < len) (h59 : b i ≠ 59) : afF K kbc len p (n + 1) x2 i kc S = Option.bind (acc S (nI (b i))) (fun q => afF K kbc len p n x2 (i + 1) kc q.2) := by
  have hl := hb.1
  have hbi := (hb.2 i h).2
  unfold afF acc
  rw [fX8_addFromBuffer_11]
  unfold fX1_length
  rw [sb, if_neg (nI_ge h (by omega)), cod hb h, sb, li 59, if_neg (by rw [nI_eq (by omega) (by omega)]; exact h59), ia]
theorem af_59 (hb : BF b len kbc) {n x2 i : Nat} {S : RS} (h : i < len) (h59 : b i = 59) : afF K kbc len p (n + 1) x2 i kc S = Option.bind (fX8_addRead kc S.1 S.2.2.1 S.2.2.2.2.1 S.2.2.2.2.2.1 S.2.2.2.2.2.2 (nI p)) (fun q7 => if q7.1 = 0 then some (nI x2, q7.2, S) else Option.bind (acc S (nI 59)) (fun q => afF K kbc len p n (x2 + 1) (i + 1) q7.2 q.2)) := by
  have hl := hb.1
  unfold afF acc
  rw [fX8_addFromBuffer_11]
  unfold fX1_length
  rw [sb, if_neg (nI_ge h (by omega)), cod hb h, sb, h59, if_pos (show nI 59 = (59 : Int32) from rfl), ia, ia]
theorem af_e (hb : BF b len kbc) {n x2 : Nat} {S : RS} : afF K kbc len p (n + 1) x2 len kc S = K (nI x2) kc S.1 S.2.1 S.2.2.1 S.2.2.2.1 S.2.2.2.2.1 S.2.2.2.2.2.1 S.2.2.2.2.2.2 := by
  have hl := hb.1
  unfold afF
  rw [fX8_addFromBuffer_11]
  unfold fX1_length
  rw [sb, if_pos (nI_le (Nat.le_refl _) (by omega))]
theorem af_rn (hb : BF b len kbc) {x2 : Nat} : ∀ (c i n : Nat) (S T : RS), i + c ≤ len → (∀ j, i ≤ j → j < i + c → b j ≠ 59) → rn b c i S T → afF K kbc len p (n + c) x2 i kc S = afF K kbc len p n x2 (i + c) kc T
  | 0, i, n, S, T, _, _, h => by
    have e : S = T := h
    rw [e]
    rfl
  | c + 1, i, n, S, T, hi, h59, h => by
    obtain ⟨S', h1, h2⟩ := h
    rw [show n + (c + 1) = (n + c) + 1 by omega, af_s hb (by omega) (h59 i (by omega) (by omega)), h1, sb, af_rn hb c (i + 1) n S' T (by omega) (fun j h3 h4 => h59 j (by omega) (by omega)) h2, show i + 1 + c = i + (c + 1) by omega]
def afK (p : Nat) : Int32 → (Nat → Int32) → (Nat → Int32) → Int32 → Int32 → Int32 → Int32 → Int32 → Int32 → Option PR := fun x2 kc a b0 b1 b2 b3 b4 b5 => Option.bind (fX8_addRead kc a b1 b3 b4 b5 (nI p)) (fun q19 => if q19.1 = 0 then some (x2, q19.2, a, b0, b1, b2, b3, b4, b5) else some (x2 + (1 : Int32), q19.2, a, b0, b1, b2, b3, b4, b5))
theorem cp_l (k : (Nat → Int32) → Option PM) {m : Nat} (hp : p < 10) (hm : m ≤ 7) (hc : gc ms p < 6) : fX9_paste_88 k mr (nI p) (nI m) (nI (pl p (gc ms p))) LF (0 : Int32) ms = k (cpM ms mr p m) := by
  have hb := pl_b hp hc
  refine m_loop1 8 (by omega) (fun n s i => fX9_paste_88 k mr (nI p) (nI m) (nI (pl p (gc ms p))) n (nI i) s) k _ (fun n s => ?_) (fun n s i hi => ?_) ms
  · show (if (8 : Int32) ≤ nI 8 then _ else _) = _
    rw [if_pos (by decide)]
  · have h8 : ¬ (8 : Int32) ≤ nI i := by rw [li 8]; exact nI_ge hi (by omega)
    show (if (8 : Int32) ≤ nI i then _ else _) = _
    rw [if_neg h8, li 8, pk_mul, nI_add, aget_n (by omega) (by omega), sb, nI_add, aput_n (by omega) (by omega), sb, show nI i + (1 : Int32) = nI (i + 1) from ia i]
theorem pst_s {k47 : Int32 → (Nat → Int32) → Option PM} {n m M : Nat} (w : WF ms) (hp : p < gn ms) (hm : m ≤ 7) (hM : M ≤ 8) (h : m < M) :
    (fX9_canAdd ms (nI p) (mr (8 * m)) = some 0 → fX9_paste_47 k47 mr (nI M) (nI p) (n + 1) (nI m) ms = k47 (nI m) ms) ∧
    (fX9_canAdd ms (nI p) (mr (8 * m)) = some 1 → gc ms p < 6 → fX9_paste_47 k47 mr (nI M) (nI p) (n + 1) (nI m) ms = fX9_paste_47 k47 mr (nI M) (nI p) n (nI (m + 1)) (adM ms mr p m)) := by
  have hp10 := p10 w hp
  have e0 : aget mr 96 (((8 : Int32) * nI m) + (0 : Int32)) = some (mr (8 * m)) := by
    rw [i_0, li 8, pk_mul, aget_n (by omega) (by omega)]
  refine ⟨fun h0 => ?_, fun h1 h6 => ?_⟩
  · rw [fX9_paste_47, if_neg (nI_ge h (by omega)), e0, sb, h0, sb, if_pos rfl]
  · rw [fX9_paste_47, if_neg (nI_ge h (by omega)), e0, sb, h1, sb, if_neg one_n, m_cnt w hp10, sb, m_place, sb, cp_l _ hp10 hm h6]
    have hb := pl_b hp10 h6
    have g1 : cpM ms mr p m (1 + 5 * p + 2) = ms (1 + 5 * p + 2) := by
      unfold cpM
      rw [fo_fill (pl p (gc ms p)) (fun k => mr (8 * m + k)) 8 0 ms, if_neg (by omega)]
    rw [show fX9_of (cpM ms mr p m) (nI p) (2 : Int32) = some (cpM ms mr p m (1 + 5 * p + 2)) from m_of (w := 2) (by omega), sb, g1, show 1 + 5 * p + 2 = 5 * p + 3 by omega, (w.2.1 p hp10).1.1, ia,
      show fX9_lay (cpM ms mr p m) (nI p) (2 : Int32) (nI (gc ms p + 1)) = some (upd (cpM ms mr p m) (1 + 5 * p + 2) (nI (gc ms p + 1))) from m_lay (f := 2) (by omega), sb, show nI m + (1 : Int32) = nI (m + 1) from ia m, show 1 + 5 * p + 2 = 5 * p + 3 by omega]
    rfl
theorem pst_e {k47 : Int32 → (Nat → Int32) → Option PM} {n M : Nat} (hM : M ≤ 8) : fX9_paste_47 k47 mr (nI M) (nI p) (n + 1) (nI M) ms = k47 (nI M) ms := by
  rw [fX9_paste_47, if_pos (nI_le (Nat.le_refl _) (by omega))]
theorem pst_ok (hb : BF b len kbc) (k47 : Int32 → (Nat → Int32) → Option PM) : ∀ (k i mm n n2 M : Nat) (ms kc : Nat → Int32) (S : RS), CH mr b len k i S mm → WF ms → RC ms kc → p < gn ms → len - i + k < n → k + 1 < n2 → M = mm + 1 + k → M ≤ 8 →
    ∃ (v : Nat) (ms' kc' : Nat → Int32) (T : RS), afF (afK p) kbc len p n mm i kc S = some (nI v, kc', T) ∧ fX9_paste_47 k47 mr (nI M) (nI p) n2 (nI mm) ms = k47 (nI v) ms' ∧ WF ms' ∧ RC ms' kc' := by
  intro k
  induction k with
  | zero =>
    intro i mm n n2 M ms kc S h w c hp hn hn2 hM hM8
    obtain ⟨m, kit, v, d, cc, r3, r4, h1, h2, h3, h4, h5⟩ := h
    obtain ⟨n2, rfl⟩ : ∃ q, n2 = q + 2 := ⟨n2 - 2, by omega⟩
    have hnm : n = (n - m - 1) + 1 + m := by omega
    rw [hnm, af_rn hb m i _ S _ (by omega) h3 h2, h1, af_e hb]
    unfold afK
    dsimp only
    rcases rec_add w c hp h5 h4 (by omega) with ⟨a1, a2⟩ | ⟨a1, a2, kc', a3, a4, a5, -⟩
    · rw [a2, sb, if_pos rfl]
      exact ⟨mm, ms, kc, _, rfl, (pst_s w hp (by omega) hM8 (by omega)).1 a1, w, c⟩
    · rw [a3, sb, if_neg one_n, ia]
      refine ⟨mm + 1, adM ms mr p mm, kc', _, rfl, ?_, a4, a5⟩
      rw [(pst_s w hp (by omega) hM8 (by omega)).2 a1 a2, show mm + 1 = M by omega, pst_e hM8]
  | succ k ih =>
    intro i mm n n2 M ms kc S h w c hp hn hn2 hM hM8
    obtain ⟨m, kit, v, d, cc, r3, r4, h1, h59, h2, h3, h4, h5, h6⟩ := h
    obtain ⟨n2, rfl⟩ : ∃ q, n2 = q + 1 := ⟨n2 - 1, by omega⟩
    have hnm : n = (n - m - 1) + 1 + m := by omega
    rw [hnm, af_rn hb m i _ S _ (by omega) h3 h2, af_59 hb h1 h59]
    dsimp only
    rcases rec_add w c hp h5 h4 (by omega) with ⟨a1, a2⟩ | ⟨a1, a2, kc', a3, a4, a5, a6⟩
    · rw [a2, sb, if_pos rfl]
      exact ⟨mm, ms, kc, _, rfl, (pst_s w hp (by omega) hM8 (by omega)).1 a1, w, c⟩
    · rw [a3, sb, if_neg one_n, mk3 (dn_b h4).2, sb, (pst_s w hp (by omega) hM8 (by omega)).2 a1 a2]
      exact ih (i + m + 1) (mm + 1) _ n2 M (adM ms mr p mm) kc' _ h6 a4 a5 (by rw [a6]; exact hp) (by omega) (by omega) (by omega) hM8
theorem f_paste {ns : Nat} (S : ST ms msv kc ksv ns) (B : BU mb kbc len) (kit : Nat → Int32) (mt mat mw mm r0 r1 r2 r3 r4 r5 x : Int32) :
    (∃ k m, (k, m) ∈ [(3, (1 : Int32)), (1, 2)] ∧ fX8_paste kc ksv kbc kit (nI ns) (nI len) r0 r1 r2 r3 r4 r5 x = some (.inl k) ∧ ∃ (mr' : Nat → Int32) (at' w' M' : Int32), fX9_paste ms msv mb mr mt (nI ns) (nI len) mat mw mm x = some ((0 : Int32), ms, msv, mr', m, nI ns, nI len, at', w', M')) ∨
    (∃ (v : Int32) (ms' msv' kc' ksv' : Nat → Int32) (ns' : Nat) (T : RS) (mr' : Nat → Int32) (at' w' M' : Int32), fX8_paste kc ksv kbc kit (nI ns) (nI len) r0 r1 r2 r3 r4 r5 x = some (.inr (v, kc', ksv', T.1, nI ns', nI 0, T.2.1, T.2.2.1, T.2.2.2.1, T.2.2.2.2.1, T.2.2.2.2.2.1, T.2.2.2.2.2.2)) ∧
      fX9_paste ms msv mb mr mt (nI ns) (nI len) mat mw mm x = some (v, ms', msv', mr', (0 : Int32), nI ns', nI 0, at', w', M') ∧ ST ms' msv' kc' ksv' ns') := by
  obtain ⟨w, c, h6, hs⟩ := S
  obtain ⟨hl, b, hm, hk⟩ := B
  unfold fX8_paste fX9_paste
  rcases g_piece w c x with ⟨h1, h2⟩ | ⟨p, hp, rfl, h1, h2⟩
  · rw [h1, h2, sb, sb, if_pos rfl]
    exact Or.inl ⟨3, 1, by simp, rfl, mr, mat, mw, mm, rfl⟩
  · obtain ⟨mr', e, w', M, z1, z2, z3⟩ := all_ok hm mr kit mat mw mm r3 r4
    obtain ⟨T, t1, t2⟩ := tells hk (r0 := r0) (r1 := r1) (r2 := r2) (r5 := r5) z3
    rw [h1, h2, sb, sb, if_neg one_n]
    unfold xs
    rw [z1, t1, sb]
    dsimp only
    rw [sb]
    rcases z3 with ⟨hw, -⟩ | ⟨hw, he, k, hM, hch⟩
    · rw [hw, if_pos rfl, if_pos rfl]
      exact Or.inl ⟨1, 2, by simp, rfl, mr', nI e, 0, nI M, rfl⟩
    · obtain ⟨msv', ksv', n', e1, e2, e3, -, e5⟩ := save_ok w c hs h6
      rw [hw, if_neg one_n, if_neg one_n, e1, e2, sb, sb]
      dsimp only
      obtain ⟨mr2, e', w2, M2, y1, y2, y3⟩ := all_ok hm mr T.1 mat mw mm T.2.2.2.2.1 T.2.2.2.2.2.1
      rw [z1] at y1
      injection y1 with y1
      injection y1 with y4 y5
      injection y5 with y5 y6
      injection y6 with y6 y7
      have hM2 : M = M2 := (nI_eq (by omega) (by omega)).mp y7
      rcases y3 with ⟨hw2, -⟩ | ⟨-, he2, k2, hM3, hch2⟩
      · rw [← y6, hw] at hw2
        exact absurd hw2 (by decide)
      · rw [← y4] at hch2
        obtain ⟨v, ms', kc', T2, f1, f2, f3, f4⟩ := pst_ok hk (fun u2_21 ms_u21 => some (u2_21, ms_u21, msv', mr', (0 : Int32), nI n', (0 : Int32), nI e, (1 : Int32), nI M)) k2 0 0 LF LF M ms kc _ hch2 w c hp (by rw [LF_eq]; omega) (by rw [LF_eq]; omega) (by omega) (by omega)
        have un : fX8_addFromBuffer kc kbc T.1 (nI len) T.2.1 T.2.2.1 T.2.2.2.1 T.2.2.2.2.1 T.2.2.2.2.2.1 T.2.2.2.2.2.2 (nI p) = some (nI v, kc', T2) := by
          rw [← f1]
          unfold fX8_addFromBuffer fX6_restart fX6_begin afF afK
          dsimp only
          rw [sb, sb, show nI 0 = (0 : Int32) from rfl]
        rw [un, sb]
        unfold fX1_clear
        rw [sb]
        refine Or.inr ⟨nI v, ms', msv', kc', ksv', n', T2, mr', nI e, 1, nI M, rfl, ?_, f3, f4, e3, e5⟩
        exact f2
end Paste2
