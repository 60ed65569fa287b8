/-! The digest, and longest, out of what the longest rows are. -/
section Digest3
variable {ms kc mb kbc msv ksv : Nat → Int32}
/-- both sides find the same longest row -/
def LGP (ms kc : Nat → Int32) : Prop := ∃ A F L : Int32, (∀ (ken kla kfi kea : Nat → Int32) (p0 p1 p2 p3 : Int32), ∃ (ken' kla' kfi' kea' : Nat → Int32) (p0' : Int32), fX5_search kc ken kla kfi kea p0 p1 p2 p3 = some (ken', kla', kfi', kea', p0', A, F, L)) ∧
  ∀ (x : Int32) (mf : Nat → Int32), ∃ mf', fX9_tellsLongest ms mf x = some ((if x = 0 then A else if x = (1 : Int32) then F else L), mf')
theorem f_longest (LG : LGP ms kc) (ken kla kfi kea mf : Nat → Int32) (p0 p1 p2 p3 mt x : Int32) :
    (fX8_longest kc ken kla kfi kea p0 p1 p2 p3 x = some (.inl 1) ∧ fX9_longest ms mf mt x = some ((0 : Int32), mf, (1 : Int32))) ∨
    ∃ (v : Int32) (ken' kla' kfi' kea' mf' : Nat → Int32) (p0' p1' p2' p3' : Int32), fX8_longest kc ken kla kfi kea p0 p1 p2 p3 x = some (.inr (v, ken', kla', kfi', kea', p0', p1', p2', p3')) ∧ fX9_longest ms mf mt x = some (v, mf', (0 : Int32)) := by
  obtain ⟨A, F, L, h1, h2⟩ := LG
  obtain ⟨ken', kla', kfi', kea', p0', h1⟩ := h1 ken kla kfi kea p0 p1 p2 p3
  obtain ⟨mf', h2⟩ := h2 x mf
  unfold fX8_longest fX9_longest
  rw [show (2 : Int32) = nI 3 - 1 from rfl, li 3]
  rcases g_ch x (n := 3) (by omega) with ⟨g1, g2⟩ | ⟨j, hj, rfl, g1, g2⟩
  · rw [g1, g2, sb, sb, if_pos rfl]
    exact Or.inl ⟨rfl, rfl⟩
  · rw [g1, g2, sb, sb, if_neg one_n, h2, sb]
    unfold xs
    dsimp only
    rw [h1, sb]
    unfold fX5_length fX5_first fX5_last
    simp only [sb]
    right
    by_cases e0 : nI j = (0 : Int32)
    · rw [if_pos e0, if_pos e0]
      exact ⟨A, _, _, _, _, mf', _, _, _, _, rfl, rfl⟩
    · rw [if_neg e0, if_neg e0]
      by_cases e1 : nI j = (1 : Int32)
      · rw [if_pos e1, if_pos e1]
        exact ⟨F, _, _, _, _, mf', _, _, _, _, rfl, rfl⟩
      · rw [if_neg e1, if_neg e1]
        exact ⟨L, _, _, _, _, mf', _, _, _, _, rfl, rfl⟩
theorem m_lg {A F L : Int32} (h : ∀ (x : Int32) (mf : Nat → Int32), ∃ mf', fX9_tellsLongest ms mf x = some ((if x = 0 then A else if x = (1 : Int32) then F else L), mf')) (K : (Nat → Int32) → Int64 → Option (Int64 × (Nat → Int32) × Int32 × Int64)) (mf : Nat → Int32) (s : Int64) : ∃ mf', fX9_digest_107 K ms LF (0 : Int32) mf s = K mf' (mx (mx (mx s A) F) L) := by
  obtain ⟨m1, h1⟩ := h 0 mf
  obtain ⟨m2, h2⟩ := h 1 m1
  obtain ⟨m3, h3⟩ := h 2 m2
  rw [if_pos rfl] at h1
  rw [if_neg one_n, if_pos rfl] at h2
  rw [if_neg (show ¬ (2 : Int32) = 0 by decide), if_neg (show ¬ (2 : Int32) = 1 by decide)] at h3
  refine ⟨m3, ?_⟩
  rw [LF_eq, fX9_digest_107, if_neg (show ¬ (3 : Int32) ≤ 0 by decide), h1, sb, m_mx, sb, show (0 : Int32) + 1 = 1 from rfl]
  dsimp only
  rw [fX9_digest_107, if_neg (show ¬ (3 : Int32) ≤ 1 by decide), h2, sb, m_mx, sb, show (1 : Int32) + 1 = 2 from rfl]
  dsimp only
  rw [fX9_digest_107, if_neg (show ¬ (3 : Int32) ≤ 2 by decide), h3, sb, m_mx, sb, show (2 : Int32) + 1 = 3 from rfl]
  dsimp only
  rw [fX9_digest_107, if_pos (show (3 : Int32) ≤ 3 by decide)]
theorem f_digest (w : WF ms) (c : RC ms kc) {len : Nat} (B : BU mb kbc len) (LG : LGP ms kc) (x : Int32) (kln ken kla kfi kea mf : Nat → Int32) (klr p0 p1 p2 p3 mt : Int32) (mh : Int64) :
    ∃ (H : Int64) (kln' ken' kla' kfi' kea' mf' : Nat → Int32) (klr' p0' p1' p2' p3' : Int32) (mh' : Int64), fX8_digest kc kbc kln ken kla kfi kea x (nI len) klr p0 p1 p2 p3 = some (H, kln', ken', kla', kfi', kea', klr', p0', p1', p2', p3') ∧ fX9_digest ms mb mf mt x (nI len) mh = some (H, mf', (0 : Int32), mh') := by
  obtain ⟨A, F, L, g1, g2⟩ := LG
  obtain ⟨ken', kla', kfi', kea', p0', g1⟩ := g1 ken kla kfi kea p0 p1 p2 p3
  obtain ⟨H1, kln', klr', e1, e2⟩ := pg_ok w c kln klr (fiF ms (piF ms (nuF ms x 2897)))
  obtain ⟨v, bits, s1, s2, s3, s4⟩ := share_ok w c
  obtain ⟨mf', g3⟩ := m_lg g2 (fun (mf_u29 : (Nat → Int32)) (mh_u29 : Int64) => (Option.bind (fX9_wrongOf ms (-1 : Int32) (0 : Int32)) (fun q33 => (Option.bind (fX9_hashes mh_u29 q33.toInt64) (fun q34 => (Option.bind (fX9_suspected ms) (fun q35 => (Option.bind (fX9_hashes q34 q35.toInt64) (fun q36 => (Option.bind (fX9_share ms) (fun q37 => (Option.bind (fJxe99ae_doubleToLongBits_ccdee q37) (fun q38 => (Option.bind (fX9_hashes q36 q38) (fun q39 => (Option.bind (fX9_hashes q39 (nI len).toInt64) (fun q40 => (fX9_digest_170 (fun (mh_u44 : Int64) => (some (mh_u44, mf_u29, (0 : Int32), mh_u44))) mb (nI len) LF (0 : Int32) q40)))))))))))))))))) mf (sm2F ms (smF ms H1))
  obtain ⟨H, b1, b2⟩ := bu_ok B ((31 : Int64) * mx (mx (mx (mx (mx (sm2F ms (smF ms H1)) A) F) L) (NF ms (hdS ms (-1)) 0)) (suI ms) + bits) (fun (mh_u44 : Int64) => (some (mh_u44, mf', (0 : Int32), mh_u44)))
  refine ⟨H, kln', ken', kla', kfi', kea', mf', klr', p0', A, F, L, H, ?_, ?_⟩
  · unfold fX8_digest
    rw [c_nu w c, sb, c_pi w c, sb, c_fi w c, sb, e1, sb]
    dsimp only
    rw [c_sm w c, sb]
    unfold fX8_hashWithLongest fX5_length fX5_first fX5_last
    rw [g1, sb]
    dsimp only
    simp only [sb, c_mx]
    rw [c_hidden c w, sb, c_suspect c w, sb, s1, sb, s3, sb]
    unfold fX8_mixed
    rw [sb, b1, sb]
  · unfold fX9_digest
    rw [m_nu w c]
    rw [m_pi w c, sb, e2, sb]
    rw [show ∀ K : Int64 → Option (Int64 × (Nat → Int32) × Int32 × Int64), Option.bind (fX9_sumBy ms (-1 : Int32) (-1 : Int32)) (fun q10 => Option.bind (fX9_hashes H1 q10.toInt64) (fun q11 => fX9_digest_57 (fun u => fX9_digest_82 K ms LF (0 : Int32) u) ms LF (0 : Int32) q11)) = K (sm2F ms (smF ms H1)) from fun K => m_sm w K H1]
    rw [g3]
    rw [m_wr0 w, sb, m_mx, sb, m_suspect w, sb, m_mx, sb, s2, sb, s4, sb]
    show Option.bind (some ((31 : Int64) * mx (mx (mx (mx (mx (sm2F ms (smF ms H1)) A) F) L) (NF ms (hdS ms (-1)) 0)) (suI ms) + bits)) _ = _
    rw [sb]
    exact b2
end Digest3
