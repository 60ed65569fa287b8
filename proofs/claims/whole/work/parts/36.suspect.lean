/-! The suspected shop, counts. -/
section Suspect
variable {ms kc : Nat → Int32}
theorem szN {p r : Nat} (v : RV ms p r) : ∃ e : Nat, szI ms p r = nI e ∧ e ≤ 9999 ∧ (kI ms p r = 0 → e = 0) := by
  obtain ⟨s1, s2, s3⟩ := sum_n v
  obtain ⟨t1, t2⟩ := tot_n v
  rw [kI_0]
  unfold szI
  rw [s1, t1]
  rcases Nat.lt_or_ge (sN ms p r) (tN ms p r) with hl | hl
  · refine ⟨tN ms p r - sN ms p r, ?_, by omega, fun e => ?_⟩
    · have hn : ¬ (0 ≤ nI (sN ms p r) - nI (tN ms p r)) := by
        have := pk_sneg (a := sN ms p r) (b := tN ms p r) (by omega) hl
        rw [Int32.not_le]
        exact this
      rw [if_neg hn, show 0 - (nI (sN ms p r) - nI (tN ms p r)) = nI (tN ms p r) - nI (sN ms p r) by grind, pk_sub (by omega)]
    · have := (nI_eq (by omega) (by omega)).mp e
      omega
  · refine ⟨sN ms p r - tN ms p r, ?_, by omega, fun e => ?_⟩
    · rw [pk_sub hl, if_pos (nI_pos' (by omega))]
    · have := (nI_eq (by omega) (by omega)).mp e
      omega
/-- a shop's wrong ones and what they hide -/
theorem shop_n (w : WF ms) (x : Int32) (hx : x ≠ (-1 : Int32)) : ∃ (c d : Nat), NF ms (nrS ms x) 0 = nI c ∧ c ≤ 60 ∧ NF ms (hdS ms x) 0 = nI d ∧ d ≤ 600000 ∧ (c = 0 → d = 0) := by
  have key := NF_rel (ms := ms) (fun (a : Int32) (q : Int32 × Nat) => ∃ (c d : Nat), a = nI c ∧ c ≤ q.2 ∧ q.1 = nI d ∧ d ≤ 9999 * q.2 ∧ (c = 0 → d = 0)) (st := nrS ms x) (st' := fun p r q => (hdS ms x p r q.1, q.2 + 1)) (fun p r a q hp hr hR => by
    obtain ⟨c, d, h1, h2, h3, h4, h5⟩ := hR
    obtain ⟨e, e1, e2, e3⟩ := szN (rv w hp hr)
    show ∃ (c d : Nat), nrS ms x p r a = nI c ∧ c ≤ q.2 + 1 ∧ hdS ms x p r q.1 = nI d ∧ d ≤ 9999 * (q.2 + 1) ∧ (c = 0 → d = 0)
    unfold nrS hdS
    rw [if_neg hx, h1, h3]
    by_cases a1 : ms (pl p r + 1) = x
    · rw [if_pos a1, if_pos a1, e1]
      by_cases a2 : kI ms p r = 0
      · rw [if_pos a2, e3 a2]
        exact ⟨c, d, rfl, by omega, nI_add d 0, by omega, h5⟩
      · rw [if_neg a2]
        exact ⟨c + 1, d + e, ia c, by omega, nI_add d e, by omega, fun q => by omega⟩
    · rw [if_neg a1, if_neg a1]
      exact ⟨c, d, rfl, by omega, rfl, by omega, h5⟩) (a := (0 : Int32)) (b := ((0 : Int32), 0)) ⟨0, 0, rfl, by omega, rfl, by omega, fun _ => rfl⟩
  have k2 := NF_rel (ms := ms) (fun (q : Int32 × Nat) (t : Nat) => q.2 = t) (st := fun p r q => (hdS ms x p r q.1, q.2 + 1)) (st' := fun _ _ s => s + 1) (fun p r a b _ _ hR => by show a.2 + 1 = b + 1; rw [hR]) (a := ((0 : Int32), 0)) (b := (0 : Nat)) rfl
  have k3 := NF_rel (ms := ms) (fun (q : Int32 × Nat) (t : Int32) => q.1 = t) (st := fun p r q => (hdS ms x p r q.1, q.2 + 1)) (st' := hdS ms x) (fun p r a b _ _ hR => by show hdS ms x p r a.1 = _; rw [hR]) (a := ((0 : Int32), 0)) (b := (0 : Int32)) rfl
  have h60 := NF_60 w
  obtain ⟨c, d, h1, h2, h3, h4, h5⟩ := key
  rw [k3] at h3
  rw [k2] at h2 h4
  exact ⟨c, d, h1, by omega, h3, by omega, h5⟩
def suS (ms : Nat → Int32) (x : Nat) (s : Int32 × Int32 × Int32) : Int32 × Int32 × Int32 :=
  if s.2.1 < NF ms (nrS ms (nI x)) 0 then (nI x, NF ms (nrS ms (nI x)) 0, NF ms (hdS ms (nI x)) 0) else if NF ms (nrS ms (nI x)) 0 = s.2.1 then (if NF ms (hdS ms (nI x)) 0 ≤ s.2.2 then s else (nI x, NF ms (nrS ms (nI x)) 0, NF ms (hdS ms (nI x)) 0)) else s
/-- the shop least to be trusted -/
def suI (ms : Nat → Int32) : Int32 := (fo (suS ms) 10 0 ((-1 : Int32), (0 : Int32), (0 : Int32))).1
theorem c_suspect (h : RC ms kc) (w : WF ms) : fX7_leastTrusted kc = some (suI ms) := by
  unfold fX7_leastTrusted
  refine m_loop1 10 (by omega) (fun n (s : Int32 × Int32 × Int32) x => fX7_leastTrusted_9 (fun u => some u) kc n s.1 s.2.1 s.2.2 (nI x)) (fun s => some s.1) (suS ms) (fun n s => ?_) (fun n s x hx => ?_) ((-1 : Int32), (0 : Int32), (0 : Int32))
  · show fX7_leastTrusted_9 _ _ (n + 1) _ _ _ _ = _
    rw [fX7_leastTrusted_9, li 10, if_pos (nI_le (Nat.le_refl _) (by omega))]
  · show fX7_leastTrusted_9 _ _ (n + 1) _ _ _ _ = _
    rw [fX7_leastTrusted_9, li 10, if_neg (nI_ge hx (by omega)), c_notRight h w, sb, c_hidden h w, sb, ia]
    unfold suS
    by_cases a : s.2.1 < NF ms (nrS ms (nI x)) 0 <;> simp only [a, if_true, if_false]
    by_cases b : NF ms (nrS ms (nI x)) 0 = s.2.1 <;> simp only [b, if_true, if_false]
    by_cases c : NF ms (hdS ms (nI x)) 0 ≤ s.2.2 <;> simp only [c, if_true, if_false]
theorem fo_inv {σ : Type} (P : σ → Prop) {st : Nat → σ → σ} : ∀ (c i : Nat) (s : σ), (∀ j s, i ≤ j → j < i + c → P s → P (st j s)) → P s → P (fo st c i s)
  | 0, _, _, _, h => h
  | c + 1, i, s, hs, h => fo_inv P c (i + 1) _ (fun j s h1 h2 => hs j s (by omega) (by omega)) (hs i s (Nat.le_refl _) (by omega) h)
/-- a loop whose state keeps a promise -/
theorem loop_inv {σ R : Type} (P : σ → Prop) (F : Nat → σ → Nat → Option R) (e : Nat) (k : σ → Option R) (st : Nat → σ → σ) (hx : ∀ n s, P s → F (n + 1) s e = k s) (hs : ∀ n s i, i < e → P s → F (n + 1) s i = F n (st i s) (i + 1)) (hp : ∀ s i, i < e → P s → P (st i s)) : ∀ (c i n : Nat) (s : σ), P s → i + c = e → c < n → F n s i = k (fo st c i s)
  | 0, i, n, s, h, hi, hn => by
    obtain ⟨m, rfl⟩ : ∃ m, n = m + 1 := ⟨n - 1, by omega⟩
    rw [show i = e by omega]
    exact hx m s h
  | c + 1, i, n, s, h, hi, hn => by
    obtain ⟨m, rfl⟩ : ∃ m, n = m + 1 := ⟨n - 1, by omega⟩
    rw [hs m s i (by omega) h, fo_succ]
    exact loop_inv P F e k st hx hs hp c (i + 1) m _ (hp s i (by omega) h) (by omega) (by omega)
theorem hdS_wr (x : Int32) (p r : Nat) (s : Int32) : wrS ms x 0 p r s = hdS ms x p r s := by unfold wrS; rw [if_pos rfl]
theorem nrS_wr {x : Int32} (hx : x ≠ (-1 : Int32)) (p r : Nat) (s : Int32) : wrS ms x 1 p r s = nrS ms x p r s := by
  unfold wrS nrS
  rw [if_neg one_ne]
  simp [hx]
theorem m_wr0 (w : WF ms) (x : Int32) : fX9_wrongOf ms x (0 : Int32) = some (NF ms (hdS ms x) 0) := by
  rw [m_wrong w, NF_congr w (fun p r s _ _ => hdS_wr x p r s)]
theorem m_wr1 (w : WF ms) {x : Int32} (hx : x ≠ (-1 : Int32)) : fX9_wrongOf ms x (1 : Int32) = some (NF ms (nrS ms x) 0) := by
  rw [m_wrong w, NF_congr w (fun p r s _ _ => nrS_wr hx p r s)]
theorem m_suspect (w : WF ms) : fX9_suspected ms = some (suI ms) := by
  unfold fX9_suspected
  refine loop_inv (fun s : Int32 × Int32 × Int32 => (0 : Int32) ≤ s.2.2) (fun n (s : Int32 × Int32 × Int32) x => fX9_suspected_9 (fun u => some u) ms n s.1 s.2.1 s.2.2 (nI x)) 10 (fun s => some s.1) (suS ms) (fun n s _ => ?_) (fun n s x hx hP => ?_) (fun s x hx hP => ?_) 10 0 LF ((-1 : Int32), (0 : Int32), (0 : Int32)) (by decide) rfl (by rw [LF_eq]; omega)
  · show fX9_suspected_9 _ _ (n + 1) _ _ _ _ = _
    rw [fX9_suspected_9, li 10, if_pos (nI_le (Nat.le_refl _) (by omega))]
  · show fX9_suspected_9 _ _ (n + 1) _ _ _ _ = _
    have hne : nI x ≠ (-1 : Int32) := nI_m1 (by omega)
    rw [fX9_suspected_9, li 10, if_neg (nI_ge hx (by omega)), m_wr1 w hne, sb, m_wr0 w, sb, ia]
    obtain ⟨c, d, h1, h2, h3, h4, h5⟩ := shop_n w (nI x) hne
    unfold suS
    by_cases a : s.2.1 < NF ms (nrS ms (nI x)) 0 <;> simp only [a, if_true, if_false]
    by_cases b : NF ms (nrS ms (nI x)) 0 = s.2.1 <;> simp only [b, if_true, if_false]
    by_cases c2 : NF ms (hdS ms (nI x)) 0 ≤ s.2.2 <;> simp only [c2, if_true, if_false, ite_self]
    rw [if_neg]
    intro h0
    rw [← b, h1] at h0
    have hc : c = 0 := by
      rcases Nat.eq_zero_or_pos c with q | q
      · exact q
      · exact absurd h0 (nI_nle q (by omega))
    apply c2
    rw [h3, h5 hc]
    exact hP
  · obtain ⟨c, d, h1, h2, h3, h4, h5⟩ := shop_n w (nI x) (nI_m1 (by omega))
    unfold suS
    have hd : (0 : Int32) ≤ NF ms (hdS ms (nI x)) 0 := by rw [h3]; exact nI_pos' (by omega)
    split
    · exact hd
    · split
      · split
        · exact hP
        · exact hd
      · exact hP
/-! counts -/
theorem fo_inc : ∀ (c i : Nat) (s : Int32), fo (fun _ s => s + 1) c i s = s + nI c
  | 0, _, s => by rw [show nI 0 = 0 from rfl]; exact (i_0 s).symm
  | c + 1, i, s => by
    rw [fo_succ, fo_inc c, nI_succ]
    grind
def rcI (ms : Nat → Int32) : Int32 := fo (fun p s => s + nI (gc ms p)) (gn ms) 0 0
theorem NF_inc : NF ms inS 0 = rcI ms := by
  unfold NF rcI
  exact fo_congr _ _ _ (fun p s _ _ => fo_inc (gc ms p) 0 s)
theorem c_receipts (h : RC ms kc) (w : WF ms) : fX7_receiptsOf kc = some (rcI ms) := by
  unfold fX7_receiptsOf
  have h10 := w.1.2
  refine m_loop1 (gn ms) (by omega) (fun n s p => fX7_receiptsOf_4 (fun u => some u) kc n s (nI p)) (fun u => some u) (fun p s => s + nI (gc ms p)) (fun n s => ?_) (fun n s p hp => ?_) 0
  · show fX7_receiptsOf_4 _ _ (n + 1) s _ = _
    rw [fX7_receiptsOf_4, c_pieces w h, sb, mNe w]
  · show fX7_receiptsOf_4 _ _ (n + 1) s _ = _
    rw [fX7_receiptsOf_4, c_pieces w h, sb, mN w hp, c_recs h w (p10 w hp), sb, ia]
theorem m_receipts (w : WF ms) : fX9_overReceipts ms (2 : Int32) = some (rcI ms) := by
  rw [m_over w, ← NF_inc]
  rw [NF_congr w (st' := inS) (fun p r s _ _ => by unfold ovS inS; rw [if_pos rfl])]
theorem m_pairs (w : WF ms) : fX9_overReceipts ms (10 : Int32) = some (NF ms (apS ms) 0) := by
  rw [m_over w, NF_congr w (st' := apS ms) (fun p r s _ _ => by unfold ovS apS; rw [if_neg (by decide), if_pos rfl])]
theorem m_kinds (w : WF ms) (k x : Int32) (hx : x - (4 : Int32) = k) (h2 : x ≠ (2 : Int32)) (h10 : x ≠ (10 : Int32)) : fX9_overReceipts ms x = some (NF ms (kS ms k) 0) := by
  rw [m_over w, NF_congr w (st' := kS ms k) (fun p r s _ _ => by unfold ovS kS; rw [if_neg h2, if_neg h10, hx])]
def jnI (ms : Nat → Int32) : Int32 := fo (fun p s => if gl ms p = 0 then s else s + 1) (gn ms) 0 0
theorem gl_b (w : WF ms) {p : Nat} (hp : p < gn ms) : gl ms p < 2 ^ 31 := by
  have := (w.2.1 p (p10 w hp)).2.2.2
  have := w.1.2
  omega
theorem gu_b (w : WF ms) {p : Nat} (hp : p < gn ms) : gu ms p < 2 ^ 31 := by
  have := (w.2.1 p (p10 w hp)).2.1.2
  have := w.1.2
  omega
theorem c_joins (h : RC ms kc) (w : WF ms) : fX0_joins kc = some (jnI ms) := by
  unfold fX0_joins
  have h10 := w.1.2
  refine m_loop1 (gn ms) (by omega) (fun n s p => fX0_joins_4 (fun u => some u) kc n s (nI p)) (fun u => some u) (fun p s => if gl ms p = 0 then s else s + 1) (fun n s => ?_) (fun n s p hp => ?_) 0
  · show fX0_joins_4 _ _ (n + 1) s _ = _
    rw [fX0_joins_4, c_pieces w h, sb, mNe w]
  · show fX0_joins_4 _ _ (n + 1) s _ = _
    rw [fX0_joins_4, c_pieces w h, sb, mN w hp, c_lo h w hp, sb, ia]
    simp only [oI_m1 (gl_b w hp)]
    by_cases a : gl ms p = 0 <;> simp only [a, if_true, if_false]
theorem m_joined (w : WF ms) : fX9_joined ms = some (jnI ms) := by
  unfold fX9_joined
  have h10 := w.1.2
  refine m_loop1 (gn ms) (by omega) (fun n s p => fX9_joined_4 (fun u => some u) ms n s (nI p)) (fun u => some u) (fun p s => if gl ms p = 0 then s else s + 1) (fun n s => ?_) (fun n s p hp => ?_) 0
  · show fX9_joined_4 _ _ (n + 1) s _ = _
    rw [fX9_joined_4, m_n w, sb, mNe w]
  · show fX9_joined_4 _ _ (n + 1) s _ = _
    rw [fX9_joined_4, m_n w, sb, mN w hp, m_lo w (p10 w hp), sb, ia]
    simp only [oI_m1 (gl_b w hp), i_0]
    by_cases a : gl ms p = 0 <;> simp only [a, if_true, if_false]
def spI (ms : Nat → Int32) (p : Nat) : Int32 := fo (fun r s => s + sI ms p r) (gc ms p) 0 0
theorem c_sumPiece (h : RC ms kc) (w : WF ms) {p : Nat} (hp : p < gn ms) : fX7_sumOfPiece kc (nI p) = some (spI ms p) := by
  unfold fX7_sumOfPiece
  have h6 := (w.2.1 p (p10 w hp)).1.2
  have hp10 := p10 w hp
  refine m_loop1 (gc ms p) (by omega) (fun n s r => fX7_sumOfPiece_4 (fun u => some u) kc (nI p) n s (nI r)) (fun u => some u) (fun r s => s + sI ms p r) (fun n s => ?_) (fun n s r hr => ?_) 0
  · show fX7_sumOfPiece_4 _ _ _ (n + 1) s _ = _
    rw [fX7_sumOfPiece_4, c_recs h w hp10, sb, mCe w hp]
  · show fX7_sumOfPiece_4 _ _ _ (n + 1) s _ = _
    have e := c_sum h w (z := 6 * p + r) (by omega) (by rw [show (6 * p + r) % 6 = r by omega, show (6 * p + r) / 6 = p by omega]; exact hr)
    rw [show (6 * p + r) % 6 = r by omega, show (6 * p + r) / 6 = p by omega] at e
    rw [fX7_sumOfPiece_4, c_recs h w hp10, sb, mC w hp hr, c_slotOf, sb, e, sb, ia]
theorem m_sumPiece (w : WF ms) {p : Nat} (hp : p < gn ms) : fX9_sumOfPiece ms (nI p) = some (spI ms p) := by
  unfold fX9_sumOfPiece
  have h6 := (w.2.1 p (p10 w hp)).1.2
  refine m_loop1 (gc ms p) (by omega) (fun n s r => fX9_sumOfPiece_4 (fun u => some u) ms (nI p) n s (nI r)) (fun u => some u) (fun r s => s + sI ms p r) (fun n s => ?_) (fun n s r hr => ?_) 0
  · show fX9_sumOfPiece_4 _ _ _ (n + 1) s _ = _
    rw [fX9_sumOfPiece_4, m_cnt w (p10 w hp), sb, mCe w hp]
  · show fX9_sumOfPiece_4 _ _ _ (n + 1) s _ = _
    rw [fX9_sumOfPiece_4, m_cnt w (p10 w hp), sb, mC w hp hr, ms_sum w hp hr, sb, ia]
end Suspect
