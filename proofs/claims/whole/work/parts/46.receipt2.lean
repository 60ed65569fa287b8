/-! One receipt, the first parts. -/
section Stages2
variable {b : Nat → Nat} {len : Nat} {mb : Nat → Int32}
theorem TC_ok (hb : BF b len mb) {i mm v d : Nat} {kit mr : Nat → Int32} {r3 r4 : Int32} (hm : mm ≤ 7) (hi : i ≤ len) (hv : DN v d) (h2 : v ≤ 9) (ha : aft b len i (kit, nI 1, nI v, nI d, r3, r4, nI 0))
    (m0 : r3 = mr (8 * mm)) (mt : ∃ t : Nat, t ≤ 9999 ∧ r3 = nI t) (mv : mr (8 * mm + 1) = nI v) :
    Out 4 b len i (kit, nI 1, nI v, nI d, r3, r4, nI 0) mm mr (TC mb (nI len) (nI mm) mr (nI i) (1 : Int32)) := by
  have hdn := dn_b hv
  unfold TC
  by_cases he : i < len ∧ b i = 58
  · obtain ⟨hil, h58⟩ := he
    rw [li 58, tk1 hb hil h58, sb, bz1, sb]
    dsimp only
    have step : rn b 1 i (kit, nI 1, nI v, nI d, r3, r4, nI 0) (kit, nI 2, 0, 0, r3, nI v, nI 0) := ⟨_, by rw [h58]; exact mk1 hdn.2, rfl⟩
    have no : ∀ j, i ≤ j → j < i + 1 → b j ≠ 59 := fun j a1 a2 => by rw [show j = i by omega, h58]; omega
    rcases num_E hb (show PH 2 1 3 from by unfold PH; omega) (kit := kit) (r3 := r3) (r4 := nI v) (r5 := nI 0) (show i + 1 ≤ len from hil) (x1 := (1 : Int32)) (x2 := (999 : Int32)) rfl rfl with ⟨g, hg, hst⟩ | ⟨m, v', d', q1, q2, q3, q4, q5, q6, q7, q8, q9⟩
    · rw [hg, sb, li 3, ap8 hm (by omega), sb]
      dsimp only
      rw [LF_eq, show (1 : Int32) = nI 1 from rfl, rx_0 (by omega)]
      obtain ⟨mr', z1, z2⟩ := T7_0 hb hm (show i + 1 ≤ len from hil) (nI 1) (upd mr (8 * mm + 3) g)
      exact Or.inl ⟨1, mr', _, hil, z1, SO_tr z2 (SO_upd (by omega)), step, no, hst, Or.inl (by show nI 2 ≠ (3 : Int32); decide)⟩
    · rw [q6, sb, li 3, ap8 hm (by omega), sb]
      dsimp only
      have q59 : ∀ j, i ≤ j → j < i + (1 + m) → b j ≠ 59 := fun j a1 a2 => by
        rcases Nat.lt_or_ge j (i + 1) with a | a
        · exact no j a1 a
        · exact d59 (q8 j a (by omega))
      have h999 : v' ≤ 999 := by unfold DN at q3; omega
      refine out_tr (n := 1 + m) (L := 2) (rn_add 1 m i _ _ _ step q7) q59 (SO_upd (k := 3) (x := nI v') (by omega)) (by omega) ?_
      rw [show i + (1 + m) = i + 1 + m by omega]
      have t := TD_ok hb (r3 := r3) (r4 := nI v) hm mt ⟨v, h2, rfl⟩ 3 0 (i + 1 + m) v' d' LF kit (upd mr (8 * mm + 3) (nI v')) rfl (by rw [LF_eq]; omega) q2 q3 q5 h999 q9 (by rw [pk_un (by omega)]; exact m0) (by rw [pk_un (by omega)]; exact mv.symm) (fun k hk => by omega) pk_us
      exact t
  · rw [li 58, tkn hb hi ⟨by omega, by omega⟩ (by omega), sb, bz0, sb]
    dsimp only
    obtain ⟨g, hg⟩ := num0 hb hi (1 : Int32) (999 : Int32)
    rw [hg, sb, li 3, ap8 hm (by omega), sb]
    dsimp only
    rw [LF_eq, show (1 : Int32) = nI 1 from rfl, rx_0 (by omega)]
    obtain ⟨mr', z1, z2⟩ := T7_0 hb hm hi (nI 1) (upd mr (8 * mm + 3) g)
    refine Or.inl ⟨0, mr', _, hi, z1, SO_tr z2 (SO_upd (by omega)), rfl, fun j a1 a2 => by omega, ?_, Or.inl (by show nI 1 ≠ (3 : Int32); decide)⟩
    rcases ha with e | e | e
    · exact Or.inl e
    · rcases Nat.lt_or_ge i len with hil | hil
      · exact Or.inr ⟨hil, _, no1 hdn.2 ((hb.2 i hil).2.2) e (fun x => he ⟨hil, x⟩)⟩
      · exact Or.inl (show i = len by omega)
    · exact e
theorem TB_ok (hb : BF b len mb) {i mm v d : Nat} {kit mr : Nat → Int32} {r3 r4 : Int32} (hm : mm ≤ 7) (hi : i ≤ len) (hv : DN v d) (ha : aft b len i (kit, nI 0, nI v, nI d, r3, r4, nI 0))
    (mv : mr (8 * mm) = nI v) : Out 6 b len i (kit, nI 0, nI v, nI d, r3, r4, nI 0) mm mr (TB mb (nI len) (nI mm) mr (nI i) (1 : Int32)) := by
  have hdn := dn_b hv
  have a1 : ∀ (mr : Nat → Int32) (x : Int32), aput mr 96 ((8 : Int32) * nI mm + (1 : Int32)) x = some (upd mr (8 * mm + 1) x) := fun mr x => ap8 (k := 1) hm (by omega)
  unfold TB
  by_cases he : i < len ∧ b i = 64
  · obtain ⟨hil, h64⟩ := he
    rw [li 64, tk1 hb hil h64, sb, bz1, sb]
    dsimp only
    have step : rn b 1 i (kit, nI 0, nI v, nI d, r3, r4, nI 0) (kit, nI 1, 0, 0, nI v, r4, nI 0) := ⟨_, by rw [h64]; exact mk0 hdn.2, rfl⟩
    have no : ∀ j, i ≤ j → j < i + 1 → b j ≠ 59 := fun j a1 a2 => by rw [show j = i by omega, h64]; omega
    rcases num_E hb (show PH 1 0 1 from by unfold PH; omega) (kit := kit) (r3 := nI v) (r4 := r4) (r5 := nI 0) (show i + 1 ≤ len from hil) (x1 := (0 : Int32)) (x2 := (9 : Int32)) rfl rfl with ⟨g, hg, hst⟩ | ⟨m, v', d', q1, q2, q3, q4, q5, q6, q7, q8, q9⟩
    · rw [hg, sb, a1, sb]
      dsimp only
      obtain ⟨mr', z1, z2⟩ := TC_0 hb hm (show i + 1 ≤ len from hil) (upd mr (8 * mm + 1) g)
      exact Or.inl ⟨1, mr', _, hil, z1, SO_tr z2 (SO_upd (by omega)), step, no, hst, Or.inl (by show nI 1 ≠ (3 : Int32); decide)⟩
    · rw [q6, sb, a1, sb]
      dsimp only
      have q59 : ∀ j, i ≤ j → j < i + (1 + m) → b j ≠ 59 := fun j a1 a2 => by
        rcases Nat.lt_or_ge j (i + 1) with a | a
        · exact no j a1 a
        · exact d59 (q8 j a (by omega))
      have h9 : v' ≤ 9 := by unfold DN at q3; omega
      refine out_tr (n := 1 + m) (L := 4) (rn_add 1 m i _ _ _ step q7) q59 (SO_upd (k := 1) (x := nI v') (by omega)) (by omega) ?_
      rw [show i + (1 + m) = i + 1 + m by omega]
      exact TC_ok hb hm q2 q3 h9 q9 (by rw [pk_un (by omega)]; exact mv.symm) ⟨v, hdn.1, rfl⟩ pk_us
  · rw [li 64, tkn hb hi ⟨by omega, by omega⟩ (by omega), sb, bz0, sb]
    dsimp only
    obtain ⟨g, hg⟩ := num0 hb hi (0 : Int32) (9 : Int32)
    rw [hg, sb, a1, sb]
    dsimp only
    obtain ⟨mr', z1, z2⟩ := TC_0 hb hm hi (upd mr (8 * mm + 1) g)
    refine Or.inl ⟨0, mr', _, hi, z1, SO_tr z2 (SO_upd (by omega)), rfl, fun j a1 a2 => by omega, ?_, Or.inl (by show nI 0 ≠ (3 : Int32); decide)⟩
    rcases ha with e | e | e
    · exact Or.inl e
    · rcases Nat.lt_or_ge i len with hil | hil
      · exact Or.inr ⟨hil, _, no0 hdn.2 ((hb.2 i hil).2.2) e (fun x => he ⟨hil, x⟩)⟩
      · exact Or.inl (show i = len by omega)
    · exact e
theorem TA_ok (hb : BF b len mb) {i mm : Nat} {kit mr : Nat → Int32} {r3 r4 : Int32} (hm : mm ≤ 7) (hi : i ≤ len) : Out 7 b len i (kit, nI 0, 0, 0, r3, r4, nI 0) mm mr (TA mb (nI len) (nI mm) mr (nI i) (1 : Int32)) := by
  have a0 : ∀ (mr : Nat → Int32) (x : Int32), aput mr 96 ((8 : Int32) * nI mm + (0 : Int32)) x = some (upd mr (8 * mm + 0) x) := fun mr x => ap8 (k := 0) hm (by omega)
  unfold TA
  rcases num_E hb (show PH 0 0 4 from by unfold PH; omega) (kit := kit) (r3 := r3) (r4 := r4) (r5 := nI 0) hi (x1 := (0 : Int32)) (x2 := (9999 : Int32)) rfl rfl with ⟨g, hg, hst⟩ | ⟨m, v', d', q1, q2, q3, q4, q5, q6, q7, q8, q9⟩
  · rw [hg, sb, a0, sb]
    dsimp only
    obtain ⟨mr', z1, z2⟩ := TB_0 hb hm hi (upd mr (8 * mm + 0) g)
    exact Or.inl ⟨0, mr', _, hi, z1, SO_tr z2 (SO_upd (by omega)), rfl, fun j a1 a2 => by omega, hst, Or.inl (by show nI 0 ≠ (3 : Int32); decide)⟩
  · rw [q6, sb, a0, sb]
    dsimp only
    refine out_tr (n := m) (L := 6) q7 (fun j a1 a2 => d59 (q8 j a1 a2)) (SO_upd (k := 0) (x := nI v') (by omega)) (by omega) ?_
    exact TB_ok hb hm q2 q3 q9 pk_us
theorem rr_ok (hb : BF b len mb) {i mm : Nat} {kit mr : Nat → Int32} {r3 r4 : Int32} (hm : mm ≤ 7) (hi : i ≤ len) : Out 7 b len i (kit, nI 0, 0, 0, r3, r4, nI 0) mm mr (fX9_readsReceipt mb mr (nI len) (nI i) (1 : Int32) (nI mm)) := by
  rw [rr_eq]
  have z : fX9_readsReceipt_10 (fun m => TA mb (nI len) (nI mm) m (nI i) (1 : Int32)) ((8 : Int32) * nI mm) LF (0 : Int32) mr = TA mb (nI len) (nI mm) (fo (fun j s => upd s (8 * mm + j) ((fun _ => (0 : Int32)) j)) 8 0 mr) (nI i) (1 : Int32) := by
    refine m_loop1 8 (by omega) (fun m s i' => fX9_readsReceipt_10 (fun m => TA mb (nI len) (nI mm) m (nI i) (1 : Int32)) ((8 : Int32) * nI mm) m (nI i') s) (fun m => TA mb (nI len) (nI mm) m (nI i) (1 : Int32)) _ (fun m s => ?_) (fun m s j hj => ?_) mr
    · show (if (8 : Int32) ≤ nI 8 then _ else _) = _
      rw [if_pos (by decide)]
    · show (if (8 : Int32) ≤ nI j then _ else _) = _
      have h8 : ¬ (8 : Int32) ≤ nI j := by rw [li 8]; exact nI_ge hj (by omega)
      rw [if_neg h8, ap8 hm hj, sb, ia]
  rw [z]
  refine out_tr (n := 0) (L := 7) (S' := (kit, nI 0, 0, 0, r3, r4, nI 0)) rfl (fun j a1 a2 => by omega) (mr1 := fo (fun j s => upd s (8 * mm + j) ((fun _ => (0 : Int32)) j)) 8 0 mr) (fun j hj => ?_) (by omega) (TA_ok hb hm hi)
  rw [fo_fill (8 * mm) (fun _ => (0 : Int32)) 8 0 mr j, if_neg (by omega)]
end Stages2
