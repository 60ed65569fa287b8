/-! What each call answers, on both sides. -/
/-- the two worlds tell the same diary -/
def SW (ad bd : Nat → Nat) (cI : ClassId) (WC WM : va_W) (mt : Int32) : Prop := ∃ (ns len : Nat) (ms msv kc ksv mb kbc mf mr kit kln ken kla kfi kea : Nat → Int32) (kr0 kr1 kr2 kr3 kr4 kr5 klr kp0 kp1 kp2 kp3 mat mw mm : Int32) (mh : Int64), ST ms msv kc ksv ns ∧ BU mb kbc len ∧ WC = CW ad cI kc ksv kbc kit kln ken kla kfi kea (nI ns) (nI len) kr0 kr1 kr2 kr3 kr4 kr5 klr kp0 kp1 kp2 kp3 ∧ WM = MW bd cI ms msv mb mf mr mt (nI ns) (nI len) mat mw mm mh
theorem SW_mk {ad bd : Nat → Nat} {cI : ClassId} {WC WM : va_W} {mt : Int32} {ns len : Nat} {ms msv kc ksv mb kbc mf mr kit kln ken kla kfi kea : Nat → Int32} {kr0 kr1 kr2 kr3 kr4 kr5 klr kp0 kp1 kp2 kp3 mat mw mm : Int32} {mh : Int64} (S : ST ms msv kc ksv ns) (B : BU mb kbc len) (h1 : WC = CW ad cI kc ksv kbc kit kln ken kla kfi kea (nI ns) (nI len) kr0 kr1 kr2 kr3 kr4 kr5 klr kp0 kp1 kp2 kp3) (h2 : WM = MW bd cI ms msv mb mf mr mt (nI ns) (nI len) mat mw mm mh) : SW ad bd cI WC WM mt := ⟨ns, len, ms, msv, kc, ksv, mb, kbc, mf, mr, kit, kln, ken, kla, kfi, kea, kr0, kr1, kr2, kr3, kr4, kr5, klr, kp0, kp1, kp2, kp3, mat, mw, mm, mh, S, B, h1, h2⟩
section SWS
variable {ad bd : Nat → Nat} {cI : ClassId} {WC WM WC' WM' : va_W} {mt mt' : Int32}
theorem SW.c0 (h : SW ad bd cI WC WM mt) : ∃ fs, WC[0]? = some (ad 0, .inr (5, fs)) := by
  obtain ⟨ns, len, ms, msv, kc, ksv, mb, kbc, mf, mr, kit, kln, ken, kla, kfi, kea, kr0, kr1, kr2, kr3, kr4, kr5, klr, kp0, kp1, kp2, kp3, mat, mw, mm, mh, S, B, rfl, rfl⟩ := h
  exact ⟨_, rfl⟩
theorem SW.m0 (h : SW ad bd cI WC WM mt) : ∃ fs, WM[0]? = some (bd 0, .inr (6, fs)) := by
  obtain ⟨ns, len, ms, msv, kc, ksv, mb, kbc, mf, mr, kit, kln, ken, kla, kfi, kea, kr0, kr1, kr2, kr3, kr4, kr5, klr, kp0, kp1, kp2, kp3, mat, mw, mm, mh, S, B, rfl, rfl⟩ := h
  exact ⟨_, rfl⟩
theorem SW.ca (h : SW ad bd cI WC WM mt) : WC.map (·.1) = [ad 0, ad 1, ad 2, ad 3, ad 4, ad 5, ad 6, ad 7, ad 8, ad 9, ad 10, ad 11, ad 12, ad 13, ad 14] := by
  obtain ⟨ns, len, ms, msv, kc, ksv, mb, kbc, mf, mr, kit, kln, ken, kla, kfi, kea, kr0, kr1, kr2, kr3, kr4, kr5, klr, kp0, kp1, kp2, kp3, mat, mw, mm, mh, S, B, rfl, rfl⟩ := h
  rfl
theorem SW.ma (h : SW ad bd cI WC WM mt) : WM.map (·.1) = [bd 0, bd 1, bd 2, bd 3, bd 4, bd 5] := by
  obtain ⟨ns, len, ms, msv, kc, ksv, mb, kbc, mf, mr, kit, kln, ken, kla, kfi, kea, kr0, kr1, kr2, kr3, kr4, kr5, klr, kp0, kp1, kp2, kp3, mat, mw, mm, mh, S, B, rfl, rfl⟩ := h
  rfl
theorem SW.cc (h : SW ad bd cI WC WM mt) (h' : SW ad bd cI WC' WM' mt') : WC'.map (·.1) = WC.map (·.1) := h'.ca.trans h.ca.symm
theorem SW.mm (h : SW ad bd cI WC WM mt) (h' : SW ad bd cI WC' WM' mt') : WM'.map (·.1) = WM.map (·.1) := h'.ma.trans h.ma.symm
theorem SW.thr (h : SW ad bd cI WC WM mt) (l : Launch) (D : va_G) : nd_C l yX9_thrown cX9_thrown 1 (some .int) 0 0 D [(cI, .int)] [.ref (bd 0)] WM WM (some (.int mt)) := by
  obtain ⟨ns, len, ms, msv, kc, ksv, mb, kbc, mf, mr, kit, kln, ken, kla, kfi, kea, kr0, kr1, kr2, kr3, kr4, kr5, klr, kp0, kp1, kp2, kp3, mat, mw, mm, mh, S, B, rfl, rfl⟩ := h
  exact mX9_thrown rfl
set_option maxHeartbeats 4000000 in
theorem ua_piece (h : SW ad bd cI WC WM mt) {l : Launch} (hnt : l.stackTraces = false) (D : va_G) (cJ : ClassId) (od : Nat) (g : Nat → Int64) (x1 x2 : Int32) : ∃ (k r : Int32) (PX : va_W → (Nat → Int64) → Prop) (WM' : va_W), nd_H l yL_piece cL_piece 5 [(0, 10, 13, 13), (0, 10, 17, 15)] D cI cJ od g [.ref (ad 0), .int x1, .int x2, .ref od] WC PX k ∧ nd_C l yX9_piece cX9_piece 3 (some .int) 1 23 D [(cI, .int)] [.ref (bd 0), .int x1, .int x2] WM WM' (some (.int r)) ∧ ∀ W1 g1, PX W1 g1 → SW ad bd cI W1 WM' k ∧ (k = 0 → g1 0 = r.toInt64) := by
  obtain ⟨ns, len, ms, msv, kc, ksv, mb, kbc, mf, mr, kit, kln, ken, kla, kfi, kea, kr0, kr1, kr2, kr3, kr4, kr5, klr, kp0, kp1, kp2, kp3, mat, mw, mm, mh, S, B, rfl, rfl⟩ := h
  rcases f_piece S mt x1 x2 with ⟨k, m, hkm, ha, hb⟩ | ⟨v, ms', msv', kc', ksv', ns', ha, hb, S'⟩
  · simp only [List.mem_cons, List.not_mem_nil, or_false, Prod.mk.injEq] at hkm
    rcases hkm with ⟨rfl, rfl⟩ | ⟨rfl, rfl⟩
    · exact ⟨1, 0, _, _, tL_piece_1 (W1 := []) (xX8_piece hnt ha) rfl (fun W q => by rw [q]), mX9_piece hb, fun W1 g1 hw => ⟨SW_mk S B hw rfl, (fun q => absurd q (by decide))⟩⟩
    · exact ⟨2, 0, _, _, tL_piece_2 (W1 := []) (xX8_piece hnt ha) rfl (fun W q => by rw [q]), mX9_piece hb, fun W1 g1 hw => ⟨SW_mk S B hw rfl, (fun q => absurd q (by decide))⟩⟩
  · exact ⟨0, v, _, _, hL_piece (mX8_piece ha) rfl rfl, mX9_piece hb, fun W1 g1 hw => ⟨SW_mk S' B hw.1 rfl, fun _ => hw.2⟩⟩
set_option maxHeartbeats 4000000 in
theorem ua_cut (h : SW ad bd cI WC WM mt) {l : Launch} (hnt : l.stackTraces = false) (D : va_G) (cJ : ClassId) (od : Nat) (g : Nat → Int64) (x1 : Int32) : ∃ (k r : Int32) (PX : va_W → (Nat → Int64) → Prop) (WM' : va_W), nd_H l yL_cut cL_cut 4 [(0, 9, 12, 21), (0, 9, 15, 15)] D cI cJ od g [.ref (ad 0), .int x1, .ref od] WC PX k ∧ nd_C l yX9_cut cX9_cut 5 (some .int) 2 46 D [(cI, .int)] [.ref (bd 0), .int x1] WM WM' (some (.int r)) ∧ ∀ W1 g1, PX W1 g1 → SW ad bd cI W1 WM' k ∧ (k = 0 → g1 0 = r.toInt64) := by
  obtain ⟨ns, len, ms, msv, kc, ksv, mb, kbc, mf, mr, kit, kln, ken, kla, kfi, kea, kr0, kr1, kr2, kr3, kr4, kr5, klr, kp0, kp1, kp2, kp3, mat, mw, mm, mh, S, B, rfl, rfl⟩ := h
  rcases f_cut S mt x1 with ⟨k, m, hkm, ha, hb⟩ | ⟨v, ms', msv', kc', ksv', ns', ha, hb, S'⟩
  · simp only [List.mem_cons, List.not_mem_nil, or_false, Prod.mk.injEq] at hkm
    rcases hkm with ⟨rfl, rfl⟩ | ⟨rfl, rfl⟩
    · exact ⟨1, 0, _, _, tL_cut_3 (W1 := []) (xX8_cut hnt ha) rfl (fun W q => by rw [q]), mX9_cut hb, fun W1 g1 hw => ⟨SW_mk S B hw rfl, (fun q => absurd q (by decide))⟩⟩
    · exact ⟨2, 0, _, _, tL_cut_2 (W1 := []) (xX8_cut hnt ha) rfl (fun W q => by rw [q]), mX9_cut hb, fun W1 g1 hw => ⟨SW_mk S B hw rfl, (fun q => absurd q (by decide))⟩⟩
  · exact ⟨0, v, _, _, hL_cut (mX8_cut ha) rfl rfl, mX9_cut hb, fun W1 g1 hw => ⟨SW_mk S' B hw.1 rfl, fun _ => hw.2⟩⟩
set_option maxHeartbeats 4000000 in
theorem ua_correct (h : SW ad bd cI WC WM mt) {l : Launch} (hnt : l.stackTraces = false) (D : va_G) (cJ : ClassId) (od : Nat) (g : Nat → Int64) (x1 x2 : Int32) : ∃ (k r : Int32) (PX : va_W → (Nat → Int64) → Prop) (WM' : va_W), nd_H l yL_correct cL_correct 5 [(0, 10, 13, 21)] D cI cJ od g [.ref (ad 0), .int x1, .int x2, .ref od] WC PX k ∧ nd_C l yX9_correct cX9_correct 4 (some .int) 3 65 D [(cI, .int)] [.ref (bd 0), .int x1, .int x2] WM WM' (some (.int r)) ∧ ∀ W1 g1, PX W1 g1 → SW ad bd cI W1 WM' k ∧ (k = 0 → g1 0 = r.toInt64) := by
  obtain ⟨ns, len, ms, msv, kc, ksv, mb, kbc, mf, mr, kit, kln, ken, kla, kfi, kea, kr0, kr1, kr2, kr3, kr4, kr5, klr, kp0, kp1, kp2, kp3, mat, mw, mm, mh, S, B, rfl, rfl⟩ := h
  rcases f_correct S mt x1 x2 with ⟨k, m, hkm, ha, hb⟩ | ⟨v, ms', msv', kc', ksv', ns', ha, hb, S'⟩
  · simp only [List.mem_cons, List.not_mem_nil, or_false, Prod.mk.injEq] at hkm
    obtain ⟨rfl, rfl⟩ := hkm
    · exact ⟨1, 0, _, _, tL_correct_3 (W1 := []) (xX8_correct hnt ha) rfl (fun W q => by rw [q]), mX9_correct hb, fun W1 g1 hw => ⟨SW_mk S B hw rfl, (fun q => absurd q (by decide))⟩⟩
  · exact ⟨0, v, _, _, hL_correct (mX8_correct ha) rfl rfl, mX9_correct hb, fun W1 g1 hw => ⟨SW_mk S' B hw.1 rfl, fun _ => hw.2⟩⟩
set_option maxHeartbeats 4000000 in
theorem ua_join (h : SW ad bd cI WC WM mt) {l : Launch} (hnt : l.stackTraces = false) (D : va_G) (cJ : ClassId) (od : Nat) (g : Nat → Int64) (x1 x2 : Int32) : ∃ (k r : Int32) (PX : va_W → (Nat → Int64) → Prop) (WM' : va_W), nd_H l yL_join cL_join 5 [(0, 10, 13, 21), (0, 10, 17, 15)] D cI cJ od g [.ref (ad 0), .int x1, .int x2, .ref od] WC PX k ∧ nd_C l yX9_join cX9_join 3 (some .int) 4 88 D [(cI, .int)] [.ref (bd 0), .int x1, .int x2] WM WM' (some (.int r)) ∧ ∀ W1 g1, PX W1 g1 → SW ad bd cI W1 WM' k ∧ (k = 0 → g1 0 = r.toInt64) := by
  obtain ⟨ns, len, ms, msv, kc, ksv, mb, kbc, mf, mr, kit, kln, ken, kla, kfi, kea, kr0, kr1, kr2, kr3, kr4, kr5, klr, kp0, kp1, kp2, kp3, mat, mw, mm, mh, S, B, rfl, rfl⟩ := h
  rcases f_join S mt x1 x2 with ⟨k, m, hkm, ha, hb⟩ | ⟨v, ms', msv', kc', ksv', ns', ha, hb, S'⟩
  · simp only [List.mem_cons, List.not_mem_nil, or_false, Prod.mk.injEq] at hkm
    rcases hkm with ⟨rfl, rfl⟩ | ⟨rfl, rfl⟩
    · exact ⟨1, 0, _, _, tL_join_3 (W1 := []) (xX8_join hnt ha) rfl (fun W q => by rw [q]), mX9_join hb, fun W1 g1 hw => ⟨SW_mk S B hw rfl, (fun q => absurd q (by decide))⟩⟩
    · exact ⟨2, 0, _, _, tL_join_2 (W1 := []) (xX8_join hnt ha) rfl (fun W q => by rw [q]), mX9_join hb, fun W1 g1 hw => ⟨SW_mk S B hw rfl, (fun q => absurd q (by decide))⟩⟩
  · exact ⟨0, v, _, _, hL_join (mX8_join ha) rfl rfl, mX9_join hb, fun W1 g1 hw => ⟨SW_mk S' B hw.1 rfl, fun _ => hw.2⟩⟩
set_option maxHeartbeats 4000000 in
theorem ua_part (h : SW ad bd cI WC WM mt) {l : Launch} (hnt : l.stackTraces = false) (D : va_G) (cJ : ClassId) (od : Nat) (g : Nat → Int64) (x1 : Int32) : ∃ (k r : Int32) (PX : va_W → (Nat → Int64) → Prop) (WM' : va_W), nd_H l yL_part cL_part 4 [(0, 9, 12, 21), (0, 9, 15, 15)] D cI cJ od g [.ref (ad 0), .int x1, .ref od] WC PX k ∧ nd_C l yX9_part cX9_part 3 (some .int) 2 43 D [(cI, .int)] [.ref (bd 0), .int x1] WM WM' (some (.int r)) ∧ ∀ W1 g1, PX W1 g1 → SW ad bd cI W1 WM' k ∧ (k = 0 → g1 0 = r.toInt64) := by
  obtain ⟨ns, len, ms, msv, kc, ksv, mb, kbc, mf, mr, kit, kln, ken, kla, kfi, kea, kr0, kr1, kr2, kr3, kr4, kr5, klr, kp0, kp1, kp2, kp3, mat, mw, mm, mh, S, B, rfl, rfl⟩ := h
  rcases f_part S mt x1 with ⟨k, m, hkm, ha, hb⟩ | ⟨v, ms', msv', kc', ksv', ns', ha, hb, S'⟩
  · simp only [List.mem_cons, List.not_mem_nil, or_false, Prod.mk.injEq] at hkm
    rcases hkm with ⟨rfl, rfl⟩ | ⟨rfl, rfl⟩
    · exact ⟨1, 0, _, _, tL_part_3 (W1 := []) (xX8_part hnt ha) rfl (fun W q => by rw [q]), mX9_part hb, fun W1 g1 hw => ⟨SW_mk S B hw rfl, (fun q => absurd q (by decide))⟩⟩
    · exact ⟨2, 0, _, _, tL_part_2 (W1 := []) (xX8_part hnt ha) rfl (fun W q => by rw [q]), mX9_part hb, fun W1 g1 hw => ⟨SW_mk S B hw rfl, (fun q => absurd q (by decide))⟩⟩
  · exact ⟨0, v, _, _, hL_part (mX8_part ha) rfl rfl, mX9_part hb, fun W1 g1 hw => ⟨SW_mk S' B hw.1 rfl, fun _ => hw.2⟩⟩
set_option maxHeartbeats 4000000 in
theorem ua_pieceOf (h : SW ad bd cI WC WM mt) {l : Launch} (hnt : l.stackTraces = false) (D : va_G) (cJ : ClassId) (od : Nat) (g : Nat → Int64) (x1 x2 : Int32) : ∃ (k r : Int32) (PX : va_W → (Nat → Int64) → Prop) (WM' : va_W), nd_H l yL_pieceOf cL_pieceOf 5 [(0, 10, 13, 21), (0, 10, 17, 13)] D cI cJ od g [.ref (ad 0), .int x1, .int x2, .ref od] WC PX k ∧ nd_C l yX9_pieceOf cX9_pieceOf 3 (some .int) 6 133 D [(cI, .int)] [.ref (bd 0), .int x1, .int x2] WM WM' (some (.int r)) ∧ ∀ W1 g1, PX W1 g1 → SW ad bd cI W1 WM' k ∧ (k = 0 → g1 0 = r.toInt64) := by
  obtain ⟨ns, len, ms, msv, kc, ksv, mb, kbc, mf, mr, kit, kln, ken, kla, kfi, kea, kr0, kr1, kr2, kr3, kr4, kr5, klr, kp0, kp1, kp2, kp3, mat, mw, mm, mh, S, B, rfl, rfl⟩ := h
  rcases f_pieceOf S.1 S.2.1 mt x1 x2 with ⟨k, m, hkm, ha, hb⟩ | ⟨v, ha, hb⟩
  · simp only [List.mem_cons, List.not_mem_nil, or_false, Prod.mk.injEq] at hkm
    rcases hkm with ⟨rfl, rfl⟩ | ⟨rfl, rfl⟩
    · exact ⟨1, 0, _, _, tL_pieceOf_3 (W1 := []) (xX8_pieceOf hnt ha) rfl (fun W q => by rw [q]), mX9_pieceOf hb, fun W1 g1 hw => ⟨SW_mk S B hw rfl, (fun q => absurd q (by decide))⟩⟩
    · exact ⟨2, 0, _, _, tL_pieceOf_1 (W1 := []) (xX8_pieceOf hnt ha) rfl (fun W q => by rw [q]), mX9_pieceOf hb, fun W1 g1 hw => ⟨SW_mk S B hw rfl, (fun q => absurd q (by decide))⟩⟩
  · exact ⟨0, v, _, _, hL_pieceOf (mX8_pieceOf ha) rfl rfl, mX9_pieceOf hb, fun W1 g1 hw => ⟨SW_mk S B hw.1 rfl, fun _ => hw.2⟩⟩
set_option maxHeartbeats 4000000 in
theorem ua_receipt (h : SW ad bd cI WC WM mt) {l : Launch} (hnt : l.stackTraces = false) (D : va_G) (cJ : ClassId) (od : Nat) (g : Nat → Int64) (x1 x2 x3 : Int32) : ∃ (k r : Int32) (PX : va_W → (Nat → Int64) → Prop) (WM' : va_W), nd_H l yL_receipt cL_receipt 6 [(0, 12, 15, 21), (0, 12, 19, 13)] D cI cJ od g [.ref (ad 0), .int x1, .int x2, .int x3, .ref od] WC PX k ∧ nd_C l yX9_receipt cX9_receipt 4 (some .int) 4 97 D [(cI, .int)] [.ref (bd 0), .int x1, .int x2, .int x3] WM WM' (some (.int r)) ∧ ∀ W1 g1, PX W1 g1 → SW ad bd cI W1 WM' k ∧ (k = 0 → g1 0 = r.toInt64) := by
  obtain ⟨ns, len, ms, msv, kc, ksv, mb, kbc, mf, mr, kit, kln, ken, kla, kfi, kea, kr0, kr1, kr2, kr3, kr4, kr5, klr, kp0, kp1, kp2, kp3, mat, mw, mm, mh, S, B, rfl, rfl⟩ := h
  rcases f_receipt S.1 S.2.1 mt x1 x2 x3 with ⟨k, m, hkm, ha, hb⟩ | ⟨v, ha, hb⟩
  · simp only [List.mem_cons, List.not_mem_nil, or_false, Prod.mk.injEq] at hkm
    rcases hkm with ⟨rfl, rfl⟩ | ⟨rfl, rfl⟩
    · exact ⟨1, 0, _, _, tL_receipt_3 (W1 := []) (xX8_receipt hnt ha) rfl (fun W q => by rw [q]), mX9_receipt hb, fun W1 g1 hw => ⟨SW_mk S B hw rfl, (fun q => absurd q (by decide))⟩⟩
    · exact ⟨2, 0, _, _, tL_receipt_1 (W1 := []) (xX8_receipt hnt ha) rfl (fun W q => by rw [q]), mX9_receipt hb, fun W1 g1 hw => ⟨SW_mk S B hw rfl, (fun q => absurd q (by decide))⟩⟩
  · exact ⟨0, v, _, _, hL_receipt (mX8_receipt ha) rfl rfl, mX9_receipt hb, fun W1 g1 hw => ⟨SW_mk S B hw.1 rfl, fun _ => hw.2⟩⟩
set_option maxHeartbeats 4000000 in
theorem ua_page (h : SW ad bd cI WC WM mt) {l : Launch} (hnt : l.stackTraces = false) (D : va_G) (cJ : ClassId) (od : Nat) (g : Nat → Int64) (x1 x2 : Int32) : ∃ (k r : Int32) (PX : va_W → (Nat → Int64) → Prop) (WM' : va_W), nd_H l yL_page cL_page 5 [(0, 10, 13, 13)] D cI cJ od g [.ref (ad 0), .int x1, .int x2, .ref od] WC PX k ∧ nd_C l yX9_page cX9_page 3 (some .int) 4 100 D [(cI, .int)] [.ref (bd 0), .int x1, .int x2] WM WM' (some (.int r)) ∧ ∀ W1 g1, PX W1 g1 → SW ad bd cI W1 WM' k ∧ (k = 0 → g1 0 = r.toInt64) := by
  obtain ⟨ns, len, ms, msv, kc, ksv, mb, kbc, mf, mr, kit, kln, ken, kla, kfi, kea, kr0, kr1, kr2, kr3, kr4, kr5, klr, kp0, kp1, kp2, kp3, mat, mw, mm, mh, S, B, rfl, rfl⟩ := h
  rcases f_page S.1 S.2.1 mt x1 x2 with ⟨k, m, hkm, ha, hb⟩ | ⟨v, ha, hb⟩
  · simp only [List.mem_cons, List.not_mem_nil, or_false, Prod.mk.injEq] at hkm
    obtain ⟨rfl, rfl⟩ := hkm
    · exact ⟨1, 0, _, _, tL_page_1 (W1 := []) (xX8_page hnt ha) rfl (fun W q => by rw [q]), mX9_page hb, fun W1 g1 hw => ⟨SW_mk S B hw rfl, (fun q => absurd q (by decide))⟩⟩
  · exact ⟨0, v, _, _, hL_page (mX8_page ha) rfl rfl, mX9_page hb, fun W1 g1 hw => ⟨SW_mk S B hw.1 rfl, fun _ => hw.2⟩⟩
set_option maxHeartbeats 4000000 in
theorem ua_sum (h : SW ad bd cI WC WM mt) {l : Launch} (hnt : l.stackTraces = false) (D : va_G) (cJ : ClassId) (od : Nat) (g : Nat → Int64) (x1 x2 : Int32) : ∃ (k r : Int32) (PX : va_W → (Nat → Int64) → Prop) (WM' : va_W), nd_H l yL_sum cL_sum 5 [(0, 10, 13, 13)] D cI cJ od g [.ref (ad 0), .int x1, .int x2, .ref od] WC PX k ∧ nd_C l yX9_sum cX9_sum 3 (some .int) 4 91 D [(cI, .int)] [.ref (bd 0), .int x1, .int x2] WM WM' (some (.int r)) ∧ ∀ W1 g1, PX W1 g1 → SW ad bd cI W1 WM' k ∧ (k = 0 → g1 0 = r.toInt64) := by
  obtain ⟨ns, len, ms, msv, kc, ksv, mb, kbc, mf, mr, kit, kln, ken, kla, kfi, kea, kr0, kr1, kr2, kr3, kr4, kr5, klr, kp0, kp1, kp2, kp3, mat, mw, mm, mh, S, B, rfl, rfl⟩ := h
  rcases f_sum S.1 S.2.1 mt x1 x2 with ⟨k, m, hkm, ha, hb⟩ | ⟨v, ha, hb⟩
  · simp only [List.mem_cons, List.not_mem_nil, or_false, Prod.mk.injEq] at hkm
    obtain ⟨rfl, rfl⟩ := hkm
    · exact ⟨1, 0, _, _, tL_sum_1 (W1 := []) (xX8_sum hnt ha) rfl (fun W q => by rw [q]), mX9_sum hb, fun W1 g1 hw => ⟨SW_mk S B hw rfl, (fun q => absurd q (by decide))⟩⟩
  · exact ⟨0, v, _, _, hL_sum (mX8_sum ha) rfl rfl, mX9_sum hb, fun W1 g1 hw => ⟨SW_mk S B hw.1 rfl, fun _ => hw.2⟩⟩
set_option maxHeartbeats 4000000 in
theorem ua_count (h : SW ad bd cI WC WM mt) {l : Launch} (hnt : l.stackTraces = false) (D : va_G) (cJ : ClassId) (od : Nat) (g : Nat → Int64) (x1 : Int32) : ∃ (k r : Int32) (PX : va_W → (Nat → Int64) → Prop) (WM' : va_W), nd_H l yL_count cL_count 4 [(0, 9, 12, 13)] D cI cJ od g [.ref (ad 0), .int x1, .ref od] WC PX k ∧ nd_C l yX9_count cX9_count 2 (some .int) 6 143 D [(cI, .int)] [.ref (bd 0), .int x1] WM WM' (some (.int r)) ∧ ∀ W1 g1, PX W1 g1 → SW ad bd cI W1 WM' k ∧ (k = 0 → g1 0 = r.toInt64) := by
  obtain ⟨ns, len, ms, msv, kc, ksv, mb, kbc, mf, mr, kit, kln, ken, kla, kfi, kea, kr0, kr1, kr2, kr3, kr4, kr5, klr, kp0, kp1, kp2, kp3, mat, mw, mm, mh, S, B, rfl, rfl⟩ := h
  rcases f_count S.1 S.2.1 mt (nI ns) x1 with ⟨k, m, hkm, ha, hb⟩ | ⟨v, ha, hb⟩
  · simp only [List.mem_cons, List.not_mem_nil, or_false, Prod.mk.injEq] at hkm
    obtain ⟨rfl, rfl⟩ := hkm
    · exact ⟨1, 0, _, _, tL_count_1 (W1 := []) (xX8_count hnt ha) rfl (fun W q => by rw [q]), mX9_count hb, fun W1 g1 hw => ⟨SW_mk S B hw rfl, (fun q => absurd q (by decide))⟩⟩
  · exact ⟨0, v, _, _, hL_count (mX8_count ha) rfl rfl, mX9_count hb, fun W1 g1 hw => ⟨SW_mk S B hw.1 rfl, fun _ => hw.2⟩⟩
set_option maxHeartbeats 4000000 in
theorem ua_fits (h : SW ad bd cI WC WM mt) {l : Launch} (hnt : l.stackTraces = false) (D : va_G) (cJ : ClassId) (od : Nat) (g : Nat → Int64) (x1 x2 : Int32) : ∃ (k r : Int32) (PX : va_W → (Nat → Int64) → Prop) (WM' : va_W), nd_H l yL_fits cL_fits 5 [(0, 10, 13, 21)] D cI cJ od g [.ref (ad 0), .int x1, .int x2, .ref od] WC PX k ∧ nd_C l yX9_fits cX9_fits 3 (some .int) 4 88 D [(cI, .int)] [.ref (bd 0), .int x1, .int x2] WM WM' (some (.int r)) ∧ ∀ W1 g1, PX W1 g1 → SW ad bd cI W1 WM' k ∧ (k = 0 → g1 0 = r.toInt64) := by
  obtain ⟨ns, len, ms, msv, kc, ksv, mb, kbc, mf, mr, kit, kln, ken, kla, kfi, kea, kr0, kr1, kr2, kr3, kr4, kr5, klr, kp0, kp1, kp2, kp3, mat, mw, mm, mh, S, B, rfl, rfl⟩ := h
  rcases f_fits S.1 S.2.1 mt x1 x2 with ⟨k, m, hkm, ha, hb⟩ | ⟨v, ha, hb⟩
  · simp only [List.mem_cons, List.not_mem_nil, or_false, Prod.mk.injEq] at hkm
    obtain ⟨rfl, rfl⟩ := hkm
    · exact ⟨1, 0, _, _, tL_fits_3 (W1 := []) (xX8_fits hnt ha) rfl (fun W q => by rw [q]), mX9_fits hb, fun W1 g1 hw => ⟨SW_mk S B hw rfl, (fun q => absurd q (by decide))⟩⟩
  · exact ⟨0, v, _, _, hL_fits (mX8_fits ha) rfl rfl, mX9_fits hb, fun W1 g1 hw => ⟨SW_mk S B hw.1 rfl, fun _ => hw.2⟩⟩
set_option maxHeartbeats 4000000 in
theorem ua_undo (h : SW ad bd cI WC WM mt) {l : Launch} (hnt : l.stackTraces = false) (D : va_G) (cJ : ClassId) (od : Nat) (g : Nat → Int64) : ∃ (k r : Int32) (PX : va_W → (Nat → Int64) → Prop) (WM' : va_W), nd_H l yL_undo cL_undo 3 [(0, 8, 11, 15)] D cI cJ od g [.ref (ad 0), .ref od] WC PX k ∧ nd_C l yX9_undo cX9_undo 2 (some .int) 1 21 D [(cI, .int)] [.ref (bd 0)] WM WM' (some (.int r)) ∧ ∀ W1 g1, PX W1 g1 → SW ad bd cI W1 WM' k ∧ (k = 0 → g1 0 = r.toInt64) := by
  obtain ⟨ns, len, ms, msv, kc, ksv, mb, kbc, mf, mr, kit, kln, ken, kla, kfi, kea, kr0, kr1, kr2, kr3, kr4, kr5, klr, kp0, kp1, kp2, kp3, mat, mw, mm, mh, S, B, rfl, rfl⟩ := h
  rcases f_undo S mt with ⟨ha, hb⟩ | ⟨v, ms', kc', n, ha, hb, S'⟩
  · exact ⟨1, 0, _, _, tL_undo_2 (W1 := []) (xX8_undo hnt ha) rfl (fun W q => by rw [q]), mX9_undo hb, fun W1 g1 hw => ⟨SW_mk S B hw rfl, (fun q => absurd q (by decide))⟩⟩
  · exact ⟨0, v, _, _, hL_undo (mX8_undo ha) rfl rfl, mX9_undo hb, fun W1 g1 hw => ⟨SW_mk S' B hw.1 rfl, fun _ => hw.2⟩⟩
set_option maxHeartbeats 4000000 in
theorem ua_append (h : SW ad bd cI WC WM mt) {l : Launch} (hnt : l.stackTraces = false) (D : va_G) (cJ : ClassId) (od : Nat) (g : Nat → Int64) (x1 : Int32) : ∃ (k r : Int32) (PX : va_W → (Nat → Int64) → Prop) (WM' : va_W), nd_H l yL_append cL_append 4 [(0, 9, 12, 13), (0, 9, 15, 15)] D cI cJ od g [.ref (ad 0), .int x1, .ref od] WC PX k ∧ nd_C l yX9_append cX9_append 2 (some .int) 1 22 D [(cI, .int)] [.ref (bd 0), .int x1] WM WM' (some (.int r)) ∧ ∀ W1 g1, PX W1 g1 → SW ad bd cI W1 WM' k ∧ (k = 0 → g1 0 = r.toInt64) := by
  obtain ⟨ns, len, ms, msv, kc, ksv, mb, kbc, mf, mr, kit, kln, ken, kla, kfi, kea, kr0, kr1, kr2, kr3, kr4, kr5, klr, kp0, kp1, kp2, kp3, mat, mw, mm, mh, S, B, rfl, rfl⟩ := h
  rcases f_append B mt x1 with ⟨k, m, hkm, ha, hb⟩ | ⟨mb', kbc', ha, hb, B'⟩
  · simp only [List.mem_cons, List.not_mem_nil, or_false, Prod.mk.injEq] at hkm
    rcases hkm with ⟨rfl, rfl⟩ | ⟨rfl, rfl⟩
    · exact ⟨1, 0, _, _, tL_append_1 (W1 := []) (xX8_append hnt ha) rfl (fun W q => by rw [q]), mX9_append hb, fun W1 g1 hw => ⟨SW_mk S B hw rfl, (fun q => absurd q (by decide))⟩⟩
    · exact ⟨2, 0, _, _, tL_append_2 (W1 := []) (xX8_append hnt ha) rfl (fun W q => by rw [q]), mX9_append hb, fun W1 g1 hw => ⟨SW_mk S B hw rfl, (fun q => absurd q (by decide))⟩⟩
  · exact ⟨0, nI (len + 1), _, _, hL_append (mX8_append ha) rfl rfl, mX9_append hb, fun W1 g1 hw => ⟨SW_mk S B' hw.1 rfl, fun _ => hw.2⟩⟩
set_option maxHeartbeats 4000000 in
theorem ua_paste (h : SW ad bd cI WC WM mt) {l : Launch} (hnt : l.stackTraces = false) (D : va_G) (cJ : ClassId) (od : Nat) (g : Nat → Int64) (x1 : Int32) : ∃ (k r : Int32) (PX : va_W → (Nat → Int64) → Prop) (WM' : va_W), nd_H l yL_paste cL_paste 4 [(0, 9, 12, 21), (0, 9, 15, 13)] D cI cJ od g [.ref (ad 0), .int x1, .ref od] WC PX k ∧ nd_C l yX9_paste cX9_paste 5 (some .int) 4 88 D [(cI, .int)] [.ref (bd 0), .int x1] WM WM' (some (.int r)) ∧ ∀ W1 g1, PX W1 g1 → SW ad bd cI W1 WM' k ∧ (k = 0 → g1 0 = r.toInt64) := by
  obtain ⟨ns, len, ms, msv, kc, ksv, mb, kbc, mf, mr, kit, kln, ken, kla, kfi, kea, kr0, kr1, kr2, kr3, kr4, kr5, klr, kp0, kp1, kp2, kp3, mat, mw, mm, mh, S, B, rfl, rfl⟩ := h
  rcases f_paste (mr := mr) S B kit mt mat mw mm kr0 kr1 kr2 kr3 kr4 kr5 x1 with ⟨k, m, hkm, ha, mr', at', w', M', hb⟩ | ⟨v, ms', msv', kc', ksv', ns', T, mr', at', w', M', ha, hb, S'⟩
  · simp only [List.mem_cons, List.not_mem_nil, or_false, Prod.mk.injEq] at hkm
    rcases hkm with ⟨rfl, rfl⟩ | ⟨rfl, rfl⟩
    · exact ⟨1, 0, _, _, tL_paste_3 (W1 := []) (xX8_paste hnt ha) rfl (fun W q => by obtain ⟨_, _, _, _, _, _, _, rfl⟩ := q; rfl), mX9_paste hb, fun W1 g1 hw => ⟨by obtain ⟨_, _, _, _, _, _, _, hw⟩ := hw; exact SW_mk S B hw rfl, (fun q => absurd q (by decide))⟩⟩
    · exact ⟨2, 0, _, _, tL_paste_1 (W1 := []) (xX8_paste hnt ha) rfl (fun W q => by obtain ⟨_, _, _, _, _, _, _, rfl⟩ := q; rfl), mX9_paste hb, fun W1 g1 hw => ⟨by obtain ⟨_, _, _, _, _, _, _, hw⟩ := hw; exact SW_mk S B hw rfl, (fun q => absurd q (by decide))⟩⟩
  · exact ⟨0, v, _, _, hL_paste (mX8_paste ha) rfl rfl, mX9_paste hb, fun W1 g1 hw => ⟨SW_mk S' (BU_0 B) hw.1 rfl, fun _ => hw.2⟩⟩
set_option maxHeartbeats 4000000 in
theorem ua_line (h : SW ad bd cI WC WM mt) {l : Launch} (hnt : l.stackTraces = false) (D : va_G) (cJ : ClassId) (od : Nat) (g : Nat → Int64) (x1 x2 x3 : Int32) : ∃ (k r : Int32) (PX : va_W → (Nat → Int64) → Prop) (WM' : va_W), nd_H l yL_line cL_line 6 [(0, 12, 15, 13)] D cI cJ od g [.ref (ad 0), .int x1, .int x2, .int x3, .ref od] WC PX k ∧ nd_C l yX9_line cX9_line 4 (some .int) 5 117 D [(cI, .int)] [.ref (bd 0), .int x1, .int x2, .int x3] WM WM' (some (.int r)) ∧ ∀ W1 g1, PX W1 g1 → SW ad bd cI W1 WM' k ∧ (k = 0 → g1 0 = r.toInt64) := by
  obtain ⟨ns, len, ms, msv, kc, ksv, mb, kbc, mf, mr, kit, kln, ken, kla, kfi, kea, kr0, kr1, kr2, kr3, kr4, kr5, klr, kp0, kp1, kp2, kp3, mat, mw, mm, mh, S, B, rfl, rfl⟩ := h
  rcases f_line S.1 S.2.1 kln klr mt x1 x2 x3 with ⟨ha, hb⟩ | ⟨v, kln', klr', ha, hb⟩
  · exact ⟨1, 0, _, _, tL_line_1 (W1 := []) (xX8_line hnt ha) rfl (fun W q => by rw [q]), mX9_line hb, fun W1 g1 hw => ⟨SW_mk S B hw rfl, (fun q => absurd q (by decide))⟩⟩
  · exact ⟨0, v, _, _, hL_line (mX8_line ha) rfl rfl, mX9_line hb, fun W1 g1 hw => ⟨SW_mk S B hw.1 rfl, fun _ => hw.2⟩⟩
set_option maxHeartbeats 4000000 in
theorem ua_longest (h : SW ad bd cI WC WM mt) {l : Launch} (hnt : l.stackTraces = false) (D : va_G) (cJ : ClassId) (od : Nat) (g : Nat → Int64) (x1 : Int32) : ∃ (k r : Int32) (PX : va_W → (Nat → Int64) → Prop) (WM' : va_W), nd_H l yL_longest cL_longest 4 [(0, 9, 12, 13)] D cI cJ od g [.ref (ad 0), .int x1, .ref od] WC PX k ∧ nd_C l yX9_longest cX9_longest 2 (some .int) 5 120 D [(cI, .int)] [.ref (bd 0), .int x1] WM WM' (some (.int r)) ∧ ∀ W1 g1, PX W1 g1 → SW ad bd cI W1 WM' k ∧ (k = 0 → g1 0 = r.toInt64) := by
  obtain ⟨ns, len, ms, msv, kc, ksv, mb, kbc, mf, mr, kit, kln, ken, kla, kfi, kea, kr0, kr1, kr2, kr3, kr4, kr5, klr, kp0, kp1, kp2, kp3, mat, mw, mm, mh, S, B, rfl, rfl⟩ := h
  rcases f_longest (lg_ok S.1 S.2.1) ken kla kfi kea mf kp0 kp1 kp2 kp3 mt x1 with ⟨ha, hb⟩ | ⟨v, ken', kla', kfi', kea', mf', p0', p1', p2', p3', ha, hb⟩
  · exact ⟨1, 0, _, _, tL_longest_1 (W1 := []) (xX8_longest hnt ha) rfl (fun W q => by rw [q]), mX9_longest hb, fun W1 g1 hw => ⟨SW_mk S B hw rfl, (fun q => absurd q (by decide))⟩⟩
  · exact ⟨0, v, _, _, hL_longest (mX8_longest ha) rfl rfl, mX9_longest hb, fun W1 g1 hw => ⟨SW_mk S B hw.1 rfl, fun _ => hw.2⟩⟩
set_option maxHeartbeats 4000000 in
theorem v_joinClear (h : SW ad bd cI WC WM mt) (l : Launch) (D : va_G) : ∃ (r : Int32) (WC' WM' : va_W) (k : Int32), nd_C l yX8_joinClear cX8_joinClear 1 (some .int) 6 135 D [(cI, .int)] [.ref (ad 0)] WC WC' (some (.int r)) ∧ nd_C l yX9_joinClear cX9_joinClear 3 (some .int) 6 133 D [(cI, .int)] [.ref (bd 0)] WM WM' (some (.int r)) ∧ SW ad bd cI WC' WM' k := by
  obtain ⟨ns, len, ms, msv, kc, ksv, mb, kbc, mf, mr, kit, kln, ken, kla, kfi, kea, kr0, kr1, kr2, kr3, kr4, kr5, klr, kp0, kp1, kp2, kp3, mat, mw, mm, mh, S, B, rfl, rfl⟩ := h
  obtain ⟨v, ms', msv', kc', ksv', ns', ha, hb, S'⟩ := f_joinClear S mt
  exact ⟨v, _, _, 0, mX8_joinClear ha, mX9_joinClear hb, SW_mk S' B rfl rfl⟩
set_option maxHeartbeats 4000000 in
theorem v_clearBuffer (h : SW ad bd cI WC WM mt) (l : Launch) (D : va_G) : ∃ (r : Int32) (WC' WM' : va_W) (k : Int32), nd_C l yX8_clearBuffer cX8_clearBuffer 2 (some .int) 1 20 D [(cI, .int)] [.ref (ad 0)] WC WC' (some (.int r)) ∧ nd_C l yX9_clearBuffer cX9_clearBuffer 2 (some .int) 0 0 D [(cI, .int)] [.ref (bd 0)] WM WM' (some (.int r)) ∧ SW ad bd cI WC' WM' k := by
  obtain ⟨ns, len, ms, msv, kc, ksv, mb, kbc, mf, mr, kit, kln, ken, kla, kfi, kea, kr0, kr1, kr2, kr3, kr4, kr5, klr, kp0, kp1, kp2, kp3, mat, mw, mm, mh, S, B, rfl, rfl⟩ := h
  exact ⟨nI len, _, _, 0, mX8_clearBuffer (f_clearBuffer mt).1, mX9_clearBuffer (f_clearBuffer mt).2, SW_mk S (BU_0 B) rfl rfl⟩
set_option maxHeartbeats 4000000 in
theorem v_firstError (h : SW ad bd cI WC WM mt) (l : Launch) (D : va_G) : ∃ (r : Int32) (WC' WM' : va_W) (k : Int32), nd_C l yX8_firstError cX8_firstError 1 (some .int) 5 105 D [(cI, .int)] [.ref (ad 0)] WC WC' (some (.int r)) ∧ nd_C l yX9_firstError cX9_firstError 1 (some .int) 4 87 D [(cI, .int)] [.ref (bd 0)] WM WM' (some (.int r)) ∧ SW ad bd cI WC' WM' k := by
  obtain ⟨ns, len, ms, msv, kc, ksv, mb, kbc, mf, mr, kit, kln, ken, kla, kfi, kea, kr0, kr1, kr2, kr3, kr4, kr5, klr, kp0, kp1, kp2, kp3, mat, mw, mm, mh, S, B, rfl, rfl⟩ := h
  obtain ⟨v, T, mr', w, M, ha, hb⟩ := f_firstError B mr kit mt mat mw mm kr0 kr1 kr2 kr3 kr4 kr5
  exact ⟨v, _, _, 0, mX8_firstError ha, mX9_firstError hb, SW_mk S B rfl rfl⟩
set_option maxHeartbeats 4000000 in
theorem v_hidden (h : SW ad bd cI WC WM mt) (l : Launch) (D : va_G) : ∃ (r : Int32) (WC' WM' : va_W) (k : Int32), nd_C l yX8_hidden cX8_hidden 1 (some .int) 4 89 D [(cI, .int)] [.ref (ad 0)] WC WC' (some (.int r)) ∧ nd_C l yX9_hidden cX9_hidden 1 (some .int) 4 100 D [(cI, .int)] [.ref (bd 0)] WM WM' (some (.int r)) ∧ SW ad bd cI WC' WM' k := by
  obtain ⟨ns, len, ms, msv, kc, ksv, mb, kbc, mf, mr, kit, kln, ken, kla, kfi, kea, kr0, kr1, kr2, kr3, kr4, kr5, klr, kp0, kp1, kp2, kp3, mat, mw, mm, mh, S, B, rfl, rfl⟩ := h
  obtain ⟨v, ha, hb⟩ := f_hidden S.1 S.2.1 mt
  exact ⟨v, _, _, 0, mX8_hidden ha, mX9_hidden hb, SW_mk S B rfl rfl⟩
set_option maxHeartbeats 4000000 in
theorem v_suspect (h : SW ad bd cI WC WM mt) (l : Launch) (D : va_G) : ∃ (r : Int32) (WC' WM' : va_W) (k : Int32), nd_C l yX8_suspect cX8_suspect 1 (some .int) 5 115 D [(cI, .int)] [.ref (ad 0)] WC WC' (some (.int r)) ∧ nd_C l yX9_suspect cX9_suspect 1 (some .int) 5 126 D [(cI, .int)] [.ref (bd 0)] WM WM' (some (.int r)) ∧ SW ad bd cI WC' WM' k := by
  obtain ⟨ns, len, ms, msv, kc, ksv, mb, kbc, mf, mr, kit, kln, ken, kla, kfi, kea, kr0, kr1, kr2, kr3, kr4, kr5, klr, kp0, kp1, kp2, kp3, mat, mw, mm, mh, S, B, rfl, rfl⟩ := h
  obtain ⟨v, ha, hb⟩ := f_suspect S.1 S.2.1 mt
  exact ⟨v, _, _, 0, mX8_suspect ha, mX9_suspect hb, SW_mk S B rfl rfl⟩
set_option maxHeartbeats 4000000 in
theorem v_rightShare (h : SW ad bd cI WC WM mt) (l : Launch) (D : va_G) : ∃ (r : UInt64) (WC' WM' : va_W) (k : Int32), nd_C l yX8_rightShare cX8_rightShare 1 (some .double) 5 113 D [(cI, .int)] [.ref (ad 0)] WC WC' (some (.double r)) ∧ nd_C l yX9_rightShare cX9_rightShare 1 (some .double) 5 119 D [(cI, .int)] [.ref (bd 0)] WM WM' (some (.double r)) ∧ SW ad bd cI WC' WM' k := by
  obtain ⟨ns, len, ms, msv, kc, ksv, mb, kbc, mf, mr, kit, kln, ken, kla, kfi, kea, kr0, kr1, kr2, kr3, kr4, kr5, klr, kp0, kp1, kp2, kp3, mat, mw, mm, mh, S, B, rfl, rfl⟩ := h
  obtain ⟨v, ha, hb⟩ := f_rightShare S.1 S.2.1 mt
  exact ⟨v, _, _, 0, mX8_rightShare ha, mX9_rightShare hb, SW_mk S B rfl rfl⟩
set_option maxHeartbeats 4000000 in
theorem v_digest (h : SW ad bd cI WC WM mt) (l : Launch) (D : va_G) : ∃ (r : Int64) (WC' WM' : va_W) (k : Int32), nd_C l yX8_digest cX8_digest 3 (some .long) 6 139 D [(cI, .int)] [.ref (ad 0)] WC WC' (some (.long r)) ∧ nd_C l yX9_digest cX9_digest 2 (some .long) 7 155 D [(cI, .int)] [.ref (bd 0)] WM WM' (some (.long r)) ∧ SW ad bd cI WC' WM' k := by
  obtain ⟨ns, len, ms, msv, kc, ksv, mb, kbc, mf, mr, kit, kln, ken, kla, kfi, kea, kr0, kr1, kr2, kr3, kr4, kr5, klr, kp0, kp1, kp2, kp3, mat, mw, mm, mh, S, B, rfl, rfl⟩ := h
  obtain ⟨H, kln', ken', kla', kfi', kea', mf', klr', p0', p1', p2', p3', mh', ha, hb⟩ := f_digest S.1 S.2.1 B (lg_ok S.1 S.2.1) (nI ns) kln ken kla kfi kea mf klr kp0 kp1 kp2 kp3 mt mh
  exact ⟨H, _, _, 0, mX8_digest ha, mX9_digest hb, SW_mk S B rfl rfl⟩
end SWS
