def tX8_append_0 : List (Nat × Instr × Nat) := [(0, .iload_n 1, 1), (1, .bipush 33, 2), (3, .if_icmp .lt 9, 3), (6, .iload_n 1, 1), (7, .bipush 126, 2), (9, .if_icmp .le 13, 3), (12, .new 48, 3), (15, .dup, 1), (16, .ldc 132, 2), (18, .invokespecial 52, 3), (21, .athrow, 1), (22, .aload_n 0, 1), (23, .getfield 19, 3), (26, .invokevirtual 134, 3), (29, .bipush 60, 2), (31, .if_icmp .lt 13, 3), (34, .new 59, 3), (37, .dup, 1), (38, .ldc 137, 2), (40, .invokespecial 63, 3), (43, .athrow, 1), (44, .aload_n 0, 1), (45, .getfield 19, 3), (48, .iload_n 1, 1), (49, .invokevirtual 139, 3), (52, .aload_n 0, 1), (53, .getfield 19, 3), (56, .invokevirtual 134, 3), (59, .ireturn, 1)]
theorem tX8_append_0_ok : tX8_append_0.all (fun q => decide (decode cX8_append q.1 = .ok q.2)) = true := by decide +kernel
theorem dX8_append_0 : decode cX8_append 0 = .ok (.iload_n 1, 1) := td tX8_append_0_ok 0 (q := (0, .iload_n 1, 1)) rfl
theorem dX8_append_1 : decode cX8_append 1 = .ok (.bipush 33, 2) := td tX8_append_0_ok 1 (q := (1, .bipush 33, 2)) rfl
theorem dX8_append_3 : decode cX8_append 3 = .ok (.if_icmp .lt 9, 3) := td tX8_append_0_ok 2 (q := (3, .if_icmp .lt 9, 3)) rfl
theorem dX8_append_6 : decode cX8_append 6 = .ok (.iload_n 1, 1) := td tX8_append_0_ok 3 (q := (6, .iload_n 1, 1)) rfl
theorem dX8_append_7 : decode cX8_append 7 = .ok (.bipush 126, 2) := td tX8_append_0_ok 4 (q := (7, .bipush 126, 2)) rfl
theorem dX8_append_9 : decode cX8_append 9 = .ok (.if_icmp .le 13, 3) := td tX8_append_0_ok 5 (q := (9, .if_icmp .le 13, 3)) rfl
theorem dX8_append_12 : decode cX8_append 12 = .ok (.new 48, 3) := td tX8_append_0_ok 6 (q := (12, .new 48, 3)) rfl
theorem dX8_append_15 : decode cX8_append 15 = .ok (.dup, 1) := td tX8_append_0_ok 7 (q := (15, .dup, 1)) rfl
theorem dX8_append_16 : decode cX8_append 16 = .ok (.ldc 132, 2) := td tX8_append_0_ok 8 (q := (16, .ldc 132, 2)) rfl
theorem dX8_append_18 : decode cX8_append 18 = .ok (.invokespecial 52, 3) := td tX8_append_0_ok 9 (q := (18, .invokespecial 52, 3)) rfl
theorem dX8_append_21 : decode cX8_append 21 = .ok (.athrow, 1) := td tX8_append_0_ok 10 (q := (21, .athrow, 1)) rfl
theorem dX8_append_22 : decode cX8_append 22 = .ok (.aload_n 0, 1) := td tX8_append_0_ok 11 (q := (22, .aload_n 0, 1)) rfl
theorem dX8_append_23 : decode cX8_append 23 = .ok (.getfield 19, 3) := td tX8_append_0_ok 12 (q := (23, .getfield 19, 3)) rfl
theorem dX8_append_26 : decode cX8_append 26 = .ok (.invokevirtual 134, 3) := td tX8_append_0_ok 13 (q := (26, .invokevirtual 134, 3)) rfl
theorem dX8_append_29 : decode cX8_append 29 = .ok (.bipush 60, 2) := td tX8_append_0_ok 14 (q := (29, .bipush 60, 2)) rfl
theorem dX8_append_31 : decode cX8_append 31 = .ok (.if_icmp .lt 13, 3) := td tX8_append_0_ok 15 (q := (31, .if_icmp .lt 13, 3)) rfl
theorem dX8_append_34 : decode cX8_append 34 = .ok (.new 59, 3) := td tX8_append_0_ok 16 (q := (34, .new 59, 3)) rfl
theorem dX8_append_37 : decode cX8_append 37 = .ok (.dup, 1) := td tX8_append_0_ok 17 (q := (37, .dup, 1)) rfl
theorem dX8_append_38 : decode cX8_append 38 = .ok (.ldc 137, 2) := td tX8_append_0_ok 18 (q := (38, .ldc 137, 2)) rfl
theorem dX8_append_40 : decode cX8_append 40 = .ok (.invokespecial 63, 3) := td tX8_append_0_ok 19 (q := (40, .invokespecial 63, 3)) rfl
theorem dX8_append_43 : decode cX8_append 43 = .ok (.athrow, 1) := td tX8_append_0_ok 20 (q := (43, .athrow, 1)) rfl
theorem dX8_append_44 : decode cX8_append 44 = .ok (.aload_n 0, 1) := td tX8_append_0_ok 21 (q := (44, .aload_n 0, 1)) rfl
theorem dX8_append_45 : decode cX8_append 45 = .ok (.getfield 19, 3) := td tX8_append_0_ok 22 (q := (45, .getfield 19, 3)) rfl
theorem dX8_append_48 : decode cX8_append 48 = .ok (.iload_n 1, 1) := td tX8_append_0_ok 23 (q := (48, .iload_n 1, 1)) rfl
theorem dX8_append_49 : decode cX8_append 49 = .ok (.invokevirtual 139, 3) := td tX8_append_0_ok 24 (q := (49, .invokevirtual 139, 3)) rfl
theorem dX8_append_52 : decode cX8_append 52 = .ok (.aload_n 0, 1) := td tX8_append_0_ok 25 (q := (52, .aload_n 0, 1)) rfl
theorem dX8_append_53 : decode cX8_append 53 = .ok (.getfield 19, 3) := td tX8_append_0_ok 26 (q := (53, .getfield 19, 3)) rfl
theorem dX8_append_56 : decode cX8_append 56 = .ok (.invokevirtual 134, 3) := td tX8_append_0_ok 27 (q := (56, .invokevirtual 134, 3)) rfl
theorem dX8_append_59 : decode cX8_append 59 = .ok (.ireturn, 1) := td tX8_append_0_ok 28 (q := (59, .ireturn, 1)) rfl
def fX8_append (kbc : (Nat → Int32)) (kbl : Int32) (x1 : Int32) : Option (Nat ⊕ (Int32 × (Nat → Int32) × Int32)) :=
  (if x1 < (33 : Int32) then (some (.inl 1)) else (if x1 ≤ (126 : Int32) then (Option.bind (fX1_length kbl) (fun q3 => (if q3 < (60 : Int32) then (Option.bind (fX1_add kbc kbl x1) (fun q5 => (Option.bind (fX1_length q5.2) (fun q6 => (some (.inr (q6, q5.1, q5.2))))))) else (some (.inl 2))))) else (some (.inl 1))))
set_option maxHeartbeats 4000000 in
set_option maxRecDepth 100000 in
theorem mX8_append {l : Launch} {D : va_G} {ad : Nat → Nat} {cI : ClassId} {kc : (Nat → Int32)} {ksv : (Nat → Int32)} {kbc : (Nat → Int32)} {kit : (Nat → Int32)} {kln : (Nat → Int32)} {ken : (Nat → Int32)} {kla : (Nat → Int32)} {kfi : (Nat → Int32)} {kea : (Nat → Int32)} {kns : Int32} {kbl : Int32} {kr0 : Int32} {kr1 : Int32} {kr2 : Int32} {kr3 : Int32} {kr4 : Int32} {kr5 : Int32} {klr : Int32} {kp0 : Int32} {kp1 : Int32} {kp2 : Int32} {kp3 : Int32} {x1 : Int32} {r : Int32} {kbc' : (Nat → Int32)} {kbl' : Int32} (hs : fX8_append kbc kbl x1 = some (.inr (r, kbc', kbl'))) : nd_C l yX8_append cX8_append 2 (some .int) 1 21 D [(cI, .int)] [.ref (ad 0), .int x1] (CW ad cI kc ksv kbc kit kln ken kla kfi kea kns kbl kr0 kr1 kr2 kr3 kr4 kr5 klr kp0 kp1 kp2 kp3) (CW ad cI kc ksv kbc' kit kln ken kla kfi kea kns kbl' kr0 kr1 kr2 kr3 kr4 kr5 klr kp0 kp1 kp2 kp3) (some (.int r)) := by
  refine nd_ofCi (by decide) (Nat.le_of_ble_eq_true rfl) (fun p e s m args below meth c_ ls A Q hx hb hml hown hts hl hP hK hD hS hA hN hret => ?_)
  have hown : s.vm.findClass RX8 = some m.cls := hown
  have hl : lv_has ls 2 [(0, .ref (ad 0)), (1, .int x1)] := hl
  have hret : ∀ (z0 : Int32) (z1 : (Nat → Int32)) (z2 : Int32) {H : Heap} {locs : List Loc} {pc : Nat} {ls : Array Slot}, some (Sum.inr (α := Nat) (z0, z1, z2)) = some (.inr (r, kbc', kbl')) → va_P D vwCl (CW ad cI kc ksv z1 kit kln ken kla kfi kea kns z2 kr0 kr1 kr2 kr3 kr4 kr5 klr kp0 kp1 kp2 kp3) H → va_S A s.heap H locs → decode cX8_append pc = .ok (.ireturn, 1) → W p l e ⟨1, 0, 0, 21⟩ s m args below meth c_ H locs 0 0 Q (F0 m pc ls [.int z0]) := by
    intro z0 z1 z2 H locs pc ls h hP hS hd
    cases h
    exact hret hP hS hd
  rw [fX8_append] at hs
  refine lv_iload_n hx hb dX8_append_0 rfl (lv_at hl 1 rfl) ?_
  refine lv_bipush (v := (33 : Int32)) hx hb dX8_append_1 (by decide) ?_
  refine lv_icmp_lt (tgt := 12) hx hb dX8_append_3 (by decide) (fun b1 => ?_) (fun b1 => ?_)
  · have hs := ite_t hs b1
    cases hs
  · have hs := ite_f hs b1
    refine lv_iload_n hx hb dX8_append_6 rfl (lv_at hl 1 rfl) ?_
    refine lv_bipush (v := (126 : Int32)) hx hb dX8_append_7 (by decide) ?_
    refine lv_icmp_le (tgt := 22) hx hb dX8_append_9 (by decide) (fun b2 => ?_) (fun b2 => ?_)
    · have hs := ite_t hs b2
      refine lv_aload_n hx hb dX8_append_22 rfl (lv_at hl 0 rfl) ?_
      refine gf_X8_19 hx hb hts hown hK hP 0 rfl rfl dX8_append_23 ?_
      obtain ⟨q3, eq3, hs⟩ := ob hs
      refine nd_callV (As := []) (rest := []) (st1 := [.int q3]) hx hb hml hown hts hl hP hK hD hS hA hN (mX1_length eq3) iv_X1_length wd_177 2 rfl rfl rfl rfl ⟨Nat.le_of_ble_eq_true rfl, Nat.le_of_ble_eq_true rfl⟩ (Nat.le_of_ble_eq_true rfl) ⟨Nat.zero_le _, Nat.zero_le _⟩ dX8_append_26 rfl rfl (fun H locs hP hD hS => ?_)
      refine lv_bipush (v := (60 : Int32)) hx hb dX8_append_29 (by decide) ?_
      refine lv_icmp_lt (tgt := 44) hx hb dX8_append_31 (by decide) (fun b4 => ?_) (fun b4 => ?_)
      · have hs := ite_t hs b4
        refine lv_aload_n hx hb dX8_append_44 rfl (lv_at hl 0 rfl) ?_
        refine gf_X8_19 hx hb hts hown hK hP 0 rfl rfl dX8_append_45 ?_
        refine lv_iload_n hx hb dX8_append_48 rfl (lv_at hl 1 rfl) ?_
        obtain ⟨q5, eq5, hs⟩ := ob hs
        refine nd_callV (As := [.int x1]) (rest := []) (st1 := []) hx hb hml hown hts hl hP hK hD hS hA hN (mX1_add eq5) iv_X1_add wd_492 2 rfl rfl rfl rfl ⟨Nat.le_of_ble_eq_true rfl, Nat.le_of_ble_eq_true rfl⟩ (Nat.le_of_ble_eq_true rfl) ⟨Nat.zero_le _, Nat.zero_le _⟩ dX8_append_49 rfl rfl (fun H locs hP hD hS => ?_)
        refine lv_aload_n hx hb dX8_append_52 rfl (lv_at hl 0 rfl) ?_
        refine gf_X8_19 hx hb hts hown hK hP 0 rfl rfl dX8_append_53 ?_
        obtain ⟨q6, eq6, hs⟩ := ob hs
        refine nd_callV (As := []) (rest := []) (st1 := [.int q6]) hx hb hml hown hts hl hP hK hD hS hA hN (mX1_length eq6) iv_X1_length wd_177 2 rfl rfl rfl rfl ⟨Nat.le_of_ble_eq_true rfl, Nat.le_of_ble_eq_true rfl⟩ (Nat.le_of_ble_eq_true rfl) ⟨Nat.zero_le _, Nat.zero_le _⟩ dX8_append_56 rfl rfl (fun H locs hP hD hS => ?_)
        exact hret _ _ _ hs hP hS dX8_append_59
      · have hs := ite_f hs b4
        cases hs
    · have hs := ite_f hs b2
      cases hs
set_option maxHeartbeats 4000000 in
set_option maxRecDepth 100000 in
theorem xX8_append {l : Launch} (hnt : l.stackTraces = false) {D : va_G} {ad : Nat → Nat} {cI : ClassId} {kc : (Nat → Int32)} {ksv : (Nat → Int32)} {kbc : (Nat → Int32)} {kit : (Nat → Int32)} {kln : (Nat → Int32)} {ken : (Nat → Int32)} {kla : (Nat → Int32)} {kfi : (Nat → Int32)} {kea : (Nat → Int32)} {kns : Int32} {kbl : Int32} {kr0 : Int32} {kr1 : Int32} {kr2 : Int32} {kr3 : Int32} {kr4 : Int32} {kr5 : Int32} {klr : Int32} {kp0 : Int32} {kp1 : Int32} {kp2 : Int32} {kp3 : Int32} {x1 : Int32} {k : Nat} (hs : fX8_append kbc kbl x1 = some (.inl k)) : nd_CX l yX8_append cX8_append 2 (some .int) 6 82 D [(cI, .int)] [.ref (ad 0), .int x1] (CW ad cI kc ksv kbc kit kln ken kla kfi kea kns kbl kr0 kr1 kr2 kr3 kr4 kr5 klr kp0 kp1 kp2 kp3) (fun W1 => W1 = (CW ad cI kc ksv kbc kit kln ken kla kfi kea kns kbl kr0 kr1 kr2 kr3 kr4 kr5 klr kp0 kp1 kp2 kp3)) k := by
  refine nd_ofX (by decide) (Nat.le_of_ble_eq_true rfl) (fun p e s m args below meth c_ ls A hx hb hml hown hts hl hP hK hD hS hA hN hX hxt hlocks hAe => ?_)
  have hown : s.vm.findClass RX8 = some m.cls := hown
  have hl : lv_has ls 2 [(0, .ref (ad 0)), (1, .int x1)] := hl
  rw [fX8_append] at hs
  refine lv_iload_n hx hb dX8_append_0 rfl (lv_at hl 1 rfl) ?_
  refine lv_bipush (v := (33 : Int32)) hx hb dX8_append_1 (by decide) ?_
  refine lv_icmp_lt (tgt := 12) hx hb dX8_append_3 (by decide) (fun b1 => ?_) (fun b1 => ?_)
  · have hs := ite_t hs b1
    cases hs
    exact nd_thr1 hx hb hnt hown hts hX hS (hl.1.trans hml.symm) (is := 132) str_132 dX8_append_12 dX8_append_15 dX8_append_16 dX8_append_18 dX8_append_21 hxt hlocks rfl hP hAe (Nat.le_of_ble_eq_true rfl) (Nat.le_of_ble_eq_true rfl)
  · have hs := ite_f hs b1
    refine lv_iload_n hx hb dX8_append_6 rfl (lv_at hl 1 rfl) ?_
    refine lv_bipush (v := (126 : Int32)) hx hb dX8_append_7 (by decide) ?_
    refine lv_icmp_le (tgt := 22) hx hb dX8_append_9 (by decide) (fun b2 => ?_) (fun b2 => ?_)
    · have hs := ite_t hs b2
      refine lv_aload_n hx hb dX8_append_22 rfl (lv_at hl 0 rfl) ?_
      refine gf_X8_19 hx hb hts hown hK hP 0 rfl rfl dX8_append_23 ?_
      obtain ⟨q3, eq3, hs⟩ := ob hs
      refine nd_callV (As := []) (rest := []) (st1 := [.int q3]) hx hb hml hown hts hl hP hK hD hS hA hN (mX1_length eq3) iv_X1_length wd_177 2 rfl rfl rfl rfl ⟨Nat.le_of_ble_eq_true rfl, Nat.le_of_ble_eq_true rfl⟩ (Nat.le_of_ble_eq_true rfl) ⟨Nat.zero_le _, Nat.zero_le _⟩ dX8_append_26 rfl rfl (fun H locs hP hD hS => ?_)
      refine lv_bipush (v := (60 : Int32)) hx hb dX8_append_29 (by decide) ?_
      refine lv_icmp_lt (tgt := 44) hx hb dX8_append_31 (by decide) (fun b4 => ?_) (fun b4 => ?_)
      · have hs := ite_t hs b4
        refine lv_aload_n hx hb dX8_append_44 rfl (lv_at hl 0 rfl) ?_
        refine gf_X8_19 hx hb hts hown hK hP 0 rfl rfl dX8_append_45 ?_
        refine lv_iload_n hx hb dX8_append_48 rfl (lv_at hl 1 rfl) ?_
        obtain ⟨q5, eq5, hs⟩ := ob hs
        refine nd_callV (As := [.int x1]) (rest := []) (st1 := []) hx hb hml hown hts hl hP hK hD hS hA hN (mX1_add eq5) iv_X1_add wd_492 2 rfl rfl rfl rfl ⟨Nat.le_of_ble_eq_true rfl, Nat.le_of_ble_eq_true rfl⟩ (Nat.le_of_ble_eq_true rfl) ⟨Nat.zero_le _, Nat.zero_le _⟩ dX8_append_49 rfl rfl (fun H locs hP hD hS => ?_)
        refine lv_aload_n hx hb dX8_append_52 rfl (lv_at hl 0 rfl) ?_
        refine gf_X8_19 hx hb hts hown hK hP 0 rfl rfl dX8_append_53 ?_
        obtain ⟨q6, eq6, hs⟩ := ob hs
        refine nd_callV (As := []) (rest := []) (st1 := [.int q6]) hx hb hml hown hts hl hP hK hD hS hA hN (mX1_length eq6) iv_X1_length wd_177 2 rfl rfl rfl rfl ⟨Nat.le_of_ble_eq_true rfl, Nat.le_of_ble_eq_true rfl⟩ (Nat.le_of_ble_eq_true rfl) ⟨Nat.zero_le _, Nat.zero_le _⟩ dX8_append_56 rfl rfl (fun H locs hP hD hS => ?_)
        cases hs
      · have hs := ite_f hs b4
        cases hs
        exact nd_thr2 hx hb hnt hown hts hX hS (hl.1.trans hml.symm) (is := 137) str_137 dX8_append_34 dX8_append_37 dX8_append_38 dX8_append_40 dX8_append_43 hxt hlocks rfl hP hAe (Nat.le_of_ble_eq_true rfl) (Nat.le_of_ble_eq_true rfl)
    · have hs := ite_f hs b2
      cases hs
      exact nd_thr1 hx hb hnt hown hts hX hS (hl.1.trans hml.symm) (is := 132) str_132 dX8_append_12 dX8_append_15 dX8_append_16 dX8_append_18 dX8_append_21 hxt hlocks rfl hP hAe (Nat.le_of_ble_eq_true rfl) (Nat.le_of_ble_eq_true rfl)
def tX8_clearBuffer_0 : List (Nat × Instr × Nat) := [(0, .aload_n 0, 1), (1, .getfield 19, 3), (4, .invokevirtual 134, 3), (7, .istore_n 1, 1), (8, .aload_n 0, 1), (9, .getfield 19, 3), (12, .invokevirtual 85, 3), (15, .iload_n 1, 1), (16, .ireturn, 1)]
theorem tX8_clearBuffer_0_ok : tX8_clearBuffer_0.all (fun q => decide (decode cX8_clearBuffer q.1 = .ok q.2)) = true := by decide +kernel
theorem dX8_clearBuffer_0 : decode cX8_clearBuffer 0 = .ok (.aload_n 0, 1) := td tX8_clearBuffer_0_ok 0 (q := (0, .aload_n 0, 1)) rfl
theorem dX8_clearBuffer_1 : decode cX8_clearBuffer 1 = .ok (.getfield 19, 3) := td tX8_clearBuffer_0_ok 1 (q := (1, .getfield 19, 3)) rfl
theorem dX8_clearBuffer_4 : decode cX8_clearBuffer 4 = .ok (.invokevirtual 134, 3) := td tX8_clearBuffer_0_ok 2 (q := (4, .invokevirtual 134, 3)) rfl
theorem dX8_clearBuffer_7 : decode cX8_clearBuffer 7 = .ok (.istore_n 1, 1) := td tX8_clearBuffer_0_ok 3 (q := (7, .istore_n 1, 1)) rfl
theorem dX8_clearBuffer_8 : decode cX8_clearBuffer 8 = .ok (.aload_n 0, 1) := td tX8_clearBuffer_0_ok 4 (q := (8, .aload_n 0, 1)) rfl
theorem dX8_clearBuffer_9 : decode cX8_clearBuffer 9 = .ok (.getfield 19, 3) := td tX8_clearBuffer_0_ok 5 (q := (9, .getfield 19, 3)) rfl
theorem dX8_clearBuffer_12 : decode cX8_clearBuffer 12 = .ok (.invokevirtual 85, 3) := td tX8_clearBuffer_0_ok 6 (q := (12, .invokevirtual 85, 3)) rfl
theorem dX8_clearBuffer_15 : decode cX8_clearBuffer 15 = .ok (.iload_n 1, 1) := td tX8_clearBuffer_0_ok 7 (q := (15, .iload_n 1, 1)) rfl
theorem dX8_clearBuffer_16 : decode cX8_clearBuffer 16 = .ok (.ireturn, 1) := td tX8_clearBuffer_0_ok 8 (q := (16, .ireturn, 1)) rfl
def fX8_clearBuffer (kbl : Int32) : Option (Int32 × Int32) :=
  (Option.bind (fX1_length kbl) (fun q1 => (Option.bind (fX1_clear kbl) (fun q2 => (some (q1, q2))))))
set_option maxHeartbeats 4000000 in
set_option maxRecDepth 100000 in
theorem mX8_clearBuffer {l : Launch} {D : va_G} {ad : Nat → Nat} {cI : ClassId} {kc : (Nat → Int32)} {ksv : (Nat → Int32)} {kbc : (Nat → Int32)} {kit : (Nat → Int32)} {kln : (Nat → Int32)} {ken : (Nat → Int32)} {kla : (Nat → Int32)} {kfi : (Nat → Int32)} {kea : (Nat → Int32)} {kns : Int32} {kbl : Int32} {kr0 : Int32} {kr1 : Int32} {kr2 : Int32} {kr3 : Int32} {kr4 : Int32} {kr5 : Int32} {klr : Int32} {kp0 : Int32} {kp1 : Int32} {kp2 : Int32} {kp3 : Int32} {r : Int32} {kbl' : Int32} (hs : fX8_clearBuffer kbl = some (r, kbl')) : nd_C l yX8_clearBuffer cX8_clearBuffer 2 (some .int) 1 20 D [(cI, .int)] [.ref (ad 0)] (CW ad cI kc ksv kbc kit kln ken kla kfi kea kns kbl kr0 kr1 kr2 kr3 kr4 kr5 klr kp0 kp1 kp2 kp3) (CW ad cI kc ksv kbc kit kln ken kla kfi kea kns kbl' kr0 kr1 kr2 kr3 kr4 kr5 klr kp0 kp1 kp2 kp3) (some (.int r)) := by
  refine nd_ofCi (by decide) (Nat.le_of_ble_eq_true rfl) (fun p e s m args below meth c_ ls A Q hx hb hml hown hts hl hP hK hD hS hA hN hret => ?_)
  have hown : s.vm.findClass RX8 = some m.cls := hown
  have hl : lv_has ls 2 [(0, .ref (ad 0))] := hl
  have hret : ∀ (z0 : Int32) (z1 : Int32) {H : Heap} {locs : List Loc} {pc : Nat} {ls : Array Slot}, some (z0, z1) = some (r, kbl') → va_P D vwCl (CW ad cI kc ksv kbc kit kln ken kla kfi kea kns z1 kr0 kr1 kr2 kr3 kr4 kr5 klr kp0 kp1 kp2 kp3) H → va_S A s.heap H locs → decode cX8_clearBuffer pc = .ok (.ireturn, 1) → W p l e ⟨1, 0, 0, 20⟩ s m args below meth c_ H locs 0 0 Q (F0 m pc ls [.int z0]) := by
    intro z0 z1 H locs pc ls h hP hS hd
    cases h
    exact hret hP hS hd
  rw [fX8_clearBuffer] at hs
  refine lv_aload_n hx hb dX8_clearBuffer_0 rfl (lv_at hl 0 rfl) ?_
  refine gf_X8_19 hx hb hts hown hK hP 0 rfl rfl dX8_clearBuffer_1 ?_
  obtain ⟨q1, eq1, hs⟩ := ob hs
  refine nd_callV (As := []) (rest := []) (st1 := [.int q1]) hx hb hml hown hts hl hP hK hD hS hA hN (mX1_length eq1) iv_X1_length wd_177 2 rfl rfl rfl rfl ⟨Nat.le_of_ble_eq_true rfl, Nat.le_of_ble_eq_true rfl⟩ (Nat.le_of_ble_eq_true rfl) ⟨Nat.zero_le _, Nat.zero_le _⟩ dX8_clearBuffer_4 rfl rfl (fun H locs hP hD hS => ?_)
  refine lv_istore_n (lv' := [(1, .int q1), (0, .ref (ad 0))]) hx hb dX8_clearBuffer_7 rfl hl (by decide) rfl (fun ls hl => ?_)
  refine lv_aload_n hx hb dX8_clearBuffer_8 rfl (lv_at hl 1 rfl) ?_
  refine gf_X8_19 hx hb hts hown hK hP 0 rfl rfl dX8_clearBuffer_9 ?_
  obtain ⟨q2, eq2, hs⟩ := ob hs
  refine nd_callV (As := []) (rest := []) (st1 := []) hx hb hml hown hts hl hP hK hD hS hA hN (mX1_clear eq2) iv_X1_clear wd_263 2 rfl rfl rfl rfl ⟨Nat.le_of_ble_eq_true rfl, Nat.le_of_ble_eq_true rfl⟩ (Nat.le_of_ble_eq_true rfl) ⟨Nat.zero_le _, Nat.zero_le _⟩ dX8_clearBuffer_12 rfl rfl (fun H locs hP hD hS => ?_)
  refine lv_iload_n hx hb dX8_clearBuffer_15 rfl (lv_at hl 0 rfl) ?_
  exact hret _ _ hs hP hS dX8_clearBuffer_16
def tX8_firstError_0 : List (Nat × Instr × Nat) := [(0, .aload_n 0, 1), (1, .invokevirtual 142, 3), (4, .ireturn, 1)]
theorem tX8_firstError_0_ok : tX8_firstError_0.all (fun q => decide (decode cX8_firstError q.1 = .ok q.2)) = true := by decide +kernel
theorem dX8_firstError_0 : decode cX8_firstError 0 = .ok (.aload_n 0, 1) := td tX8_firstError_0_ok 0 (q := (0, .aload_n 0, 1)) rfl
theorem dX8_firstError_1 : decode cX8_firstError 1 = .ok (.invokevirtual 142, 3) := td tX8_firstError_0_ok 1 (q := (1, .invokevirtual 142, 3)) rfl
theorem dX8_firstError_4 : decode cX8_firstError 4 = .ok (.ireturn, 1) := td tX8_firstError_0_ok 2 (q := (4, .ireturn, 1)) rfl
def fX8_firstError (kbc : (Nat → Int32)) (kit : (Nat → Int32)) (kbl : Int32) (kr0 : Int32) (kr1 : Int32) (kr2 : Int32) (kr3 : Int32) (kr4 : Int32) (kr5 : Int32) : Option (Int32 × (Nat → Int32) × Int32 × Int32 × Int32 × Int32 × Int32 × Int32) :=
  (Option.bind (fX8_readBuffer kbc kit kbl kr0 kr1 kr2 kr3 kr4 kr5) (fun q1 => (some (q1.1, q1.2.1, q1.2.2.1, q1.2.2.2.1, q1.2.2.2.2.1, q1.2.2.2.2.2.1, q1.2.2.2.2.2.2.1, q1.2.2.2.2.2.2.2))))
set_option maxHeartbeats 4000000 in
set_option maxRecDepth 100000 in
theorem mX8_firstError {l : Launch} {D : va_G} {ad : Nat → Nat} {cI : ClassId} {kc : (Nat → Int32)} {ksv : (Nat → Int32)} {kbc : (Nat → Int32)} {kit : (Nat → Int32)} {kln : (Nat → Int32)} {ken : (Nat → Int32)} {kla : (Nat → Int32)} {kfi : (Nat → Int32)} {kea : (Nat → Int32)} {kns : Int32} {kbl : Int32} {kr0 : Int32} {kr1 : Int32} {kr2 : Int32} {kr3 : Int32} {kr4 : Int32} {kr5 : Int32} {klr : Int32} {kp0 : Int32} {kp1 : Int32} {kp2 : Int32} {kp3 : Int32} {r : Int32} {kit' : (Nat → Int32)} {kr0' : Int32} {kr1' : Int32} {kr2' : Int32} {kr3' : Int32} {kr4' : Int32} {kr5' : Int32} (hs : fX8_firstError kbc kit kbl kr0 kr1 kr2 kr3 kr4 kr5 = some (r, kit', kr0', kr1', kr2', kr3', kr4', kr5')) : nd_C l yX8_firstError cX8_firstError 1 (some .int) 5 105 D [(cI, .int)] [.ref (ad 0)] (CW ad cI kc ksv kbc kit kln ken kla kfi kea kns kbl kr0 kr1 kr2 kr3 kr4 kr5 klr kp0 kp1 kp2 kp3) (CW ad cI kc ksv kbc kit' kln ken kla kfi kea kns kbl kr0' kr1' kr2' kr3' kr4' kr5' klr kp0 kp1 kp2 kp3) (some (.int r)) := by
  refine nd_ofCi (by decide) (Nat.le_of_ble_eq_true rfl) (fun p e s m args below meth c_ ls A Q hx hb hml hown hts hl hP hK hD hS hA hN hret => ?_)
  have hown : s.vm.findClass RX8 = some m.cls := hown
  have hl : lv_has ls 1 [(0, .ref (ad 0))] := hl
  have hret : ∀ (z0 : Int32) (z1 : (Nat → Int32)) (z2 : Int32) (z3 : Int32) (z4 : Int32) (z5 : Int32) (z6 : Int32) (z7 : Int32) {H : Heap} {locs : List Loc} {pc : Nat} {ls : Array Slot}, some (z0, z1, z2, z3, z4, z5, z6, z7) = some (r, kit', kr0', kr1', kr2', kr3', kr4', kr5') → va_P D vwCl (CW ad cI kc ksv kbc z1 kln ken kla kfi kea kns kbl z2 z3 z4 z5 z6 z7 klr kp0 kp1 kp2 kp3) H → va_S A s.heap H locs → decode cX8_firstError pc = .ok (.ireturn, 1) → W p l e ⟨5, 0, 0, 105⟩ s m args below meth c_ H locs 0 0 Q (F0 m pc ls [.int z0]) := by
    intro z0 z1 z2 z3 z4 z5 z6 z7 H locs pc ls h hP hS hd
    cases h
    exact hret hP hS hd
  rw [fX8_firstError] at hs
  refine lv_aload_n hx hb dX8_firstError_0 rfl (lv_at hl 0 rfl) ?_
  obtain ⟨q1, eq1, hs⟩ := ob hs
  refine nd_callV (As := []) (rest := []) (st1 := [.int q1.1]) hx hb hml hown hts hl hP hK hD hS hA hN (mX8_readBuffer eq1) iv_X8_readBuffer wd_165 0 rfl rfl rfl rfl ⟨Nat.le_of_ble_eq_true rfl, Nat.le_of_ble_eq_true rfl⟩ (Nat.le_of_ble_eq_true rfl) ⟨Nat.zero_le _, Nat.zero_le _⟩ dX8_firstError_1 rfl rfl (fun H locs hP hD hS => ?_)
  exact hret _ _ _ _ _ _ _ _ hs hP hS dX8_firstError_4
def tX8_undo_0 : List (Nat × Instr × Nat) := [(0, .aload_n 0, 1), (1, .getfield 12, 3), (4, .invokevirtual 145, 3), (7, .ifCond .ne 13, 3), (10, .new 59, 3), (13, .dup, 1), (14, .ldc 148, 2), (16, .invokespecial 63, 3), (19, .athrow, 1), (20, .aload_n 0, 1), (21, .getfield 12, 3), (24, .invokevirtual 150, 3), (27, .aload_n 0, 1), (28, .getfield 12, 3), (31, .invokevirtual 145, 3), (34, .ireturn, 1)]
theorem tX8_undo_0_ok : tX8_undo_0.all (fun q => decide (decode cX8_undo q.1 = .ok q.2)) = true := by decide +kernel
theorem dX8_undo_0 : decode cX8_undo 0 = .ok (.aload_n 0, 1) := td tX8_undo_0_ok 0 (q := (0, .aload_n 0, 1)) rfl
theorem dX8_undo_1 : decode cX8_undo 1 = .ok (.getfield 12, 3) := td tX8_undo_0_ok 1 (q := (1, .getfield 12, 3)) rfl
theorem dX8_undo_4 : decode cX8_undo 4 = .ok (.invokevirtual 145, 3) := td tX8_undo_0_ok 2 (q := (4, .invokevirtual 145, 3)) rfl
theorem dX8_undo_7 : decode cX8_undo 7 = .ok (.ifCond .ne 13, 3) := td tX8_undo_0_ok 3 (q := (7, .ifCond .ne 13, 3)) rfl
theorem dX8_undo_10 : decode cX8_undo 10 = .ok (.new 59, 3) := td tX8_undo_0_ok 4 (q := (10, .new 59, 3)) rfl
theorem dX8_undo_13 : decode cX8_undo 13 = .ok (.dup, 1) := td tX8_undo_0_ok 5 (q := (13, .dup, 1)) rfl
theorem dX8_undo_14 : decode cX8_undo 14 = .ok (.ldc 148, 2) := td tX8_undo_0_ok 6 (q := (14, .ldc 148, 2)) rfl
theorem dX8_undo_16 : decode cX8_undo 16 = .ok (.invokespecial 63, 3) := td tX8_undo_0_ok 7 (q := (16, .invokespecial 63, 3)) rfl
theorem dX8_undo_19 : decode cX8_undo 19 = .ok (.athrow, 1) := td tX8_undo_0_ok 8 (q := (19, .athrow, 1)) rfl
theorem dX8_undo_20 : decode cX8_undo 20 = .ok (.aload_n 0, 1) := td tX8_undo_0_ok 9 (q := (20, .aload_n 0, 1)) rfl
theorem dX8_undo_21 : decode cX8_undo 21 = .ok (.getfield 12, 3) := td tX8_undo_0_ok 10 (q := (21, .getfield 12, 3)) rfl
theorem dX8_undo_24 : decode cX8_undo 24 = .ok (.invokevirtual 150, 3) := td tX8_undo_0_ok 11 (q := (24, .invokevirtual 150, 3)) rfl
theorem dX8_undo_27 : decode cX8_undo 27 = .ok (.aload_n 0, 1) := td tX8_undo_0_ok 12 (q := (27, .aload_n 0, 1)) rfl
theorem dX8_undo_28 : decode cX8_undo 28 = .ok (.getfield 12, 3) := td tX8_undo_0_ok 13 (q := (28, .getfield 12, 3)) rfl
theorem dX8_undo_31 : decode cX8_undo 31 = .ok (.invokevirtual 145, 3) := td tX8_undo_0_ok 14 (q := (31, .invokevirtual 145, 3)) rfl
theorem dX8_undo_34 : decode cX8_undo 34 = .ok (.ireturn, 1) := td tX8_undo_0_ok 15 (q := (34, .ireturn, 1)) rfl
def fX8_undo (kc : (Nat → Int32)) (ksv : (Nat → Int32)) (kns : Int32) : Option (Nat ⊕ (Int32 × (Nat → Int32) × Int32)) :=
  (Option.bind (fX0_savedStates kns) (fun q1 => (if q1 = 0 then (some (.inl 2)) else (Option.bind (fX0_restore kc ksv kns) (fun q3 => (Option.bind (fX0_savedStates q3.2) (fun q4 => (some (.inr (q4, q3.1, q3.2))))))))))
set_option maxHeartbeats 4000000 in
set_option maxRecDepth 100000 in
theorem mX8_undo {l : Launch} {D : va_G} {ad : Nat → Nat} {cI : ClassId} {kc : (Nat → Int32)} {ksv : (Nat → Int32)} {kbc : (Nat → Int32)} {kit : (Nat → Int32)} {kln : (Nat → Int32)} {ken : (Nat → Int32)} {kla : (Nat → Int32)} {kfi : (Nat → Int32)} {kea : (Nat → Int32)} {kns : Int32} {kbl : Int32} {kr0 : Int32} {kr1 : Int32} {kr2 : Int32} {kr3 : Int32} {kr4 : Int32} {kr5 : Int32} {klr : Int32} {kp0 : Int32} {kp1 : Int32} {kp2 : Int32} {kp3 : Int32} {r : Int32} {kc' : (Nat → Int32)} {kns' : Int32} (hs : fX8_undo kc ksv kns = some (.inr (r, kc', kns'))) : nd_C l yX8_undo cX8_undo 1 (some .int) 2 80 D [(cI, .int)] [.ref (ad 0)] (CW ad cI kc ksv kbc kit kln ken kla kfi kea kns kbl kr0 kr1 kr2 kr3 kr4 kr5 klr kp0 kp1 kp2 kp3) (CW ad cI kc' ksv kbc kit kln ken kla kfi kea kns' kbl kr0 kr1 kr2 kr3 kr4 kr5 klr kp0 kp1 kp2 kp3) (some (.int r)) := by
  refine nd_ofCi (by decide) (Nat.le_of_ble_eq_true rfl) (fun p e s m args below meth c_ ls A Q hx hb hml hown hts hl hP hK hD hS hA hN hret => ?_)
  have hown : s.vm.findClass RX8 = some m.cls := hown
  have hl : lv_has ls 1 [(0, .ref (ad 0))] := hl
  have hret : ∀ (z0 : Int32) (z1 : (Nat → Int32)) (z2 : Int32) {H : Heap} {locs : List Loc} {pc : Nat} {ls : Array Slot}, some (Sum.inr (α := Nat) (z0, z1, z2)) = some (.inr (r, kc', kns')) → va_P D vwCl (CW ad cI z1 ksv kbc kit kln ken kla kfi kea z2 kbl kr0 kr1 kr2 kr3 kr4 kr5 klr kp0 kp1 kp2 kp3) H → va_S A s.heap H locs → decode cX8_undo pc = .ok (.ireturn, 1) → W p l e ⟨2, 0, 0, 80⟩ s m args below meth c_ H locs 0 0 Q (F0 m pc ls [.int z0]) := by
    intro z0 z1 z2 H locs pc ls h hP hS hd
    cases h
    exact hret hP hS hd
  rw [fX8_undo] at hs
  refine lv_aload_n hx hb dX8_undo_0 rfl (lv_at hl 0 rfl) ?_
  refine gf_X8_12 hx hb hts hown hK hP 0 rfl rfl dX8_undo_1 ?_
  obtain ⟨q1, eq1, hs⟩ := ob hs
  refine nd_callV (As := []) (rest := []) (st1 := [.int q1]) hx hb hml hown hts hl hP hK hD hS hA hN (mX0_savedStates eq1) iv_X0_savedStates wd_523 1 rfl rfl rfl rfl ⟨Nat.le_of_ble_eq_true rfl, Nat.le_of_ble_eq_true rfl⟩ (Nat.le_of_ble_eq_true rfl) ⟨Nat.zero_le _, Nat.zero_le _⟩ dX8_undo_4 rfl rfl (fun H locs hP hD hS => ?_)
  refine lv_if_ne (tgt := 20) hx hb dX8_undo_7 (by decide) (fun b2 => ?_) (fun b2 => ?_)
  · have hs := ite_f hs b2
    refine lv_aload_n hx hb dX8_undo_20 rfl (lv_at hl 0 rfl) ?_
    refine gf_X8_12 hx hb hts hown hK hP 0 rfl rfl dX8_undo_21 ?_
    obtain ⟨q3, eq3, hs⟩ := ob hs
    refine nd_callV (As := []) (rest := []) (st1 := []) hx hb hml hown hts hl hP hK hD hS hA hN (mX0_restore eq3) iv_X0_restore wd_527 1 rfl rfl rfl rfl ⟨Nat.le_of_ble_eq_true rfl, Nat.le_of_ble_eq_true rfl⟩ (Nat.le_of_ble_eq_true rfl) ⟨Nat.zero_le _, Nat.zero_le _⟩ dX8_undo_24 rfl rfl (fun H locs hP hD hS => ?_)
    refine lv_aload_n hx hb dX8_undo_27 rfl (lv_at hl 0 rfl) ?_
    refine gf_X8_12 hx hb hts hown hK hP 0 rfl rfl dX8_undo_28 ?_
    obtain ⟨q4, eq4, hs⟩ := ob hs
    refine nd_callV (As := []) (rest := []) (st1 := [.int q4]) hx hb hml hown hts hl hP hK hD hS hA hN (mX0_savedStates eq4) iv_X0_savedStates wd_523 1 rfl rfl rfl rfl ⟨Nat.le_of_ble_eq_true rfl, Nat.le_of_ble_eq_true rfl⟩ (Nat.le_of_ble_eq_true rfl) ⟨Nat.zero_le _, Nat.zero_le _⟩ dX8_undo_31 rfl rfl (fun H locs hP hD hS => ?_)
    exact hret _ _ _ hs hP hS dX8_undo_34
  · have hs := ite_t hs b2
    cases hs
set_option maxHeartbeats 4000000 in
set_option maxRecDepth 100000 in
theorem xX8_undo {l : Launch} (hnt : l.stackTraces = false) {D : va_G} {ad : Nat → Nat} {cI : ClassId} {kc : (Nat → Int32)} {ksv : (Nat → Int32)} {kbc : (Nat → Int32)} {kit : (Nat → Int32)} {kln : (Nat → Int32)} {ken : (Nat → Int32)} {kla : (Nat → Int32)} {kfi : (Nat → Int32)} {kea : (Nat → Int32)} {kns : Int32} {kbl : Int32} {kr0 : Int32} {kr1 : Int32} {kr2 : Int32} {kr3 : Int32} {kr4 : Int32} {kr5 : Int32} {klr : Int32} {kp0 : Int32} {kp1 : Int32} {kp2 : Int32} {kp3 : Int32} {k : Nat} (hs : fX8_undo kc ksv kns = some (.inl k)) : nd_CX l yX8_undo cX8_undo 1 (some .int) 6 82 D [(cI, .int)] [.ref (ad 0)] (CW ad cI kc ksv kbc kit kln ken kla kfi kea kns kbl kr0 kr1 kr2 kr3 kr4 kr5 klr kp0 kp1 kp2 kp3) (fun W1 => W1 = (CW ad cI kc ksv kbc kit kln ken kla kfi kea kns kbl kr0 kr1 kr2 kr3 kr4 kr5 klr kp0 kp1 kp2 kp3)) k := by
  refine nd_ofX (by decide) (Nat.le_of_ble_eq_true rfl) (fun p e s m args below meth c_ ls A hx hb hml hown hts hl hP hK hD hS hA hN hX hxt hlocks hAe => ?_)
  have hown : s.vm.findClass RX8 = some m.cls := hown
  have hl : lv_has ls 1 [(0, .ref (ad 0))] := hl
  rw [fX8_undo] at hs
  refine lv_aload_n hx hb dX8_undo_0 rfl (lv_at hl 0 rfl) ?_
  refine gf_X8_12 hx hb hts hown hK hP 0 rfl rfl dX8_undo_1 ?_
  obtain ⟨q1, eq1, hs⟩ := ob hs
  refine nd_callV (As := []) (rest := []) (st1 := [.int q1]) hx hb hml hown hts hl hP hK hD hS hA hN (mX0_savedStates eq1) iv_X0_savedStates wd_523 1 rfl rfl rfl rfl ⟨Nat.le_of_ble_eq_true rfl, Nat.le_of_ble_eq_true rfl⟩ (Nat.le_of_ble_eq_true rfl) ⟨Nat.zero_le _, Nat.zero_le _⟩ dX8_undo_4 rfl rfl (fun H locs hP hD hS => ?_)
  refine lv_if_ne (tgt := 20) hx hb dX8_undo_7 (by decide) (fun b2 => ?_) (fun b2 => ?_)
  · have hs := ite_f hs b2
    refine lv_aload_n hx hb dX8_undo_20 rfl (lv_at hl 0 rfl) ?_
    refine gf_X8_12 hx hb hts hown hK hP 0 rfl rfl dX8_undo_21 ?_
    obtain ⟨q3, eq3, hs⟩ := ob hs
    refine nd_callV (As := []) (rest := []) (st1 := []) hx hb hml hown hts hl hP hK hD hS hA hN (mX0_restore eq3) iv_X0_restore wd_527 1 rfl rfl rfl rfl ⟨Nat.le_of_ble_eq_true rfl, Nat.le_of_ble_eq_true rfl⟩ (Nat.le_of_ble_eq_true rfl) ⟨Nat.zero_le _, Nat.zero_le _⟩ dX8_undo_24 rfl rfl (fun H locs hP hD hS => ?_)
    refine lv_aload_n hx hb dX8_undo_27 rfl (lv_at hl 0 rfl) ?_
    refine gf_X8_12 hx hb hts hown hK hP 0 rfl rfl dX8_undo_28 ?_
    obtain ⟨q4, eq4, hs⟩ := ob hs
    refine nd_callV (As := []) (rest := []) (st1 := [.int q4]) hx hb hml hown hts hl hP hK hD hS hA hN (mX0_savedStates eq4) iv_X0_savedStates wd_523 1 rfl rfl rfl rfl ⟨Nat.le_of_ble_eq_true rfl, Nat.le_of_ble_eq_true rfl⟩ (Nat.le_of_ble_eq_true rfl) ⟨Nat.zero_le _, Nat.zero_le _⟩ dX8_undo_31 rfl rfl (fun H locs hP hD hS => ?_)
    cases hs
  · have hs := ite_t hs b2
    cases hs
    exact nd_thr2 hx hb hnt hown hts hX hS (hl.1.trans hml.symm) (is := 148) str_148 dX8_undo_10 dX8_undo_13 dX8_undo_14 dX8_undo_16 dX8_undo_19 hxt hlocks rfl hP hAe (Nat.le_of_ble_eq_true rfl) (Nat.le_of_ble_eq_true rfl)
def tX8_requireChoice_0 : List (Nat × Instr × Nat) := [(0, .iload_n 0, 1), (1, .iload_n 1, 1), (2, .invokestatic 44, 3), (5, .ifCond .ne 13, 3), (8, .new 48, 3), (11, .dup, 1), (12, .ldc 246, 2), (14, .invokespecial 52, 3), (17, .athrow, 1), (18, .return_, 1)]
theorem tX8_requireChoice_0_ok : tX8_requireChoice_0.all (fun q => decide (decode cX8_requireChoice q.1 = .ok q.2)) = true := by decide +kernel
theorem dX8_requireChoice_0 : decode cX8_requireChoice 0 = .ok (.iload_n 0, 1) := td tX8_requireChoice_0_ok 0 (q := (0, .iload_n 0, 1)) rfl
theorem dX8_requireChoice_1 : decode cX8_requireChoice 1 = .ok (.iload_n 1, 1) := td tX8_requireChoice_0_ok 1 (q := (1, .iload_n 1, 1)) rfl
theorem dX8_requireChoice_2 : decode cX8_requireChoice 2 = .ok (.invokestatic 44, 3) := td tX8_requireChoice_0_ok 2 (q := (2, .invokestatic 44, 3)) rfl
theorem dX8_requireChoice_5 : decode cX8_requireChoice 5 = .ok (.ifCond .ne 13, 3) := td tX8_requireChoice_0_ok 3 (q := (5, .ifCond .ne 13, 3)) rfl
theorem dX8_requireChoice_8 : decode cX8_requireChoice 8 = .ok (.new 48, 3) := td tX8_requireChoice_0_ok 4 (q := (8, .new 48, 3)) rfl
theorem dX8_requireChoice_11 : decode cX8_requireChoice 11 = .ok (.dup, 1) := td tX8_requireChoice_0_ok 5 (q := (11, .dup, 1)) rfl
theorem dX8_requireChoice_12 : decode cX8_requireChoice 12 = .ok (.ldc 246, 2) := td tX8_requireChoice_0_ok 6 (q := (12, .ldc 246, 2)) rfl
theorem dX8_requireChoice_14 : decode cX8_requireChoice 14 = .ok (.invokespecial 52, 3) := td tX8_requireChoice_0_ok 7 (q := (14, .invokespecial 52, 3)) rfl
theorem dX8_requireChoice_17 : decode cX8_requireChoice 17 = .ok (.athrow, 1) := td tX8_requireChoice_0_ok 8 (q := (17, .athrow, 1)) rfl
theorem dX8_requireChoice_18 : decode cX8_requireChoice 18 = .ok (.return_, 1) := td tX8_requireChoice_0_ok 9 (q := (18, .return_, 1)) rfl
def fX8_requireChoice (x0 : Int32) (x1 : Int32) : Option (Nat ⊕ (Unit)) :=
  (Option.bind (fX8_isIn x0 x1) (fun q1 => (if q1 = 0 then (some (.inl 1)) else (some (.inr ())))))
set_option maxHeartbeats 4000000 in
set_option maxRecDepth 100000 in
theorem mX8_requireChoice {l : Launch} {D : va_G} {W0 : va_W} {tys : nd_T} {x0 : Int32} {x1 : Int32} (hs : fX8_requireChoice x0 x1 = some (.inr ())) : nd_C l yX8_requireChoice cX8_requireChoice 2 none 1 21 D tys [.int x0, .int x1] W0 W0 none := by
  refine nd_ofCv (by decide) (Nat.le_of_ble_eq_true rfl) (fun p e s m args below meth c_ ls A Q hx hb hml hown hts hl hP hK hD hS hA hN hret => ?_)
  have hown : s.vm.findClass RX8 = some m.cls := hown
  have hl : lv_has ls 2 [(0, .int x0), (1, .int x1)] := hl
  have hret : ∀ {H : Heap} {locs : List Loc} {pc : Nat} {ls : Array Slot}, some (Sum.inr (α := Nat) ()) = some (.inr ()) → va_P D vwCl W0 H → va_S A s.heap H locs → decode cX8_requireChoice pc = .ok (.return_, 1) → W p l e ⟨1, 0, 0, 21⟩ s m args below meth c_ H locs 0 0 Q (F0 m pc ls []) := by
    intro  H locs pc ls h hP hS hd
    cases h
    exact hret hP hS hd
  rw [fX8_requireChoice] at hs
  refine lv_iload_n hx hb dX8_requireChoice_0 rfl (lv_at hl 0 rfl) ?_
  refine lv_iload_n hx hb dX8_requireChoice_1 rfl (lv_at hl 1 rfl) ?_
  obtain ⟨q1, eq1, hs⟩ := ob hs
  refine nd_callS (As := [.int x0, .int x1]) (rest := []) (st1 := [.int q1]) hx hb hml hown hts hl hP hK hD hS hA hN (mX8_isIn eq1) is_X8_isIn wd_95 rfl rfl ⟨Nat.le_of_ble_eq_true rfl, Nat.le_of_ble_eq_true rfl⟩ (Nat.le_of_ble_eq_true rfl) ⟨Nat.zero_le _, Nat.zero_le _⟩ dX8_requireChoice_2 rfl rfl (fun H locs hP hD hS => ?_)
  refine lv_if_ne (tgt := 18) hx hb dX8_requireChoice_5 (by decide) (fun b2 => ?_) (fun b2 => ?_)
  · have hs := ite_f hs b2
    exact hret  hs hP hS dX8_requireChoice_18
  · have hs := ite_t hs b2
    cases hs
set_option maxHeartbeats 4000000 in
set_option maxRecDepth 100000 in
theorem xX8_requireChoice {l : Launch} (hnt : l.stackTraces = false) {D : va_G} {W0 : va_W} {tys : nd_T} {x0 : Int32} {x1 : Int32} {k : Nat} (hs : fX8_requireChoice x0 x1 = some (.inl k)) : nd_CX l yX8_requireChoice cX8_requireChoice 2 none 6 82 D tys [.int x0, .int x1] W0 (fun W1 => W1 = W0) k := by
  refine nd_ofX (by decide) (Nat.le_of_ble_eq_true rfl) (fun p e s m args below meth c_ ls A hx hb hml hown hts hl hP hK hD hS hA hN hX hxt hlocks hAe => ?_)
  have hown : s.vm.findClass RX8 = some m.cls := hown
  have hl : lv_has ls 2 [(0, .int x0), (1, .int x1)] := hl
  rw [fX8_requireChoice] at hs
  refine lv_iload_n hx hb dX8_requireChoice_0 rfl (lv_at hl 0 rfl) ?_
  refine lv_iload_n hx hb dX8_requireChoice_1 rfl (lv_at hl 1 rfl) ?_
  obtain ⟨q1, eq1, hs⟩ := ob hs
  refine nd_callS (As := [.int x0, .int x1]) (rest := []) (st1 := [.int q1]) hx hb hml hown hts hl hP hK hD hS hA hN (mX8_isIn eq1) is_X8_isIn wd_95 rfl rfl ⟨Nat.le_of_ble_eq_true rfl, Nat.le_of_ble_eq_true rfl⟩ (Nat.le_of_ble_eq_true rfl) ⟨Nat.zero_le _, Nat.zero_le _⟩ dX8_requireChoice_2 rfl rfl (fun H locs hP hD hS => ?_)
  refine lv_if_ne (tgt := 18) hx hb dX8_requireChoice_5 (by decide) (fun b2 => ?_) (fun b2 => ?_)
  · have hs := ite_f hs b2
    cases hs
  · have hs := ite_t hs b2
    cases hs
    exact nd_thr1 hx hb hnt hown hts hX hS (hl.1.trans hml.symm) (is := 246) str_246 dX8_requireChoice_8 dX8_requireChoice_11 dX8_requireChoice_12 dX8_requireChoice_14 dX8_requireChoice_17 hxt hlocks rfl hP hAe (Nat.le_of_ble_eq_true rfl) (Nat.le_of_ble_eq_true rfl)
def tX8_pieceProperty_0 : List (Nat × Instr × Nat) := [(0, .iload_n 2, 1), (1, .tableswitch 117 0 6 #[43, 54, 66, 75, 87, 99, 108], 43), (44, .aload_n 0, 1), (45, .getfield 12, 3), (48, .iconst 1, 1), (49, .iload_n 1, 1), (50, .iadd, 1), (51, .invokevirtual 106, 3), (54, .ireturn, 1), (55, .aload_n 0, 1), (56, .getfield 12, 3), (59, .bipush 11, 2), (61, .iload_n 1, 1), (62, .iadd, 1), (63, .invokevirtual 106, 3), (66, .ireturn, 1), (67, .aload_n 0, 1), (68, .getfield 12, 3), (71, .iload_n 1, 1), (72, .invokevirtual 88, 3), (75, .ireturn, 1), (76, .aload_n 0, 1), (77, .getfield 12, 3), (80, .bipush 21, 2), (82, .iload_n 1, 1), (83, .iadd, 1), (84, .invokevirtual 106, 3), (87, .ireturn, 1), (88, .aload_n 0, 1), (89, .getfield 12, 3), (92, .bipush 31, 2), (94, .iload_n 1, 1), (95, .iadd, 1), (96, .invokevirtual 106, 3), (99, .ireturn, 1), (100, .aload_n 0, 1), (101, .getfield 12, 3), (104, .iload_n 1, 1), (105, .invokevirtual 292, 3), (108, .ireturn, 1), (109, .aload_n 0, 1), (110, .getfield 12, 3), (113, .iload_n 1, 1), (114, .invokestatic 295, 3), (117, .ireturn, 1), (118, .aload_n 0, 1), (119, .getfield 12, 3), (122, .iload_n 1, 1), (123, .invokestatic 298, 3), (126, .ireturn, 1)]
theorem tX8_pieceProperty_0_ok : tX8_pieceProperty_0.all (fun q => decide (decode cX8_pieceProperty q.1 = .ok q.2)) = true := by decide +kernel
theorem dX8_pieceProperty_0 : decode cX8_pieceProperty 0 = .ok (.iload_n 2, 1) := td tX8_pieceProperty_0_ok 0 (q := (0, .iload_n 2, 1)) rfl
theorem dX8_pieceProperty_1 : decode cX8_pieceProperty 1 = .ok (.tableswitch 117 0 6 #[43, 54, 66, 75, 87, 99, 108], 43) := td tX8_pieceProperty_0_ok 1 (q := (1, .tableswitch 117 0 6 #[43, 54, 66, 75, 87, 99, 108], 43)) rfl
theorem dX8_pieceProperty_44 : decode cX8_pieceProperty 44 = .ok (.aload_n 0, 1) := td tX8_pieceProperty_0_ok 2 (q := (44, .aload_n 0, 1)) rfl
theorem dX8_pieceProperty_45 : decode cX8_pieceProperty 45 = .ok (.getfield 12, 3) := td tX8_pieceProperty_0_ok 3 (q := (45, .getfield 12, 3)) rfl
theorem dX8_pieceProperty_48 : decode cX8_pieceProperty 48 = .ok (.iconst 1, 1) := td tX8_pieceProperty_0_ok 4 (q := (48, .iconst 1, 1)) rfl
theorem dX8_pieceProperty_49 : decode cX8_pieceProperty 49 = .ok (.iload_n 1, 1) := td tX8_pieceProperty_0_ok 5 (q := (49, .iload_n 1, 1)) rfl
theorem dX8_pieceProperty_50 : decode cX8_pieceProperty 50 = .ok (.iadd, 1) := td tX8_pieceProperty_0_ok 6 (q := (50, .iadd, 1)) rfl
theorem dX8_pieceProperty_51 : decode cX8_pieceProperty 51 = .ok (.invokevirtual 106, 3) := td tX8_pieceProperty_0_ok 7 (q := (51, .invokevirtual 106, 3)) rfl
theorem dX8_pieceProperty_54 : decode cX8_pieceProperty 54 = .ok (.ireturn, 1) := td tX8_pieceProperty_0_ok 8 (q := (54, .ireturn, 1)) rfl
theorem dX8_pieceProperty_55 : decode cX8_pieceProperty 55 = .ok (.aload_n 0, 1) := td tX8_pieceProperty_0_ok 9 (q := (55, .aload_n 0, 1)) rfl
theorem dX8_pieceProperty_56 : decode cX8_pieceProperty 56 = .ok (.getfield 12, 3) := td tX8_pieceProperty_0_ok 10 (q := (56, .getfield 12, 3)) rfl
theorem dX8_pieceProperty_59 : decode cX8_pieceProperty 59 = .ok (.bipush 11, 2) := td tX8_pieceProperty_0_ok 11 (q := (59, .bipush 11, 2)) rfl
theorem dX8_pieceProperty_61 : decode cX8_pieceProperty 61 = .ok (.iload_n 1, 1) := td tX8_pieceProperty_0_ok 12 (q := (61, .iload_n 1, 1)) rfl
theorem dX8_pieceProperty_62 : decode cX8_pieceProperty 62 = .ok (.iadd, 1) := td tX8_pieceProperty_0_ok 13 (q := (62, .iadd, 1)) rfl
theorem dX8_pieceProperty_63 : decode cX8_pieceProperty 63 = .ok (.invokevirtual 106, 3) := td tX8_pieceProperty_0_ok 14 (q := (63, .invokevirtual 106, 3)) rfl
theorem dX8_pieceProperty_66 : decode cX8_pieceProperty 66 = .ok (.ireturn, 1) := td tX8_pieceProperty_0_ok 15 (q := (66, .ireturn, 1)) rfl
theorem dX8_pieceProperty_67 : decode cX8_pieceProperty 67 = .ok (.aload_n 0, 1) := td tX8_pieceProperty_0_ok 16 (q := (67, .aload_n 0, 1)) rfl
theorem dX8_pieceProperty_68 : decode cX8_pieceProperty 68 = .ok (.getfield 12, 3) := td tX8_pieceProperty_0_ok 17 (q := (68, .getfield 12, 3)) rfl
theorem dX8_pieceProperty_71 : decode cX8_pieceProperty 71 = .ok (.iload_n 1, 1) := td tX8_pieceProperty_0_ok 18 (q := (71, .iload_n 1, 1)) rfl
theorem dX8_pieceProperty_72 : decode cX8_pieceProperty 72 = .ok (.invokevirtual 88, 3) := td tX8_pieceProperty_0_ok 19 (q := (72, .invokevirtual 88, 3)) rfl
theorem dX8_pieceProperty_75 : decode cX8_pieceProperty 75 = .ok (.ireturn, 1) := td tX8_pieceProperty_0_ok 20 (q := (75, .ireturn, 1)) rfl
theorem dX8_pieceProperty_76 : decode cX8_pieceProperty 76 = .ok (.aload_n 0, 1) := td tX8_pieceProperty_0_ok 21 (q := (76, .aload_n 0, 1)) rfl
theorem dX8_pieceProperty_77 : decode cX8_pieceProperty 77 = .ok (.getfield 12, 3) := td tX8_pieceProperty_0_ok 22 (q := (77, .getfield 12, 3)) rfl
theorem dX8_pieceProperty_80 : decode cX8_pieceProperty 80 = .ok (.bipush 21, 2) := td tX8_pieceProperty_0_ok 23 (q := (80, .bipush 21, 2)) rfl
theorem dX8_pieceProperty_82 : decode cX8_pieceProperty 82 = .ok (.iload_n 1, 1) := td tX8_pieceProperty_0_ok 24 (q := (82, .iload_n 1, 1)) rfl
theorem dX8_pieceProperty_83 : decode cX8_pieceProperty 83 = .ok (.iadd, 1) := td tX8_pieceProperty_0_ok 25 (q := (83, .iadd, 1)) rfl
theorem dX8_pieceProperty_84 : decode cX8_pieceProperty 84 = .ok (.invokevirtual 106, 3) := td tX8_pieceProperty_0_ok 26 (q := (84, .invokevirtual 106, 3)) rfl
theorem dX8_pieceProperty_87 : decode cX8_pieceProperty 87 = .ok (.ireturn, 1) := td tX8_pieceProperty_0_ok 27 (q := (87, .ireturn, 1)) rfl
theorem dX8_pieceProperty_88 : decode cX8_pieceProperty 88 = .ok (.aload_n 0, 1) := td tX8_pieceProperty_0_ok 28 (q := (88, .aload_n 0, 1)) rfl
theorem dX8_pieceProperty_89 : decode cX8_pieceProperty 89 = .ok (.getfield 12, 3) := td tX8_pieceProperty_0_ok 29 (q := (89, .getfield 12, 3)) rfl
theorem dX8_pieceProperty_92 : decode cX8_pieceProperty 92 = .ok (.bipush 31, 2) := td tX8_pieceProperty_0_ok 30 (q := (92, .bipush 31, 2)) rfl
theorem dX8_pieceProperty_94 : decode cX8_pieceProperty 94 = .ok (.iload_n 1, 1) := td tX8_pieceProperty_0_ok 31 (q := (94, .iload_n 1, 1)) rfl
theorem dX8_pieceProperty_95 : decode cX8_pieceProperty 95 = .ok (.iadd, 1) := td tX8_pieceProperty_0_ok 32 (q := (95, .iadd, 1)) rfl
theorem dX8_pieceProperty_96 : decode cX8_pieceProperty 96 = .ok (.invokevirtual 106, 3) := td tX8_pieceProperty_0_ok 33 (q := (96, .invokevirtual 106, 3)) rfl
theorem dX8_pieceProperty_99 : decode cX8_pieceProperty 99 = .ok (.ireturn, 1) := td tX8_pieceProperty_0_ok 34 (q := (99, .ireturn, 1)) rfl
theorem dX8_pieceProperty_100 : decode cX8_pieceProperty 100 = .ok (.aload_n 0, 1) := td tX8_pieceProperty_0_ok 35 (q := (100, .aload_n 0, 1)) rfl
theorem dX8_pieceProperty_101 : decode cX8_pieceProperty 101 = .ok (.getfield 12, 3) := td tX8_pieceProperty_0_ok 36 (q := (101, .getfield 12, 3)) rfl
theorem dX8_pieceProperty_104 : decode cX8_pieceProperty 104 = .ok (.iload_n 1, 1) := td tX8_pieceProperty_0_ok 37 (q := (104, .iload_n 1, 1)) rfl
theorem dX8_pieceProperty_105 : decode cX8_pieceProperty 105 = .ok (.invokevirtual 292, 3) := td tX8_pieceProperty_0_ok 38 (q := (105, .invokevirtual 292, 3)) rfl
theorem dX8_pieceProperty_108 : decode cX8_pieceProperty 108 = .ok (.ireturn, 1) := td tX8_pieceProperty_0_ok 39 (q := (108, .ireturn, 1)) rfl
theorem dX8_pieceProperty_109 : decode cX8_pieceProperty 109 = .ok (.aload_n 0, 1) := td tX8_pieceProperty_0_ok 40 (q := (109, .aload_n 0, 1)) rfl
theorem dX8_pieceProperty_110 : decode cX8_pieceProperty 110 = .ok (.getfield 12, 3) := td tX8_pieceProperty_0_ok 41 (q := (110, .getfield 12, 3)) rfl
theorem dX8_pieceProperty_113 : decode cX8_pieceProperty 113 = .ok (.iload_n 1, 1) := td tX8_pieceProperty_0_ok 42 (q := (113, .iload_n 1, 1)) rfl
theorem dX8_pieceProperty_114 : decode cX8_pieceProperty 114 = .ok (.invokestatic 295, 3) := td tX8_pieceProperty_0_ok 43 (q := (114, .invokestatic 295, 3)) rfl
theorem dX8_pieceProperty_117 : decode cX8_pieceProperty 117 = .ok (.ireturn, 1) := td tX8_pieceProperty_0_ok 44 (q := (117, .ireturn, 1)) rfl
theorem dX8_pieceProperty_118 : decode cX8_pieceProperty 118 = .ok (.aload_n 0, 1) := td tX8_pieceProperty_0_ok 45 (q := (118, .aload_n 0, 1)) rfl
theorem dX8_pieceProperty_119 : decode cX8_pieceProperty 119 = .ok (.getfield 12, 3) := td tX8_pieceProperty_0_ok 46 (q := (119, .getfield 12, 3)) rfl
theorem dX8_pieceProperty_122 : decode cX8_pieceProperty 122 = .ok (.iload_n 1, 1) := td tX8_pieceProperty_0_ok 47 (q := (122, .iload_n 1, 1)) rfl
theorem dX8_pieceProperty_123 : decode cX8_pieceProperty 123 = .ok (.invokestatic 298, 3) := td tX8_pieceProperty_0_ok 48 (q := (123, .invokestatic 298, 3)) rfl
theorem dX8_pieceProperty_126 : decode cX8_pieceProperty 126 = .ok (.ireturn, 1) := td tX8_pieceProperty_0_ok 49 (q := (126, .ireturn, 1)) rfl
def fX8_pieceProperty (kc : (Nat → Int32)) (x1 : Int32) (x2 : Int32) : Option (Int32) :=
  (if x2 = (0 : Int32) then (Option.bind (fX0_get kc ((1 : Int32) + x1)) (fun q2 => (some q2))) else (if x2 = (1 : Int32) then (Option.bind (fX0_get kc ((11 : Int32) + x1)) (fun q4 => (some q4))) else (if x2 = (2 : Int32) then (Option.bind (fX0_receiptsOf kc x1) (fun q6 => (some q6))) else (if x2 = (3 : Int32) then (Option.bind (fX0_get kc ((21 : Int32) + x1)) (fun q8 => (some q8))) else (if x2 = (4 : Int32) then (Option.bind (fX0_get kc ((31 : Int32) + x1)) (fun q10 => (some q10))) else (if x2 = (5 : Int32) then (Option.bind (fX0_firstOfRoll kc x1) (fun q12 => (some q12))) else (if x2 = (6 : Int32) then (Option.bind (fX3_lowersOf kc x1) (fun q14 => (some q14))) else (Option.bind (fX7_sumOfPiece kc x1) (fun q15 => (some q15))))))))))
set_option maxHeartbeats 4000000 in
set_option maxRecDepth 100000 in
theorem mX8_pieceProperty {l : Launch} {D : va_G} {ad : Nat → Nat} {cI : ClassId} {kc : (Nat → Int32)} {ksv : (Nat → Int32)} {kbc : (Nat → Int32)} {kit : (Nat → Int32)} {kln : (Nat → Int32)} {ken : (Nat → Int32)} {kla : (Nat → Int32)} {kfi : (Nat → Int32)} {kea : (Nat → Int32)} {kns : Int32} {kbl : Int32} {kr0 : Int32} {kr1 : Int32} {kr2 : Int32} {kr3 : Int32} {kr4 : Int32} {kr5 : Int32} {klr : Int32} {kp0 : Int32} {kp1 : Int32} {kp2 : Int32} {kp3 : Int32} {x1 : Int32} {x2 : Int32} {r : Int32} (hs : fX8_pieceProperty kc x1 x2 = some r) : nd_C l yX8_pieceProperty cX8_pieceProperty 3 (some .int) 4 90 D [(cI, .int)] [.ref (ad 0), .int x1, .int x2] (CW ad cI kc ksv kbc kit kln ken kla kfi kea kns kbl kr0 kr1 kr2 kr3 kr4 kr5 klr kp0 kp1 kp2 kp3) (CW ad cI kc ksv kbc kit kln ken kla kfi kea kns kbl kr0 kr1 kr2 kr3 kr4 kr5 klr kp0 kp1 kp2 kp3) (some (.int r)) := by
  refine nd_ofCi (by decide) (Nat.le_of_ble_eq_true rfl) (fun p e s m args below meth c_ ls A Q hx hb hml hown hts hl hP hK hD hS hA hN hret => ?_)
  have hown : s.vm.findClass RX8 = some m.cls := hown
  have hl : lv_has ls 3 [(0, .ref (ad 0)), (1, .int x1), (2, .int x2)] := hl
  have hret : ∀ (z0 : Int32) {H : Heap} {locs : List Loc} {pc : Nat} {ls : Array Slot}, some z0 = some r → va_P D vwCl (CW ad cI kc ksv kbc kit kln ken kla kfi kea kns kbl kr0 kr1 kr2 kr3 kr4 kr5 klr kp0 kp1 kp2 kp3) H → va_S A s.heap H locs → decode cX8_pieceProperty pc = .ok (.ireturn, 1) → W p l e ⟨4, 0, 0, 90⟩ s m args below meth c_ H locs 0 0 Q (F0 m pc ls [.int z0]) := by
    intro z0 H locs pc ls h hP hS hd
    cases h
    exact hret hP hS hd
  rw [fX8_pieceProperty] at hs
  refine lv_iload_n hx hb dX8_pieceProperty_0 rfl (lv_at hl 2 rfl) ?_
  by_cases b1 : x2 = (0 : Int32)
  · have hs := ite_t hs b1
    rw [b1]
    refine lv_tableIn (off := (43)) (tgt := 44) hx hb dX8_pieceProperty_1 (by decide) (by decide) (by decide) (by decide) ?_
    refine lv_aload_n hx hb dX8_pieceProperty_44 rfl (lv_at hl 0 rfl) ?_
    refine gf_X8_12 hx hb hts hown hK hP 0 rfl rfl dX8_pieceProperty_45 ?_
    refine lv_iconst (v := (1 : Int32)) hx hb dX8_pieceProperty_48 (by decide) ?_
    refine lv_iload_n hx hb dX8_pieceProperty_49 rfl (lv_at hl 1 rfl) ?_
    refine lv_iadd hx hb dX8_pieceProperty_50 ?_
    obtain ⟨q2, eq2, hs⟩ := ob hs
    refine nd_callV (As := [.int ((1 : Int32) + x1)]) (rest := []) (st1 := [.int q2]) hx hb hml hown hts hl hP hK hD hS hA hN (mX0_get eq2) iv_X0_get wd_238 1 rfl rfl rfl rfl ⟨Nat.le_of_ble_eq_true rfl, Nat.le_of_ble_eq_true rfl⟩ (Nat.le_of_ble_eq_true rfl) ⟨Nat.zero_le _, Nat.zero_le _⟩ dX8_pieceProperty_51 rfl rfl (fun H locs hP hD hS => ?_)
    exact hret _ hs hP hS dX8_pieceProperty_54
  have hs := ite_f hs b1
  by_cases b3 : x2 = (1 : Int32)
  · have hs := ite_t hs b3
    rw [b3]
    refine lv_tableIn (off := (54)) (tgt := 55) hx hb dX8_pieceProperty_1 (by decide) (by decide) (by decide) (by decide) ?_
    refine lv_aload_n hx hb dX8_pieceProperty_55 rfl (lv_at hl 0 rfl) ?_
    refine gf_X8_12 hx hb hts hown hK hP 0 rfl rfl dX8_pieceProperty_56 ?_
    refine lv_bipush (v := (11 : Int32)) hx hb dX8_pieceProperty_59 (by decide) ?_
    refine lv_iload_n hx hb dX8_pieceProperty_61 rfl (lv_at hl 1 rfl) ?_
    refine lv_iadd hx hb dX8_pieceProperty_62 ?_
    obtain ⟨q4, eq4, hs⟩ := ob hs
    refine nd_callV (As := [.int ((11 : Int32) + x1)]) (rest := []) (st1 := [.int q4]) hx hb hml hown hts hl hP hK hD hS hA hN (mX0_get eq4) iv_X0_get wd_238 1 rfl rfl rfl rfl ⟨Nat.le_of_ble_eq_true rfl, Nat.le_of_ble_eq_true rfl⟩ (Nat.le_of_ble_eq_true rfl) ⟨Nat.zero_le _, Nat.zero_le _⟩ dX8_pieceProperty_63 rfl rfl (fun H locs hP hD hS => ?_)
    exact hret _ hs hP hS dX8_pieceProperty_66
  have hs := ite_f hs b3
  by_cases b5 : x2 = (2 : Int32)
  · have hs := ite_t hs b5
    rw [b5]
    refine lv_tableIn (off := (66)) (tgt := 67) hx hb dX8_pieceProperty_1 (by decide) (by decide) (by decide) (by decide) ?_
    refine lv_aload_n hx hb dX8_pieceProperty_67 rfl (lv_at hl 0 rfl) ?_
    refine gf_X8_12 hx hb hts hown hK hP 0 rfl rfl dX8_pieceProperty_68 ?_
    refine lv_iload_n hx hb dX8_pieceProperty_71 rfl (lv_at hl 1 rfl) ?_
    obtain ⟨q6, eq6, hs⟩ := ob hs
    refine nd_callV (As := [.int x1]) (rest := []) (st1 := [.int q6]) hx hb hml hown hts hl hP hK hD hS hA hN (mX0_receiptsOf eq6) iv_X0_receiptsOf wd_226 1 rfl rfl rfl rfl ⟨Nat.le_of_ble_eq_true rfl, Nat.le_of_ble_eq_true rfl⟩ (Nat.le_of_ble_eq_true rfl) ⟨Nat.zero_le _, Nat.zero_le _⟩ dX8_pieceProperty_72 rfl rfl (fun H locs hP hD hS => ?_)
    exact hret _ hs hP hS dX8_pieceProperty_75
  have hs := ite_f hs b5
  by_cases b7 : x2 = (3 : Int32)
  · have hs := ite_t hs b7
    rw [b7]
    refine lv_tableIn (off := (75)) (tgt := 76) hx hb dX8_pieceProperty_1 (by decide) (by decide) (by decide) (by decide) ?_
    refine lv_aload_n hx hb dX8_pieceProperty_76 rfl (lv_at hl 0 rfl) ?_
    refine gf_X8_12 hx hb hts hown hK hP 0 rfl rfl dX8_pieceProperty_77 ?_
    refine lv_bipush (v := (21 : Int32)) hx hb dX8_pieceProperty_80 (by decide) ?_
    refine lv_iload_n hx hb dX8_pieceProperty_82 rfl (lv_at hl 1 rfl) ?_
    refine lv_iadd hx hb dX8_pieceProperty_83 ?_
    obtain ⟨q8, eq8, hs⟩ := ob hs
    refine nd_callV (As := [.int ((21 : Int32) + x1)]) (rest := []) (st1 := [.int q8]) hx hb hml hown hts hl hP hK hD hS hA hN (mX0_get eq8) iv_X0_get wd_238 1 rfl rfl rfl rfl ⟨Nat.le_of_ble_eq_true rfl, Nat.le_of_ble_eq_true rfl⟩ (Nat.le_of_ble_eq_true rfl) ⟨Nat.zero_le _, Nat.zero_le _⟩ dX8_pieceProperty_84 rfl rfl (fun H locs hP hD hS => ?_)
    exact hret _ hs hP hS dX8_pieceProperty_87
  have hs := ite_f hs b7
  by_cases b9 : x2 = (4 : Int32)
  · have hs := ite_t hs b9
    rw [b9]
    refine lv_tableIn (off := (87)) (tgt := 88) hx hb dX8_pieceProperty_1 (by decide) (by decide) (by decide) (by decide) ?_
    refine lv_aload_n hx hb dX8_pieceProperty_88 rfl (lv_at hl 0 rfl) ?_
    refine gf_X8_12 hx hb hts hown hK hP 0 rfl rfl dX8_pieceProperty_89 ?_
    refine lv_bipush (v := (31 : Int32)) hx hb dX8_pieceProperty_92 (by decide) ?_
    refine lv_iload_n hx hb dX8_pieceProperty_94 rfl (lv_at hl 1 rfl) ?_
    refine lv_iadd hx hb dX8_pieceProperty_95 ?_
    obtain ⟨q10, eq10, hs⟩ := ob hs
    refine nd_callV (As := [.int ((31 : Int32) + x1)]) (rest := []) (st1 := [.int q10]) hx hb hml hown hts hl hP hK hD hS hA hN (mX0_get eq10) iv_X0_get wd_238 1 rfl rfl rfl rfl ⟨Nat.le_of_ble_eq_true rfl, Nat.le_of_ble_eq_true rfl⟩ (Nat.le_of_ble_eq_true rfl) ⟨Nat.zero_le _, Nat.zero_le _⟩ dX8_pieceProperty_96 rfl rfl (fun H locs hP hD hS => ?_)
    exact hret _ hs hP hS dX8_pieceProperty_99
  have hs := ite_f hs b9
  by_cases b11 : x2 = (5 : Int32)
  · have hs := ite_t hs b11
    rw [b11]
    refine lv_tableIn (off := (99)) (tgt := 100) hx hb dX8_pieceProperty_1 (by decide) (by decide) (by decide) (by decide) ?_
    refine lv_aload_n hx hb dX8_pieceProperty_100 rfl (lv_at hl 0 rfl) ?_
    refine gf_X8_12 hx hb hts hown hK hP 0 rfl rfl dX8_pieceProperty_101 ?_
    refine lv_iload_n hx hb dX8_pieceProperty_104 rfl (lv_at hl 1 rfl) ?_
    obtain ⟨q12, eq12, hs⟩ := ob hs
    refine nd_callV (As := [.int x1]) (rest := []) (st1 := [.int q12]) hx hb hml hown hts hl hP hK hD hS hA hN (mX0_firstOfRoll eq12) iv_X0_firstOfRoll wd_549 1 rfl rfl rfl rfl ⟨Nat.le_of_ble_eq_true rfl, Nat.le_of_ble_eq_true rfl⟩ (Nat.le_of_ble_eq_true rfl) ⟨Nat.zero_le _, Nat.zero_le _⟩ dX8_pieceProperty_105 rfl rfl (fun H locs hP hD hS => ?_)
    exact hret _ hs hP hS dX8_pieceProperty_108
  have hs := ite_f hs b11
  by_cases b13 : x2 = (6 : Int32)
  · have hs := ite_t hs b13
    rw [b13]
    refine lv_tableIn (off := (108)) (tgt := 109) hx hb dX8_pieceProperty_1 (by decide) (by decide) (by decide) (by decide) ?_
    refine lv_aload_n hx hb dX8_pieceProperty_109 rfl (lv_at hl 0 rfl) ?_
    refine gf_X8_12 hx hb hts hown hK hP 0 rfl rfl dX8_pieceProperty_110 ?_
    refine lv_iload_n hx hb dX8_pieceProperty_113 rfl (lv_at hl 1 rfl) ?_
    obtain ⟨q14, eq14, hs⟩ := ob hs
    refine nd_callS (As := [.ref (ad 1), .int x1]) (rest := []) (st1 := [.int q14]) hx hb hml hown hts hl hP hK hD hS hA hN (mX3_lowersOf eq14) is_X3_lowersOf wd_550 rfl rfl ⟨Nat.le_of_ble_eq_true rfl, Nat.le_of_ble_eq_true rfl⟩ (Nat.le_of_ble_eq_true rfl) ⟨Nat.zero_le _, Nat.zero_le _⟩ dX8_pieceProperty_114 rfl rfl (fun H locs hP hD hS => ?_)
    exact hret _ hs hP hS dX8_pieceProperty_117
  have hs := ite_f hs b13
  have zb1 : x2.toInt ≠ (0) := sw_ne b1
  have zb3 : x2.toInt ≠ (1) := sw_ne b3
  have zb5 : x2.toInt ≠ (2) := sw_ne b5
  have zb7 : x2.toInt ≠ (3) := sw_ne b7
  have zb9 : x2.toInt ≠ (4) := sw_ne b9
  have zb11 : x2.toInt ≠ (5) := sw_ne b11
  have zb13 : x2.toInt ≠ (6) := sw_ne b13
  refine lv_tableOut (tgt := 118) hx hb dX8_pieceProperty_1 (by omega) (by decide) ?_
  refine lv_aload_n hx hb dX8_pieceProperty_118 rfl (lv_at hl 0 rfl) ?_
  refine gf_X8_12 hx hb hts hown hK hP 0 rfl rfl dX8_pieceProperty_119 ?_
  refine lv_iload_n hx hb dX8_pieceProperty_122 rfl (lv_at hl 1 rfl) ?_
  obtain ⟨q15, eq15, hs⟩ := ob hs
  refine nd_callS (As := [.ref (ad 1), .int x1]) (rest := []) (st1 := [.int q15]) hx hb hml hown hts hl hP hK hD hS hA hN (mX7_sumOfPiece eq15) is_X7_sumOfPiece wd_551 rfl rfl ⟨Nat.le_of_ble_eq_true rfl, Nat.le_of_ble_eq_true rfl⟩ (Nat.le_of_ble_eq_true rfl) ⟨Nat.zero_le _, Nat.zero_le _⟩ dX8_pieceProperty_123 rfl rfl (fun H locs hP hD hS => ?_)
  exact hret _ hs hP hS dX8_pieceProperty_126
def tX8_pieceOf_0 : List (Nat × Instr × Nat) := [(0, .aload_n 0, 1), (1, .iload_n 1, 1), (2, .invokevirtual 71, 3), (5, .iload_n 2, 1), (6, .bipush 8, 2), (8, .invokestatic 153, 3), (11, .aload_n 0, 1), (12, .iload_n 1, 1), (13, .iload_n 2, 1), (14, .invokevirtual 156, 3), (17, .ireturn, 1)]
theorem tX8_pieceOf_0_ok : tX8_pieceOf_0.all (fun q => decide (decode cX8_pieceOf q.1 = .ok q.2)) = true := by decide +kernel
theorem dX8_pieceOf_0 : decode cX8_pieceOf 0 = .ok (.aload_n 0, 1) := td tX8_pieceOf_0_ok 0 (q := (0, .aload_n 0, 1)) rfl
theorem dX8_pieceOf_1 : decode cX8_pieceOf 1 = .ok (.iload_n 1, 1) := td tX8_pieceOf_0_ok 1 (q := (1, .iload_n 1, 1)) rfl
theorem dX8_pieceOf_2 : decode cX8_pieceOf 2 = .ok (.invokevirtual 71, 3) := td tX8_pieceOf_0_ok 2 (q := (2, .invokevirtual 71, 3)) rfl
theorem dX8_pieceOf_5 : decode cX8_pieceOf 5 = .ok (.iload_n 2, 1) := td tX8_pieceOf_0_ok 3 (q := (5, .iload_n 2, 1)) rfl
theorem dX8_pieceOf_6 : decode cX8_pieceOf 6 = .ok (.bipush 8, 2) := td tX8_pieceOf_0_ok 4 (q := (6, .bipush 8, 2)) rfl
theorem dX8_pieceOf_8 : decode cX8_pieceOf 8 = .ok (.invokestatic 153, 3) := td tX8_pieceOf_0_ok 5 (q := (8, .invokestatic 153, 3)) rfl
theorem dX8_pieceOf_11 : decode cX8_pieceOf 11 = .ok (.aload_n 0, 1) := td tX8_pieceOf_0_ok 6 (q := (11, .aload_n 0, 1)) rfl
theorem dX8_pieceOf_12 : decode cX8_pieceOf 12 = .ok (.iload_n 1, 1) := td tX8_pieceOf_0_ok 7 (q := (12, .iload_n 1, 1)) rfl
theorem dX8_pieceOf_13 : decode cX8_pieceOf 13 = .ok (.iload_n 2, 1) := td tX8_pieceOf_0_ok 8 (q := (13, .iload_n 2, 1)) rfl
theorem dX8_pieceOf_14 : decode cX8_pieceOf 14 = .ok (.invokevirtual 156, 3) := td tX8_pieceOf_0_ok 9 (q := (14, .invokevirtual 156, 3)) rfl
theorem dX8_pieceOf_17 : decode cX8_pieceOf 17 = .ok (.ireturn, 1) := td tX8_pieceOf_0_ok 10 (q := (17, .ireturn, 1)) rfl
def fX8_pieceOf (kc : (Nat → Int32)) (x1 : Int32) (x2 : Int32) : Option (Nat ⊕ (Int32)) :=
  (Option.bind (fX8_requirePiece kc x1) (fun q1 => (xs q1 (fun _ => (Option.bind (fX8_requireChoice x2 (8 : Int32)) (fun q3 => (xs q3 (fun _ => (Option.bind (fX8_pieceProperty kc x1 x2) (fun q5 => (some (.inr q5))))))))))))
set_option maxHeartbeats 4000000 in
set_option maxRecDepth 100000 in
theorem mX8_pieceOf {l : Launch} {D : va_G} {ad : Nat → Nat} {cI : ClassId} {kc : (Nat → Int32)} {ksv : (Nat → Int32)} {kbc : (Nat → Int32)} {kit : (Nat → Int32)} {kln : (Nat → Int32)} {ken : (Nat → Int32)} {kla : (Nat → Int32)} {kfi : (Nat → Int32)} {kea : (Nat → Int32)} {kns : Int32} {kbl : Int32} {kr0 : Int32} {kr1 : Int32} {kr2 : Int32} {kr3 : Int32} {kr4 : Int32} {kr5 : Int32} {klr : Int32} {kp0 : Int32} {kp1 : Int32} {kp2 : Int32} {kp3 : Int32} {x1 : Int32} {x2 : Int32} {r : Int32} (hs : fX8_pieceOf kc x1 x2 = some (.inr r)) : nd_C l yX8_pieceOf cX8_pieceOf 3 (some .int) 5 112 D [(cI, .int)] [.ref (ad 0), .int x1, .int x2] (CW ad cI kc ksv kbc kit kln ken kla kfi kea kns kbl kr0 kr1 kr2 kr3 kr4 kr5 klr kp0 kp1 kp2 kp3) (CW ad cI kc ksv kbc kit kln ken kla kfi kea kns kbl kr0 kr1 kr2 kr3 kr4 kr5 klr kp0 kp1 kp2 kp3) (some (.int r)) := by
  refine nd_ofCi (by decide) (Nat.le_of_ble_eq_true rfl) (fun p e s m args below meth c_ ls A Q hx hb hml hown hts hl hP hK hD hS hA hN hret => ?_)
  have hown : s.vm.findClass RX8 = some m.cls := hown
  have hl : lv_has ls 3 [(0, .ref (ad 0)), (1, .int x1), (2, .int x2)] := hl
  have hret : ∀ (z0 : Int32) {H : Heap} {locs : List Loc} {pc : Nat} {ls : Array Slot}, some (Sum.inr (α := Nat) z0) = some (.inr r) → va_P D vwCl (CW ad cI kc ksv kbc kit kln ken kla kfi kea kns kbl kr0 kr1 kr2 kr3 kr4 kr5 klr kp0 kp1 kp2 kp3) H → va_S A s.heap H locs → decode cX8_pieceOf pc = .ok (.ireturn, 1) → W p l e ⟨5, 0, 0, 112⟩ s m args below meth c_ H locs 0 0 Q (F0 m pc ls [.int z0]) := by
    intro z0 H locs pc ls h hP hS hd
    cases h
    exact hret hP hS hd
  rw [fX8_pieceOf] at hs
  refine lv_aload_n hx hb dX8_pieceOf_0 rfl (lv_at hl 0 rfl) ?_
  refine lv_iload_n hx hb dX8_pieceOf_1 rfl (lv_at hl 1 rfl) ?_
  obtain ⟨q2, eq1, hs⟩ := xob_r hs
  refine nd_callV (As := [.int x1]) (rest := []) (st1 := []) hx hb hml hown hts hl hP hK hD hS hA hN (mX8_requirePiece eq1) iv_X8_requirePiece wd_155 0 rfl rfl rfl rfl ⟨Nat.le_of_ble_eq_true rfl, Nat.le_of_ble_eq_true rfl⟩ (Nat.le_of_ble_eq_true rfl) ⟨Nat.zero_le _, Nat.zero_le _⟩ dX8_pieceOf_2 rfl rfl (fun H locs hP hD hS => ?_)
  refine lv_iload_n hx hb dX8_pieceOf_5 rfl (lv_at hl 2 rfl) ?_
  refine lv_bipush (v := (8 : Int32)) hx hb dX8_pieceOf_6 (by decide) ?_
  obtain ⟨q4, eq3, hs⟩ := xob_r hs
  refine nd_callS (As := [.int x2, .int (8 : Int32)]) (rest := []) (st1 := []) hx hb hml hown hts hl hP hK hD hS hA hN (mX8_requireChoice eq3) is_X8_requireChoice wd_542 rfl rfl ⟨Nat.le_of_ble_eq_true rfl, Nat.le_of_ble_eq_true rfl⟩ (Nat.le_of_ble_eq_true rfl) ⟨Nat.zero_le _, Nat.zero_le _⟩ dX8_pieceOf_8 rfl rfl (fun H locs hP hD hS => ?_)
  refine lv_aload_n hx hb dX8_pieceOf_11 rfl (lv_at hl 0 rfl) ?_
  refine lv_iload_n hx hb dX8_pieceOf_12 rfl (lv_at hl 1 rfl) ?_
  refine lv_iload_n hx hb dX8_pieceOf_13 rfl (lv_at hl 2 rfl) ?_
  obtain ⟨q5, eq5, hs⟩ := ob hs
  refine nd_callV (As := [.int x1, .int x2]) (rest := []) (st1 := [.int q5]) hx hb hml hown hts hl hP hK hD hS hA hN (mX8_pieceProperty eq5) iv_X8_pieceProperty wd_545 0 rfl rfl rfl rfl ⟨Nat.le_of_ble_eq_true rfl, Nat.le_of_ble_eq_true rfl⟩ (Nat.le_of_ble_eq_true rfl) ⟨Nat.zero_le _, Nat.zero_le _⟩ dX8_pieceOf_14 rfl rfl (fun H locs hP hD hS => ?_)
  exact hret _ hs hP hS dX8_pieceOf_17
set_option maxHeartbeats 4000000 in
set_option maxRecDepth 100000 in
theorem xX8_pieceOf {l : Launch} (hnt : l.stackTraces = false) {D : va_G} {ad : Nat → Nat} {cI : ClassId} {kc : (Nat → Int32)} {ksv : (Nat → Int32)} {kbc : (Nat → Int32)} {kit : (Nat → Int32)} {kln : (Nat → Int32)} {ken : (Nat → Int32)} {kla : (Nat → Int32)} {kfi : (Nat → Int32)} {kea : (Nat → Int32)} {kns : Int32} {kbl : Int32} {kr0 : Int32} {kr1 : Int32} {kr2 : Int32} {kr3 : Int32} {kr4 : Int32} {kr5 : Int32} {klr : Int32} {kp0 : Int32} {kp1 : Int32} {kp2 : Int32} {kp3 : Int32} {x1 : Int32} {x2 : Int32} {k : Nat} (hs : fX8_pieceOf kc x1 x2 = some (.inl k)) : nd_CX l yX8_pieceOf cX8_pieceOf 3 (some .int) 7 112 D [(cI, .int)] [.ref (ad 0), .int x1, .int x2] (CW ad cI kc ksv kbc kit kln ken kla kfi kea kns kbl kr0 kr1 kr2 kr3 kr4 kr5 klr kp0 kp1 kp2 kp3) (fun W1 => W1 = (CW ad cI kc ksv kbc kit kln ken kla kfi kea kns kbl kr0 kr1 kr2 kr3 kr4 kr5 klr kp0 kp1 kp2 kp3)) k := by
  refine nd_ofX (by decide) (Nat.le_of_ble_eq_true rfl) (fun p e s m args below meth c_ ls A hx hb hml hown hts hl hP hK hD hS hA hN hX hxt hlocks hAe => ?_)
  have hown : s.vm.findClass RX8 = some m.cls := hown
  have hl : lv_has ls 3 [(0, .ref (ad 0)), (1, .int x1), (2, .int x2)] := hl
  rw [fX8_pieceOf] at hs
  refine lv_aload_n hx hb dX8_pieceOf_0 rfl (lv_at hl 0 rfl) ?_
  refine lv_iload_n hx hb dX8_pieceOf_1 rfl (lv_at hl 1 rfl) ?_
  rcases xob_l hs with eq1 | ⟨q2, eq1, hs⟩
  · exact nd_callXV (fun _ h => h) (As := [.int x1]) (rest := []) hx hb hml hown hts hl hP hK hD hS hA hN hX hxt hlocks hAe (xX8_requirePiece hnt eq1) iv_X8_requirePiece wd_155 0 rfl rfl rfl ⟨Nat.le_of_ble_eq_true rfl, Nat.le_of_ble_eq_true rfl⟩ (by decide) (Nat.le_of_ble_eq_true rfl) dX8_pieceOf_2 rfl
  refine nd_callV (As := [.int x1]) (rest := []) (st1 := []) hx hb hml hown hts hl hP hK hD hS hA hN (mX8_requirePiece eq1) iv_X8_requirePiece wd_155 0 rfl rfl rfl rfl ⟨Nat.le_of_ble_eq_true rfl, Nat.le_of_ble_eq_true rfl⟩ (Nat.le_of_ble_eq_true rfl) ⟨Nat.zero_le _, Nat.zero_le _⟩ dX8_pieceOf_2 rfl rfl (fun H locs hP hD hS => ?_)
  refine lv_iload_n hx hb dX8_pieceOf_5 rfl (lv_at hl 2 rfl) ?_
  refine lv_bipush (v := (8 : Int32)) hx hb dX8_pieceOf_6 (by decide) ?_
  rcases xob_l hs with eq3 | ⟨q4, eq3, hs⟩
  · exact nd_callXS (fun _ h => h) (As := [.int x2, .int (8 : Int32)]) (rest := []) hx hb hml hown hts hl hP hK hD hS hA hN hX hxt hlocks hAe (xX8_requireChoice hnt eq3) is_X8_requireChoice wd_542 rfl ⟨Nat.le_of_ble_eq_true rfl, Nat.le_of_ble_eq_true rfl⟩ (by decide) (Nat.le_of_ble_eq_true rfl) dX8_pieceOf_8 rfl
  refine nd_callS (As := [.int x2, .int (8 : Int32)]) (rest := []) (st1 := []) hx hb hml hown hts hl hP hK hD hS hA hN (mX8_requireChoice eq3) is_X8_requireChoice wd_542 rfl rfl ⟨Nat.le_of_ble_eq_true rfl, Nat.le_of_ble_eq_true rfl⟩ (Nat.le_of_ble_eq_true rfl) ⟨Nat.zero_le _, Nat.zero_le _⟩ dX8_pieceOf_8 rfl rfl (fun H locs hP hD hS => ?_)
  refine lv_aload_n hx hb dX8_pieceOf_11 rfl (lv_at hl 0 rfl) ?_
  refine lv_iload_n hx hb dX8_pieceOf_12 rfl (lv_at hl 1 rfl) ?_
  refine lv_iload_n hx hb dX8_pieceOf_13 rfl (lv_at hl 2 rfl) ?_
  obtain ⟨q5, eq5, hs⟩ := ob hs
  refine nd_callV (As := [.int x1, .int x2]) (rest := []) (st1 := [.int q5]) hx hb hml hown hts hl hP hK hD hS hA hN (mX8_pieceProperty eq5) iv_X8_pieceProperty wd_545 0 rfl rfl rfl rfl ⟨Nat.le_of_ble_eq_true rfl, Nat.le_of_ble_eq_true rfl⟩ (Nat.le_of_ble_eq_true rfl) ⟨Nat.zero_le _, Nat.zero_le _⟩ dX8_pieceOf_14 rfl rfl (fun H locs hP hD hS => ?_)
  cases hs
def tX8_receiptProperty_0 : List (Nat × Instr × Nat) := [(0, .iload_n 2, 1), (1, .tableswitch 133 0 7 #[47, 59, 71, 84, 93, 106, 115, 124], 47), (48, .aload_n 0, 1), (49, .getfield 12, 3), (52, .bipush 51, 2), (54, .iload_n 1, 1), (55, .iadd, 1), (56, .invokevirtual 106, 3), (59, .ireturn, 1), (60, .aload_n 0, 1), (61, .getfield 12, 3), (64, .bipush 111, 2), (66, .iload_n 1, 1), (67, .iadd, 1), (68, .invokevirtual 106, 3), (71, .ireturn, 1), (72, .aload_n 0, 1), (73, .getfield 12, 3), (76, .sipush 231, 3), (79, .iload_n 1, 1), (80, .iadd, 1), (81, .invokevirtual 106, 3), (84, .ireturn, 1), (85, .aload_n 0, 1), (86, .getfield 12, 3), (89, .iload_n 1, 1), (90, .invokevirtual 100, 3), (93, .ireturn, 1), (94, .aload_n 0, 1), (95, .getfield 12, 3), (98, .sipush 171, 3), (101, .iload_n 1, 1), (102, .iadd, 1), (103, .invokevirtual 106, 3), (106, .ireturn, 1), (107, .aload_n 0, 1), (108, .getfield 12, 3), (111, .iload_n 1, 1), (112, .invokestatic 301, 3), (115, .ireturn, 1), (116, .aload_n 0, 1), (117, .getfield 12, 3), (120, .iload_n 1, 1), (121, .invokevirtual 306, 3), (124, .ireturn, 1), (125, .aload_n 0, 1), (126, .getfield 12, 3), (129, .iload_n 1, 1), (130, .invokevirtual 309, 3), (133, .ireturn, 1), (134, .aload_n 0, 1), (135, .getfield 12, 3), (138, .iload_n 1, 1), (139, .invokestatic 312, 3), (142, .ireturn, 1)]
theorem tX8_receiptProperty_0_ok : tX8_receiptProperty_0.all (fun q => decide (decode cX8_receiptProperty q.1 = .ok q.2)) = true := by decide +kernel
theorem dX8_receiptProperty_0 : decode cX8_receiptProperty 0 = .ok (.iload_n 2, 1) := td tX8_receiptProperty_0_ok 0 (q := (0, .iload_n 2, 1)) rfl
theorem dX8_receiptProperty_1 : decode cX8_receiptProperty 1 = .ok (.tableswitch 133 0 7 #[47, 59, 71, 84, 93, 106, 115, 124], 47) := td tX8_receiptProperty_0_ok 1 (q := (1, .tableswitch 133 0 7 #[47, 59, 71, 84, 93, 106, 115, 124], 47)) rfl
theorem dX8_receiptProperty_48 : decode cX8_receiptProperty 48 = .ok (.aload_n 0, 1) := td tX8_receiptProperty_0_ok 2 (q := (48, .aload_n 0, 1)) rfl
theorem dX8_receiptProperty_49 : decode cX8_receiptProperty 49 = .ok (.getfield 12, 3) := td tX8_receiptProperty_0_ok 3 (q := (49, .getfield 12, 3)) rfl
theorem dX8_receiptProperty_52 : decode cX8_receiptProperty 52 = .ok (.bipush 51, 2) := td tX8_receiptProperty_0_ok 4 (q := (52, .bipush 51, 2)) rfl
theorem dX8_receiptProperty_54 : decode cX8_receiptProperty 54 = .ok (.iload_n 1, 1) := td tX8_receiptProperty_0_ok 5 (q := (54, .iload_n 1, 1)) rfl
theorem dX8_receiptProperty_55 : decode cX8_receiptProperty 55 = .ok (.iadd, 1) := td tX8_receiptProperty_0_ok 6 (q := (55, .iadd, 1)) rfl
theorem dX8_receiptProperty_56 : decode cX8_receiptProperty 56 = .ok (.invokevirtual 106, 3) := td tX8_receiptProperty_0_ok 7 (q := (56, .invokevirtual 106, 3)) rfl
theorem dX8_receiptProperty_59 : decode cX8_receiptProperty 59 = .ok (.ireturn, 1) := td tX8_receiptProperty_0_ok 8 (q := (59, .ireturn, 1)) rfl
theorem dX8_receiptProperty_60 : decode cX8_receiptProperty 60 = .ok (.aload_n 0, 1) := td tX8_receiptProperty_0_ok 9 (q := (60, .aload_n 0, 1)) rfl
theorem dX8_receiptProperty_61 : decode cX8_receiptProperty 61 = .ok (.getfield 12, 3) := td tX8_receiptProperty_0_ok 10 (q := (61, .getfield 12, 3)) rfl
theorem dX8_receiptProperty_64 : decode cX8_receiptProperty 64 = .ok (.bipush 111, 2) := td tX8_receiptProperty_0_ok 11 (q := (64, .bipush 111, 2)) rfl
theorem dX8_receiptProperty_66 : decode cX8_receiptProperty 66 = .ok (.iload_n 1, 1) := td tX8_receiptProperty_0_ok 12 (q := (66, .iload_n 1, 1)) rfl
theorem dX8_receiptProperty_67 : decode cX8_receiptProperty 67 = .ok (.iadd, 1) := td tX8_receiptProperty_0_ok 13 (q := (67, .iadd, 1)) rfl
theorem dX8_receiptProperty_68 : decode cX8_receiptProperty 68 = .ok (.invokevirtual 106, 3) := td tX8_receiptProperty_0_ok 14 (q := (68, .invokevirtual 106, 3)) rfl
theorem dX8_receiptProperty_71 : decode cX8_receiptProperty 71 = .ok (.ireturn, 1) := td tX8_receiptProperty_0_ok 15 (q := (71, .ireturn, 1)) rfl
theorem dX8_receiptProperty_72 : decode cX8_receiptProperty 72 = .ok (.aload_n 0, 1) := td tX8_receiptProperty_0_ok 16 (q := (72, .aload_n 0, 1)) rfl
theorem dX8_receiptProperty_73 : decode cX8_receiptProperty 73 = .ok (.getfield 12, 3) := td tX8_receiptProperty_0_ok 17 (q := (73, .getfield 12, 3)) rfl
theorem dX8_receiptProperty_76 : decode cX8_receiptProperty 76 = .ok (.sipush 231, 3) := td tX8_receiptProperty_0_ok 18 (q := (76, .sipush 231, 3)) rfl
theorem dX8_receiptProperty_79 : decode cX8_receiptProperty 79 = .ok (.iload_n 1, 1) := td tX8_receiptProperty_0_ok 19 (q := (79, .iload_n 1, 1)) rfl
theorem dX8_receiptProperty_80 : decode cX8_receiptProperty 80 = .ok (.iadd, 1) := td tX8_receiptProperty_0_ok 20 (q := (80, .iadd, 1)) rfl
theorem dX8_receiptProperty_81 : decode cX8_receiptProperty 81 = .ok (.invokevirtual 106, 3) := td tX8_receiptProperty_0_ok 21 (q := (81, .invokevirtual 106, 3)) rfl
theorem dX8_receiptProperty_84 : decode cX8_receiptProperty 84 = .ok (.ireturn, 1) := td tX8_receiptProperty_0_ok 22 (q := (84, .ireturn, 1)) rfl
theorem dX8_receiptProperty_85 : decode cX8_receiptProperty 85 = .ok (.aload_n 0, 1) := td tX8_receiptProperty_0_ok 23 (q := (85, .aload_n 0, 1)) rfl
theorem dX8_receiptProperty_86 : decode cX8_receiptProperty 86 = .ok (.getfield 12, 3) := td tX8_receiptProperty_0_ok 24 (q := (86, .getfield 12, 3)) rfl
theorem dX8_receiptProperty_89 : decode cX8_receiptProperty 89 = .ok (.iload_n 1, 1) := td tX8_receiptProperty_0_ok 25 (q := (89, .iload_n 1, 1)) rfl
theorem dX8_receiptProperty_90 : decode cX8_receiptProperty 90 = .ok (.invokevirtual 100, 3) := td tX8_receiptProperty_0_ok 26 (q := (90, .invokevirtual 100, 3)) rfl
theorem dX8_receiptProperty_93 : decode cX8_receiptProperty 93 = .ok (.ireturn, 1) := td tX8_receiptProperty_0_ok 27 (q := (93, .ireturn, 1)) rfl
theorem dX8_receiptProperty_94 : decode cX8_receiptProperty 94 = .ok (.aload_n 0, 1) := td tX8_receiptProperty_0_ok 28 (q := (94, .aload_n 0, 1)) rfl
theorem dX8_receiptProperty_95 : decode cX8_receiptProperty 95 = .ok (.getfield 12, 3) := td tX8_receiptProperty_0_ok 29 (q := (95, .getfield 12, 3)) rfl
theorem dX8_receiptProperty_98 : decode cX8_receiptProperty 98 = .ok (.sipush 171, 3) := td tX8_receiptProperty_0_ok 30 (q := (98, .sipush 171, 3)) rfl
theorem dX8_receiptProperty_101 : decode cX8_receiptProperty 101 = .ok (.iload_n 1, 1) := td tX8_receiptProperty_0_ok 31 (q := (101, .iload_n 1, 1)) rfl
theorem dX8_receiptProperty_102 : decode cX8_receiptProperty 102 = .ok (.iadd, 1) := td tX8_receiptProperty_0_ok 32 (q := (102, .iadd, 1)) rfl
theorem dX8_receiptProperty_103 : decode cX8_receiptProperty 103 = .ok (.invokevirtual 106, 3) := td tX8_receiptProperty_0_ok 33 (q := (103, .invokevirtual 106, 3)) rfl
theorem dX8_receiptProperty_106 : decode cX8_receiptProperty 106 = .ok (.ireturn, 1) := td tX8_receiptProperty_0_ok 34 (q := (106, .ireturn, 1)) rfl
theorem dX8_receiptProperty_107 : decode cX8_receiptProperty 107 = .ok (.aload_n 0, 1) := td tX8_receiptProperty_0_ok 35 (q := (107, .aload_n 0, 1)) rfl
theorem dX8_receiptProperty_108 : decode cX8_receiptProperty 108 = .ok (.getfield 12, 3) := td tX8_receiptProperty_0_ok 36 (q := (108, .getfield 12, 3)) rfl
theorem dX8_receiptProperty_111 : decode cX8_receiptProperty 111 = .ok (.iload_n 1, 1) := td tX8_receiptProperty_0_ok 37 (q := (111, .iload_n 1, 1)) rfl
theorem dX8_receiptProperty_112 : decode cX8_receiptProperty 112 = .ok (.invokestatic 301, 3) := td tX8_receiptProperty_0_ok 38 (q := (112, .invokestatic 301, 3)) rfl
theorem dX8_receiptProperty_115 : decode cX8_receiptProperty 115 = .ok (.ireturn, 1) := td tX8_receiptProperty_0_ok 39 (q := (115, .ireturn, 1)) rfl
theorem dX8_receiptProperty_116 : decode cX8_receiptProperty 116 = .ok (.aload_n 0, 1) := td tX8_receiptProperty_0_ok 40 (q := (116, .aload_n 0, 1)) rfl
theorem dX8_receiptProperty_117 : decode cX8_receiptProperty 117 = .ok (.getfield 12, 3) := td tX8_receiptProperty_0_ok 41 (q := (117, .getfield 12, 3)) rfl
theorem dX8_receiptProperty_120 : decode cX8_receiptProperty 120 = .ok (.iload_n 1, 1) := td tX8_receiptProperty_0_ok 42 (q := (120, .iload_n 1, 1)) rfl
theorem dX8_receiptProperty_121 : decode cX8_receiptProperty 121 = .ok (.invokevirtual 306, 3) := td tX8_receiptProperty_0_ok 43 (q := (121, .invokevirtual 306, 3)) rfl
theorem dX8_receiptProperty_124 : decode cX8_receiptProperty 124 = .ok (.ireturn, 1) := td tX8_receiptProperty_0_ok 44 (q := (124, .ireturn, 1)) rfl
theorem dX8_receiptProperty_125 : decode cX8_receiptProperty 125 = .ok (.aload_n 0, 1) := td tX8_receiptProperty_0_ok 45 (q := (125, .aload_n 0, 1)) rfl
theorem dX8_receiptProperty_126 : decode cX8_receiptProperty 126 = .ok (.getfield 12, 3) := td tX8_receiptProperty_0_ok 46 (q := (126, .getfield 12, 3)) rfl
theorem dX8_receiptProperty_129 : decode cX8_receiptProperty 129 = .ok (.iload_n 1, 1) := td tX8_receiptProperty_0_ok 47 (q := (129, .iload_n 1, 1)) rfl
theorem dX8_receiptProperty_130 : decode cX8_receiptProperty 130 = .ok (.invokevirtual 309, 3) := td tX8_receiptProperty_0_ok 48 (q := (130, .invokevirtual 309, 3)) rfl
theorem dX8_receiptProperty_133 : decode cX8_receiptProperty 133 = .ok (.ireturn, 1) := td tX8_receiptProperty_0_ok 49 (q := (133, .ireturn, 1)) rfl
theorem dX8_receiptProperty_134 : decode cX8_receiptProperty 134 = .ok (.aload_n 0, 1) := td tX8_receiptProperty_0_ok 50 (q := (134, .aload_n 0, 1)) rfl
theorem dX8_receiptProperty_135 : decode cX8_receiptProperty 135 = .ok (.getfield 12, 3) := td tX8_receiptProperty_0_ok 51 (q := (135, .getfield 12, 3)) rfl
theorem dX8_receiptProperty_138 : decode cX8_receiptProperty 138 = .ok (.iload_n 1, 1) := td tX8_receiptProperty_0_ok 52 (q := (138, .iload_n 1, 1)) rfl
theorem dX8_receiptProperty_139 : decode cX8_receiptProperty 139 = .ok (.invokestatic 312, 3) := td tX8_receiptProperty_0_ok 53 (q := (139, .invokestatic 312, 3)) rfl
theorem dX8_receiptProperty_142 : decode cX8_receiptProperty 142 = .ok (.ireturn, 1) := td tX8_receiptProperty_0_ok 54 (q := (142, .ireturn, 1)) rfl
def fX8_receiptProperty (kc : (Nat → Int32)) (x1 : Int32) (x2 : Int32) : Option (Int32) :=
  (if x2 = (0 : Int32) then (Option.bind (fX0_get kc ((51 : Int32) + x1)) (fun q2 => (some q2))) else (if x2 = (1 : Int32) then (Option.bind (fX0_get kc ((111 : Int32) + x1)) (fun q4 => (some q4))) else (if x2 = (2 : Int32) then (Option.bind (fX0_get kc ((231 : Int32) + x1)) (fun q6 => (some q6))) else (if x2 = (3 : Int32) then (Option.bind (fX0_sumOf kc x1) (fun q8 => (some q8))) else (if x2 = (4 : Int32) then (Option.bind (fX0_get kc ((171 : Int32) + x1)) (fun q10 => (some q10))) else (if x2 = (5 : Int32) then (Option.bind (fX2_kindOf kc x1) (fun q12 => (some q12))) else (if x2 = (6 : Int32) then (Option.bind (fX0_pageOfSlot kc x1) (fun q14 => (some q14))) else (if x2 = (7 : Int32) then (Option.bind (fX0_hourOfSlot kc x1) (fun q16 => (some q16))) else (Option.bind (fX7_alikeTo kc x1) (fun q17 => (some q17)))))))))))
set_option maxHeartbeats 4000000 in
set_option maxRecDepth 100000 in
theorem mX8_receiptProperty {l : Launch} {D : va_G} {ad : Nat → Nat} {cI : ClassId} {kc : (Nat → Int32)} {ksv : (Nat → Int32)} {kbc : (Nat → Int32)} {kit : (Nat → Int32)} {kln : (Nat → Int32)} {ken : (Nat → Int32)} {kla : (Nat → Int32)} {kfi : (Nat → Int32)} {kea : (Nat → Int32)} {kns : Int32} {kbl : Int32} {kr0 : Int32} {kr1 : Int32} {kr2 : Int32} {kr3 : Int32} {kr4 : Int32} {kr5 : Int32} {klr : Int32} {kp0 : Int32} {kp1 : Int32} {kp2 : Int32} {kp3 : Int32} {x1 : Int32} {x2 : Int32} {r : Int32} (hs : fX8_receiptProperty kc x1 x2 = some r) : nd_C l yX8_receiptProperty cX8_receiptProperty 3 (some .int) 3 71 D [(cI, .int)] [.ref (ad 0), .int x1, .int x2] (CW ad cI kc ksv kbc kit kln ken kla kfi kea kns kbl kr0 kr1 kr2 kr3 kr4 kr5 klr kp0 kp1 kp2 kp3) (CW ad cI kc ksv kbc kit kln ken kla kfi kea kns kbl kr0 kr1 kr2 kr3 kr4 kr5 klr kp0 kp1 kp2 kp3) (some (.int r)) := by
  refine nd_ofCi (by decide) (Nat.le_of_ble_eq_true rfl) (fun p e s m args below meth c_ ls A Q hx hb hml hown hts hl hP hK hD hS hA hN hret => ?_)
  have hown : s.vm.findClass RX8 = some m.cls := hown
  have hl : lv_has ls 3 [(0, .ref (ad 0)), (1, .int x1), (2, .int x2)] := hl
  have hret : ∀ (z0 : Int32) {H : Heap} {locs : List Loc} {pc : Nat} {ls : Array Slot}, some z0 = some r → va_P D vwCl (CW ad cI kc ksv kbc kit kln ken kla kfi kea kns kbl kr0 kr1 kr2 kr3 kr4 kr5 klr kp0 kp1 kp2 kp3) H → va_S A s.heap H locs → decode cX8_receiptProperty pc = .ok (.ireturn, 1) → W p l e ⟨3, 0, 0, 71⟩ s m args below meth c_ H locs 0 0 Q (F0 m pc ls [.int z0]) := by
    intro z0 H locs pc ls h hP hS hd
    cases h
    exact hret hP hS hd
  rw [fX8_receiptProperty] at hs
  refine lv_iload_n hx hb dX8_receiptProperty_0 rfl (lv_at hl 2 rfl) ?_
  by_cases b1 : x2 = (0 : Int32)
  · have hs := ite_t hs b1
    rw [b1]
    refine lv_tableIn (off := (47)) (tgt := 48) hx hb dX8_receiptProperty_1 (by decide) (by decide) (by decide) (by decide) ?_
    refine lv_aload_n hx hb dX8_receiptProperty_48 rfl (lv_at hl 0 rfl) ?_
    refine gf_X8_12 hx hb hts hown hK hP 0 rfl rfl dX8_receiptProperty_49 ?_
    refine lv_bipush (v := (51 : Int32)) hx hb dX8_receiptProperty_52 (by decide) ?_
    refine lv_iload_n hx hb dX8_receiptProperty_54 rfl (lv_at hl 1 rfl) ?_
    refine lv_iadd hx hb dX8_receiptProperty_55 ?_
    obtain ⟨q2, eq2, hs⟩ := ob hs
    refine nd_callV (As := [.int ((51 : Int32) + x1)]) (rest := []) (st1 := [.int q2]) hx hb hml hown hts hl hP hK hD hS hA hN (mX0_get eq2) iv_X0_get wd_238 1 rfl rfl rfl rfl ⟨Nat.le_of_ble_eq_true rfl, Nat.le_of_ble_eq_true rfl⟩ (Nat.le_of_ble_eq_true rfl) ⟨Nat.zero_le _, Nat.zero_le _⟩ dX8_receiptProperty_56 rfl rfl (fun H locs hP hD hS => ?_)
    exact hret _ hs hP hS dX8_receiptProperty_59
  have hs := ite_f hs b1
  by_cases b3 : x2 = (1 : Int32)
  · have hs := ite_t hs b3
    rw [b3]
    refine lv_tableIn (off := (59)) (tgt := 60) hx hb dX8_receiptProperty_1 (by decide) (by decide) (by decide) (by decide) ?_
    refine lv_aload_n hx hb dX8_receiptProperty_60 rfl (lv_at hl 0 rfl) ?_
    refine gf_X8_12 hx hb hts hown hK hP 0 rfl rfl dX8_receiptProperty_61 ?_
    refine lv_bipush (v := (111 : Int32)) hx hb dX8_receiptProperty_64 (by decide) ?_
    refine lv_iload_n hx hb dX8_receiptProperty_66 rfl (lv_at hl 1 rfl) ?_
    refine lv_iadd hx hb dX8_receiptProperty_67 ?_
    obtain ⟨q4, eq4, hs⟩ := ob hs
    refine nd_callV (As := [.int ((111 : Int32) + x1)]) (rest := []) (st1 := [.int q4]) hx hb hml hown hts hl hP hK hD hS hA hN (mX0_get eq4) iv_X0_get wd_238 1 rfl rfl rfl rfl ⟨Nat.le_of_ble_eq_true rfl, Nat.le_of_ble_eq_true rfl⟩ (Nat.le_of_ble_eq_true rfl) ⟨Nat.zero_le _, Nat.zero_le _⟩ dX8_receiptProperty_68 rfl rfl (fun H locs hP hD hS => ?_)
    exact hret _ hs hP hS dX8_receiptProperty_71
  have hs := ite_f hs b3
  by_cases b5 : x2 = (2 : Int32)
  · have hs := ite_t hs b5
    rw [b5]
    refine lv_tableIn (off := (71)) (tgt := 72) hx hb dX8_receiptProperty_1 (by decide) (by decide) (by decide) (by decide) ?_
    refine lv_aload_n hx hb dX8_receiptProperty_72 rfl (lv_at hl 0 rfl) ?_
    refine gf_X8_12 hx hb hts hown hK hP 0 rfl rfl dX8_receiptProperty_73 ?_
    refine lv_sipush (v := (231 : Int32)) hx hb dX8_receiptProperty_76 (by decide) ?_
    refine lv_iload_n hx hb dX8_receiptProperty_79 rfl (lv_at hl 1 rfl) ?_
    refine lv_iadd hx hb dX8_receiptProperty_80 ?_
    obtain ⟨q6, eq6, hs⟩ := ob hs
    refine nd_callV (As := [.int ((231 : Int32) + x1)]) (rest := []) (st1 := [.int q6]) hx hb hml hown hts hl hP hK hD hS hA hN (mX0_get eq6) iv_X0_get wd_238 1 rfl rfl rfl rfl ⟨Nat.le_of_ble_eq_true rfl, Nat.le_of_ble_eq_true rfl⟩ (Nat.le_of_ble_eq_true rfl) ⟨Nat.zero_le _, Nat.zero_le _⟩ dX8_receiptProperty_81 rfl rfl (fun H locs hP hD hS => ?_)
    exact hret _ hs hP hS dX8_receiptProperty_84
  have hs := ite_f hs b5
  by_cases b7 : x2 = (3 : Int32)
  · have hs := ite_t hs b7
    rw [b7]
    refine lv_tableIn (off := (84)) (tgt := 85) hx hb dX8_receiptProperty_1 (by decide) (by decide) (by decide) (by decide) ?_
    refine lv_aload_n hx hb dX8_receiptProperty_85 rfl (lv_at hl 0 rfl) ?_
    refine gf_X8_12 hx hb hts hown hK hP 0 rfl rfl dX8_receiptProperty_86 ?_
    refine lv_iload_n hx hb dX8_receiptProperty_89 rfl (lv_at hl 1 rfl) ?_
    obtain ⟨q8, eq8, hs⟩ := ob hs
    refine nd_callV (As := [.int x1]) (rest := []) (st1 := [.int q8]) hx hb hml hown hts hl hP hK hD hS hA hN (mX0_sumOf eq8) iv_X0_sumOf wd_337 1 rfl rfl rfl rfl ⟨Nat.le_of_ble_eq_true rfl, Nat.le_of_ble_eq_true rfl⟩ (Nat.le_of_ble_eq_true rfl) ⟨Nat.zero_le _, Nat.zero_le _⟩ dX8_receiptProperty_90 rfl rfl (fun H locs hP hD hS => ?_)
    exact hret _ hs hP hS dX8_receiptProperty_93
  have hs := ite_f hs b7
  by_cases b9 : x2 = (4 : Int32)
  · have hs := ite_t hs b9
    rw [b9]
    refine lv_tableIn (off := (93)) (tgt := 94) hx hb dX8_receiptProperty_1 (by decide) (by decide) (by decide) (by decide) ?_
    refine lv_aload_n hx hb dX8_receiptProperty_94 rfl (lv_at hl 0 rfl) ?_
    refine gf_X8_12 hx hb hts hown hK hP 0 rfl rfl dX8_receiptProperty_95 ?_
    refine lv_sipush (v := (171 : Int32)) hx hb dX8_receiptProperty_98 (by decide) ?_
    refine lv_iload_n hx hb dX8_receiptProperty_101 rfl (lv_at hl 1 rfl) ?_
    refine lv_iadd hx hb dX8_receiptProperty_102 ?_
    obtain ⟨q10, eq10, hs⟩ := ob hs
    refine nd_callV (As := [.int ((171 : Int32) + x1)]) (rest := []) (st1 := [.int q10]) hx hb hml hown hts hl hP hK hD hS hA hN (mX0_get eq10) iv_X0_get wd_238 1 rfl rfl rfl rfl ⟨Nat.le_of_ble_eq_true rfl, Nat.le_of_ble_eq_true rfl⟩ (Nat.le_of_ble_eq_true rfl) ⟨Nat.zero_le _, Nat.zero_le _⟩ dX8_receiptProperty_103 rfl rfl (fun H locs hP hD hS => ?_)
    exact hret _ hs hP hS dX8_receiptProperty_106
  have hs := ite_f hs b9
  by_cases b11 : x2 = (5 : Int32)
  · have hs := ite_t hs b11
    rw [b11]
    refine lv_tableIn (off := (106)) (tgt := 107) hx hb dX8_receiptProperty_1 (by decide) (by decide) (by decide) (by decide) ?_
    refine lv_aload_n hx hb dX8_receiptProperty_107 rfl (lv_at hl 0 rfl) ?_
    refine gf_X8_12 hx hb hts hown hK hP 0 rfl rfl dX8_receiptProperty_108 ?_
    refine lv_iload_n hx hb dX8_receiptProperty_111 rfl (lv_at hl 1 rfl) ?_
    obtain ⟨q12, eq12, hs⟩ := ob hs
    refine nd_callS (As := [.ref (ad 1), .int x1]) (rest := []) (st1 := [.int q12]) hx hb hml hown hts hl hP hK hD hS hA hN (mX2_kindOf eq12) is_X2_kindOf wd_581 rfl rfl ⟨Nat.le_of_ble_eq_true rfl, Nat.le_of_ble_eq_true rfl⟩ (Nat.le_of_ble_eq_true rfl) ⟨Nat.zero_le _, Nat.zero_le _⟩ dX8_receiptProperty_112 rfl rfl (fun H locs hP hD hS => ?_)
    exact hret _ hs hP hS dX8_receiptProperty_115
  have hs := ite_f hs b11
  by_cases b13 : x2 = (6 : Int32)
  · have hs := ite_t hs b13
    rw [b13]
    refine lv_tableIn (off := (115)) (tgt := 116) hx hb dX8_receiptProperty_1 (by decide) (by decide) (by decide) (by decide) ?_
    refine lv_aload_n hx hb dX8_receiptProperty_116 rfl (lv_at hl 0 rfl) ?_
    refine gf_X8_12 hx hb hts hown hK hP 0 rfl rfl dX8_receiptProperty_117 ?_
    refine lv_iload_n hx hb dX8_receiptProperty_120 rfl (lv_at hl 1 rfl) ?_
    obtain ⟨q14, eq14, hs⟩ := ob hs
    refine nd_callV (As := [.int x1]) (rest := []) (st1 := [.int q14]) hx hb hml hown hts hl hP hK hD hS hA hN (mX0_pageOfSlot eq14) iv_X0_pageOfSlot wd_596 1 rfl rfl rfl rfl ⟨Nat.le_of_ble_eq_true rfl, Nat.le_of_ble_eq_true rfl⟩ (Nat.le_of_ble_eq_true rfl) ⟨Nat.zero_le _, Nat.zero_le _⟩ dX8_receiptProperty_121 rfl rfl (fun H locs hP hD hS => ?_)
    exact hret _ hs hP hS dX8_receiptProperty_124
  have hs := ite_f hs b13
  by_cases b15 : x2 = (7 : Int32)
  · have hs := ite_t hs b15
    rw [b15]
    refine lv_tableIn (off := (124)) (tgt := 125) hx hb dX8_receiptProperty_1 (by decide) (by decide) (by decide) (by decide) ?_
    refine lv_aload_n hx hb dX8_receiptProperty_125 rfl (lv_at hl 0 rfl) ?_
    refine gf_X8_12 hx hb hts hown hK hP 0 rfl rfl dX8_receiptProperty_126 ?_
    refine lv_iload_n hx hb dX8_receiptProperty_129 rfl (lv_at hl 1 rfl) ?_
    obtain ⟨q16, eq16, hs⟩ := ob hs
    refine nd_callV (As := [.int x1]) (rest := []) (st1 := [.int q16]) hx hb hml hown hts hl hP hK hD hS hA hN (mX0_hourOfSlot eq16) iv_X0_hourOfSlot wd_600 1 rfl rfl rfl rfl ⟨Nat.le_of_ble_eq_true rfl, Nat.le_of_ble_eq_true rfl⟩ (Nat.le_of_ble_eq_true rfl) ⟨Nat.zero_le _, Nat.zero_le _⟩ dX8_receiptProperty_130 rfl rfl (fun H locs hP hD hS => ?_)
    exact hret _ hs hP hS dX8_receiptProperty_133
  have hs := ite_f hs b15
  have zb1 : x2.toInt ≠ (0) := sw_ne b1
  have zb3 : x2.toInt ≠ (1) := sw_ne b3
  have zb5 : x2.toInt ≠ (2) := sw_ne b5
  have zb7 : x2.toInt ≠ (3) := sw_ne b7
  have zb9 : x2.toInt ≠ (4) := sw_ne b9
  have zb11 : x2.toInt ≠ (5) := sw_ne b11
  have zb13 : x2.toInt ≠ (6) := sw_ne b13
  have zb15 : x2.toInt ≠ (7) := sw_ne b15
  refine lv_tableOut (tgt := 134) hx hb dX8_receiptProperty_1 (by omega) (by decide) ?_
  refine lv_aload_n hx hb dX8_receiptProperty_134 rfl (lv_at hl 0 rfl) ?_
  refine gf_X8_12 hx hb hts hown hK hP 0 rfl rfl dX8_receiptProperty_135 ?_
  refine lv_iload_n hx hb dX8_receiptProperty_138 rfl (lv_at hl 1 rfl) ?_
  obtain ⟨q17, eq17, hs⟩ := ob hs
  refine nd_callS (As := [.ref (ad 1), .int x1]) (rest := []) (st1 := [.int q17]) hx hb hml hown hts hl hP hK hD hS hA hN (mX7_alikeTo eq17) is_X7_alikeTo wd_604 rfl rfl ⟨Nat.le_of_ble_eq_true rfl, Nat.le_of_ble_eq_true rfl⟩ (Nat.le_of_ble_eq_true rfl) ⟨Nat.zero_le _, Nat.zero_le _⟩ dX8_receiptProperty_139 rfl rfl (fun H locs hP hD hS => ?_)
  exact hret _ hs hP hS dX8_receiptProperty_142
def tX8_receipt_0 : List (Nat × Instr × Nat) := [(0, .aload_n 0, 1), (1, .iload_n 1, 1), (2, .iload_n 2, 1), (3, .invokevirtual 103, 3), (6, .iload_n 3, 1), (7, .bipush 9, 2), (9, .invokestatic 153, 3), (12, .aload_n 0, 1), (13, .iload_n 1, 1), (14, .iload_n 2, 1), (15, .invokestatic 97, 3), (18, .iload_n 3, 1), (19, .invokevirtual 159, 3), (22, .ireturn, 1)]
theorem tX8_receipt_0_ok : tX8_receipt_0.all (fun q => decide (decode cX8_receipt q.1 = .ok q.2)) = true := by decide +kernel
theorem dX8_receipt_0 : decode cX8_receipt 0 = .ok (.aload_n 0, 1) := td tX8_receipt_0_ok 0 (q := (0, .aload_n 0, 1)) rfl
theorem dX8_receipt_1 : decode cX8_receipt 1 = .ok (.iload_n 1, 1) := td tX8_receipt_0_ok 1 (q := (1, .iload_n 1, 1)) rfl
theorem dX8_receipt_2 : decode cX8_receipt 2 = .ok (.iload_n 2, 1) := td tX8_receipt_0_ok 2 (q := (2, .iload_n 2, 1)) rfl
theorem dX8_receipt_3 : decode cX8_receipt 3 = .ok (.invokevirtual 103, 3) := td tX8_receipt_0_ok 3 (q := (3, .invokevirtual 103, 3)) rfl
theorem dX8_receipt_6 : decode cX8_receipt 6 = .ok (.iload_n 3, 1) := td tX8_receipt_0_ok 4 (q := (6, .iload_n 3, 1)) rfl
theorem dX8_receipt_7 : decode cX8_receipt 7 = .ok (.bipush 9, 2) := td tX8_receipt_0_ok 5 (q := (7, .bipush 9, 2)) rfl
theorem dX8_receipt_9 : decode cX8_receipt 9 = .ok (.invokestatic 153, 3) := td tX8_receipt_0_ok 6 (q := (9, .invokestatic 153, 3)) rfl
theorem dX8_receipt_12 : decode cX8_receipt 12 = .ok (.aload_n 0, 1) := td tX8_receipt_0_ok 7 (q := (12, .aload_n 0, 1)) rfl
theorem dX8_receipt_13 : decode cX8_receipt 13 = .ok (.iload_n 1, 1) := td tX8_receipt_0_ok 8 (q := (13, .iload_n 1, 1)) rfl
theorem dX8_receipt_14 : decode cX8_receipt 14 = .ok (.iload_n 2, 1) := td tX8_receipt_0_ok 9 (q := (14, .iload_n 2, 1)) rfl
theorem dX8_receipt_15 : decode cX8_receipt 15 = .ok (.invokestatic 97, 3) := td tX8_receipt_0_ok 10 (q := (15, .invokestatic 97, 3)) rfl
theorem dX8_receipt_18 : decode cX8_receipt 18 = .ok (.iload_n 3, 1) := td tX8_receipt_0_ok 11 (q := (18, .iload_n 3, 1)) rfl
theorem dX8_receipt_19 : decode cX8_receipt 19 = .ok (.invokevirtual 159, 3) := td tX8_receipt_0_ok 12 (q := (19, .invokevirtual 159, 3)) rfl
theorem dX8_receipt_22 : decode cX8_receipt 22 = .ok (.ireturn, 1) := td tX8_receipt_0_ok 13 (q := (22, .ireturn, 1)) rfl
def fX8_receipt (kc : (Nat → Int32)) (x1 : Int32) (x2 : Int32) (x3 : Int32) : Option (Nat ⊕ (Int32)) :=
  (Option.bind (fX8_requireReceipt kc x1 x2) (fun q1 => (xs q1 (fun _ => (Option.bind (fX8_requireChoice x3 (9 : Int32)) (fun q3 => (xs q3 (fun _ => (Option.bind (fX0_slotOf x1 x2) (fun q5 => (Option.bind (fX8_receiptProperty kc q5 x3) (fun q6 => (some (.inr q6))))))))))))))
set_option maxHeartbeats 4000000 in
set_option maxRecDepth 100000 in
theorem mX8_receipt {l : Launch} {D : va_G} {ad : Nat → Nat} {cI : ClassId} {kc : (Nat → Int32)} {ksv : (Nat → Int32)} {kbc : (Nat → Int32)} {kit : (Nat → Int32)} {kln : (Nat → Int32)} {ken : (Nat → Int32)} {kla : (Nat → Int32)} {kfi : (Nat → Int32)} {kea : (Nat → Int32)} {kns : Int32} {kbl : Int32} {kr0 : Int32} {kr1 : Int32} {kr2 : Int32} {kr3 : Int32} {kr4 : Int32} {kr5 : Int32} {klr : Int32} {kp0 : Int32} {kp1 : Int32} {kp2 : Int32} {kp3 : Int32} {x1 : Int32} {x2 : Int32} {x3 : Int32} {r : Int32} (hs : fX8_receipt kc x1 x2 x3 = some (.inr r)) : nd_C l yX8_receipt cX8_receipt 4 (some .int) 4 93 D [(cI, .int)] [.ref (ad 0), .int x1, .int x2, .int x3] (CW ad cI kc ksv kbc kit kln ken kla kfi kea kns kbl kr0 kr1 kr2 kr3 kr4 kr5 klr kp0 kp1 kp2 kp3) (CW ad cI kc ksv kbc kit kln ken kla kfi kea kns kbl kr0 kr1 kr2 kr3 kr4 kr5 klr kp0 kp1 kp2 kp3) (some (.int r)) := by
  refine nd_ofCi (by decide) (Nat.le_of_ble_eq_true rfl) (fun p e s m args below meth c_ ls A Q hx hb hml hown hts hl hP hK hD hS hA hN hret => ?_)
  have hown : s.vm.findClass RX8 = some m.cls := hown
  have hl : lv_has ls 4 [(0, .ref (ad 0)), (1, .int x1), (2, .int x2), (3, .int x3)] := hl
  have hret : ∀ (z0 : Int32) {H : Heap} {locs : List Loc} {pc : Nat} {ls : Array Slot}, some (Sum.inr (α := Nat) z0) = some (.inr r) → va_P D vwCl (CW ad cI kc ksv kbc kit kln ken kla kfi kea kns kbl kr0 kr1 kr2 kr3 kr4 kr5 klr kp0 kp1 kp2 kp3) H → va_S A s.heap H locs → decode cX8_receipt pc = .ok (.ireturn, 1) → W p l e ⟨4, 0, 0, 93⟩ s m args below meth c_ H locs 0 0 Q (F0 m pc ls [.int z0]) := by
    intro z0 H locs pc ls h hP hS hd
    cases h
    exact hret hP hS hd
  rw [fX8_receipt] at hs
  refine lv_aload_n hx hb dX8_receipt_0 rfl (lv_at hl 0 rfl) ?_
  refine lv_iload_n hx hb dX8_receipt_1 rfl (lv_at hl 1 rfl) ?_
  refine lv_iload_n hx hb dX8_receipt_2 rfl (lv_at hl 2 rfl) ?_
  obtain ⟨q2, eq1, hs⟩ := xob_r hs
  refine nd_callV (As := [.int x1, .int x2]) (rest := []) (st1 := []) hx hb hml hown hts hl hP hK hD hS hA hN (mX8_requireReceipt eq1) iv_X8_requireReceipt wd_356 0 rfl rfl rfl rfl ⟨Nat.le_of_ble_eq_true rfl, Nat.le_of_ble_eq_true rfl⟩ (Nat.le_of_ble_eq_true rfl) ⟨Nat.zero_le _, Nat.zero_le _⟩ dX8_receipt_3 rfl rfl (fun H locs hP hD hS => ?_)
  refine lv_iload_n hx hb dX8_receipt_6 rfl (lv_at hl 3 rfl) ?_
  refine lv_bipush (v := (9 : Int32)) hx hb dX8_receipt_7 (by decide) ?_
  obtain ⟨q4, eq3, hs⟩ := xob_r hs
  refine nd_callS (As := [.int x3, .int (9 : Int32)]) (rest := []) (st1 := []) hx hb hml hown hts hl hP hK hD hS hA hN (mX8_requireChoice eq3) is_X8_requireChoice wd_542 rfl rfl ⟨Nat.le_of_ble_eq_true rfl, Nat.le_of_ble_eq_true rfl⟩ (Nat.le_of_ble_eq_true rfl) ⟨Nat.zero_le _, Nat.zero_le _⟩ dX8_receipt_9 rfl rfl (fun H locs hP hD hS => ?_)
  refine lv_aload_n hx hb dX8_receipt_12 rfl (lv_at hl 0 rfl) ?_
  refine lv_iload_n hx hb dX8_receipt_13 rfl (lv_at hl 1 rfl) ?_
  refine lv_iload_n hx hb dX8_receipt_14 rfl (lv_at hl 2 rfl) ?_
  obtain ⟨q5, eq5, hs⟩ := ob hs
  refine nd_callS (As := [.int x1, .int x2]) (rest := [.ref (ad 0)]) (st1 := [.int q5, .ref (ad 0)]) hx hb hml hown hts hl hP hK hD hS hA hN (mX0_slotOf eq5) is_X0_slotOf wd_243 rfl rfl ⟨Nat.le_of_ble_eq_true rfl, Nat.le_of_ble_eq_true rfl⟩ (Nat.le_of_ble_eq_true rfl) ⟨Nat.zero_le _, Nat.zero_le _⟩ dX8_receipt_15 rfl rfl (fun H locs hP hD hS => ?_)
  refine lv_iload_n hx hb dX8_receipt_18 rfl (lv_at hl 3 rfl) ?_
  obtain ⟨q6, eq6, hs⟩ := ob hs
  refine nd_callV (As := [.int q5, .int x3]) (rest := []) (st1 := [.int q6]) hx hb hml hown hts hl hP hK hD hS hA hN (mX8_receiptProperty eq6) iv_X8_receiptProperty wd_577 0 rfl rfl rfl rfl ⟨Nat.le_of_ble_eq_true rfl, Nat.le_of_ble_eq_true rfl⟩ (Nat.le_of_ble_eq_true rfl) ⟨Nat.zero_le _, Nat.zero_le _⟩ dX8_receipt_19 rfl rfl (fun H locs hP hD hS => ?_)
  exact hret _ hs hP hS dX8_receipt_22
set_option maxHeartbeats 4000000 in
set_option maxRecDepth 100000 in
theorem xX8_receipt {l : Launch} (hnt : l.stackTraces = false) {D : va_G} {ad : Nat → Nat} {cI : ClassId} {kc : (Nat → Int32)} {ksv : (Nat → Int32)} {kbc : (Nat → Int32)} {kit : (Nat → Int32)} {kln : (Nat → Int32)} {ken : (Nat → Int32)} {kla : (Nat → Int32)} {kfi : (Nat → Int32)} {kea : (Nat → Int32)} {kns : Int32} {kbl : Int32} {kr0 : Int32} {kr1 : Int32} {kr2 : Int32} {kr3 : Int32} {kr4 : Int32} {kr5 : Int32} {klr : Int32} {kp0 : Int32} {kp1 : Int32} {kp2 : Int32} {kp3 : Int32} {x1 : Int32} {x2 : Int32} {x3 : Int32} {k : Nat} (hs : fX8_receipt kc x1 x2 x3 = some (.inl k)) : nd_CX l yX8_receipt cX8_receipt 4 (some .int) 8 125 D [(cI, .int)] [.ref (ad 0), .int x1, .int x2, .int x3] (CW ad cI kc ksv kbc kit kln ken kla kfi kea kns kbl kr0 kr1 kr2 kr3 kr4 kr5 klr kp0 kp1 kp2 kp3) (fun W1 => W1 = (CW ad cI kc ksv kbc kit kln ken kla kfi kea kns kbl kr0 kr1 kr2 kr3 kr4 kr5 klr kp0 kp1 kp2 kp3)) k := by
  refine nd_ofX (by decide) (Nat.le_of_ble_eq_true rfl) (fun p e s m args below meth c_ ls A hx hb hml hown hts hl hP hK hD hS hA hN hX hxt hlocks hAe => ?_)
  have hown : s.vm.findClass RX8 = some m.cls := hown
  have hl : lv_has ls 4 [(0, .ref (ad 0)), (1, .int x1), (2, .int x2), (3, .int x3)] := hl
  rw [fX8_receipt] at hs
  refine lv_aload_n hx hb dX8_receipt_0 rfl (lv_at hl 0 rfl) ?_
  refine lv_iload_n hx hb dX8_receipt_1 rfl (lv_at hl 1 rfl) ?_
  refine lv_iload_n hx hb dX8_receipt_2 rfl (lv_at hl 2 rfl) ?_
  rcases xob_l hs with eq1 | ⟨q2, eq1, hs⟩
  · exact nd_callXV (fun _ h => h) (As := [.int x1, .int x2]) (rest := []) hx hb hml hown hts hl hP hK hD hS hA hN hX hxt hlocks hAe (xX8_requireReceipt hnt eq1) iv_X8_requireReceipt wd_356 0 rfl rfl rfl ⟨Nat.le_of_ble_eq_true rfl, Nat.le_of_ble_eq_true rfl⟩ (by decide) (Nat.le_of_ble_eq_true rfl) dX8_receipt_3 rfl
  refine nd_callV (As := [.int x1, .int x2]) (rest := []) (st1 := []) hx hb hml hown hts hl hP hK hD hS hA hN (mX8_requireReceipt eq1) iv_X8_requireReceipt wd_356 0 rfl rfl rfl rfl ⟨Nat.le_of_ble_eq_true rfl, Nat.le_of_ble_eq_true rfl⟩ (Nat.le_of_ble_eq_true rfl) ⟨Nat.zero_le _, Nat.zero_le _⟩ dX8_receipt_3 rfl rfl (fun H locs hP hD hS => ?_)
  refine lv_iload_n hx hb dX8_receipt_6 rfl (lv_at hl 3 rfl) ?_
  refine lv_bipush (v := (9 : Int32)) hx hb dX8_receipt_7 (by decide) ?_
  rcases xob_l hs with eq3 | ⟨q4, eq3, hs⟩
  · exact nd_callXS (fun _ h => h) (As := [.int x3, .int (9 : Int32)]) (rest := []) hx hb hml hown hts hl hP hK hD hS hA hN hX hxt hlocks hAe (xX8_requireChoice hnt eq3) is_X8_requireChoice wd_542 rfl ⟨Nat.le_of_ble_eq_true rfl, Nat.le_of_ble_eq_true rfl⟩ (by decide) (Nat.le_of_ble_eq_true rfl) dX8_receipt_9 rfl
  refine nd_callS (As := [.int x3, .int (9 : Int32)]) (rest := []) (st1 := []) hx hb hml hown hts hl hP hK hD hS hA hN (mX8_requireChoice eq3) is_X8_requireChoice wd_542 rfl rfl ⟨Nat.le_of_ble_eq_true rfl, Nat.le_of_ble_eq_true rfl⟩ (Nat.le_of_ble_eq_true rfl) ⟨Nat.zero_le _, Nat.zero_le _⟩ dX8_receipt_9 rfl rfl (fun H locs hP hD hS => ?_)
  refine lv_aload_n hx hb dX8_receipt_12 rfl (lv_at hl 0 rfl) ?_
  refine lv_iload_n hx hb dX8_receipt_13 rfl (lv_at hl 1 rfl) ?_
  refine lv_iload_n hx hb dX8_receipt_14 rfl (lv_at hl 2 rfl) ?_
  obtain ⟨q5, eq5, hs⟩ := ob hs
  refine nd_callS (As := [.int x1, .int x2]) (rest := [.ref (ad 0)]) (st1 := [.int q5, .ref (ad 0)]) hx hb hml hown hts hl hP hK hD hS hA hN (mX0_slotOf eq5) is_X0_slotOf wd_243 rfl rfl ⟨Nat.le_of_ble_eq_true rfl, Nat.le_of_ble_eq_true rfl⟩ (Nat.le_of_ble_eq_true rfl) ⟨Nat.zero_le _, Nat.zero_le _⟩ dX8_receipt_15 rfl rfl (fun H locs hP hD hS => ?_)
  refine lv_iload_n hx hb dX8_receipt_18 rfl (lv_at hl 3 rfl) ?_
  obtain ⟨q6, eq6, hs⟩ := ob hs
  refine nd_callV (As := [.int q5, .int x3]) (rest := []) (st1 := [.int q6]) hx hb hml hown hts hl hP hK hD hS hA hN (mX8_receiptProperty eq6) iv_X8_receiptProperty wd_577 0 rfl rfl rfl rfl ⟨Nat.le_of_ble_eq_true rfl, Nat.le_of_ble_eq_true rfl⟩ (Nat.le_of_ble_eq_true rfl) ⟨Nat.zero_le _, Nat.zero_le _⟩ dX8_receipt_19 rfl rfl (fun H locs hP hD hS => ?_)
  cases hs
def tX8_page_0 : List (Nat × Instr × Nat) := [(0, .iload_n 1, 1), (1, .bipush 8, 2), (3, .invokestatic 153, 3), (6, .iload_n 2, 1), (7, .iconst 5, 1), (8, .invokestatic 153, 3), (11, .aload_n 0, 1), (12, .getfield 12, 3), (15, .iload_n 1, 1), (16, .iload_n 2, 1), (17, .invokestatic 162, 3), (20, .ireturn, 1)]
theorem tX8_page_0_ok : tX8_page_0.all (fun q => decide (decode cX8_page q.1 = .ok q.2)) = true := by decide +kernel
theorem dX8_page_0 : decode cX8_page 0 = .ok (.iload_n 1, 1) := td tX8_page_0_ok 0 (q := (0, .iload_n 1, 1)) rfl
theorem dX8_page_1 : decode cX8_page 1 = .ok (.bipush 8, 2) := td tX8_page_0_ok 1 (q := (1, .bipush 8, 2)) rfl
theorem dX8_page_3 : decode cX8_page 3 = .ok (.invokestatic 153, 3) := td tX8_page_0_ok 2 (q := (3, .invokestatic 153, 3)) rfl
theorem dX8_page_6 : decode cX8_page 6 = .ok (.iload_n 2, 1) := td tX8_page_0_ok 3 (q := (6, .iload_n 2, 1)) rfl
theorem dX8_page_7 : decode cX8_page 7 = .ok (.iconst 5, 1) := td tX8_page_0_ok 4 (q := (7, .iconst 5, 1)) rfl
theorem dX8_page_8 : decode cX8_page 8 = .ok (.invokestatic 153, 3) := td tX8_page_0_ok 5 (q := (8, .invokestatic 153, 3)) rfl
theorem dX8_page_11 : decode cX8_page 11 = .ok (.aload_n 0, 1) := td tX8_page_0_ok 6 (q := (11, .aload_n 0, 1)) rfl
theorem dX8_page_12 : decode cX8_page 12 = .ok (.getfield 12, 3) := td tX8_page_0_ok 7 (q := (12, .getfield 12, 3)) rfl
theorem dX8_page_15 : decode cX8_page 15 = .ok (.iload_n 1, 1) := td tX8_page_0_ok 8 (q := (15, .iload_n 1, 1)) rfl
theorem dX8_page_16 : decode cX8_page 16 = .ok (.iload_n 2, 1) := td tX8_page_0_ok 9 (q := (16, .iload_n 2, 1)) rfl
theorem dX8_page_17 : decode cX8_page 17 = .ok (.invokestatic 162, 3) := td tX8_page_0_ok 10 (q := (17, .invokestatic 162, 3)) rfl
theorem dX8_page_20 : decode cX8_page 20 = .ok (.ireturn, 1) := td tX8_page_0_ok 11 (q := (20, .ireturn, 1)) rfl
def fX8_page (kc : (Nat → Int32)) (x1 : Int32) (x2 : Int32) : Option (Nat ⊕ (Int32)) :=
  (Option.bind (fX8_requireChoice x1 (8 : Int32)) (fun q1 => (xs q1 (fun _ => (Option.bind (fX8_requireChoice x2 (5 : Int32)) (fun q3 => (xs q3 (fun _ => (Option.bind (fX7_numberOfPage kc x1 x2) (fun q5 => (some (.inr q5))))))))))))
set_option maxHeartbeats 4000000 in
set_option maxRecDepth 100000 in
theorem mX8_page {l : Launch} {D : va_G} {ad : Nat → Nat} {cI : ClassId} {kc : (Nat → Int32)} {ksv : (Nat → Int32)} {kbc : (Nat → Int32)} {kit : (Nat → Int32)} {kln : (Nat → Int32)} {ken : (Nat → Int32)} {kla : (Nat → Int32)} {kfi : (Nat → Int32)} {kea : (Nat → Int32)} {kns : Int32} {kbl : Int32} {kr0 : Int32} {kr1 : Int32} {kr2 : Int32} {kr3 : Int32} {kr4 : Int32} {kr5 : Int32} {klr : Int32} {kp0 : Int32} {kp1 : Int32} {kp2 : Int32} {kp3 : Int32} {x1 : Int32} {x2 : Int32} {r : Int32} (hs : fX8_page kc x1 x2 = some (.inr r)) : nd_C l yX8_page cX8_page 3 (some .int) 4 90 D [(cI, .int)] [.ref (ad 0), .int x1, .int x2] (CW ad cI kc ksv kbc kit kln ken kla kfi kea kns kbl kr0 kr1 kr2 kr3 kr4 kr5 klr kp0 kp1 kp2 kp3) (CW ad cI kc ksv kbc kit kln ken kla kfi kea kns kbl kr0 kr1 kr2 kr3 kr4 kr5 klr kp0 kp1 kp2 kp3) (some (.int r)) := by
  refine nd_ofCi (by decide) (Nat.le_of_ble_eq_true rfl) (fun p e s m args below meth c_ ls A Q hx hb hml hown hts hl hP hK hD hS hA hN hret => ?_)
  have hown : s.vm.findClass RX8 = some m.cls := hown
  have hl : lv_has ls 3 [(0, .ref (ad 0)), (1, .int x1), (2, .int x2)] := hl
  have hret : ∀ (z0 : Int32) {H : Heap} {locs : List Loc} {pc : Nat} {ls : Array Slot}, some (Sum.inr (α := Nat) z0) = some (.inr r) → va_P D vwCl (CW ad cI kc ksv kbc kit kln ken kla kfi kea kns kbl kr0 kr1 kr2 kr3 kr4 kr5 klr kp0 kp1 kp2 kp3) H → va_S A s.heap H locs → decode cX8_page pc = .ok (.ireturn, 1) → W p l e ⟨4, 0, 0, 90⟩ s m args below meth c_ H locs 0 0 Q (F0 m pc ls [.int z0]) := by
    intro z0 H locs pc ls h hP hS hd
    cases h
    exact hret hP hS hd
  rw [fX8_page] at hs
  refine lv_iload_n hx hb dX8_page_0 rfl (lv_at hl 1 rfl) ?_
  refine lv_bipush (v := (8 : Int32)) hx hb dX8_page_1 (by decide) ?_
  obtain ⟨q2, eq1, hs⟩ := xob_r hs
  refine nd_callS (As := [.int x1, .int (8 : Int32)]) (rest := []) (st1 := []) hx hb hml hown hts hl hP hK hD hS hA hN (mX8_requireChoice eq1) is_X8_requireChoice wd_542 rfl rfl ⟨Nat.le_of_ble_eq_true rfl, Nat.le_of_ble_eq_true rfl⟩ (Nat.le_of_ble_eq_true rfl) ⟨Nat.zero_le _, Nat.zero_le _⟩ dX8_page_3 rfl rfl (fun H locs hP hD hS => ?_)
  refine lv_iload_n hx hb dX8_page_6 rfl (lv_at hl 2 rfl) ?_
  refine lv_iconst (v := (5 : Int32)) hx hb dX8_page_7 (by decide) ?_
  obtain ⟨q4, eq3, hs⟩ := xob_r hs
  refine nd_callS (As := [.int x2, .int (5 : Int32)]) (rest := []) (st1 := []) hx hb hml hown hts hl hP hK hD hS hA hN (mX8_requireChoice eq3) is_X8_requireChoice wd_542 rfl rfl ⟨Nat.le_of_ble_eq_true rfl, Nat.le_of_ble_eq_true rfl⟩ (Nat.le_of_ble_eq_true rfl) ⟨Nat.zero_le _, Nat.zero_le _⟩ dX8_page_8 rfl rfl (fun H locs hP hD hS => ?_)
  refine lv_aload_n hx hb dX8_page_11 rfl (lv_at hl 0 rfl) ?_
  refine gf_X8_12 hx hb hts hown hK hP 0 rfl rfl dX8_page_12 ?_
  refine lv_iload_n hx hb dX8_page_15 rfl (lv_at hl 1 rfl) ?_
  refine lv_iload_n hx hb dX8_page_16 rfl (lv_at hl 2 rfl) ?_
  obtain ⟨q5, eq5, hs⟩ := ob hs
  refine nd_callS (As := [.ref (ad 1), .int x1, .int x2]) (rest := []) (st1 := [.int q5]) hx hb hml hown hts hl hP hK hD hS hA hN (mX7_numberOfPage eq5) is_X7_numberOfPage wd_656 rfl rfl ⟨Nat.le_of_ble_eq_true rfl, Nat.le_of_ble_eq_true rfl⟩ (Nat.le_of_ble_eq_true rfl) ⟨Nat.zero_le _, Nat.zero_le _⟩ dX8_page_17 rfl rfl (fun H locs hP hD hS => ?_)
  exact hret _ hs hP hS dX8_page_20
set_option maxHeartbeats 4000000 in
set_option maxRecDepth 100000 in
theorem xX8_page {l : Launch} (hnt : l.stackTraces = false) {D : va_G} {ad : Nat → Nat} {cI : ClassId} {kc : (Nat → Int32)} {ksv : (Nat → Int32)} {kbc : (Nat → Int32)} {kit : (Nat → Int32)} {kln : (Nat → Int32)} {ken : (Nat → Int32)} {kla : (Nat → Int32)} {kfi : (Nat → Int32)} {kea : (Nat → Int32)} {kns : Int32} {kbl : Int32} {kr0 : Int32} {kr1 : Int32} {kr2 : Int32} {kr3 : Int32} {kr4 : Int32} {kr5 : Int32} {klr : Int32} {kp0 : Int32} {kp1 : Int32} {kp2 : Int32} {kp3 : Int32} {x1 : Int32} {x2 : Int32} {k : Nat} (hs : fX8_page kc x1 x2 = some (.inl k)) : nd_CX l yX8_page cX8_page 3 (some .int) 7 103 D [(cI, .int)] [.ref (ad 0), .int x1, .int x2] (CW ad cI kc ksv kbc kit kln ken kla kfi kea kns kbl kr0 kr1 kr2 kr3 kr4 kr5 klr kp0 kp1 kp2 kp3) (fun W1 => W1 = (CW ad cI kc ksv kbc kit kln ken kla kfi kea kns kbl kr0 kr1 kr2 kr3 kr4 kr5 klr kp0 kp1 kp2 kp3)) k := by
  refine nd_ofX (by decide) (Nat.le_of_ble_eq_true rfl) (fun p e s m args below meth c_ ls A hx hb hml hown hts hl hP hK hD hS hA hN hX hxt hlocks hAe => ?_)
  have hown : s.vm.findClass RX8 = some m.cls := hown
  have hl : lv_has ls 3 [(0, .ref (ad 0)), (1, .int x1), (2, .int x2)] := hl
  rw [fX8_page] at hs
  refine lv_iload_n hx hb dX8_page_0 rfl (lv_at hl 1 rfl) ?_
  refine lv_bipush (v := (8 : Int32)) hx hb dX8_page_1 (by decide) ?_
  rcases xob_l hs with eq1 | ⟨q2, eq1, hs⟩
  · exact nd_callXS (fun _ h => h) (As := [.int x1, .int (8 : Int32)]) (rest := []) hx hb hml hown hts hl hP hK hD hS hA hN hX hxt hlocks hAe (xX8_requireChoice hnt eq1) is_X8_requireChoice wd_542 rfl ⟨Nat.le_of_ble_eq_true rfl, Nat.le_of_ble_eq_true rfl⟩ (by decide) (Nat.le_of_ble_eq_true rfl) dX8_page_3 rfl
  refine nd_callS (As := [.int x1, .int (8 : Int32)]) (rest := []) (st1 := []) hx hb hml hown hts hl hP hK hD hS hA hN (mX8_requireChoice eq1) is_X8_requireChoice wd_542 rfl rfl ⟨Nat.le_of_ble_eq_true rfl, Nat.le_of_ble_eq_true rfl⟩ (Nat.le_of_ble_eq_true rfl) ⟨Nat.zero_le _, Nat.zero_le _⟩ dX8_page_3 rfl rfl (fun H locs hP hD hS => ?_)
  refine lv_iload_n hx hb dX8_page_6 rfl (lv_at hl 2 rfl) ?_
  refine lv_iconst (v := (5 : Int32)) hx hb dX8_page_7 (by decide) ?_
  rcases xob_l hs with eq3 | ⟨q4, eq3, hs⟩
  · exact nd_callXS (fun _ h => h) (As := [.int x2, .int (5 : Int32)]) (rest := []) hx hb hml hown hts hl hP hK hD hS hA hN hX hxt hlocks hAe (xX8_requireChoice hnt eq3) is_X8_requireChoice wd_542 rfl ⟨Nat.le_of_ble_eq_true rfl, Nat.le_of_ble_eq_true rfl⟩ (by decide) (Nat.le_of_ble_eq_true rfl) dX8_page_8 rfl
  refine nd_callS (As := [.int x2, .int (5 : Int32)]) (rest := []) (st1 := []) hx hb hml hown hts hl hP hK hD hS hA hN (mX8_requireChoice eq3) is_X8_requireChoice wd_542 rfl rfl ⟨Nat.le_of_ble_eq_true rfl, Nat.le_of_ble_eq_true rfl⟩ (Nat.le_of_ble_eq_true rfl) ⟨Nat.zero_le _, Nat.zero_le _⟩ dX8_page_8 rfl rfl (fun H locs hP hD hS => ?_)
  refine lv_aload_n hx hb dX8_page_11 rfl (lv_at hl 0 rfl) ?_
  refine gf_X8_12 hx hb hts hown hK hP 0 rfl rfl dX8_page_12 ?_
  refine lv_iload_n hx hb dX8_page_15 rfl (lv_at hl 1 rfl) ?_
  refine lv_iload_n hx hb dX8_page_16 rfl (lv_at hl 2 rfl) ?_
  obtain ⟨q5, eq5, hs⟩ := ob hs
  refine nd_callS (As := [.ref (ad 1), .int x1, .int x2]) (rest := []) (st1 := [.int q5]) hx hb hml hown hts hl hP hK hD hS hA hN (mX7_numberOfPage eq5) is_X7_numberOfPage wd_656 rfl rfl ⟨Nat.le_of_ble_eq_true rfl, Nat.le_of_ble_eq_true rfl⟩ (Nat.le_of_ble_eq_true rfl) ⟨Nat.zero_le _, Nat.zero_le _⟩ dX8_page_17 rfl rfl (fun H locs hP hD hS => ?_)
  cases hs
def tX8_line_0 : List (Nat × Instr × Nat) := [(0, .iload_n 1, 1), (1, .bipush 8, 2), (3, .invokestatic 153, 3), (6, .iload_n 3, 1), (7, .iconst 3, 1), (8, .invokestatic 153, 3), (11, .iload_n 2, 1), (12, .ifCond .ge 13, 3), (15, .new 48, 3), (18, .dup, 1), (19, .ldc 167, 2), (21, .invokespecial 52, 3), (24, .athrow, 1), (25, .aload_n 0, 1), (26, .getfield 33, 3), (29, .aload_n 0, 1), (30, .getfield 12, 3), (33, .invokevirtual 169, 3), (36, .aload_n 0, 1), (37, .getfield 33, 3), (40, .aload_n 0, 1), (41, .getfield 12, 3), (44, .iload_n 1, 1), (45, .iload_n 2, 1), (46, .invokevirtual 173, 3), (49, .istore 4, 2), (51, .iload 4, 2), (53, .iconst (-1), 1), (54, .if_icmp .ne 5, 3), (57, .iconst (-1), 1), (58, .ireturn, 1), (59, .iload_n 3, 1), (60, .lookupswitch 40 #[(0, 28), (1, 34)], 28), (88, .iload 4, 2), (90, .invokestatic 176, 3), (93, .ireturn, 1), (94, .iload 4, 2), (96, .invokestatic 179, 3), (99, .ireturn, 1), (100, .aload_n 0, 1), (101, .getfield 12, 3), (104, .iload 4, 2), (106, .invokevirtual 100, 3), (109, .ireturn, 1)]
theorem tX8_line_0_ok : tX8_line_0.all (fun q => decide (decode cX8_line q.1 = .ok q.2)) = true := by decide +kernel
theorem dX8_line_0 : decode cX8_line 0 = .ok (.iload_n 1, 1) := td tX8_line_0_ok 0 (q := (0, .iload_n 1, 1)) rfl
theorem dX8_line_1 : decode cX8_line 1 = .ok (.bipush 8, 2) := td tX8_line_0_ok 1 (q := (1, .bipush 8, 2)) rfl
theorem dX8_line_3 : decode cX8_line 3 = .ok (.invokestatic 153, 3) := td tX8_line_0_ok 2 (q := (3, .invokestatic 153, 3)) rfl
theorem dX8_line_6 : decode cX8_line 6 = .ok (.iload_n 3, 1) := td tX8_line_0_ok 3 (q := (6, .iload_n 3, 1)) rfl
theorem dX8_line_7 : decode cX8_line 7 = .ok (.iconst 3, 1) := td tX8_line_0_ok 4 (q := (7, .iconst 3, 1)) rfl
theorem dX8_line_8 : decode cX8_line 8 = .ok (.invokestatic 153, 3) := td tX8_line_0_ok 5 (q := (8, .invokestatic 153, 3)) rfl
theorem dX8_line_11 : decode cX8_line 11 = .ok (.iload_n 2, 1) := td tX8_line_0_ok 6 (q := (11, .iload_n 2, 1)) rfl
theorem dX8_line_12 : decode cX8_line 12 = .ok (.ifCond .ge 13, 3) := td tX8_line_0_ok 7 (q := (12, .ifCond .ge 13, 3)) rfl
theorem dX8_line_15 : decode cX8_line 15 = .ok (.new 48, 3) := td tX8_line_0_ok 8 (q := (15, .new 48, 3)) rfl
theorem dX8_line_18 : decode cX8_line 18 = .ok (.dup, 1) := td tX8_line_0_ok 9 (q := (18, .dup, 1)) rfl
theorem dX8_line_19 : decode cX8_line 19 = .ok (.ldc 167, 2) := td tX8_line_0_ok 10 (q := (19, .ldc 167, 2)) rfl
theorem dX8_line_21 : decode cX8_line 21 = .ok (.invokespecial 52, 3) := td tX8_line_0_ok 11 (q := (21, .invokespecial 52, 3)) rfl
theorem dX8_line_24 : decode cX8_line 24 = .ok (.athrow, 1) := td tX8_line_0_ok 12 (q := (24, .athrow, 1)) rfl
theorem dX8_line_25 : decode cX8_line 25 = .ok (.aload_n 0, 1) := td tX8_line_0_ok 13 (q := (25, .aload_n 0, 1)) rfl
theorem dX8_line_26 : decode cX8_line 26 = .ok (.getfield 33, 3) := td tX8_line_0_ok 14 (q := (26, .getfield 33, 3)) rfl
theorem dX8_line_29 : decode cX8_line 29 = .ok (.aload_n 0, 1) := td tX8_line_0_ok 15 (q := (29, .aload_n 0, 1)) rfl
theorem dX8_line_30 : decode cX8_line 30 = .ok (.getfield 12, 3) := td tX8_line_0_ok 16 (q := (30, .getfield 12, 3)) rfl
theorem dX8_line_33 : decode cX8_line 33 = .ok (.invokevirtual 169, 3) := td tX8_line_0_ok 17 (q := (33, .invokevirtual 169, 3)) rfl
theorem dX8_line_36 : decode cX8_line 36 = .ok (.aload_n 0, 1) := td tX8_line_0_ok 18 (q := (36, .aload_n 0, 1)) rfl
theorem dX8_line_37 : decode cX8_line 37 = .ok (.getfield 33, 3) := td tX8_line_0_ok 19 (q := (37, .getfield 33, 3)) rfl
theorem dX8_line_40 : decode cX8_line 40 = .ok (.aload_n 0, 1) := td tX8_line_0_ok 20 (q := (40, .aload_n 0, 1)) rfl
theorem dX8_line_41 : decode cX8_line 41 = .ok (.getfield 12, 3) := td tX8_line_0_ok 21 (q := (41, .getfield 12, 3)) rfl
theorem dX8_line_44 : decode cX8_line 44 = .ok (.iload_n 1, 1) := td tX8_line_0_ok 22 (q := (44, .iload_n 1, 1)) rfl
theorem dX8_line_45 : decode cX8_line 45 = .ok (.iload_n 2, 1) := td tX8_line_0_ok 23 (q := (45, .iload_n 2, 1)) rfl
theorem dX8_line_46 : decode cX8_line 46 = .ok (.invokevirtual 173, 3) := td tX8_line_0_ok 24 (q := (46, .invokevirtual 173, 3)) rfl
theorem dX8_line_49 : decode cX8_line 49 = .ok (.istore 4, 2) := td tX8_line_0_ok 25 (q := (49, .istore 4, 2)) rfl
theorem dX8_line_51 : decode cX8_line 51 = .ok (.iload 4, 2) := td tX8_line_0_ok 26 (q := (51, .iload 4, 2)) rfl
theorem dX8_line_53 : decode cX8_line 53 = .ok (.iconst (-1), 1) := td tX8_line_0_ok 27 (q := (53, .iconst (-1), 1)) rfl
theorem dX8_line_54 : decode cX8_line 54 = .ok (.if_icmp .ne 5, 3) := td tX8_line_0_ok 28 (q := (54, .if_icmp .ne 5, 3)) rfl
theorem dX8_line_57 : decode cX8_line 57 = .ok (.iconst (-1), 1) := td tX8_line_0_ok 29 (q := (57, .iconst (-1), 1)) rfl
theorem dX8_line_58 : decode cX8_line 58 = .ok (.ireturn, 1) := td tX8_line_0_ok 30 (q := (58, .ireturn, 1)) rfl
theorem dX8_line_59 : decode cX8_line 59 = .ok (.iload_n 3, 1) := td tX8_line_0_ok 31 (q := (59, .iload_n 3, 1)) rfl
theorem dX8_line_60 : decode cX8_line 60 = .ok (.lookupswitch 40 #[(0, 28), (1, 34)], 28) := td tX8_line_0_ok 32 (q := (60, .lookupswitch 40 #[(0, 28), (1, 34)], 28)) rfl
theorem dX8_line_88 : decode cX8_line 88 = .ok (.iload 4, 2) := td tX8_line_0_ok 33 (q := (88, .iload 4, 2)) rfl
theorem dX8_line_90 : decode cX8_line 90 = .ok (.invokestatic 176, 3) := td tX8_line_0_ok 34 (q := (90, .invokestatic 176, 3)) rfl
theorem dX8_line_93 : decode cX8_line 93 = .ok (.ireturn, 1) := td tX8_line_0_ok 35 (q := (93, .ireturn, 1)) rfl
theorem dX8_line_94 : decode cX8_line 94 = .ok (.iload 4, 2) := td tX8_line_0_ok 36 (q := (94, .iload 4, 2)) rfl
theorem dX8_line_96 : decode cX8_line 96 = .ok (.invokestatic 179, 3) := td tX8_line_0_ok 37 (q := (96, .invokestatic 179, 3)) rfl
theorem dX8_line_99 : decode cX8_line 99 = .ok (.ireturn, 1) := td tX8_line_0_ok 38 (q := (99, .ireturn, 1)) rfl
theorem dX8_line_100 : decode cX8_line 100 = .ok (.aload_n 0, 1) := td tX8_line_0_ok 39 (q := (100, .aload_n 0, 1)) rfl
theorem dX8_line_101 : decode cX8_line 101 = .ok (.getfield 12, 3) := td tX8_line_0_ok 40 (q := (101, .getfield 12, 3)) rfl
theorem dX8_line_104 : decode cX8_line 104 = .ok (.iload 4, 2) := td tX8_line_0_ok 41 (q := (104, .iload 4, 2)) rfl
theorem dX8_line_106 : decode cX8_line 106 = .ok (.invokevirtual 100, 3) := td tX8_line_0_ok 42 (q := (106, .invokevirtual 100, 3)) rfl
theorem dX8_line_109 : decode cX8_line 109 = .ok (.ireturn, 1) := td tX8_line_0_ok 43 (q := (109, .ireturn, 1)) rfl
def fX8_line (kc : (Nat → Int32)) (kln : (Nat → Int32)) (klr : Int32) (x1 : Int32) (x2 : Int32) (x3 : Int32) : Option (Nat ⊕ (Int32 × (Nat → Int32) × Int32)) :=
  (Option.bind (fX8_requireChoice x1 (8 : Int32)) (fun q1 => (xs q1 (fun _ => (Option.bind (fX8_requireChoice x3 (3 : Int32)) (fun q3 => (xs q3 (fun _ => (if 0 ≤ x2 then (Option.bind (fX4_sort kc kln klr) (fun q6 => (Option.bind (fX4_slotAt kc q6.1 q6.2 x1 x2) (fun q7 => (if q7 = (-1 : Int32) then (some (.inr ((-1 : Int32), q6.1, q6.2))) else (if x3 = (0 : Int32) then (Option.bind (fX0_pieceOfSlot q7) (fun q10 => (some (.inr (q10, q6.1, q6.2))))) else (if x3 = (1 : Int32) then (Option.bind (fX0_numberOfSlot q7) (fun q12 => (some (.inr (q12, q6.1, q6.2))))) else (Option.bind (fX0_sumOf kc q7) (fun q13 => (some (.inr (q13, q6.1, q6.2)))))))))))) else (some (.inl 1)))))))))))
set_option maxHeartbeats 4000000 in
set_option maxRecDepth 100000 in
theorem mX8_line {l : Launch} {D : va_G} {ad : Nat → Nat} {cI : ClassId} {kc : (Nat → Int32)} {ksv : (Nat → Int32)} {kbc : (Nat → Int32)} {kit : (Nat → Int32)} {kln : (Nat → Int32)} {ken : (Nat → Int32)} {kla : (Nat → Int32)} {kfi : (Nat → Int32)} {kea : (Nat → Int32)} {kns : Int32} {kbl : Int32} {kr0 : Int32} {kr1 : Int32} {kr2 : Int32} {kr3 : Int32} {kr4 : Int32} {kr5 : Int32} {klr : Int32} {kp0 : Int32} {kp1 : Int32} {kp2 : Int32} {kp3 : Int32} {x1 : Int32} {x2 : Int32} {x3 : Int32} {r : Int32} {kln' : (Nat → Int32)} {klr' : Int32} (hs : fX8_line kc kln klr x1 x2 x3 = some (.inr (r, kln', klr'))) : nd_C l yX8_line cX8_line 5 (some .int) 3 68 D [(cI, .int)] [.ref (ad 0), .int x1, .int x2, .int x3] (CW ad cI kc ksv kbc kit kln ken kla kfi kea kns kbl kr0 kr1 kr2 kr3 kr4 kr5 klr kp0 kp1 kp2 kp3) (CW ad cI kc ksv kbc kit kln' ken kla kfi kea kns kbl kr0 kr1 kr2 kr3 kr4 kr5 klr' kp0 kp1 kp2 kp3) (some (.int r)) := by
  refine nd_ofCi (by decide) (Nat.le_of_ble_eq_true rfl) (fun p e s m args below meth c_ ls A Q hx hb hml hown hts hl hP hK hD hS hA hN hret => ?_)
  have hown : s.vm.findClass RX8 = some m.cls := hown
  have hl : lv_has ls 5 [(0, .ref (ad 0)), (1, .int x1), (2, .int x2), (3, .int x3)] := hl
  have hret : ∀ (z0 : Int32) (z1 : (Nat → Int32)) (z2 : Int32) {H : Heap} {locs : List Loc} {pc : Nat} {ls : Array Slot}, some (Sum.inr (α := Nat) (z0, z1, z2)) = some (.inr (r, kln', klr')) → va_P D vwCl (CW ad cI kc ksv kbc kit z1 ken kla kfi kea kns kbl kr0 kr1 kr2 kr3 kr4 kr5 z2 kp0 kp1 kp2 kp3) H → va_S A s.heap H locs → decode cX8_line pc = .ok (.ireturn, 1) → W p l e ⟨3, 0, 0, 68⟩ s m args below meth c_ H locs 0 0 Q (F0 m pc ls [.int z0]) := by
    intro z0 z1 z2 H locs pc ls h hP hS hd
    cases h
    exact hret hP hS hd
  rw [fX8_line] at hs
  refine lv_iload_n hx hb dX8_line_0 rfl (lv_at hl 1 rfl) ?_
  refine lv_bipush (v := (8 : Int32)) hx hb dX8_line_1 (by decide) ?_
  obtain ⟨q2, eq1, hs⟩ := xob_r hs
  refine nd_callS (As := [.int x1, .int (8 : Int32)]) (rest := []) (st1 := []) hx hb hml hown hts hl hP hK hD hS hA hN (mX8_requireChoice eq1) is_X8_requireChoice wd_542 rfl rfl ⟨Nat.le_of_ble_eq_true rfl, Nat.le_of_ble_eq_true rfl⟩ (Nat.le_of_ble_eq_true rfl) ⟨Nat.zero_le _, Nat.zero_le _⟩ dX8_line_3 rfl rfl (fun H locs hP hD hS => ?_)
  refine lv_iload_n hx hb dX8_line_6 rfl (lv_at hl 3 rfl) ?_
  refine lv_iconst (v := (3 : Int32)) hx hb dX8_line_7 (by decide) ?_
  obtain ⟨q4, eq3, hs⟩ := xob_r hs
  refine nd_callS (As := [.int x3, .int (3 : Int32)]) (rest := []) (st1 := []) hx hb hml hown hts hl hP hK hD hS hA hN (mX8_requireChoice eq3) is_X8_requireChoice wd_542 rfl rfl ⟨Nat.le_of_ble_eq_true rfl, Nat.le_of_ble_eq_true rfl⟩ (Nat.le_of_ble_eq_true rfl) ⟨Nat.zero_le _, Nat.zero_le _⟩ dX8_line_8 rfl rfl (fun H locs hP hD hS => ?_)
  refine lv_iload_n hx hb dX8_line_11 rfl (lv_at hl 2 rfl) ?_
  refine lv_if_ge (tgt := 25) hx hb dX8_line_12 (by decide) (fun b5 => ?_) (fun b5 => ?_)
  · have hs := ite_t hs b5
    refine lv_aload_n hx hb dX8_line_25 rfl (lv_at hl 0 rfl) ?_
    refine gf_X8_33 hx hb hts hown hK hP 0 rfl rfl dX8_line_26 ?_
    refine lv_aload_n hx hb dX8_line_29 rfl (lv_at hl 0 rfl) ?_
    refine gf_X8_12 hx hb hts hown hK hP 0 rfl rfl dX8_line_30 ?_
    obtain ⟨q6, eq6, hs⟩ := ob hs
    refine nd_callV (As := [.ref (ad 1)]) (rest := []) (st1 := []) hx hb hml hown hts hl hP hK hD hS hA hN (mX4_sort eq6) iv_X4_sort wd_682 4 rfl rfl rfl rfl ⟨Nat.le_of_ble_eq_true rfl, Nat.le_of_ble_eq_true rfl⟩ (Nat.le_of_ble_eq_true rfl) ⟨Nat.zero_le _, Nat.zero_le _⟩ dX8_line_33 rfl rfl (fun H locs hP hD hS => ?_)
    refine lv_aload_n hx hb dX8_line_36 rfl (lv_at hl 0 rfl) ?_
    refine gf_X8_33 hx hb hts hown hK hP 0 rfl rfl dX8_line_37 ?_
    refine lv_aload_n hx hb dX8_line_40 rfl (lv_at hl 0 rfl) ?_
    refine gf_X8_12 hx hb hts hown hK hP 0 rfl rfl dX8_line_41 ?_
    refine lv_iload_n hx hb dX8_line_44 rfl (lv_at hl 1 rfl) ?_
    refine lv_iload_n hx hb dX8_line_45 rfl (lv_at hl 2 rfl) ?_
    obtain ⟨q7, eq7, hs⟩ := ob hs
    refine nd_callV (As := [.ref (ad 1), .int x1, .int x2]) (rest := []) (st1 := [.int q7]) hx hb hml hown hts hl hP hK hD hS hA hN (mX4_slotAt eq7) iv_X4_slotAt wd_700 4 rfl rfl rfl rfl ⟨Nat.le_of_ble_eq_true rfl, Nat.le_of_ble_eq_true rfl⟩ (Nat.le_of_ble_eq_true rfl) ⟨Nat.zero_le _, Nat.zero_le _⟩ dX8_line_46 rfl rfl (fun H locs hP hD hS => ?_)
    refine lv_istore (lv' := [(4, .int q7), (0, .ref (ad 0)), (1, .int x1), (2, .int x2), (3, .int x3)]) hx hb dX8_line_49 hl (by decide) rfl (fun ls hl => ?_)
    refine lv_iload hx hb dX8_line_51 (lv_at hl 0 rfl) ?_
    refine lv_iconst (v := (-1 : Int32)) hx hb dX8_line_53 (by decide) ?_
    refine lv_icmp_ne (tgt := 59) hx hb dX8_line_54 (by decide) (fun b8 => ?_) (fun b8 => ?_)
    · have hs := ite_f hs b8
      refine lv_iload_n hx hb dX8_line_59 rfl (lv_at hl 4 rfl) ?_
      by_cases b9 : x3 = (0 : Int32)
      · have hs := ite_t hs b9
        rw [b9]
        refine lv_lookup (off := (28)) (tgt := 88) hx hb dX8_line_60 (by decide) (by decide) (by decide) ?_
        refine lv_iload hx hb dX8_line_88 (lv_at hl 0 rfl) ?_
        obtain ⟨q10, eq10, hs⟩ := ob hs
        refine nd_callS (As := [.int q7]) (rest := []) (st1 := [.int q10]) hx hb hml hown hts hl hP hK hD hS hA hN (mX0_pieceOfSlot eq10) is_X0_pieceOfSlot wd_705 rfl rfl ⟨Nat.le_of_ble_eq_true rfl, Nat.le_of_ble_eq_true rfl⟩ (Nat.le_of_ble_eq_true rfl) ⟨Nat.zero_le _, Nat.zero_le _⟩ dX8_line_90 rfl rfl (fun H locs hP hD hS => ?_)
        exact hret _ _ _ hs hP hS dX8_line_93
      have hs := ite_f hs b9
      by_cases b11 : x3 = (1 : Int32)
      · have hs := ite_t hs b11
        rw [b11]
        refine lv_lookup (off := (34)) (tgt := 94) hx hb dX8_line_60 (by decide) (by decide) (by decide) ?_
        refine lv_iload hx hb dX8_line_94 (lv_at hl 0 rfl) ?_
        obtain ⟨q12, eq12, hs⟩ := ob hs
        refine nd_callS (As := [.int q7]) (rest := []) (st1 := [.int q12]) hx hb hml hown hts hl hP hK hD hS hA hN (mX0_numberOfSlot eq12) is_X0_numberOfSlot wd_706 rfl rfl ⟨Nat.le_of_ble_eq_true rfl, Nat.le_of_ble_eq_true rfl⟩ (Nat.le_of_ble_eq_true rfl) ⟨Nat.zero_le _, Nat.zero_le _⟩ dX8_line_96 rfl rfl (fun H locs hP hD hS => ?_)
        exact hret _ _ _ hs hP hS dX8_line_99
      have hs := ite_f hs b11
      have zb9 : x3.toInt ≠ (0) := sw_ne b9
      have zb11 : x3.toInt ≠ (1) := sw_ne b11
      refine lv_lookup (off := (40)) (tgt := 100) hx hb dX8_line_60 (by decide) (by simp [Op.lookupswitch.offset, zb9, Ne.symm zb9, zb11, Ne.symm zb11]) (by decide) ?_
      refine lv_aload_n hx hb dX8_line_100 rfl (lv_at hl 1 rfl) ?_
      refine gf_X8_12 hx hb hts hown hK hP 0 rfl rfl dX8_line_101 ?_
      refine lv_iload hx hb dX8_line_104 (lv_at hl 0 rfl) ?_
      obtain ⟨q13, eq13, hs⟩ := ob hs
      refine nd_callV (As := [.int q7]) (rest := []) (st1 := [.int q13]) hx hb hml hown hts hl hP hK hD hS hA hN (mX0_sumOf eq13) iv_X0_sumOf wd_337 1 rfl rfl rfl rfl ⟨Nat.le_of_ble_eq_true rfl, Nat.le_of_ble_eq_true rfl⟩ (Nat.le_of_ble_eq_true rfl) ⟨Nat.zero_le _, Nat.zero_le _⟩ dX8_line_106 rfl rfl (fun H locs hP hD hS => ?_)
      exact hret _ _ _ hs hP hS dX8_line_109
    · have hs := ite_t hs b8
      refine lv_iconst (v := (-1 : Int32)) hx hb dX8_line_57 (by decide) ?_
      exact hret _ _ _ hs hP hS dX8_line_58
  · have hs := ite_f hs b5
    cases hs
set_option maxHeartbeats 4000000 in
set_option maxRecDepth 100000 in
theorem xX8_line {l : Launch} (hnt : l.stackTraces = false) {D : va_G} {ad : Nat → Nat} {cI : ClassId} {kc : (Nat → Int32)} {ksv : (Nat → Int32)} {kbc : (Nat → Int32)} {kit : (Nat → Int32)} {kln : (Nat → Int32)} {ken : (Nat → Int32)} {kla : (Nat → Int32)} {kfi : (Nat → Int32)} {kea : (Nat → Int32)} {kns : Int32} {kbl : Int32} {kr0 : Int32} {kr1 : Int32} {kr2 : Int32} {kr3 : Int32} {kr4 : Int32} {kr5 : Int32} {klr : Int32} {kp0 : Int32} {kp1 : Int32} {kp2 : Int32} {kp3 : Int32} {x1 : Int32} {x2 : Int32} {x3 : Int32} {k : Nat} (hs : fX8_line kc kln klr x1 x2 x3 = some (.inl k)) : nd_CX l yX8_line cX8_line 5 (some .int) 7 103 D [(cI, .int)] [.ref (ad 0), .int x1, .int x2, .int x3] (CW ad cI kc ksv kbc kit kln ken kla kfi kea kns kbl kr0 kr1 kr2 kr3 kr4 kr5 klr kp0 kp1 kp2 kp3) (fun W1 => W1 = (CW ad cI kc ksv kbc kit kln ken kla kfi kea kns kbl kr0 kr1 kr2 kr3 kr4 kr5 klr kp0 kp1 kp2 kp3)) k := by
  refine nd_ofX (by decide) (Nat.le_of_ble_eq_true rfl) (fun p e s m args below meth c_ ls A hx hb hml hown hts hl hP hK hD hS hA hN hX hxt hlocks hAe => ?_)
  have hown : s.vm.findClass RX8 = some m.cls := hown
  have hl : lv_has ls 5 [(0, .ref (ad 0)), (1, .int x1), (2, .int x2), (3, .int x3)] := hl
  rw [fX8_line] at hs
  refine lv_iload_n hx hb dX8_line_0 rfl (lv_at hl 1 rfl) ?_
  refine lv_bipush (v := (8 : Int32)) hx hb dX8_line_1 (by decide) ?_
  rcases xob_l hs with eq1 | ⟨q2, eq1, hs⟩
  · exact nd_callXS (fun _ h => h) (As := [.int x1, .int (8 : Int32)]) (rest := []) hx hb hml hown hts hl hP hK hD hS hA hN hX hxt hlocks hAe (xX8_requireChoice hnt eq1) is_X8_requireChoice wd_542 rfl ⟨Nat.le_of_ble_eq_true rfl, Nat.le_of_ble_eq_true rfl⟩ (by decide) (Nat.le_of_ble_eq_true rfl) dX8_line_3 rfl
  refine nd_callS (As := [.int x1, .int (8 : Int32)]) (rest := []) (st1 := []) hx hb hml hown hts hl hP hK hD hS hA hN (mX8_requireChoice eq1) is_X8_requireChoice wd_542 rfl rfl ⟨Nat.le_of_ble_eq_true rfl, Nat.le_of_ble_eq_true rfl⟩ (Nat.le_of_ble_eq_true rfl) ⟨Nat.zero_le _, Nat.zero_le _⟩ dX8_line_3 rfl rfl (fun H locs hP hD hS => ?_)
  refine lv_iload_n hx hb dX8_line_6 rfl (lv_at hl 3 rfl) ?_
  refine lv_iconst (v := (3 : Int32)) hx hb dX8_line_7 (by decide) ?_
  rcases xob_l hs with eq3 | ⟨q4, eq3, hs⟩
  · exact nd_callXS (fun _ h => h) (As := [.int x3, .int (3 : Int32)]) (rest := []) hx hb hml hown hts hl hP hK hD hS hA hN hX hxt hlocks hAe (xX8_requireChoice hnt eq3) is_X8_requireChoice wd_542 rfl ⟨Nat.le_of_ble_eq_true rfl, Nat.le_of_ble_eq_true rfl⟩ (by decide) (Nat.le_of_ble_eq_true rfl) dX8_line_8 rfl
  refine nd_callS (As := [.int x3, .int (3 : Int32)]) (rest := []) (st1 := []) hx hb hml hown hts hl hP hK hD hS hA hN (mX8_requireChoice eq3) is_X8_requireChoice wd_542 rfl rfl ⟨Nat.le_of_ble_eq_true rfl, Nat.le_of_ble_eq_true rfl⟩ (Nat.le_of_ble_eq_true rfl) ⟨Nat.zero_le _, Nat.zero_le _⟩ dX8_line_8 rfl rfl (fun H locs hP hD hS => ?_)
  refine lv_iload_n hx hb dX8_line_11 rfl (lv_at hl 2 rfl) ?_
  refine lv_if_ge (tgt := 25) hx hb dX8_line_12 (by decide) (fun b5 => ?_) (fun b5 => ?_)
  · have hs := ite_t hs b5
    refine lv_aload_n hx hb dX8_line_25 rfl (lv_at hl 0 rfl) ?_
    refine gf_X8_33 hx hb hts hown hK hP 0 rfl rfl dX8_line_26 ?_
    refine lv_aload_n hx hb dX8_line_29 rfl (lv_at hl 0 rfl) ?_
    refine gf_X8_12 hx hb hts hown hK hP 0 rfl rfl dX8_line_30 ?_
    obtain ⟨q6, eq6, hs⟩ := ob hs
    refine nd_callV (As := [.ref (ad 1)]) (rest := []) (st1 := []) hx hb hml hown hts hl hP hK hD hS hA hN (mX4_sort eq6) iv_X4_sort wd_682 4 rfl rfl rfl rfl ⟨Nat.le_of_ble_eq_true rfl, Nat.le_of_ble_eq_true rfl⟩ (Nat.le_of_ble_eq_true rfl) ⟨Nat.zero_le _, Nat.zero_le _⟩ dX8_line_33 rfl rfl (fun H locs hP hD hS => ?_)
    refine lv_aload_n hx hb dX8_line_36 rfl (lv_at hl 0 rfl) ?_
    refine gf_X8_33 hx hb hts hown hK hP 0 rfl rfl dX8_line_37 ?_
    refine lv_aload_n hx hb dX8_line_40 rfl (lv_at hl 0 rfl) ?_
    refine gf_X8_12 hx hb hts hown hK hP 0 rfl rfl dX8_line_41 ?_
    refine lv_iload_n hx hb dX8_line_44 rfl (lv_at hl 1 rfl) ?_
    refine lv_iload_n hx hb dX8_line_45 rfl (lv_at hl 2 rfl) ?_
    obtain ⟨q7, eq7, hs⟩ := ob hs
    refine nd_callV (As := [.ref (ad 1), .int x1, .int x2]) (rest := []) (st1 := [.int q7]) hx hb hml hown hts hl hP hK hD hS hA hN (mX4_slotAt eq7) iv_X4_slotAt wd_700 4 rfl rfl rfl rfl ⟨Nat.le_of_ble_eq_true rfl, Nat.le_of_ble_eq_true rfl⟩ (Nat.le_of_ble_eq_true rfl) ⟨Nat.zero_le _, Nat.zero_le _⟩ dX8_line_46 rfl rfl (fun H locs hP hD hS => ?_)
    refine lv_istore (lv' := [(4, .int q7), (0, .ref (ad 0)), (1, .int x1), (2, .int x2), (3, .int x3)]) hx hb dX8_line_49 hl (by decide) rfl (fun ls hl => ?_)
    refine lv_iload hx hb dX8_line_51 (lv_at hl 0 rfl) ?_
    refine lv_iconst (v := (-1 : Int32)) hx hb dX8_line_53 (by decide) ?_
    refine lv_icmp_ne (tgt := 59) hx hb dX8_line_54 (by decide) (fun b8 => ?_) (fun b8 => ?_)
    · have hs := ite_f hs b8
      refine lv_iload_n hx hb dX8_line_59 rfl (lv_at hl 4 rfl) ?_
      by_cases b9 : x3 = (0 : Int32)
      · have hs := ite_t hs b9
        rw [b9]
        refine lv_lookup (off := (28)) (tgt := 88) hx hb dX8_line_60 (by decide) (by decide) (by decide) ?_
        refine lv_iload hx hb dX8_line_88 (lv_at hl 0 rfl) ?_
        obtain ⟨q10, eq10, hs⟩ := ob hs
        refine nd_callS (As := [.int q7]) (rest := []) (st1 := [.int q10]) hx hb hml hown hts hl hP hK hD hS hA hN (mX0_pieceOfSlot eq10) is_X0_pieceOfSlot wd_705 rfl rfl ⟨Nat.le_of_ble_eq_true rfl, Nat.le_of_ble_eq_true rfl⟩ (Nat.le_of_ble_eq_true rfl) ⟨Nat.zero_le _, Nat.zero_le _⟩ dX8_line_90 rfl rfl (fun H locs hP hD hS => ?_)
        cases hs
      have hs := ite_f hs b9
      by_cases b11 : x3 = (1 : Int32)
      · have hs := ite_t hs b11
        rw [b11]
        refine lv_lookup (off := (34)) (tgt := 94) hx hb dX8_line_60 (by decide) (by decide) (by decide) ?_
        refine lv_iload hx hb dX8_line_94 (lv_at hl 0 rfl) ?_
        obtain ⟨q12, eq12, hs⟩ := ob hs
        refine nd_callS (As := [.int q7]) (rest := []) (st1 := [.int q12]) hx hb hml hown hts hl hP hK hD hS hA hN (mX0_numberOfSlot eq12) is_X0_numberOfSlot wd_706 rfl rfl ⟨Nat.le_of_ble_eq_true rfl, Nat.le_of_ble_eq_true rfl⟩ (Nat.le_of_ble_eq_true rfl) ⟨Nat.zero_le _, Nat.zero_le _⟩ dX8_line_96 rfl rfl (fun H locs hP hD hS => ?_)
        cases hs
      have hs := ite_f hs b11
      have zb9 : x3.toInt ≠ (0) := sw_ne b9
      have zb11 : x3.toInt ≠ (1) := sw_ne b11
      refine lv_lookup (off := (40)) (tgt := 100) hx hb dX8_line_60 (by decide) (by simp [Op.lookupswitch.offset, zb9, Ne.symm zb9, zb11, Ne.symm zb11]) (by decide) ?_
      refine lv_aload_n hx hb dX8_line_100 rfl (lv_at hl 1 rfl) ?_
      refine gf_X8_12 hx hb hts hown hK hP 0 rfl rfl dX8_line_101 ?_
      refine lv_iload hx hb dX8_line_104 (lv_at hl 0 rfl) ?_
      obtain ⟨q13, eq13, hs⟩ := ob hs
      refine nd_callV (As := [.int q7]) (rest := []) (st1 := [.int q13]) hx hb hml hown hts hl hP hK hD hS hA hN (mX0_sumOf eq13) iv_X0_sumOf wd_337 1 rfl rfl rfl rfl ⟨Nat.le_of_ble_eq_true rfl, Nat.le_of_ble_eq_true rfl⟩ (Nat.le_of_ble_eq_true rfl) ⟨Nat.zero_le _, Nat.zero_le _⟩ dX8_line_106 rfl rfl (fun H locs hP hD hS => ?_)
      cases hs
    · have hs := ite_t hs b8
      refine lv_iconst (v := (-1 : Int32)) hx hb dX8_line_57 (by decide) ?_
      cases hs
  · have hs := ite_f hs b5
    cases hs
    exact nd_thr1 hx hb hnt hown hts hX hS (hl.1.trans hml.symm) (is := 167) str_167 dX8_line_15 dX8_line_18 dX8_line_19 dX8_line_21 dX8_line_24 hxt hlocks rfl hP hAe (Nat.le_of_ble_eq_true rfl) (Nat.le_of_ble_eq_true rfl)
def tX8_sum_0 : List (Nat × Instr × Nat) := [(0, .iload_n 1, 1), (1, .iconst (-1), 1), (2, .if_icmp .eq 9, 3), (5, .iload_n 1, 1), (6, .bipush 10, 2), (8, .invokestatic 153, 3), (11, .iload_n 2, 1), (12, .iconst (-1), 1), (13, .if_icmp .eq 9, 3), (16, .iload_n 2, 1), (17, .bipush 24, 2), (19, .invokestatic 153, 3), (22, .aload_n 0, 1), (23, .getfield 12, 3), (26, .iload_n 1, 1), (27, .iload_n 2, 1), (28, .invokestatic 182, 3), (31, .ireturn, 1)]
theorem tX8_sum_0_ok : tX8_sum_0.all (fun q => decide (decode cX8_sum q.1 = .ok q.2)) = true := by decide +kernel
theorem dX8_sum_0 : decode cX8_sum 0 = .ok (.iload_n 1, 1) := td tX8_sum_0_ok 0 (q := (0, .iload_n 1, 1)) rfl
theorem dX8_sum_1 : decode cX8_sum 1 = .ok (.iconst (-1), 1) := td tX8_sum_0_ok 1 (q := (1, .iconst (-1), 1)) rfl
theorem dX8_sum_2 : decode cX8_sum 2 = .ok (.if_icmp .eq 9, 3) := td tX8_sum_0_ok 2 (q := (2, .if_icmp .eq 9, 3)) rfl
theorem dX8_sum_5 : decode cX8_sum 5 = .ok (.iload_n 1, 1) := td tX8_sum_0_ok 3 (q := (5, .iload_n 1, 1)) rfl
theorem dX8_sum_6 : decode cX8_sum 6 = .ok (.bipush 10, 2) := td tX8_sum_0_ok 4 (q := (6, .bipush 10, 2)) rfl
theorem dX8_sum_8 : decode cX8_sum 8 = .ok (.invokestatic 153, 3) := td tX8_sum_0_ok 5 (q := (8, .invokestatic 153, 3)) rfl
theorem dX8_sum_11 : decode cX8_sum 11 = .ok (.iload_n 2, 1) := td tX8_sum_0_ok 6 (q := (11, .iload_n 2, 1)) rfl
theorem dX8_sum_12 : decode cX8_sum 12 = .ok (.iconst (-1), 1) := td tX8_sum_0_ok 7 (q := (12, .iconst (-1), 1)) rfl
theorem dX8_sum_13 : decode cX8_sum 13 = .ok (.if_icmp .eq 9, 3) := td tX8_sum_0_ok 8 (q := (13, .if_icmp .eq 9, 3)) rfl
theorem dX8_sum_16 : decode cX8_sum 16 = .ok (.iload_n 2, 1) := td tX8_sum_0_ok 9 (q := (16, .iload_n 2, 1)) rfl
theorem dX8_sum_17 : decode cX8_sum 17 = .ok (.bipush 24, 2) := td tX8_sum_0_ok 10 (q := (17, .bipush 24, 2)) rfl
theorem dX8_sum_19 : decode cX8_sum 19 = .ok (.invokestatic 153, 3) := td tX8_sum_0_ok 11 (q := (19, .invokestatic 153, 3)) rfl
theorem dX8_sum_22 : decode cX8_sum 22 = .ok (.aload_n 0, 1) := td tX8_sum_0_ok 12 (q := (22, .aload_n 0, 1)) rfl
theorem dX8_sum_23 : decode cX8_sum 23 = .ok (.getfield 12, 3) := td tX8_sum_0_ok 13 (q := (23, .getfield 12, 3)) rfl
theorem dX8_sum_26 : decode cX8_sum 26 = .ok (.iload_n 1, 1) := td tX8_sum_0_ok 14 (q := (26, .iload_n 1, 1)) rfl
theorem dX8_sum_27 : decode cX8_sum 27 = .ok (.iload_n 2, 1) := td tX8_sum_0_ok 15 (q := (27, .iload_n 2, 1)) rfl
theorem dX8_sum_28 : decode cX8_sum 28 = .ok (.invokestatic 182, 3) := td tX8_sum_0_ok 16 (q := (28, .invokestatic 182, 3)) rfl
theorem dX8_sum_31 : decode cX8_sum 31 = .ok (.ireturn, 1) := td tX8_sum_0_ok 17 (q := (31, .ireturn, 1)) rfl
def fX8_sum (kc : (Nat → Int32)) (x1 : Int32) (x2 : Int32) : Option (Nat ⊕ (Int32)) :=
  (if x1 = (-1 : Int32) then (if x2 = (-1 : Int32) then (Option.bind (fX7_shopHourSum kc x1 x2) (fun q3 => (some (.inr q3)))) else (Option.bind (fX8_requireChoice x2 (24 : Int32)) (fun q4 => (xs q4 (fun _ => (Option.bind (fX7_shopHourSum kc x1 x2) (fun q6 => (some (.inr q6))))))))) else (Option.bind (fX8_requireChoice x1 (10 : Int32)) (fun q7 => (xs q7 (fun _ => (if x2 = (-1 : Int32) then (Option.bind (fX7_shopHourSum kc x1 x2) (fun q10 => (some (.inr q10)))) else (Option.bind (fX8_requireChoice x2 (24 : Int32)) (fun q11 => (xs q11 (fun _ => (Option.bind (fX7_shopHourSum kc x1 x2) (fun q13 => (some (.inr q13))))))))))))))
set_option maxHeartbeats 4000000 in
set_option maxRecDepth 100000 in
theorem mX8_sum {l : Launch} {D : va_G} {ad : Nat → Nat} {cI : ClassId} {kc : (Nat → Int32)} {ksv : (Nat → Int32)} {kbc : (Nat → Int32)} {kit : (Nat → Int32)} {kln : (Nat → Int32)} {ken : (Nat → Int32)} {kla : (Nat → Int32)} {kfi : (Nat → Int32)} {kea : (Nat → Int32)} {kns : Int32} {kbl : Int32} {kr0 : Int32} {kr1 : Int32} {kr2 : Int32} {kr3 : Int32} {kr4 : Int32} {kr5 : Int32} {klr : Int32} {kp0 : Int32} {kp1 : Int32} {kp2 : Int32} {kp3 : Int32} {x1 : Int32} {x2 : Int32} {r : Int32} (hs : fX8_sum kc x1 x2 = some (.inr r)) : nd_C l yX8_sum cX8_sum 3 (some .int) 3 69 D [(cI, .int)] [.ref (ad 0), .int x1, .int x2] (CW ad cI kc ksv kbc kit kln ken kla kfi kea kns kbl kr0 kr1 kr2 kr3 kr4 kr5 klr kp0 kp1 kp2 kp3) (CW ad cI kc ksv kbc kit kln ken kla kfi kea kns kbl kr0 kr1 kr2 kr3 kr4 kr5 klr kp0 kp1 kp2 kp3) (some (.int r)) := by
  refine nd_ofCi (by decide) (Nat.le_of_ble_eq_true rfl) (fun p e s m args below meth c_ ls A Q hx hb hml hown hts hl hP hK hD hS hA hN hret => ?_)
  have hown : s.vm.findClass RX8 = some m.cls := hown
  have hl : lv_has ls 3 [(0, .ref (ad 0)), (1, .int x1), (2, .int x2)] := hl
  have hret : ∀ (z0 : Int32) {H : Heap} {locs : List Loc} {pc : Nat} {ls : Array Slot}, some (Sum.inr (α := Nat) z0) = some (.inr r) → va_P D vwCl (CW ad cI kc ksv kbc kit kln ken kla kfi kea kns kbl kr0 kr1 kr2 kr3 kr4 kr5 klr kp0 kp1 kp2 kp3) H → va_S A s.heap H locs → decode cX8_sum pc = .ok (.ireturn, 1) → W p l e ⟨3, 0, 0, 69⟩ s m args below meth c_ H locs 0 0 Q (F0 m pc ls [.int z0]) := by
    intro z0 H locs pc ls h hP hS hd
    cases h
    exact hret hP hS hd
  rw [fX8_sum] at hs
  refine lv_iload_n hx hb dX8_sum_0 rfl (lv_at hl 1 rfl) ?_
  refine lv_iconst (v := (-1 : Int32)) hx hb dX8_sum_1 (by decide) ?_
  refine lv_icmp_eq (tgt := 11) hx hb dX8_sum_2 (by decide) (fun b1 => ?_) (fun b1 => ?_)
  · have hs := ite_t hs b1
    refine lv_iload_n hx hb dX8_sum_11 rfl (lv_at hl 2 rfl) ?_
    refine lv_iconst (v := (-1 : Int32)) hx hb dX8_sum_12 (by decide) ?_
    refine lv_icmp_eq (tgt := 22) hx hb dX8_sum_13 (by decide) (fun b2 => ?_) (fun b2 => ?_)
    · have hs := ite_t hs b2
      refine lv_aload_n hx hb dX8_sum_22 rfl (lv_at hl 0 rfl) ?_
      refine gf_X8_12 hx hb hts hown hK hP 0 rfl rfl dX8_sum_23 ?_
      refine lv_iload_n hx hb dX8_sum_26 rfl (lv_at hl 1 rfl) ?_
      refine lv_iload_n hx hb dX8_sum_27 rfl (lv_at hl 2 rfl) ?_
      obtain ⟨q3, eq3, hs⟩ := ob hs
      refine nd_callS (As := [.ref (ad 1), .int x1, .int x2]) (rest := []) (st1 := [.int q3]) hx hb hml hown hts hl hP hK hD hS hA hN (mX7_shopHourSum eq3) is_X7_shopHourSum wd_728 rfl rfl ⟨Nat.le_of_ble_eq_true rfl, Nat.le_of_ble_eq_true rfl⟩ (Nat.le_of_ble_eq_true rfl) ⟨Nat.zero_le _, Nat.zero_le _⟩ dX8_sum_28 rfl rfl (fun H locs hP hD hS => ?_)
      exact hret _ hs hP hS dX8_sum_31
    · have hs := ite_f hs b2
      refine lv_iload_n hx hb dX8_sum_16 rfl (lv_at hl 2 rfl) ?_
      refine lv_bipush (v := (24 : Int32)) hx hb dX8_sum_17 (by decide) ?_
      obtain ⟨q5, eq4, hs⟩ := xob_r hs
      refine nd_callS (As := [.int x2, .int (24 : Int32)]) (rest := []) (st1 := []) hx hb hml hown hts hl hP hK hD hS hA hN (mX8_requireChoice eq4) is_X8_requireChoice wd_542 rfl rfl ⟨Nat.le_of_ble_eq_true rfl, Nat.le_of_ble_eq_true rfl⟩ (Nat.le_of_ble_eq_true rfl) ⟨Nat.zero_le _, Nat.zero_le _⟩ dX8_sum_19 rfl rfl (fun H locs hP hD hS => ?_)
      refine lv_aload_n hx hb dX8_sum_22 rfl (lv_at hl 0 rfl) ?_
      refine gf_X8_12 hx hb hts hown hK hP 0 rfl rfl dX8_sum_23 ?_
      refine lv_iload_n hx hb dX8_sum_26 rfl (lv_at hl 1 rfl) ?_
      refine lv_iload_n hx hb dX8_sum_27 rfl (lv_at hl 2 rfl) ?_
      obtain ⟨q6, eq6, hs⟩ := ob hs
      refine nd_callS (As := [.ref (ad 1), .int x1, .int x2]) (rest := []) (st1 := [.int q6]) hx hb hml hown hts hl hP hK hD hS hA hN (mX7_shopHourSum eq6) is_X7_shopHourSum wd_728 rfl rfl ⟨Nat.le_of_ble_eq_true rfl, Nat.le_of_ble_eq_true rfl⟩ (Nat.le_of_ble_eq_true rfl) ⟨Nat.zero_le _, Nat.zero_le _⟩ dX8_sum_28 rfl rfl (fun H locs hP hD hS => ?_)
      exact hret _ hs hP hS dX8_sum_31
  · have hs := ite_f hs b1
    refine lv_iload_n hx hb dX8_sum_5 rfl (lv_at hl 1 rfl) ?_
    refine lv_bipush (v := (10 : Int32)) hx hb dX8_sum_6 (by decide) ?_
    obtain ⟨q8, eq7, hs⟩ := xob_r hs
    refine nd_callS (As := [.int x1, .int (10 : Int32)]) (rest := []) (st1 := []) hx hb hml hown hts hl hP hK hD hS hA hN (mX8_requireChoice eq7) is_X8_requireChoice wd_542 rfl rfl ⟨Nat.le_of_ble_eq_true rfl, Nat.le_of_ble_eq_true rfl⟩ (Nat.le_of_ble_eq_true rfl) ⟨Nat.zero_le _, Nat.zero_le _⟩ dX8_sum_8 rfl rfl (fun H locs hP hD hS => ?_)
    refine lv_iload_n hx hb dX8_sum_11 rfl (lv_at hl 2 rfl) ?_
    refine lv_iconst (v := (-1 : Int32)) hx hb dX8_sum_12 (by decide) ?_
    refine lv_icmp_eq (tgt := 22) hx hb dX8_sum_13 (by decide) (fun b9 => ?_) (fun b9 => ?_)
    · have hs := ite_t hs b9
      refine lv_aload_n hx hb dX8_sum_22 rfl (lv_at hl 0 rfl) ?_
      refine gf_X8_12 hx hb hts hown hK hP 0 rfl rfl dX8_sum_23 ?_
      refine lv_iload_n hx hb dX8_sum_26 rfl (lv_at hl 1 rfl) ?_
      refine lv_iload_n hx hb dX8_sum_27 rfl (lv_at hl 2 rfl) ?_
      obtain ⟨q10, eq10, hs⟩ := ob hs
      refine nd_callS (As := [.ref (ad 1), .int x1, .int x2]) (rest := []) (st1 := [.int q10]) hx hb hml hown hts hl hP hK hD hS hA hN (mX7_shopHourSum eq10) is_X7_shopHourSum wd_728 rfl rfl ⟨Nat.le_of_ble_eq_true rfl, Nat.le_of_ble_eq_true rfl⟩ (Nat.le_of_ble_eq_true rfl) ⟨Nat.zero_le _, Nat.zero_le _⟩ dX8_sum_28 rfl rfl (fun H locs hP hD hS => ?_)
      exact hret _ hs hP hS dX8_sum_31
    · have hs := ite_f hs b9
      refine lv_iload_n hx hb dX8_sum_16 rfl (lv_at hl 2 rfl) ?_
      refine lv_bipush (v := (24 : Int32)) hx hb dX8_sum_17 (by decide) ?_
      obtain ⟨q12, eq11, hs⟩ := xob_r hs
      refine nd_callS (As := [.int x2, .int (24 : Int32)]) (rest := []) (st1 := []) hx hb hml hown hts hl hP hK hD hS hA hN (mX8_requireChoice eq11) is_X8_requireChoice wd_542 rfl rfl ⟨Nat.le_of_ble_eq_true rfl, Nat.le_of_ble_eq_true rfl⟩ (Nat.le_of_ble_eq_true rfl) ⟨Nat.zero_le _, Nat.zero_le _⟩ dX8_sum_19 rfl rfl (fun H locs hP hD hS => ?_)
      refine lv_aload_n hx hb dX8_sum_22 rfl (lv_at hl 0 rfl) ?_
      refine gf_X8_12 hx hb hts hown hK hP 0 rfl rfl dX8_sum_23 ?_
      refine lv_iload_n hx hb dX8_sum_26 rfl (lv_at hl 1 rfl) ?_
      refine lv_iload_n hx hb dX8_sum_27 rfl (lv_at hl 2 rfl) ?_
      obtain ⟨q13, eq13, hs⟩ := ob hs
      refine nd_callS (As := [.ref (ad 1), .int x1, .int x2]) (rest := []) (st1 := [.int q13]) hx hb hml hown hts hl hP hK hD hS hA hN (mX7_shopHourSum eq13) is_X7_shopHourSum wd_728 rfl rfl ⟨Nat.le_of_ble_eq_true rfl, Nat.le_of_ble_eq_true rfl⟩ (Nat.le_of_ble_eq_true rfl) ⟨Nat.zero_le _, Nat.zero_le _⟩ dX8_sum_28 rfl rfl (fun H locs hP hD hS => ?_)
      exact hret _ hs hP hS dX8_sum_31
set_option maxHeartbeats 4000000 in
set_option maxRecDepth 100000 in
theorem xX8_sum {l : Launch} (hnt : l.stackTraces = false) {D : va_G} {ad : Nat → Nat} {cI : ClassId} {kc : (Nat → Int32)} {ksv : (Nat → Int32)} {kbc : (Nat → Int32)} {kit : (Nat → Int32)} {kln : (Nat → Int32)} {ken : (Nat → Int32)} {kla : (Nat → Int32)} {kfi : (Nat → Int32)} {kea : (Nat → Int32)} {kns : Int32} {kbl : Int32} {kr0 : Int32} {kr1 : Int32} {kr2 : Int32} {kr3 : Int32} {kr4 : Int32} {kr5 : Int32} {klr : Int32} {kp0 : Int32} {kp1 : Int32} {kp2 : Int32} {kp3 : Int32} {x1 : Int32} {x2 : Int32} {k : Nat} (hs : fX8_sum kc x1 x2 = some (.inl k)) : nd_CX l yX8_sum cX8_sum 3 (some .int) 7 103 D [(cI, .int)] [.ref (ad 0), .int x1, .int x2] (CW ad cI kc ksv kbc kit kln ken kla kfi kea kns kbl kr0 kr1 kr2 kr3 kr4 kr5 klr kp0 kp1 kp2 kp3) (fun W1 => W1 = (CW ad cI kc ksv kbc kit kln ken kla kfi kea kns kbl kr0 kr1 kr2 kr3 kr4 kr5 klr kp0 kp1 kp2 kp3)) k := by
  refine nd_ofX (by decide) (Nat.le_of_ble_eq_true rfl) (fun p e s m args below meth c_ ls A hx hb hml hown hts hl hP hK hD hS hA hN hX hxt hlocks hAe => ?_)
  have hown : s.vm.findClass RX8 = some m.cls := hown
  have hl : lv_has ls 3 [(0, .ref (ad 0)), (1, .int x1), (2, .int x2)] := hl
  rw [fX8_sum] at hs
  refine lv_iload_n hx hb dX8_sum_0 rfl (lv_at hl 1 rfl) ?_
  refine lv_iconst (v := (-1 : Int32)) hx hb dX8_sum_1 (by decide) ?_
  refine lv_icmp_eq (tgt := 11) hx hb dX8_sum_2 (by decide) (fun b1 => ?_) (fun b1 => ?_)
  · have hs := ite_t hs b1
    refine lv_iload_n hx hb dX8_sum_11 rfl (lv_at hl 2 rfl) ?_
    refine lv_iconst (v := (-1 : Int32)) hx hb dX8_sum_12 (by decide) ?_
    refine lv_icmp_eq (tgt := 22) hx hb dX8_sum_13 (by decide) (fun b2 => ?_) (fun b2 => ?_)
    · have hs := ite_t hs b2
      refine lv_aload_n hx hb dX8_sum_22 rfl (lv_at hl 0 rfl) ?_
      refine gf_X8_12 hx hb hts hown hK hP 0 rfl rfl dX8_sum_23 ?_
      refine lv_iload_n hx hb dX8_sum_26 rfl (lv_at hl 1 rfl) ?_
      refine lv_iload_n hx hb dX8_sum_27 rfl (lv_at hl 2 rfl) ?_
      obtain ⟨q3, eq3, hs⟩ := ob hs
      refine nd_callS (As := [.ref (ad 1), .int x1, .int x2]) (rest := []) (st1 := [.int q3]) hx hb hml hown hts hl hP hK hD hS hA hN (mX7_shopHourSum eq3) is_X7_shopHourSum wd_728 rfl rfl ⟨Nat.le_of_ble_eq_true rfl, Nat.le_of_ble_eq_true rfl⟩ (Nat.le_of_ble_eq_true rfl) ⟨Nat.zero_le _, Nat.zero_le _⟩ dX8_sum_28 rfl rfl (fun H locs hP hD hS => ?_)
      cases hs
    · have hs := ite_f hs b2
      refine lv_iload_n hx hb dX8_sum_16 rfl (lv_at hl 2 rfl) ?_
      refine lv_bipush (v := (24 : Int32)) hx hb dX8_sum_17 (by decide) ?_
      rcases xob_l hs with eq4 | ⟨q5, eq4, hs⟩
      · exact nd_callXS (fun _ h => h) (As := [.int x2, .int (24 : Int32)]) (rest := []) hx hb hml hown hts hl hP hK hD hS hA hN hX hxt hlocks hAe (xX8_requireChoice hnt eq4) is_X8_requireChoice wd_542 rfl ⟨Nat.le_of_ble_eq_true rfl, Nat.le_of_ble_eq_true rfl⟩ (by decide) (Nat.le_of_ble_eq_true rfl) dX8_sum_19 rfl
      refine nd_callS (As := [.int x2, .int (24 : Int32)]) (rest := []) (st1 := []) hx hb hml hown hts hl hP hK hD hS hA hN (mX8_requireChoice eq4) is_X8_requireChoice wd_542 rfl rfl ⟨Nat.le_of_ble_eq_true rfl, Nat.le_of_ble_eq_true rfl⟩ (Nat.le_of_ble_eq_true rfl) ⟨Nat.zero_le _, Nat.zero_le _⟩ dX8_sum_19 rfl rfl (fun H locs hP hD hS => ?_)
      refine lv_aload_n hx hb dX8_sum_22 rfl (lv_at hl 0 rfl) ?_
      refine gf_X8_12 hx hb hts hown hK hP 0 rfl rfl dX8_sum_23 ?_
      refine lv_iload_n hx hb dX8_sum_26 rfl (lv_at hl 1 rfl) ?_
      refine lv_iload_n hx hb dX8_sum_27 rfl (lv_at hl 2 rfl) ?_
      obtain ⟨q6, eq6, hs⟩ := ob hs
      refine nd_callS (As := [.ref (ad 1), .int x1, .int x2]) (rest := []) (st1 := [.int q6]) hx hb hml hown hts hl hP hK hD hS hA hN (mX7_shopHourSum eq6) is_X7_shopHourSum wd_728 rfl rfl ⟨Nat.le_of_ble_eq_true rfl, Nat.le_of_ble_eq_true rfl⟩ (Nat.le_of_ble_eq_true rfl) ⟨Nat.zero_le _, Nat.zero_le _⟩ dX8_sum_28 rfl rfl (fun H locs hP hD hS => ?_)
      cases hs
  · have hs := ite_f hs b1
    refine lv_iload_n hx hb dX8_sum_5 rfl (lv_at hl 1 rfl) ?_
    refine lv_bipush (v := (10 : Int32)) hx hb dX8_sum_6 (by decide) ?_
    rcases xob_l hs with eq7 | ⟨q8, eq7, hs⟩
    · exact nd_callXS (fun _ h => h) (As := [.int x1, .int (10 : Int32)]) (rest := []) hx hb hml hown hts hl hP hK hD hS hA hN hX hxt hlocks hAe (xX8_requireChoice hnt eq7) is_X8_requireChoice wd_542 rfl ⟨Nat.le_of_ble_eq_true rfl, Nat.le_of_ble_eq_true rfl⟩ (by decide) (Nat.le_of_ble_eq_true rfl) dX8_sum_8 rfl
    refine nd_callS (As := [.int x1, .int (10 : Int32)]) (rest := []) (st1 := []) hx hb hml hown hts hl hP hK hD hS hA hN (mX8_requireChoice eq7) is_X8_requireChoice wd_542 rfl rfl ⟨Nat.le_of_ble_eq_true rfl, Nat.le_of_ble_eq_true rfl⟩ (Nat.le_of_ble_eq_true rfl) ⟨Nat.zero_le _, Nat.zero_le _⟩ dX8_sum_8 rfl rfl (fun H locs hP hD hS => ?_)
    refine lv_iload_n hx hb dX8_sum_11 rfl (lv_at hl 2 rfl) ?_
    refine lv_iconst (v := (-1 : Int32)) hx hb dX8_sum_12 (by decide) ?_
    refine lv_icmp_eq (tgt := 22) hx hb dX8_sum_13 (by decide) (fun b9 => ?_) (fun b9 => ?_)
    · have hs := ite_t hs b9
      refine lv_aload_n hx hb dX8_sum_22 rfl (lv_at hl 0 rfl) ?_
      refine gf_X8_12 hx hb hts hown hK hP 0 rfl rfl dX8_sum_23 ?_
      refine lv_iload_n hx hb dX8_sum_26 rfl (lv_at hl 1 rfl) ?_
      refine lv_iload_n hx hb dX8_sum_27 rfl (lv_at hl 2 rfl) ?_
      obtain ⟨q10, eq10, hs⟩ := ob hs
      refine nd_callS (As := [.ref (ad 1), .int x1, .int x2]) (rest := []) (st1 := [.int q10]) hx hb hml hown hts hl hP hK hD hS hA hN (mX7_shopHourSum eq10) is_X7_shopHourSum wd_728 rfl rfl ⟨Nat.le_of_ble_eq_true rfl, Nat.le_of_ble_eq_true rfl⟩ (Nat.le_of_ble_eq_true rfl) ⟨Nat.zero_le _, Nat.zero_le _⟩ dX8_sum_28 rfl rfl (fun H locs hP hD hS => ?_)
      cases hs
    · have hs := ite_f hs b9
      refine lv_iload_n hx hb dX8_sum_16 rfl (lv_at hl 2 rfl) ?_
      refine lv_bipush (v := (24 : Int32)) hx hb dX8_sum_17 (by decide) ?_
      rcases xob_l hs with eq11 | ⟨q12, eq11, hs⟩
      · exact nd_callXS (fun _ h => h) (As := [.int x2, .int (24 : Int32)]) (rest := []) hx hb hml hown hts hl hP hK hD hS hA hN hX hxt hlocks hAe (xX8_requireChoice hnt eq11) is_X8_requireChoice wd_542 rfl ⟨Nat.le_of_ble_eq_true rfl, Nat.le_of_ble_eq_true rfl⟩ (by decide) (Nat.le_of_ble_eq_true rfl) dX8_sum_19 rfl
      refine nd_callS (As := [.int x2, .int (24 : Int32)]) (rest := []) (st1 := []) hx hb hml hown hts hl hP hK hD hS hA hN (mX8_requireChoice eq11) is_X8_requireChoice wd_542 rfl rfl ⟨Nat.le_of_ble_eq_true rfl, Nat.le_of_ble_eq_true rfl⟩ (Nat.le_of_ble_eq_true rfl) ⟨Nat.zero_le _, Nat.zero_le _⟩ dX8_sum_19 rfl rfl (fun H locs hP hD hS => ?_)
      refine lv_aload_n hx hb dX8_sum_22 rfl (lv_at hl 0 rfl) ?_
      refine gf_X8_12 hx hb hts hown hK hP 0 rfl rfl dX8_sum_23 ?_
      refine lv_iload_n hx hb dX8_sum_26 rfl (lv_at hl 1 rfl) ?_
      refine lv_iload_n hx hb dX8_sum_27 rfl (lv_at hl 2 rfl) ?_
      obtain ⟨q13, eq13, hs⟩ := ob hs
      refine nd_callS (As := [.ref (ad 1), .int x1, .int x2]) (rest := []) (st1 := [.int q13]) hx hb hml hown hts hl hP hK hD hS hA hN (mX7_shopHourSum eq13) is_X7_shopHourSum wd_728 rfl rfl ⟨Nat.le_of_ble_eq_true rfl, Nat.le_of_ble_eq_true rfl⟩ (Nat.le_of_ble_eq_true rfl) ⟨Nat.zero_le _, Nat.zero_le _⟩ dX8_sum_28 rfl rfl (fun H locs hP hD hS => ?_)
      cases hs
def tX8_overallNumber_0 : List (Nat × Instr × Nat) := [(0, .iload_n 1, 1), (1, .tableswitch 141 0 12 #[67, 75, 91, 99, 141, 141, 141, 141, 141, 109, 117, 125, 133], 67), (68, .aload_n 0, 1), (69, .getfield 12, 3), (72, .invokevirtual 55, 3), (75, .ireturn, 1), (76, .aload_n 0, 1), (77, .getfield 12, 3), (80, .invokevirtual 55, 3), (83, .aload_n 0, 1), (84, .getfield 12, 3), (87, .invokevirtual 315, 3), (90, .isub, 1), (91, .ireturn, 1), (92, .aload_n 0, 1), (93, .getfield 12, 3), (96, .invokestatic 318, 3), (99, .ireturn, 1), (100, .aload_n 0, 1), (101, .getfield 12, 3), (104, .iconst (-1), 1), (105, .iconst (-1), 1), (106, .invokestatic 182, 3), (109, .ireturn, 1), (110, .aload_n 0, 1), (111, .getfield 12, 3), (114, .invokevirtual 315, 3), (117, .ireturn, 1), (118, .aload_n 0, 1), (119, .getfield 12, 3), (122, .invokestatic 320, 3), (125, .ireturn, 1), (126, .aload_n 0, 1), (127, .getfield 12, 3), (130, .invokestatic 323, 3), (133, .ireturn, 1), (134, .aload_n 0, 1), (135, .getfield 12, 3), (138, .invokevirtual 145, 3), (141, .ireturn, 1), (142, .aload_n 0, 1), (143, .getfield 12, 3), (146, .iload_n 1, 1), (147, .iconst 4, 1), (148, .isub, 1), (149, .invokestatic 326, 3), (152, .ireturn, 1)]
theorem tX8_overallNumber_0_ok : tX8_overallNumber_0.all (fun q => decide (decode cX8_overallNumber q.1 = .ok q.2)) = true := by decide +kernel
theorem dX8_overallNumber_0 : decode cX8_overallNumber 0 = .ok (.iload_n 1, 1) := td tX8_overallNumber_0_ok 0 (q := (0, .iload_n 1, 1)) rfl
theorem dX8_overallNumber_1 : decode cX8_overallNumber 1 = .ok (.tableswitch 141 0 12 #[67, 75, 91, 99, 141, 141, 141, 141, 141, 109, 117, 125, 133], 67) := td tX8_overallNumber_0_ok 1 (q := (1, .tableswitch 141 0 12 #[67, 75, 91, 99, 141, 141, 141, 141, 141, 109, 117, 125, 133], 67)) rfl
theorem dX8_overallNumber_68 : decode cX8_overallNumber 68 = .ok (.aload_n 0, 1) := td tX8_overallNumber_0_ok 2 (q := (68, .aload_n 0, 1)) rfl
theorem dX8_overallNumber_69 : decode cX8_overallNumber 69 = .ok (.getfield 12, 3) := td tX8_overallNumber_0_ok 3 (q := (69, .getfield 12, 3)) rfl
theorem dX8_overallNumber_72 : decode cX8_overallNumber 72 = .ok (.invokevirtual 55, 3) := td tX8_overallNumber_0_ok 4 (q := (72, .invokevirtual 55, 3)) rfl
theorem dX8_overallNumber_75 : decode cX8_overallNumber 75 = .ok (.ireturn, 1) := td tX8_overallNumber_0_ok 5 (q := (75, .ireturn, 1)) rfl
theorem dX8_overallNumber_76 : decode cX8_overallNumber 76 = .ok (.aload_n 0, 1) := td tX8_overallNumber_0_ok 6 (q := (76, .aload_n 0, 1)) rfl
theorem dX8_overallNumber_77 : decode cX8_overallNumber 77 = .ok (.getfield 12, 3) := td tX8_overallNumber_0_ok 7 (q := (77, .getfield 12, 3)) rfl
theorem dX8_overallNumber_80 : decode cX8_overallNumber 80 = .ok (.invokevirtual 55, 3) := td tX8_overallNumber_0_ok 8 (q := (80, .invokevirtual 55, 3)) rfl
theorem dX8_overallNumber_83 : decode cX8_overallNumber 83 = .ok (.aload_n 0, 1) := td tX8_overallNumber_0_ok 9 (q := (83, .aload_n 0, 1)) rfl
theorem dX8_overallNumber_84 : decode cX8_overallNumber 84 = .ok (.getfield 12, 3) := td tX8_overallNumber_0_ok 10 (q := (84, .getfield 12, 3)) rfl
theorem dX8_overallNumber_87 : decode cX8_overallNumber 87 = .ok (.invokevirtual 315, 3) := td tX8_overallNumber_0_ok 11 (q := (87, .invokevirtual 315, 3)) rfl
theorem dX8_overallNumber_90 : decode cX8_overallNumber 90 = .ok (.isub, 1) := td tX8_overallNumber_0_ok 12 (q := (90, .isub, 1)) rfl
theorem dX8_overallNumber_91 : decode cX8_overallNumber 91 = .ok (.ireturn, 1) := td tX8_overallNumber_0_ok 13 (q := (91, .ireturn, 1)) rfl
theorem dX8_overallNumber_92 : decode cX8_overallNumber 92 = .ok (.aload_n 0, 1) := td tX8_overallNumber_0_ok 14 (q := (92, .aload_n 0, 1)) rfl
theorem dX8_overallNumber_93 : decode cX8_overallNumber 93 = .ok (.getfield 12, 3) := td tX8_overallNumber_0_ok 15 (q := (93, .getfield 12, 3)) rfl
theorem dX8_overallNumber_96 : decode cX8_overallNumber 96 = .ok (.invokestatic 318, 3) := td tX8_overallNumber_0_ok 16 (q := (96, .invokestatic 318, 3)) rfl
theorem dX8_overallNumber_99 : decode cX8_overallNumber 99 = .ok (.ireturn, 1) := td tX8_overallNumber_0_ok 17 (q := (99, .ireturn, 1)) rfl
theorem dX8_overallNumber_100 : decode cX8_overallNumber 100 = .ok (.aload_n 0, 1) := td tX8_overallNumber_0_ok 18 (q := (100, .aload_n 0, 1)) rfl
theorem dX8_overallNumber_101 : decode cX8_overallNumber 101 = .ok (.getfield 12, 3) := td tX8_overallNumber_0_ok 19 (q := (101, .getfield 12, 3)) rfl
theorem dX8_overallNumber_104 : decode cX8_overallNumber 104 = .ok (.iconst (-1), 1) := td tX8_overallNumber_0_ok 20 (q := (104, .iconst (-1), 1)) rfl
theorem dX8_overallNumber_105 : decode cX8_overallNumber 105 = .ok (.iconst (-1), 1) := td tX8_overallNumber_0_ok 21 (q := (105, .iconst (-1), 1)) rfl
theorem dX8_overallNumber_106 : decode cX8_overallNumber 106 = .ok (.invokestatic 182, 3) := td tX8_overallNumber_0_ok 22 (q := (106, .invokestatic 182, 3)) rfl
theorem dX8_overallNumber_109 : decode cX8_overallNumber 109 = .ok (.ireturn, 1) := td tX8_overallNumber_0_ok 23 (q := (109, .ireturn, 1)) rfl
theorem dX8_overallNumber_110 : decode cX8_overallNumber 110 = .ok (.aload_n 0, 1) := td tX8_overallNumber_0_ok 24 (q := (110, .aload_n 0, 1)) rfl
theorem dX8_overallNumber_111 : decode cX8_overallNumber 111 = .ok (.getfield 12, 3) := td tX8_overallNumber_0_ok 25 (q := (111, .getfield 12, 3)) rfl
theorem dX8_overallNumber_114 : decode cX8_overallNumber 114 = .ok (.invokevirtual 315, 3) := td tX8_overallNumber_0_ok 26 (q := (114, .invokevirtual 315, 3)) rfl
theorem dX8_overallNumber_117 : decode cX8_overallNumber 117 = .ok (.ireturn, 1) := td tX8_overallNumber_0_ok 27 (q := (117, .ireturn, 1)) rfl
theorem dX8_overallNumber_118 : decode cX8_overallNumber 118 = .ok (.aload_n 0, 1) := td tX8_overallNumber_0_ok 28 (q := (118, .aload_n 0, 1)) rfl
theorem dX8_overallNumber_119 : decode cX8_overallNumber 119 = .ok (.getfield 12, 3) := td tX8_overallNumber_0_ok 29 (q := (119, .getfield 12, 3)) rfl
theorem dX8_overallNumber_122 : decode cX8_overallNumber 122 = .ok (.invokestatic 320, 3) := td tX8_overallNumber_0_ok 30 (q := (122, .invokestatic 320, 3)) rfl
theorem dX8_overallNumber_125 : decode cX8_overallNumber 125 = .ok (.ireturn, 1) := td tX8_overallNumber_0_ok 31 (q := (125, .ireturn, 1)) rfl
theorem dX8_overallNumber_126 : decode cX8_overallNumber 126 = .ok (.aload_n 0, 1) := td tX8_overallNumber_0_ok 32 (q := (126, .aload_n 0, 1)) rfl
theorem dX8_overallNumber_127 : decode cX8_overallNumber 127 = .ok (.getfield 12, 3) := td tX8_overallNumber_0_ok 33 (q := (127, .getfield 12, 3)) rfl
theorem dX8_overallNumber_130 : decode cX8_overallNumber 130 = .ok (.invokestatic 323, 3) := td tX8_overallNumber_0_ok 34 (q := (130, .invokestatic 323, 3)) rfl
theorem dX8_overallNumber_133 : decode cX8_overallNumber 133 = .ok (.ireturn, 1) := td tX8_overallNumber_0_ok 35 (q := (133, .ireturn, 1)) rfl
theorem dX8_overallNumber_134 : decode cX8_overallNumber 134 = .ok (.aload_n 0, 1) := td tX8_overallNumber_0_ok 36 (q := (134, .aload_n 0, 1)) rfl
theorem dX8_overallNumber_135 : decode cX8_overallNumber 135 = .ok (.getfield 12, 3) := td tX8_overallNumber_0_ok 37 (q := (135, .getfield 12, 3)) rfl
theorem dX8_overallNumber_138 : decode cX8_overallNumber 138 = .ok (.invokevirtual 145, 3) := td tX8_overallNumber_0_ok 38 (q := (138, .invokevirtual 145, 3)) rfl
theorem dX8_overallNumber_141 : decode cX8_overallNumber 141 = .ok (.ireturn, 1) := td tX8_overallNumber_0_ok 39 (q := (141, .ireturn, 1)) rfl
theorem dX8_overallNumber_142 : decode cX8_overallNumber 142 = .ok (.aload_n 0, 1) := td tX8_overallNumber_0_ok 40 (q := (142, .aload_n 0, 1)) rfl
theorem dX8_overallNumber_143 : decode cX8_overallNumber 143 = .ok (.getfield 12, 3) := td tX8_overallNumber_0_ok 41 (q := (143, .getfield 12, 3)) rfl
theorem dX8_overallNumber_146 : decode cX8_overallNumber 146 = .ok (.iload_n 1, 1) := td tX8_overallNumber_0_ok 42 (q := (146, .iload_n 1, 1)) rfl
theorem dX8_overallNumber_147 : decode cX8_overallNumber 147 = .ok (.iconst 4, 1) := td tX8_overallNumber_0_ok 43 (q := (147, .iconst 4, 1)) rfl
theorem dX8_overallNumber_148 : decode cX8_overallNumber 148 = .ok (.isub, 1) := td tX8_overallNumber_0_ok 44 (q := (148, .isub, 1)) rfl
theorem dX8_overallNumber_149 : decode cX8_overallNumber 149 = .ok (.invokestatic 326, 3) := td tX8_overallNumber_0_ok 45 (q := (149, .invokestatic 326, 3)) rfl
theorem dX8_overallNumber_152 : decode cX8_overallNumber 152 = .ok (.ireturn, 1) := td tX8_overallNumber_0_ok 46 (q := (152, .ireturn, 1)) rfl
def fX8_overallNumber (kc : (Nat → Int32)) (kns : Int32) (x1 : Int32) : Option (Int32) :=
  (if x1 = (0 : Int32) then (Option.bind (fX0_pieces kc) (fun q2 => (some q2))) else (if x1 = (1 : Int32) then (Option.bind (fX0_pieces kc) (fun q4 => (Option.bind (fX0_joins kc) (fun q5 => (some (q4 - q5)))))) else (if x1 = (2 : Int32) then (Option.bind (fX7_receiptsOf kc) (fun q7 => (some q7))) else (if x1 = (3 : Int32) then (Option.bind (fX7_shopHourSum kc (-1 : Int32) (-1 : Int32)) (fun q9 => (some q9))) else (if x1 = (4 : Int32) then (Option.bind (fX7_receiptsOfKind kc (x1 - (4 : Int32))) (fun q11 => (some q11))) else (if x1 = (5 : Int32) then (Option.bind (fX7_receiptsOfKind kc (x1 - (4 : Int32))) (fun q13 => (some q13))) else (if x1 = (6 : Int32) then (Option.bind (fX7_receiptsOfKind kc (x1 - (4 : Int32))) (fun q15 => (some q15))) else (if x1 = (7 : Int32) then (Option.bind (fX7_receiptsOfKind kc (x1 - (4 : Int32))) (fun q17 => (some q17))) else (if x1 = (8 : Int32) then (Option.bind (fX7_receiptsOfKind kc (x1 - (4 : Int32))) (fun q19 => (some q19))) else (if x1 = (9 : Int32) then (Option.bind (fX0_joins kc) (fun q21 => (some q21))) else (if x1 = (10 : Int32) then (Option.bind (fX7_alikePairs kc) (fun q23 => (some q23))) else (if x1 = (11 : Int32) then (Option.bind (fX7_pagesUsed kc) (fun q25 => (some q25))) else (if x1 = (12 : Int32) then (Option.bind (fX0_savedStates kns) (fun q27 => (some q27))) else (Option.bind (fX7_receiptsOfKind kc (x1 - (4 : Int32))) (fun q28 => (some q28))))))))))))))))
set_option maxHeartbeats 4000000 in
set_option maxRecDepth 100000 in
theorem mX8_overallNumber {l : Launch} {D : va_G} {ad : Nat → Nat} {cI : ClassId} {kc : (Nat → Int32)} {ksv : (Nat → Int32)} {kbc : (Nat → Int32)} {kit : (Nat → Int32)} {kln : (Nat → Int32)} {ken : (Nat → Int32)} {kla : (Nat → Int32)} {kfi : (Nat → Int32)} {kea : (Nat → Int32)} {kns : Int32} {kbl : Int32} {kr0 : Int32} {kr1 : Int32} {kr2 : Int32} {kr3 : Int32} {kr4 : Int32} {kr5 : Int32} {klr : Int32} {kp0 : Int32} {kp1 : Int32} {kp2 : Int32} {kp3 : Int32} {x1 : Int32} {r : Int32} (hs : fX8_overallNumber kc kns x1 = some r) : nd_C l yX8_overallNumber cX8_overallNumber 2 (some .int) 4 93 D [(cI, .int)] [.ref (ad 0), .int x1] (CW ad cI kc ksv kbc kit kln ken kla kfi kea kns kbl kr0 kr1 kr2 kr3 kr4 kr5 klr kp0 kp1 kp2 kp3) (CW ad cI kc ksv kbc kit kln ken kla kfi kea kns kbl kr0 kr1 kr2 kr3 kr4 kr5 klr kp0 kp1 kp2 kp3) (some (.int r)) := by
  refine nd_ofCi (by decide) (Nat.le_of_ble_eq_true rfl) (fun p e s m args below meth c_ ls A Q hx hb hml hown hts hl hP hK hD hS hA hN hret => ?_)
  have hown : s.vm.findClass RX8 = some m.cls := hown
  have hl : lv_has ls 2 [(0, .ref (ad 0)), (1, .int x1)] := hl
  have hret : ∀ (z0 : Int32) {H : Heap} {locs : List Loc} {pc : Nat} {ls : Array Slot}, some z0 = some r → va_P D vwCl (CW ad cI kc ksv kbc kit kln ken kla kfi kea kns kbl kr0 kr1 kr2 kr3 kr4 kr5 klr kp0 kp1 kp2 kp3) H → va_S A s.heap H locs → decode cX8_overallNumber pc = .ok (.ireturn, 1) → W p l e ⟨4, 0, 0, 93⟩ s m args below meth c_ H locs 0 0 Q (F0 m pc ls [.int z0]) := by
    intro z0 H locs pc ls h hP hS hd
    cases h
    exact hret hP hS hd
  rw [fX8_overallNumber] at hs
  refine lv_iload_n hx hb dX8_overallNumber_0 rfl (lv_at hl 1 rfl) ?_
  by_cases b1 : x1 = (0 : Int32)
  · have hs := ite_t hs b1
    rw [b1]
    refine lv_tableIn (off := (67)) (tgt := 68) hx hb dX8_overallNumber_1 (by decide) (by decide) (by decide) (by decide) ?_
    refine lv_aload_n hx hb dX8_overallNumber_68 rfl (lv_at hl 0 rfl) ?_
    refine gf_X8_12 hx hb hts hown hK hP 0 rfl rfl dX8_overallNumber_69 ?_
    obtain ⟨q2, eq2, hs⟩ := ob hs
    refine nd_callV (As := []) (rest := []) (st1 := [.int q2]) hx hb hml hown hts hl hP hK hD hS hA hN (mX0_pieces eq2) iv_X0_pieces wd_98 1 rfl rfl rfl rfl ⟨Nat.le_of_ble_eq_true rfl, Nat.le_of_ble_eq_true rfl⟩ (Nat.le_of_ble_eq_true rfl) ⟨Nat.zero_le _, Nat.zero_le _⟩ dX8_overallNumber_72 rfl rfl (fun H locs hP hD hS => ?_)
    exact hret _ hs hP hS dX8_overallNumber_75
  have hs := ite_f hs b1
  by_cases b3 : x1 = (1 : Int32)
  · have hs := ite_t hs b3
    rw [b3]
    refine lv_tableIn (off := (75)) (tgt := 76) hx hb dX8_overallNumber_1 (by decide) (by decide) (by decide) (by decide) ?_
    refine lv_aload_n hx hb dX8_overallNumber_76 rfl (lv_at hl 0 rfl) ?_
    refine gf_X8_12 hx hb hts hown hK hP 0 rfl rfl dX8_overallNumber_77 ?_
    obtain ⟨q4, eq4, hs⟩ := ob hs
    refine nd_callV (As := []) (rest := []) (st1 := [.int q4]) hx hb hml hown hts hl hP hK hD hS hA hN (mX0_pieces eq4) iv_X0_pieces wd_98 1 rfl rfl rfl rfl ⟨Nat.le_of_ble_eq_true rfl, Nat.le_of_ble_eq_true rfl⟩ (Nat.le_of_ble_eq_true rfl) ⟨Nat.zero_le _, Nat.zero_le _⟩ dX8_overallNumber_80 rfl rfl (fun H locs hP hD hS => ?_)
    refine lv_aload_n hx hb dX8_overallNumber_83 rfl (lv_at hl 0 rfl) ?_
    refine gf_X8_12 hx hb hts hown hK hP 0 rfl rfl dX8_overallNumber_84 ?_
    obtain ⟨q5, eq5, hs⟩ := ob hs
    refine nd_callV (As := []) (rest := [.int q4]) (st1 := [.int q5, .int q4]) hx hb hml hown hts hl hP hK hD hS hA hN (mX0_joins eq5) iv_X0_joins wd_751 1 rfl rfl rfl rfl ⟨Nat.le_of_ble_eq_true rfl, Nat.le_of_ble_eq_true rfl⟩ (Nat.le_of_ble_eq_true rfl) ⟨Nat.zero_le _, Nat.zero_le _⟩ dX8_overallNumber_87 rfl rfl (fun H locs hP hD hS => ?_)
    refine lv_isub hx hb dX8_overallNumber_90 ?_
    exact hret _ hs hP hS dX8_overallNumber_91
  have hs := ite_f hs b3
  by_cases b6 : x1 = (2 : Int32)
  · have hs := ite_t hs b6
    rw [b6]
    refine lv_tableIn (off := (91)) (tgt := 92) hx hb dX8_overallNumber_1 (by decide) (by decide) (by decide) (by decide) ?_
    refine lv_aload_n hx hb dX8_overallNumber_92 rfl (lv_at hl 0 rfl) ?_
    refine gf_X8_12 hx hb hts hown hK hP 0 rfl rfl dX8_overallNumber_93 ?_
    obtain ⟨q7, eq7, hs⟩ := ob hs
    refine nd_callS (As := [.ref (ad 1)]) (rest := []) (st1 := [.int q7]) hx hb hml hown hts hl hP hK hD hS hA hN (mX7_receiptsOf eq7) is_X7_receiptsOf wd_755 rfl rfl ⟨Nat.le_of_ble_eq_true rfl, Nat.le_of_ble_eq_true rfl⟩ (Nat.le_of_ble_eq_true rfl) ⟨Nat.zero_le _, Nat.zero_le _⟩ dX8_overallNumber_96 rfl rfl (fun H locs hP hD hS => ?_)
    exact hret _ hs hP hS dX8_overallNumber_99
  have hs := ite_f hs b6
  by_cases b8 : x1 = (3 : Int32)
  · have hs := ite_t hs b8
    rw [b8]
    refine lv_tableIn (off := (99)) (tgt := 100) hx hb dX8_overallNumber_1 (by decide) (by decide) (by decide) (by decide) ?_
    refine lv_aload_n hx hb dX8_overallNumber_100 rfl (lv_at hl 0 rfl) ?_
    refine gf_X8_12 hx hb hts hown hK hP 0 rfl rfl dX8_overallNumber_101 ?_
    refine lv_iconst (v := (-1 : Int32)) hx hb dX8_overallNumber_104 (by decide) ?_
    refine lv_iconst (v := (-1 : Int32)) hx hb dX8_overallNumber_105 (by decide) ?_
    obtain ⟨q9, eq9, hs⟩ := ob hs
    refine nd_callS (As := [.ref (ad 1), .int (-1 : Int32), .int (-1 : Int32)]) (rest := []) (st1 := [.int q9]) hx hb hml hown hts hl hP hK hD hS hA hN (mX7_shopHourSum eq9) is_X7_shopHourSum wd_728 rfl rfl ⟨Nat.le_of_ble_eq_true rfl, Nat.le_of_ble_eq_true rfl⟩ (Nat.le_of_ble_eq_true rfl) ⟨Nat.zero_le _, Nat.zero_le _⟩ dX8_overallNumber_106 rfl rfl (fun H locs hP hD hS => ?_)
    exact hret _ hs hP hS dX8_overallNumber_109
  have hs := ite_f hs b8
  by_cases b10 : x1 = (4 : Int32)
  · have hs := ite_t hs b10
    rw [b10]
    refine lv_tableIn (off := (141)) (tgt := 142) hx hb dX8_overallNumber_1 (by decide) (by decide) (by decide) (by decide) ?_
    refine lv_aload_n hx hb dX8_overallNumber_142 rfl (lv_at hl 0 rfl) ?_
    refine gf_X8_12 hx hb hts hown hK hP 0 rfl rfl dX8_overallNumber_143 ?_
    refine lv_iload_n hx hb dX8_overallNumber_146 rfl (lv_at hl 1 rfl) ?_
    refine lv_iconst (v := (4 : Int32)) hx hb dX8_overallNumber_147 (by decide) ?_
    refine lv_isub hx hb dX8_overallNumber_148 ?_
    obtain ⟨q11, eq11, hs⟩ := ob hs
    refine nd_callS (As := [.ref (ad 1), .int (x1 - (4 : Int32))]) (rest := []) (st1 := [.int q11]) hx hb hml hown hts hl hP hK hD hS hA hN (mX7_receiptsOfKind eq11) is_X7_receiptsOfKind wd_767 rfl rfl ⟨Nat.le_of_ble_eq_true rfl, Nat.le_of_ble_eq_true rfl⟩ (Nat.le_of_ble_eq_true rfl) ⟨Nat.zero_le _, Nat.zero_le _⟩ dX8_overallNumber_149 rfl rfl (fun H locs hP hD hS => ?_)
    exact hret _ hs hP hS dX8_overallNumber_152
  have hs := ite_f hs b10
  by_cases b12 : x1 = (5 : Int32)
  · have hs := ite_t hs b12
    rw [b12]
    refine lv_tableIn (off := (141)) (tgt := 142) hx hb dX8_overallNumber_1 (by decide) (by decide) (by decide) (by decide) ?_
    refine lv_aload_n hx hb dX8_overallNumber_142 rfl (lv_at hl 0 rfl) ?_
    refine gf_X8_12 hx hb hts hown hK hP 0 rfl rfl dX8_overallNumber_143 ?_
    refine lv_iload_n hx hb dX8_overallNumber_146 rfl (lv_at hl 1 rfl) ?_
    refine lv_iconst (v := (4 : Int32)) hx hb dX8_overallNumber_147 (by decide) ?_
    refine lv_isub hx hb dX8_overallNumber_148 ?_
    obtain ⟨q13, eq13, hs⟩ := ob hs
    refine nd_callS (As := [.ref (ad 1), .int (x1 - (4 : Int32))]) (rest := []) (st1 := [.int q13]) hx hb hml hown hts hl hP hK hD hS hA hN (mX7_receiptsOfKind eq13) is_X7_receiptsOfKind wd_767 rfl rfl ⟨Nat.le_of_ble_eq_true rfl, Nat.le_of_ble_eq_true rfl⟩ (Nat.le_of_ble_eq_true rfl) ⟨Nat.zero_le _, Nat.zero_le _⟩ dX8_overallNumber_149 rfl rfl (fun H locs hP hD hS => ?_)
    exact hret _ hs hP hS dX8_overallNumber_152
  have hs := ite_f hs b12
  by_cases b14 : x1 = (6 : Int32)
  · have hs := ite_t hs b14
    rw [b14]
    refine lv_tableIn (off := (141)) (tgt := 142) hx hb dX8_overallNumber_1 (by decide) (by decide) (by decide) (by decide) ?_
    refine lv_aload_n hx hb dX8_overallNumber_142 rfl (lv_at hl 0 rfl) ?_
    refine gf_X8_12 hx hb hts hown hK hP 0 rfl rfl dX8_overallNumber_143 ?_
    refine lv_iload_n hx hb dX8_overallNumber_146 rfl (lv_at hl 1 rfl) ?_
    refine lv_iconst (v := (4 : Int32)) hx hb dX8_overallNumber_147 (by decide) ?_
    refine lv_isub hx hb dX8_overallNumber_148 ?_
    obtain ⟨q15, eq15, hs⟩ := ob hs
    refine nd_callS (As := [.ref (ad 1), .int (x1 - (4 : Int32))]) (rest := []) (st1 := [.int q15]) hx hb hml hown hts hl hP hK hD hS hA hN (mX7_receiptsOfKind eq15) is_X7_receiptsOfKind wd_767 rfl rfl ⟨Nat.le_of_ble_eq_true rfl, Nat.le_of_ble_eq_true rfl⟩ (Nat.le_of_ble_eq_true rfl) ⟨Nat.zero_le _, Nat.zero_le _⟩ dX8_overallNumber_149 rfl rfl (fun H locs hP hD hS => ?_)
    exact hret _ hs hP hS dX8_overallNumber_152
  have hs := ite_f hs b14
  by_cases b16 : x1 = (7 : Int32)
  · have hs := ite_t hs b16
    rw [b16]
    refine lv_tableIn (off := (141)) (tgt := 142) hx hb dX8_overallNumber_1 (by decide) (by decide) (by decide) (by decide) ?_
    refine lv_aload_n hx hb dX8_overallNumber_142 rfl (lv_at hl 0 rfl) ?_
    refine gf_X8_12 hx hb hts hown hK hP 0 rfl rfl dX8_overallNumber_143 ?_
    refine lv_iload_n hx hb dX8_overallNumber_146 rfl (lv_at hl 1 rfl) ?_
    refine lv_iconst (v := (4 : Int32)) hx hb dX8_overallNumber_147 (by decide) ?_
    refine lv_isub hx hb dX8_overallNumber_148 ?_
    obtain ⟨q17, eq17, hs⟩ := ob hs
    refine nd_callS (As := [.ref (ad 1), .int (x1 - (4 : Int32))]) (rest := []) (st1 := [.int q17]) hx hb hml hown hts hl hP hK hD hS hA hN (mX7_receiptsOfKind eq17) is_X7_receiptsOfKind wd_767 rfl rfl ⟨Nat.le_of_ble_eq_true rfl, Nat.le_of_ble_eq_true rfl⟩ (Nat.le_of_ble_eq_true rfl) ⟨Nat.zero_le _, Nat.zero_le _⟩ dX8_overallNumber_149 rfl rfl (fun H locs hP hD hS => ?_)
    exact hret _ hs hP hS dX8_overallNumber_152
  have hs := ite_f hs b16
  by_cases b18 : x1 = (8 : Int32)
  · have hs := ite_t hs b18
    rw [b18]
    refine lv_tableIn (off := (141)) (tgt := 142) hx hb dX8_overallNumber_1 (by decide) (by decide) (by decide) (by decide) ?_
    refine lv_aload_n hx hb dX8_overallNumber_142 rfl (lv_at hl 0 rfl) ?_
    refine gf_X8_12 hx hb hts hown hK hP 0 rfl rfl dX8_overallNumber_143 ?_
    refine lv_iload_n hx hb dX8_overallNumber_146 rfl (lv_at hl 1 rfl) ?_
    refine lv_iconst (v := (4 : Int32)) hx hb dX8_overallNumber_147 (by decide) ?_
    refine lv_isub hx hb dX8_overallNumber_148 ?_
    obtain ⟨q19, eq19, hs⟩ := ob hs
    refine nd_callS (As := [.ref (ad 1), .int (x1 - (4 : Int32))]) (rest := []) (st1 := [.int q19]) hx hb hml hown hts hl hP hK hD hS hA hN (mX7_receiptsOfKind eq19) is_X7_receiptsOfKind wd_767 rfl rfl ⟨Nat.le_of_ble_eq_true rfl, Nat.le_of_ble_eq_true rfl⟩ (Nat.le_of_ble_eq_true rfl) ⟨Nat.zero_le _, Nat.zero_le _⟩ dX8_overallNumber_149 rfl rfl (fun H locs hP hD hS => ?_)
    exact hret _ hs hP hS dX8_overallNumber_152
  have hs := ite_f hs b18
  by_cases b20 : x1 = (9 : Int32)
  · have hs := ite_t hs b20
    rw [b20]
    refine lv_tableIn (off := (109)) (tgt := 110) hx hb dX8_overallNumber_1 (by decide) (by decide) (by decide) (by decide) ?_
    refine lv_aload_n hx hb dX8_overallNumber_110 rfl (lv_at hl 0 rfl) ?_
    refine gf_X8_12 hx hb hts hown hK hP 0 rfl rfl dX8_overallNumber_111 ?_
    obtain ⟨q21, eq21, hs⟩ := ob hs
    refine nd_callV (As := []) (rest := []) (st1 := [.int q21]) hx hb hml hown hts hl hP hK hD hS hA hN (mX0_joins eq21) iv_X0_joins wd_751 1 rfl rfl rfl rfl ⟨Nat.le_of_ble_eq_true rfl, Nat.le_of_ble_eq_true rfl⟩ (Nat.le_of_ble_eq_true rfl) ⟨Nat.zero_le _, Nat.zero_le _⟩ dX8_overallNumber_114 rfl rfl (fun H locs hP hD hS => ?_)
    exact hret _ hs hP hS dX8_overallNumber_117
  have hs := ite_f hs b20
  by_cases b22 : x1 = (10 : Int32)
  · have hs := ite_t hs b22
    rw [b22]
    refine lv_tableIn (off := (117)) (tgt := 118) hx hb dX8_overallNumber_1 (by decide) (by decide) (by decide) (by decide) ?_
    refine lv_aload_n hx hb dX8_overallNumber_118 rfl (lv_at hl 0 rfl) ?_
    refine gf_X8_12 hx hb hts hown hK hP 0 rfl rfl dX8_overallNumber_119 ?_
    obtain ⟨q23, eq23, hs⟩ := ob hs
    refine nd_callS (As := [.ref (ad 1)]) (rest := []) (st1 := [.int q23]) hx hb hml hown hts hl hP hK hD hS hA hN (mX7_alikePairs eq23) is_X7_alikePairs wd_759 rfl rfl ⟨Nat.le_of_ble_eq_true rfl, Nat.le_of_ble_eq_true rfl⟩ (Nat.le_of_ble_eq_true rfl) ⟨Nat.zero_le _, Nat.zero_le _⟩ dX8_overallNumber_122 rfl rfl (fun H locs hP hD hS => ?_)
    exact hret _ hs hP hS dX8_overallNumber_125
  have hs := ite_f hs b22
  by_cases b24 : x1 = (11 : Int32)
  · have hs := ite_t hs b24
    rw [b24]
    refine lv_tableIn (off := (125)) (tgt := 126) hx hb dX8_overallNumber_1 (by decide) (by decide) (by decide) (by decide) ?_
    refine lv_aload_n hx hb dX8_overallNumber_126 rfl (lv_at hl 0 rfl) ?_
    refine gf_X8_12 hx hb hts hown hK hP 0 rfl rfl dX8_overallNumber_127 ?_
    obtain ⟨q25, eq25, hs⟩ := ob hs
    refine nd_callS (As := [.ref (ad 1)]) (rest := []) (st1 := [.int q25]) hx hb hml hown hts hl hP hK hD hS hA hN (mX7_pagesUsed eq25) is_X7_pagesUsed wd_763 rfl rfl ⟨Nat.le_of_ble_eq_true rfl, Nat.le_of_ble_eq_true rfl⟩ (Nat.le_of_ble_eq_true rfl) ⟨Nat.zero_le _, Nat.zero_le _⟩ dX8_overallNumber_130 rfl rfl (fun H locs hP hD hS => ?_)
    exact hret _ hs hP hS dX8_overallNumber_133
  have hs := ite_f hs b24
  by_cases b26 : x1 = (12 : Int32)
  · have hs := ite_t hs b26
    rw [b26]
    refine lv_tableIn (off := (133)) (tgt := 134) hx hb dX8_overallNumber_1 (by decide) (by decide) (by decide) (by decide) ?_
    refine lv_aload_n hx hb dX8_overallNumber_134 rfl (lv_at hl 0 rfl) ?_
    refine gf_X8_12 hx hb hts hown hK hP 0 rfl rfl dX8_overallNumber_135 ?_
    obtain ⟨q27, eq27, hs⟩ := ob hs
    refine nd_callV (As := []) (rest := []) (st1 := [.int q27]) hx hb hml hown hts hl hP hK hD hS hA hN (mX0_savedStates eq27) iv_X0_savedStates wd_523 1 rfl rfl rfl rfl ⟨Nat.le_of_ble_eq_true rfl, Nat.le_of_ble_eq_true rfl⟩ (Nat.le_of_ble_eq_true rfl) ⟨Nat.zero_le _, Nat.zero_le _⟩ dX8_overallNumber_138 rfl rfl (fun H locs hP hD hS => ?_)
    exact hret _ hs hP hS dX8_overallNumber_141
  have hs := ite_f hs b26
  have zb1 : x1.toInt ≠ (0) := sw_ne b1
  have zb3 : x1.toInt ≠ (1) := sw_ne b3
  have zb6 : x1.toInt ≠ (2) := sw_ne b6
  have zb8 : x1.toInt ≠ (3) := sw_ne b8
  have zb10 : x1.toInt ≠ (4) := sw_ne b10
  have zb12 : x1.toInt ≠ (5) := sw_ne b12
  have zb14 : x1.toInt ≠ (6) := sw_ne b14
  have zb16 : x1.toInt ≠ (7) := sw_ne b16
  have zb18 : x1.toInt ≠ (8) := sw_ne b18
  have zb20 : x1.toInt ≠ (9) := sw_ne b20
  have zb22 : x1.toInt ≠ (10) := sw_ne b22
  have zb24 : x1.toInt ≠ (11) := sw_ne b24
  have zb26 : x1.toInt ≠ (12) := sw_ne b26
  refine lv_tableOut (tgt := 142) hx hb dX8_overallNumber_1 (by omega) (by decide) ?_
  refine lv_aload_n hx hb dX8_overallNumber_142 rfl (lv_at hl 0 rfl) ?_
  refine gf_X8_12 hx hb hts hown hK hP 0 rfl rfl dX8_overallNumber_143 ?_
  refine lv_iload_n hx hb dX8_overallNumber_146 rfl (lv_at hl 1 rfl) ?_
  refine lv_iconst (v := (4 : Int32)) hx hb dX8_overallNumber_147 (by decide) ?_
  refine lv_isub hx hb dX8_overallNumber_148 ?_
  obtain ⟨q28, eq28, hs⟩ := ob hs
  refine nd_callS (As := [.ref (ad 1), .int (x1 - (4 : Int32))]) (rest := []) (st1 := [.int q28]) hx hb hml hown hts hl hP hK hD hS hA hN (mX7_receiptsOfKind eq28) is_X7_receiptsOfKind wd_767 rfl rfl ⟨Nat.le_of_ble_eq_true rfl, Nat.le_of_ble_eq_true rfl⟩ (Nat.le_of_ble_eq_true rfl) ⟨Nat.zero_le _, Nat.zero_le _⟩ dX8_overallNumber_149 rfl rfl (fun H locs hP hD hS => ?_)
  exact hret _ hs hP hS dX8_overallNumber_152
def tX8_count_0 : List (Nat × Instr × Nat) := [(0, .iload_n 1, 1), (1, .bipush 13, 2), (3, .invokestatic 153, 3), (6, .aload_n 0, 1), (7, .iload_n 1, 1), (8, .invokevirtual 185, 3), (11, .ireturn, 1)]
theorem tX8_count_0_ok : tX8_count_0.all (fun q => decide (decode cX8_count q.1 = .ok q.2)) = true := by decide +kernel
theorem dX8_count_0 : decode cX8_count 0 = .ok (.iload_n 1, 1) := td tX8_count_0_ok 0 (q := (0, .iload_n 1, 1)) rfl
theorem dX8_count_1 : decode cX8_count 1 = .ok (.bipush 13, 2) := td tX8_count_0_ok 1 (q := (1, .bipush 13, 2)) rfl
theorem dX8_count_3 : decode cX8_count 3 = .ok (.invokestatic 153, 3) := td tX8_count_0_ok 2 (q := (3, .invokestatic 153, 3)) rfl
theorem dX8_count_6 : decode cX8_count 6 = .ok (.aload_n 0, 1) := td tX8_count_0_ok 3 (q := (6, .aload_n 0, 1)) rfl
theorem dX8_count_7 : decode cX8_count 7 = .ok (.iload_n 1, 1) := td tX8_count_0_ok 4 (q := (7, .iload_n 1, 1)) rfl
theorem dX8_count_8 : decode cX8_count 8 = .ok (.invokevirtual 185, 3) := td tX8_count_0_ok 5 (q := (8, .invokevirtual 185, 3)) rfl
theorem dX8_count_11 : decode cX8_count 11 = .ok (.ireturn, 1) := td tX8_count_0_ok 6 (q := (11, .ireturn, 1)) rfl
def fX8_count (kc : (Nat → Int32)) (kns : Int32) (x1 : Int32) : Option (Nat ⊕ (Int32)) :=
  (Option.bind (fX8_requireChoice x1 (13 : Int32)) (fun q1 => (xs q1 (fun _ => (Option.bind (fX8_overallNumber kc kns x1) (fun q3 => (some (.inr q3))))))))
set_option maxHeartbeats 4000000 in
set_option maxRecDepth 100000 in
theorem mX8_count {l : Launch} {D : va_G} {ad : Nat → Nat} {cI : ClassId} {kc : (Nat → Int32)} {ksv : (Nat → Int32)} {kbc : (Nat → Int32)} {kit : (Nat → Int32)} {kln : (Nat → Int32)} {ken : (Nat → Int32)} {kla : (Nat → Int32)} {kfi : (Nat → Int32)} {kea : (Nat → Int32)} {kns : Int32} {kbl : Int32} {kr0 : Int32} {kr1 : Int32} {kr2 : Int32} {kr3 : Int32} {kr4 : Int32} {kr5 : Int32} {klr : Int32} {kp0 : Int32} {kp1 : Int32} {kp2 : Int32} {kp3 : Int32} {x1 : Int32} {r : Int32} (hs : fX8_count kc kns x1 = some (.inr r)) : nd_C l yX8_count cX8_count 2 (some .int) 5 114 D [(cI, .int)] [.ref (ad 0), .int x1] (CW ad cI kc ksv kbc kit kln ken kla kfi kea kns kbl kr0 kr1 kr2 kr3 kr4 kr5 klr kp0 kp1 kp2 kp3) (CW ad cI kc ksv kbc kit kln ken kla kfi kea kns kbl kr0 kr1 kr2 kr3 kr4 kr5 klr kp0 kp1 kp2 kp3) (some (.int r)) := by
  refine nd_ofCi (by decide) (Nat.le_of_ble_eq_true rfl) (fun p e s m args below meth c_ ls A Q hx hb hml hown hts hl hP hK hD hS hA hN hret => ?_)
  have hown : s.vm.findClass RX8 = some m.cls := hown
  have hl : lv_has ls 2 [(0, .ref (ad 0)), (1, .int x1)] := hl
  have hret : ∀ (z0 : Int32) {H : Heap} {locs : List Loc} {pc : Nat} {ls : Array Slot}, some (Sum.inr (α := Nat) z0) = some (.inr r) → va_P D vwCl (CW ad cI kc ksv kbc kit kln ken kla kfi kea kns kbl kr0 kr1 kr2 kr3 kr4 kr5 klr kp0 kp1 kp2 kp3) H → va_S A s.heap H locs → decode cX8_count pc = .ok (.ireturn, 1) → W p l e ⟨5, 0, 0, 114⟩ s m args below meth c_ H locs 0 0 Q (F0 m pc ls [.int z0]) := by
    intro z0 H locs pc ls h hP hS hd
    cases h
    exact hret hP hS hd
  rw [fX8_count] at hs
  refine lv_iload_n hx hb dX8_count_0 rfl (lv_at hl 1 rfl) ?_
  refine lv_bipush (v := (13 : Int32)) hx hb dX8_count_1 (by decide) ?_
  obtain ⟨q2, eq1, hs⟩ := xob_r hs
  refine nd_callS (As := [.int x1, .int (13 : Int32)]) (rest := []) (st1 := []) hx hb hml hown hts hl hP hK hD hS hA hN (mX8_requireChoice eq1) is_X8_requireChoice wd_542 rfl rfl ⟨Nat.le_of_ble_eq_true rfl, Nat.le_of_ble_eq_true rfl⟩ (Nat.le_of_ble_eq_true rfl) ⟨Nat.zero_le _, Nat.zero_le _⟩ dX8_count_3 rfl rfl (fun H locs hP hD hS => ?_)
  refine lv_aload_n hx hb dX8_count_6 rfl (lv_at hl 0 rfl) ?_
  refine lv_iload_n hx hb dX8_count_7 rfl (lv_at hl 1 rfl) ?_
  obtain ⟨q3, eq3, hs⟩ := ob hs
  refine nd_callV (As := [.int x1]) (rest := []) (st1 := [.int q3]) hx hb hml hown hts hl hP hK hD hS hA hN (mX8_overallNumber eq3) iv_X8_overallNumber wd_747 0 rfl rfl rfl rfl ⟨Nat.le_of_ble_eq_true rfl, Nat.le_of_ble_eq_true rfl⟩ (Nat.le_of_ble_eq_true rfl) ⟨Nat.zero_le _, Nat.zero_le _⟩ dX8_count_8 rfl rfl (fun H locs hP hD hS => ?_)
  exact hret _ hs hP hS dX8_count_11
set_option maxHeartbeats 4000000 in
set_option maxRecDepth 100000 in
theorem xX8_count {l : Launch} (hnt : l.stackTraces = false) {D : va_G} {ad : Nat → Nat} {cI : ClassId} {kc : (Nat → Int32)} {ksv : (Nat → Int32)} {kbc : (Nat → Int32)} {kit : (Nat → Int32)} {kln : (Nat → Int32)} {ken : (Nat → Int32)} {kla : (Nat → Int32)} {kfi : (Nat → Int32)} {kea : (Nat → Int32)} {kns : Int32} {kbl : Int32} {kr0 : Int32} {kr1 : Int32} {kr2 : Int32} {kr3 : Int32} {kr4 : Int32} {kr5 : Int32} {klr : Int32} {kp0 : Int32} {kp1 : Int32} {kp2 : Int32} {kp3 : Int32} {x1 : Int32} {k : Nat} (hs : fX8_count kc kns x1 = some (.inl k)) : nd_CX l yX8_count cX8_count 2 (some .int) 7 114 D [(cI, .int)] [.ref (ad 0), .int x1] (CW ad cI kc ksv kbc kit kln ken kla kfi kea kns kbl kr0 kr1 kr2 kr3 kr4 kr5 klr kp0 kp1 kp2 kp3) (fun W1 => W1 = (CW ad cI kc ksv kbc kit kln ken kla kfi kea kns kbl kr0 kr1 kr2 kr3 kr4 kr5 klr kp0 kp1 kp2 kp3)) k := by
  refine nd_ofX (by decide) (Nat.le_of_ble_eq_true rfl) (fun p e s m args below meth c_ ls A hx hb hml hown hts hl hP hK hD hS hA hN hX hxt hlocks hAe => ?_)
  have hown : s.vm.findClass RX8 = some m.cls := hown
  have hl : lv_has ls 2 [(0, .ref (ad 0)), (1, .int x1)] := hl
  rw [fX8_count] at hs
  refine lv_iload_n hx hb dX8_count_0 rfl (lv_at hl 1 rfl) ?_
  refine lv_bipush (v := (13 : Int32)) hx hb dX8_count_1 (by decide) ?_
  rcases xob_l hs with eq1 | ⟨q2, eq1, hs⟩
  · exact nd_callXS (fun _ h => h) (As := [.int x1, .int (13 : Int32)]) (rest := []) hx hb hml hown hts hl hP hK hD hS hA hN hX hxt hlocks hAe (xX8_requireChoice hnt eq1) is_X8_requireChoice wd_542 rfl ⟨Nat.le_of_ble_eq_true rfl, Nat.le_of_ble_eq_true rfl⟩ (by decide) (Nat.le_of_ble_eq_true rfl) dX8_count_3 rfl
  refine nd_callS (As := [.int x1, .int (13 : Int32)]) (rest := []) (st1 := []) hx hb hml hown hts hl hP hK hD hS hA hN (mX8_requireChoice eq1) is_X8_requireChoice wd_542 rfl rfl ⟨Nat.le_of_ble_eq_true rfl, Nat.le_of_ble_eq_true rfl⟩ (Nat.le_of_ble_eq_true rfl) ⟨Nat.zero_le _, Nat.zero_le _⟩ dX8_count_3 rfl rfl (fun H locs hP hD hS => ?_)
  refine lv_aload_n hx hb dX8_count_6 rfl (lv_at hl 0 rfl) ?_
  refine lv_iload_n hx hb dX8_count_7 rfl (lv_at hl 1 rfl) ?_
  obtain ⟨q3, eq3, hs⟩ := ob hs
  refine nd_callV (As := [.int x1]) (rest := []) (st1 := [.int q3]) hx hb hml hown hts hl hP hK hD hS hA hN (mX8_overallNumber eq3) iv_X8_overallNumber wd_747 0 rfl rfl rfl rfl ⟨Nat.le_of_ble_eq_true rfl, Nat.le_of_ble_eq_true rfl⟩ (Nat.le_of_ble_eq_true rfl) ⟨Nat.zero_le _, Nat.zero_le _⟩ dX8_count_8 rfl rfl (fun H locs hP hD hS => ?_)
  cases hs
def tX8_fits_0 : List (Nat × Instr × Nat) := [(0, .aload_n 0, 1), (1, .iload_n 1, 1), (2, .invokevirtual 71, 3), (5, .aload_n 0, 1), (6, .iload_n 2, 1), (7, .invokevirtual 71, 3), (10, .aload_n 0, 1), (11, .getfield 12, 3), (14, .iload_n 1, 1), (15, .iload_n 2, 1), (16, .invokestatic 109, 3), (19, .ireturn, 1)]
theorem tX8_fits_0_ok : tX8_fits_0.all (fun q => decide (decode cX8_fits q.1 = .ok q.2)) = true := by decide +kernel
theorem dX8_fits_0 : decode cX8_fits 0 = .ok (.aload_n 0, 1) := td tX8_fits_0_ok 0 (q := (0, .aload_n 0, 1)) rfl
theorem dX8_fits_1 : decode cX8_fits 1 = .ok (.iload_n 1, 1) := td tX8_fits_0_ok 1 (q := (1, .iload_n 1, 1)) rfl
theorem dX8_fits_2 : decode cX8_fits 2 = .ok (.invokevirtual 71, 3) := td tX8_fits_0_ok 2 (q := (2, .invokevirtual 71, 3)) rfl
theorem dX8_fits_5 : decode cX8_fits 5 = .ok (.aload_n 0, 1) := td tX8_fits_0_ok 3 (q := (5, .aload_n 0, 1)) rfl
theorem dX8_fits_6 : decode cX8_fits 6 = .ok (.iload_n 2, 1) := td tX8_fits_0_ok 4 (q := (6, .iload_n 2, 1)) rfl
theorem dX8_fits_7 : decode cX8_fits 7 = .ok (.invokevirtual 71, 3) := td tX8_fits_0_ok 5 (q := (7, .invokevirtual 71, 3)) rfl
theorem dX8_fits_10 : decode cX8_fits 10 = .ok (.aload_n 0, 1) := td tX8_fits_0_ok 6 (q := (10, .aload_n 0, 1)) rfl
theorem dX8_fits_11 : decode cX8_fits 11 = .ok (.getfield 12, 3) := td tX8_fits_0_ok 7 (q := (11, .getfield 12, 3)) rfl
theorem dX8_fits_14 : decode cX8_fits 14 = .ok (.iload_n 1, 1) := td tX8_fits_0_ok 8 (q := (14, .iload_n 1, 1)) rfl
theorem dX8_fits_15 : decode cX8_fits 15 = .ok (.iload_n 2, 1) := td tX8_fits_0_ok 9 (q := (15, .iload_n 2, 1)) rfl
theorem dX8_fits_16 : decode cX8_fits 16 = .ok (.invokestatic 109, 3) := td tX8_fits_0_ok 10 (q := (16, .invokestatic 109, 3)) rfl
theorem dX8_fits_19 : decode cX8_fits 19 = .ok (.ireturn, 1) := td tX8_fits_0_ok 11 (q := (19, .ireturn, 1)) rfl
def fX8_fits (kc : (Nat → Int32)) (x1 : Int32) (x2 : Int32) : Option (Nat ⊕ (Int32)) :=
  (Option.bind (fX8_requirePiece kc x1) (fun q1 => (xs q1 (fun _ => (Option.bind (fX8_requirePiece kc x2) (fun q3 => (xs q3 (fun _ => (Option.bind (fX3_obstacle kc x1 x2) (fun q5 => (some (.inr q5))))))))))))
set_option maxHeartbeats 4000000 in
set_option maxRecDepth 100000 in
theorem mX8_fits {l : Launch} {D : va_G} {ad : Nat → Nat} {cI : ClassId} {kc : (Nat → Int32)} {ksv : (Nat → Int32)} {kbc : (Nat → Int32)} {kit : (Nat → Int32)} {kln : (Nat → Int32)} {ken : (Nat → Int32)} {kla : (Nat → Int32)} {kfi : (Nat → Int32)} {kea : (Nat → Int32)} {kns : Int32} {kbl : Int32} {kr0 : Int32} {kr1 : Int32} {kr2 : Int32} {kr3 : Int32} {kr4 : Int32} {kr5 : Int32} {klr : Int32} {kp0 : Int32} {kp1 : Int32} {kp2 : Int32} {kp3 : Int32} {x1 : Int32} {x2 : Int32} {r : Int32} (hs : fX8_fits kc x1 x2 = some (.inr r)) : nd_C l yX8_fits cX8_fits 3 (some .int) 3 67 D [(cI, .int)] [.ref (ad 0), .int x1, .int x2] (CW ad cI kc ksv kbc kit kln ken kla kfi kea kns kbl kr0 kr1 kr2 kr3 kr4 kr5 klr kp0 kp1 kp2 kp3) (CW ad cI kc ksv kbc kit kln ken kla kfi kea kns kbl kr0 kr1 kr2 kr3 kr4 kr5 klr kp0 kp1 kp2 kp3) (some (.int r)) := by
  refine nd_ofCi (by decide) (Nat.le_of_ble_eq_true rfl) (fun p e s m args below meth c_ ls A Q hx hb hml hown hts hl hP hK hD hS hA hN hret => ?_)
  have hown : s.vm.findClass RX8 = some m.cls := hown
  have hl : lv_has ls 3 [(0, .ref (ad 0)), (1, .int x1), (2, .int x2)] := hl
  have hret : ∀ (z0 : Int32) {H : Heap} {locs : List Loc} {pc : Nat} {ls : Array Slot}, some (Sum.inr (α := Nat) z0) = some (.inr r) → va_P D vwCl (CW ad cI kc ksv kbc kit kln ken kla kfi kea kns kbl kr0 kr1 kr2 kr3 kr4 kr5 klr kp0 kp1 kp2 kp3) H → va_S A s.heap H locs → decode cX8_fits pc = .ok (.ireturn, 1) → W p l e ⟨3, 0, 0, 67⟩ s m args below meth c_ H locs 0 0 Q (F0 m pc ls [.int z0]) := by
    intro z0 H locs pc ls h hP hS hd
    cases h
    exact hret hP hS hd
  rw [fX8_fits] at hs
  refine lv_aload_n hx hb dX8_fits_0 rfl (lv_at hl 0 rfl) ?_
  refine lv_iload_n hx hb dX8_fits_1 rfl (lv_at hl 1 rfl) ?_
  obtain ⟨q2, eq1, hs⟩ := xob_r hs
  refine nd_callV (As := [.int x1]) (rest := []) (st1 := []) hx hb hml hown hts hl hP hK hD hS hA hN (mX8_requirePiece eq1) iv_X8_requirePiece wd_155 0 rfl rfl rfl rfl ⟨Nat.le_of_ble_eq_true rfl, Nat.le_of_ble_eq_true rfl⟩ (Nat.le_of_ble_eq_true rfl) ⟨Nat.zero_le _, Nat.zero_le _⟩ dX8_fits_2 rfl rfl (fun H locs hP hD hS => ?_)
  refine lv_aload_n hx hb dX8_fits_5 rfl (lv_at hl 0 rfl) ?_
  refine lv_iload_n hx hb dX8_fits_6 rfl (lv_at hl 2 rfl) ?_
  obtain ⟨q4, eq3, hs⟩ := xob_r hs
  refine nd_callV (As := [.int x2]) (rest := []) (st1 := []) hx hb hml hown hts hl hP hK hD hS hA hN (mX8_requirePiece eq3) iv_X8_requirePiece wd_155 0 rfl rfl rfl rfl ⟨Nat.le_of_ble_eq_true rfl, Nat.le_of_ble_eq_true rfl⟩ (Nat.le_of_ble_eq_true rfl) ⟨Nat.zero_le _, Nat.zero_le _⟩ dX8_fits_7 rfl rfl (fun H locs hP hD hS => ?_)
  refine lv_aload_n hx hb dX8_fits_10 rfl (lv_at hl 0 rfl) ?_
  refine gf_X8_12 hx hb hts hown hK hP 0 rfl rfl dX8_fits_11 ?_
  refine lv_iload_n hx hb dX8_fits_14 rfl (lv_at hl 1 rfl) ?_
  refine lv_iload_n hx hb dX8_fits_15 rfl (lv_at hl 2 rfl) ?_
  obtain ⟨q5, eq5, hs⟩ := ob hs
  refine nd_callS (As := [.ref (ad 1), .int x1, .int x2]) (rest := []) (st1 := [.int q5]) hx hb hml hown hts hl hP hK hD hS hA hN (mX3_obstacle eq5) is_X3_obstacle wd_379 rfl rfl ⟨Nat.le_of_ble_eq_true rfl, Nat.le_of_ble_eq_true rfl⟩ (Nat.le_of_ble_eq_true rfl) ⟨Nat.zero_le _, Nat.zero_le _⟩ dX8_fits_16 rfl rfl (fun H locs hP hD hS => ?_)
  exact hret _ hs hP hS dX8_fits_19
set_option maxHeartbeats 4000000 in
set_option maxRecDepth 100000 in
theorem xX8_fits {l : Launch} (hnt : l.stackTraces = false) {D : va_G} {ad : Nat → Nat} {cI : ClassId} {kc : (Nat → Int32)} {ksv : (Nat → Int32)} {kbc : (Nat → Int32)} {kit : (Nat → Int32)} {kln : (Nat → Int32)} {ken : (Nat → Int32)} {kla : (Nat → Int32)} {kfi : (Nat → Int32)} {kea : (Nat → Int32)} {kns : Int32} {kbl : Int32} {kr0 : Int32} {kr1 : Int32} {kr2 : Int32} {kr3 : Int32} {kr4 : Int32} {kr5 : Int32} {klr : Int32} {kp0 : Int32} {kp1 : Int32} {kp2 : Int32} {kp3 : Int32} {x1 : Int32} {x2 : Int32} {k : Nat} (hs : fX8_fits kc x1 x2 = some (.inl k)) : nd_CX l yX8_fits cX8_fits 3 (some .int) 7 103 D [(cI, .int)] [.ref (ad 0), .int x1, .int x2] (CW ad cI kc ksv kbc kit kln ken kla kfi kea kns kbl kr0 kr1 kr2 kr3 kr4 kr5 klr kp0 kp1 kp2 kp3) (fun W1 => W1 = (CW ad cI kc ksv kbc kit kln ken kla kfi kea kns kbl kr0 kr1 kr2 kr3 kr4 kr5 klr kp0 kp1 kp2 kp3)) k := by
  refine nd_ofX (by decide) (Nat.le_of_ble_eq_true rfl) (fun p e s m args below meth c_ ls A hx hb hml hown hts hl hP hK hD hS hA hN hX hxt hlocks hAe => ?_)
  have hown : s.vm.findClass RX8 = some m.cls := hown
  have hl : lv_has ls 3 [(0, .ref (ad 0)), (1, .int x1), (2, .int x2)] := hl
  rw [fX8_fits] at hs
  refine lv_aload_n hx hb dX8_fits_0 rfl (lv_at hl 0 rfl) ?_
  refine lv_iload_n hx hb dX8_fits_1 rfl (lv_at hl 1 rfl) ?_
  rcases xob_l hs with eq1 | ⟨q2, eq1, hs⟩
  · exact nd_callXV (fun _ h => h) (As := [.int x1]) (rest := []) hx hb hml hown hts hl hP hK hD hS hA hN hX hxt hlocks hAe (xX8_requirePiece hnt eq1) iv_X8_requirePiece wd_155 0 rfl rfl rfl ⟨Nat.le_of_ble_eq_true rfl, Nat.le_of_ble_eq_true rfl⟩ (by decide) (Nat.le_of_ble_eq_true rfl) dX8_fits_2 rfl
  refine nd_callV (As := [.int x1]) (rest := []) (st1 := []) hx hb hml hown hts hl hP hK hD hS hA hN (mX8_requirePiece eq1) iv_X8_requirePiece wd_155 0 rfl rfl rfl rfl ⟨Nat.le_of_ble_eq_true rfl, Nat.le_of_ble_eq_true rfl⟩ (Nat.le_of_ble_eq_true rfl) ⟨Nat.zero_le _, Nat.zero_le _⟩ dX8_fits_2 rfl rfl (fun H locs hP hD hS => ?_)
  refine lv_aload_n hx hb dX8_fits_5 rfl (lv_at hl 0 rfl) ?_
  refine lv_iload_n hx hb dX8_fits_6 rfl (lv_at hl 2 rfl) ?_
  rcases xob_l hs with eq3 | ⟨q4, eq3, hs⟩
  · exact nd_callXV (fun _ h => h) (As := [.int x2]) (rest := []) hx hb hml hown hts hl hP hK hD hS hA hN hX hxt hlocks hAe (xX8_requirePiece hnt eq3) iv_X8_requirePiece wd_155 0 rfl rfl rfl ⟨Nat.le_of_ble_eq_true rfl, Nat.le_of_ble_eq_true rfl⟩ (by decide) (Nat.le_of_ble_eq_true rfl) dX8_fits_7 rfl
  refine nd_callV (As := [.int x2]) (rest := []) (st1 := []) hx hb hml hown hts hl hP hK hD hS hA hN (mX8_requirePiece eq3) iv_X8_requirePiece wd_155 0 rfl rfl rfl rfl ⟨Nat.le_of_ble_eq_true rfl, Nat.le_of_ble_eq_true rfl⟩ (Nat.le_of_ble_eq_true rfl) ⟨Nat.zero_le _, Nat.zero_le _⟩ dX8_fits_7 rfl rfl (fun H locs hP hD hS => ?_)
  refine lv_aload_n hx hb dX8_fits_10 rfl (lv_at hl 0 rfl) ?_
  refine gf_X8_12 hx hb hts hown hK hP 0 rfl rfl dX8_fits_11 ?_
  refine lv_iload_n hx hb dX8_fits_14 rfl (lv_at hl 1 rfl) ?_
  refine lv_iload_n hx hb dX8_fits_15 rfl (lv_at hl 2 rfl) ?_
  obtain ⟨q5, eq5, hs⟩ := ob hs
  refine nd_callS (As := [.ref (ad 1), .int x1, .int x2]) (rest := []) (st1 := [.int q5]) hx hb hml hown hts hl hP hK hD hS hA hN (mX3_obstacle eq5) is_X3_obstacle wd_379 rfl rfl ⟨Nat.le_of_ble_eq_true rfl, Nat.le_of_ble_eq_true rfl⟩ (Nat.le_of_ble_eq_true rfl) ⟨Nat.zero_le _, Nat.zero_le _⟩ dX8_fits_16 rfl rfl (fun H locs hP hD hS => ?_)
  cases hs
def tX8_longest_0 : List (Nat × Instr × Nat) := [(0, .iload_n 1, 1), (1, .iconst 3, 1), (2, .invokestatic 153, 3), (5, .aload_n 0, 1), (6, .getfield 40, 3), (9, .aload_n 0, 1), (10, .getfield 12, 3), (13, .invokevirtual 188, 3), (16, .iload_n 1, 1), (17, .lookupswitch 43 #[(0, 27), (1, 35)], 27), (44, .aload_n 0, 1), (45, .getfield 40, 3), (48, .invokevirtual 191, 3), (51, .ireturn, 1), (52, .aload_n 0, 1), (53, .getfield 40, 3), (56, .invokevirtual 192, 3), (59, .ireturn, 1), (60, .aload_n 0, 1), (61, .getfield 40, 3), (64, .invokevirtual 195, 3), (67, .ireturn, 1)]
theorem tX8_longest_0_ok : tX8_longest_0.all (fun q => decide (decode cX8_longest q.1 = .ok q.2)) = true := by decide +kernel
theorem dX8_longest_0 : decode cX8_longest 0 = .ok (.iload_n 1, 1) := td tX8_longest_0_ok 0 (q := (0, .iload_n 1, 1)) rfl
theorem dX8_longest_1 : decode cX8_longest 1 = .ok (.iconst 3, 1) := td tX8_longest_0_ok 1 (q := (1, .iconst 3, 1)) rfl
theorem dX8_longest_2 : decode cX8_longest 2 = .ok (.invokestatic 153, 3) := td tX8_longest_0_ok 2 (q := (2, .invokestatic 153, 3)) rfl
theorem dX8_longest_5 : decode cX8_longest 5 = .ok (.aload_n 0, 1) := td tX8_longest_0_ok 3 (q := (5, .aload_n 0, 1)) rfl
theorem dX8_longest_6 : decode cX8_longest 6 = .ok (.getfield 40, 3) := td tX8_longest_0_ok 4 (q := (6, .getfield 40, 3)) rfl
theorem dX8_longest_9 : decode cX8_longest 9 = .ok (.aload_n 0, 1) := td tX8_longest_0_ok 5 (q := (9, .aload_n 0, 1)) rfl
theorem dX8_longest_10 : decode cX8_longest 10 = .ok (.getfield 12, 3) := td tX8_longest_0_ok 6 (q := (10, .getfield 12, 3)) rfl
theorem dX8_longest_13 : decode cX8_longest 13 = .ok (.invokevirtual 188, 3) := td tX8_longest_0_ok 7 (q := (13, .invokevirtual 188, 3)) rfl
theorem dX8_longest_16 : decode cX8_longest 16 = .ok (.iload_n 1, 1) := td tX8_longest_0_ok 8 (q := (16, .iload_n 1, 1)) rfl
theorem dX8_longest_17 : decode cX8_longest 17 = .ok (.lookupswitch 43 #[(0, 27), (1, 35)], 27) := td tX8_longest_0_ok 9 (q := (17, .lookupswitch 43 #[(0, 27), (1, 35)], 27)) rfl
theorem dX8_longest_44 : decode cX8_longest 44 = .ok (.aload_n 0, 1) := td tX8_longest_0_ok 10 (q := (44, .aload_n 0, 1)) rfl
theorem dX8_longest_45 : decode cX8_longest 45 = .ok (.getfield 40, 3) := td tX8_longest_0_ok 11 (q := (45, .getfield 40, 3)) rfl
theorem dX8_longest_48 : decode cX8_longest 48 = .ok (.invokevirtual 191, 3) := td tX8_longest_0_ok 12 (q := (48, .invokevirtual 191, 3)) rfl
theorem dX8_longest_51 : decode cX8_longest 51 = .ok (.ireturn, 1) := td tX8_longest_0_ok 13 (q := (51, .ireturn, 1)) rfl
theorem dX8_longest_52 : decode cX8_longest 52 = .ok (.aload_n 0, 1) := td tX8_longest_0_ok 14 (q := (52, .aload_n 0, 1)) rfl
theorem dX8_longest_53 : decode cX8_longest 53 = .ok (.getfield 40, 3) := td tX8_longest_0_ok 15 (q := (53, .getfield 40, 3)) rfl
theorem dX8_longest_56 : decode cX8_longest 56 = .ok (.invokevirtual 192, 3) := td tX8_longest_0_ok 16 (q := (56, .invokevirtual 192, 3)) rfl
theorem dX8_longest_59 : decode cX8_longest 59 = .ok (.ireturn, 1) := td tX8_longest_0_ok 17 (q := (59, .ireturn, 1)) rfl
theorem dX8_longest_60 : decode cX8_longest 60 = .ok (.aload_n 0, 1) := td tX8_longest_0_ok 18 (q := (60, .aload_n 0, 1)) rfl
theorem dX8_longest_61 : decode cX8_longest 61 = .ok (.getfield 40, 3) := td tX8_longest_0_ok 19 (q := (61, .getfield 40, 3)) rfl
theorem dX8_longest_64 : decode cX8_longest 64 = .ok (.invokevirtual 195, 3) := td tX8_longest_0_ok 20 (q := (64, .invokevirtual 195, 3)) rfl
theorem dX8_longest_67 : decode cX8_longest 67 = .ok (.ireturn, 1) := td tX8_longest_0_ok 21 (q := (67, .ireturn, 1)) rfl
def fX8_longest (kc : (Nat → Int32)) (ken : (Nat → Int32)) (kla : (Nat → Int32)) (kfi : (Nat → Int32)) (kea : (Nat → Int32)) (kp0 : Int32) (kp1 : Int32) (kp2 : Int32) (kp3 : Int32) (x1 : Int32) : Option (Nat ⊕ (Int32 × (Nat → Int32) × (Nat → Int32) × (Nat → Int32) × (Nat → Int32) × Int32 × Int32 × Int32 × Int32)) :=
  (Option.bind (fX8_requireChoice x1 (3 : Int32)) (fun q1 => (xs q1 (fun _ => (Option.bind (fX5_search kc ken kla kfi kea kp0 kp1 kp2 kp3) (fun q3 => (if x1 = (0 : Int32) then (Option.bind (fX5_length q3.2.2.2.2.2.1) (fun q5 => (some (.inr (q5, q3.1, q3.2.1, q3.2.2.1, q3.2.2.2.1, q3.2.2.2.2.1, q3.2.2.2.2.2.1, q3.2.2.2.2.2.2.1, q3.2.2.2.2.2.2.2))))) else (if x1 = (1 : Int32) then (Option.bind (fX5_first q3.2.2.2.2.2.2.1) (fun q7 => (some (.inr (q7, q3.1, q3.2.1, q3.2.2.1, q3.2.2.2.1, q3.2.2.2.2.1, q3.2.2.2.2.2.1, q3.2.2.2.2.2.2.1, q3.2.2.2.2.2.2.2))))) else (Option.bind (fX5_last q3.2.2.2.2.2.2.2) (fun q8 => (some (.inr (q8, q3.1, q3.2.1, q3.2.2.1, q3.2.2.2.1, q3.2.2.2.2.1, q3.2.2.2.2.2.1, q3.2.2.2.2.2.2.1, q3.2.2.2.2.2.2.2)))))))))))))
set_option maxHeartbeats 4000000 in
set_option maxRecDepth 100000 in
theorem mX8_longest {l : Launch} {D : va_G} {ad : Nat → Nat} {cI : ClassId} {kc : (Nat → Int32)} {ksv : (Nat → Int32)} {kbc : (Nat → Int32)} {kit : (Nat → Int32)} {kln : (Nat → Int32)} {ken : (Nat → Int32)} {kla : (Nat → Int32)} {kfi : (Nat → Int32)} {kea : (Nat → Int32)} {kns : Int32} {kbl : Int32} {kr0 : Int32} {kr1 : Int32} {kr2 : Int32} {kr3 : Int32} {kr4 : Int32} {kr5 : Int32} {klr : Int32} {kp0 : Int32} {kp1 : Int32} {kp2 : Int32} {kp3 : Int32} {x1 : Int32} {r : Int32} {ken' : (Nat → Int32)} {kla' : (Nat → Int32)} {kfi' : (Nat → Int32)} {kea' : (Nat → Int32)} {kp0' : Int32} {kp1' : Int32} {kp2' : Int32} {kp3' : Int32} (hs : fX8_longest kc ken kla kfi kea kp0 kp1 kp2 kp3 x1 = some (.inr (r, ken', kla', kfi', kea', kp0', kp1', kp2', kp3'))) : nd_C l yX8_longest cX8_longest 2 (some .int) 5 109 D [(cI, .int)] [.ref (ad 0), .int x1] (CW ad cI kc ksv kbc kit kln ken kla kfi kea kns kbl kr0 kr1 kr2 kr3 kr4 kr5 klr kp0 kp1 kp2 kp3) (CW ad cI kc ksv kbc kit kln ken' kla' kfi' kea' kns kbl kr0 kr1 kr2 kr3 kr4 kr5 klr kp0' kp1' kp2' kp3') (some (.int r)) := by
  refine nd_ofCi (by decide) (Nat.le_of_ble_eq_true rfl) (fun p e s m args below meth c_ ls A Q hx hb hml hown hts hl hP hK hD hS hA hN hret => ?_)
  have hown : s.vm.findClass RX8 = some m.cls := hown
  have hl : lv_has ls 2 [(0, .ref (ad 0)), (1, .int x1)] := hl
  have hret : ∀ (z0 : Int32) (z1 : (Nat → Int32)) (z2 : (Nat → Int32)) (z3 : (Nat → Int32)) (z4 : (Nat → Int32)) (z5 : Int32) (z6 : Int32) (z7 : Int32) (z8 : Int32) {H : Heap} {locs : List Loc} {pc : Nat} {ls : Array Slot}, some (Sum.inr (α := Nat) (z0, z1, z2, z3, z4, z5, z6, z7, z8)) = some (.inr (r, ken', kla', kfi', kea', kp0', kp1', kp2', kp3')) → va_P D vwCl (CW ad cI kc ksv kbc kit kln z1 z2 z3 z4 kns kbl kr0 kr1 kr2 kr3 kr4 kr5 klr z5 z6 z7 z8) H → va_S A s.heap H locs → decode cX8_longest pc = .ok (.ireturn, 1) → W p l e ⟨5, 0, 0, 109⟩ s m args below meth c_ H locs 0 0 Q (F0 m pc ls [.int z0]) := by
    intro z0 z1 z2 z3 z4 z5 z6 z7 z8 H locs pc ls h hP hS hd
    cases h
    exact hret hP hS hd
  rw [fX8_longest] at hs
  refine lv_iload_n hx hb dX8_longest_0 rfl (lv_at hl 1 rfl) ?_
  refine lv_iconst (v := (3 : Int32)) hx hb dX8_longest_1 (by decide) ?_
  obtain ⟨q2, eq1, hs⟩ := xob_r hs
  refine nd_callS (As := [.int x1, .int (3 : Int32)]) (rest := []) (st1 := []) hx hb hml hown hts hl hP hK hD hS hA hN (mX8_requireChoice eq1) is_X8_requireChoice wd_542 rfl rfl ⟨Nat.le_of_ble_eq_true rfl, Nat.le_of_ble_eq_true rfl⟩ (Nat.le_of_ble_eq_true rfl) ⟨Nat.zero_le _, Nat.zero_le _⟩ dX8_longest_2 rfl rfl (fun H locs hP hD hS => ?_)
  refine lv_aload_n hx hb dX8_longest_5 rfl (lv_at hl 0 rfl) ?_
  refine gf_X8_40 hx hb hts hown hK hP 0 rfl rfl dX8_longest_6 ?_
  refine lv_aload_n hx hb dX8_longest_9 rfl (lv_at hl 0 rfl) ?_
  refine gf_X8_12 hx hb hts hown hK hP 0 rfl rfl dX8_longest_10 ?_
  obtain ⟨q3, eq3, hs⟩ := ob hs
  refine nd_callV (As := [.ref (ad 1)]) (rest := []) (st1 := []) hx hb hml hown hts hl hP hK hD hS hA hN (mX5_search eq3) iv_X5_search wd_809 5 rfl rfl rfl rfl ⟨Nat.le_of_ble_eq_true rfl, Nat.le_of_ble_eq_true rfl⟩ (Nat.le_of_ble_eq_true rfl) ⟨Nat.zero_le _, Nat.zero_le _⟩ dX8_longest_13 rfl rfl (fun H locs hP hD hS => ?_)
  refine lv_iload_n hx hb dX8_longest_16 rfl (lv_at hl 1 rfl) ?_
  by_cases b4 : x1 = (0 : Int32)
  · have hs := ite_t hs b4
    rw [b4]
    refine lv_lookup (off := (27)) (tgt := 44) hx hb dX8_longest_17 (by decide) (by decide) (by decide) ?_
    refine lv_aload_n hx hb dX8_longest_44 rfl (lv_at hl 0 rfl) ?_
    refine gf_X8_40 hx hb hts hown hK hP 0 rfl rfl dX8_longest_45 ?_
    obtain ⟨q5, eq5, hs⟩ := ob hs
    refine nd_callV (As := []) (rest := []) (st1 := [.int q5]) hx hb hml hown hts hl hP hK hD hS hA hN (mX5_length eq5) iv_X5_length wd_844 5 rfl rfl rfl rfl ⟨Nat.le_of_ble_eq_true rfl, Nat.le_of_ble_eq_true rfl⟩ (Nat.le_of_ble_eq_true rfl) ⟨Nat.zero_le _, Nat.zero_le _⟩ dX8_longest_48 rfl rfl (fun H locs hP hD hS => ?_)
    exact hret _ _ _ _ _ _ _ _ _ hs hP hS dX8_longest_51
  have hs := ite_f hs b4
  by_cases b6 : x1 = (1 : Int32)
  · have hs := ite_t hs b6
    rw [b6]
    refine lv_lookup (off := (35)) (tgt := 52) hx hb dX8_longest_17 (by decide) (by decide) (by decide) ?_
    refine lv_aload_n hx hb dX8_longest_52 rfl (lv_at hl 0 rfl) ?_
    refine gf_X8_40 hx hb hts hown hK hP 0 rfl rfl dX8_longest_53 ?_
    obtain ⟨q7, eq7, hs⟩ := ob hs
    refine nd_callV (As := []) (rest := []) (st1 := [.int q7]) hx hb hml hown hts hl hP hK hD hS hA hN (mX5_first eq7) iv_X5_first wd_848 5 rfl rfl rfl rfl ⟨Nat.le_of_ble_eq_true rfl, Nat.le_of_ble_eq_true rfl⟩ (Nat.le_of_ble_eq_true rfl) ⟨Nat.zero_le _, Nat.zero_le _⟩ dX8_longest_56 rfl rfl (fun H locs hP hD hS => ?_)
    exact hret _ _ _ _ _ _ _ _ _ hs hP hS dX8_longest_59
  have hs := ite_f hs b6
  have zb4 : x1.toInt ≠ (0) := sw_ne b4
  have zb6 : x1.toInt ≠ (1) := sw_ne b6
  refine lv_lookup (off := (43)) (tgt := 60) hx hb dX8_longest_17 (by decide) (by simp [Op.lookupswitch.offset, zb4, Ne.symm zb4, zb6, Ne.symm zb6]) (by decide) ?_
  refine lv_aload_n hx hb dX8_longest_60 rfl (lv_at hl 0 rfl) ?_
  refine gf_X8_40 hx hb hts hown hK hP 0 rfl rfl dX8_longest_61 ?_
  obtain ⟨q8, eq8, hs⟩ := ob hs
  refine nd_callV (As := []) (rest := []) (st1 := [.int q8]) hx hb hml hown hts hl hP hK hD hS hA hN (mX5_last eq8) iv_X5_last wd_852 5 rfl rfl rfl rfl ⟨Nat.le_of_ble_eq_true rfl, Nat.le_of_ble_eq_true rfl⟩ (Nat.le_of_ble_eq_true rfl) ⟨Nat.zero_le _, Nat.zero_le _⟩ dX8_longest_64 rfl rfl (fun H locs hP hD hS => ?_)
  exact hret _ _ _ _ _ _ _ _ _ hs hP hS dX8_longest_67
set_option maxHeartbeats 4000000 in
set_option maxRecDepth 100000 in
theorem xX8_longest {l : Launch} (hnt : l.stackTraces = false) {D : va_G} {ad : Nat → Nat} {cI : ClassId} {kc : (Nat → Int32)} {ksv : (Nat → Int32)} {kbc : (Nat → Int32)} {kit : (Nat → Int32)} {kln : (Nat → Int32)} {ken : (Nat → Int32)} {kla : (Nat → Int32)} {kfi : (Nat → Int32)} {kea : (Nat → Int32)} {kns : Int32} {kbl : Int32} {kr0 : Int32} {kr1 : Int32} {kr2 : Int32} {kr3 : Int32} {kr4 : Int32} {kr5 : Int32} {klr : Int32} {kp0 : Int32} {kp1 : Int32} {kp2 : Int32} {kp3 : Int32} {x1 : Int32} {k : Nat} (hs : fX8_longest kc ken kla kfi kea kp0 kp1 kp2 kp3 x1 = some (.inl k)) : nd_CX l yX8_longest cX8_longest 2 (some .int) 7 109 D [(cI, .int)] [.ref (ad 0), .int x1] (CW ad cI kc ksv kbc kit kln ken kla kfi kea kns kbl kr0 kr1 kr2 kr3 kr4 kr5 klr kp0 kp1 kp2 kp3) (fun W1 => W1 = (CW ad cI kc ksv kbc kit kln ken kla kfi kea kns kbl kr0 kr1 kr2 kr3 kr4 kr5 klr kp0 kp1 kp2 kp3)) k := by
  refine nd_ofX (by decide) (Nat.le_of_ble_eq_true rfl) (fun p e s m args below meth c_ ls A hx hb hml hown hts hl hP hK hD hS hA hN hX hxt hlocks hAe => ?_)
  have hown : s.vm.findClass RX8 = some m.cls := hown
  have hl : lv_has ls 2 [(0, .ref (ad 0)), (1, .int x1)] := hl
  rw [fX8_longest] at hs
  refine lv_iload_n hx hb dX8_longest_0 rfl (lv_at hl 1 rfl) ?_
  refine lv_iconst (v := (3 : Int32)) hx hb dX8_longest_1 (by decide) ?_
  rcases xob_l hs with eq1 | ⟨q2, eq1, hs⟩
  · exact nd_callXS (fun _ h => h) (As := [.int x1, .int (3 : Int32)]) (rest := []) hx hb hml hown hts hl hP hK hD hS hA hN hX hxt hlocks hAe (xX8_requireChoice hnt eq1) is_X8_requireChoice wd_542 rfl ⟨Nat.le_of_ble_eq_true rfl, Nat.le_of_ble_eq_true rfl⟩ (by decide) (Nat.le_of_ble_eq_true rfl) dX8_longest_2 rfl
  refine nd_callS (As := [.int x1, .int (3 : Int32)]) (rest := []) (st1 := []) hx hb hml hown hts hl hP hK hD hS hA hN (mX8_requireChoice eq1) is_X8_requireChoice wd_542 rfl rfl ⟨Nat.le_of_ble_eq_true rfl, Nat.le_of_ble_eq_true rfl⟩ (Nat.le_of_ble_eq_true rfl) ⟨Nat.zero_le _, Nat.zero_le _⟩ dX8_longest_2 rfl rfl (fun H locs hP hD hS => ?_)
  refine lv_aload_n hx hb dX8_longest_5 rfl (lv_at hl 0 rfl) ?_
  refine gf_X8_40 hx hb hts hown hK hP 0 rfl rfl dX8_longest_6 ?_
  refine lv_aload_n hx hb dX8_longest_9 rfl (lv_at hl 0 rfl) ?_
  refine gf_X8_12 hx hb hts hown hK hP 0 rfl rfl dX8_longest_10 ?_
  obtain ⟨q3, eq3, hs⟩ := ob hs
  refine nd_callV (As := [.ref (ad 1)]) (rest := []) (st1 := []) hx hb hml hown hts hl hP hK hD hS hA hN (mX5_search eq3) iv_X5_search wd_809 5 rfl rfl rfl rfl ⟨Nat.le_of_ble_eq_true rfl, Nat.le_of_ble_eq_true rfl⟩ (Nat.le_of_ble_eq_true rfl) ⟨Nat.zero_le _, Nat.zero_le _⟩ dX8_longest_13 rfl rfl (fun H locs hP hD hS => ?_)
  refine lv_iload_n hx hb dX8_longest_16 rfl (lv_at hl 1 rfl) ?_
  by_cases b4 : x1 = (0 : Int32)
  · have hs := ite_t hs b4
    rw [b4]
    refine lv_lookup (off := (27)) (tgt := 44) hx hb dX8_longest_17 (by decide) (by decide) (by decide) ?_
    refine lv_aload_n hx hb dX8_longest_44 rfl (lv_at hl 0 rfl) ?_
    refine gf_X8_40 hx hb hts hown hK hP 0 rfl rfl dX8_longest_45 ?_
    obtain ⟨q5, eq5, hs⟩ := ob hs
    refine nd_callV (As := []) (rest := []) (st1 := [.int q5]) hx hb hml hown hts hl hP hK hD hS hA hN (mX5_length eq5) iv_X5_length wd_844 5 rfl rfl rfl rfl ⟨Nat.le_of_ble_eq_true rfl, Nat.le_of_ble_eq_true rfl⟩ (Nat.le_of_ble_eq_true rfl) ⟨Nat.zero_le _, Nat.zero_le _⟩ dX8_longest_48 rfl rfl (fun H locs hP hD hS => ?_)
    cases hs
  have hs := ite_f hs b4
  by_cases b6 : x1 = (1 : Int32)
  · have hs := ite_t hs b6
    rw [b6]
    refine lv_lookup (off := (35)) (tgt := 52) hx hb dX8_longest_17 (by decide) (by decide) (by decide) ?_
    refine lv_aload_n hx hb dX8_longest_52 rfl (lv_at hl 0 rfl) ?_
    refine gf_X8_40 hx hb hts hown hK hP 0 rfl rfl dX8_longest_53 ?_
    obtain ⟨q7, eq7, hs⟩ := ob hs
    refine nd_callV (As := []) (rest := []) (st1 := [.int q7]) hx hb hml hown hts hl hP hK hD hS hA hN (mX5_first eq7) iv_X5_first wd_848 5 rfl rfl rfl rfl ⟨Nat.le_of_ble_eq_true rfl, Nat.le_of_ble_eq_true rfl⟩ (Nat.le_of_ble_eq_true rfl) ⟨Nat.zero_le _, Nat.zero_le _⟩ dX8_longest_56 rfl rfl (fun H locs hP hD hS => ?_)
    cases hs
  have hs := ite_f hs b6
  have zb4 : x1.toInt ≠ (0) := sw_ne b4
  have zb6 : x1.toInt ≠ (1) := sw_ne b6
  refine lv_lookup (off := (43)) (tgt := 60) hx hb dX8_longest_17 (by decide) (by simp [Op.lookupswitch.offset, zb4, Ne.symm zb4, zb6, Ne.symm zb6]) (by decide) ?_
  refine lv_aload_n hx hb dX8_longest_60 rfl (lv_at hl 0 rfl) ?_
  refine gf_X8_40 hx hb hts hown hK hP 0 rfl rfl dX8_longest_61 ?_
  obtain ⟨q8, eq8, hs⟩ := ob hs
  refine nd_callV (As := []) (rest := []) (st1 := [.int q8]) hx hb hml hown hts hl hP hK hD hS hA hN (mX5_last eq8) iv_X5_last wd_852 5 rfl rfl rfl rfl ⟨Nat.le_of_ble_eq_true rfl, Nat.le_of_ble_eq_true rfl⟩ (Nat.le_of_ble_eq_true rfl) ⟨Nat.zero_le _, Nat.zero_le _⟩ dX8_longest_64 rfl rfl (fun H locs hP hD hS => ?_)
  cases hs
def tX8_hidden_0 : List (Nat × Instr × Nat) := [(0, .aload_n 0, 1), (1, .getfield 12, 3), (4, .iconst (-1), 1), (5, .invokestatic 198, 3), (8, .ireturn, 1)]
theorem tX8_hidden_0_ok : tX8_hidden_0.all (fun q => decide (decode cX8_hidden q.1 = .ok q.2)) = true := by decide +kernel
theorem dX8_hidden_0 : decode cX8_hidden 0 = .ok (.aload_n 0, 1) := td tX8_hidden_0_ok 0 (q := (0, .aload_n 0, 1)) rfl
theorem dX8_hidden_1 : decode cX8_hidden 1 = .ok (.getfield 12, 3) := td tX8_hidden_0_ok 1 (q := (1, .getfield 12, 3)) rfl
theorem dX8_hidden_4 : decode cX8_hidden 4 = .ok (.iconst (-1), 1) := td tX8_hidden_0_ok 2 (q := (4, .iconst (-1), 1)) rfl
theorem dX8_hidden_5 : decode cX8_hidden 5 = .ok (.invokestatic 198, 3) := td tX8_hidden_0_ok 3 (q := (5, .invokestatic 198, 3)) rfl
theorem dX8_hidden_8 : decode cX8_hidden 8 = .ok (.ireturn, 1) := td tX8_hidden_0_ok 4 (q := (8, .ireturn, 1)) rfl
def fX8_hidden (kc : (Nat → Int32)) : Option (Int32) :=
  (Option.bind (fX7_hiddenBy kc (-1 : Int32)) (fun q1 => (some q1)))
set_option maxHeartbeats 4000000 in
set_option maxRecDepth 100000 in
theorem mX8_hidden {l : Launch} {D : va_G} {ad : Nat → Nat} {cI : ClassId} {kc : (Nat → Int32)} {ksv : (Nat → Int32)} {kbc : (Nat → Int32)} {kit : (Nat → Int32)} {kln : (Nat → Int32)} {ken : (Nat → Int32)} {kla : (Nat → Int32)} {kfi : (Nat → Int32)} {kea : (Nat → Int32)} {kns : Int32} {kbl : Int32} {kr0 : Int32} {kr1 : Int32} {kr2 : Int32} {kr3 : Int32} {kr4 : Int32} {kr5 : Int32} {klr : Int32} {kp0 : Int32} {kp1 : Int32} {kp2 : Int32} {kp3 : Int32} {r : Int32} (hs : fX8_hidden kc = some r) : nd_C l yX8_hidden cX8_hidden 1 (some .int) 4 89 D [(cI, .int)] [.ref (ad 0)] (CW ad cI kc ksv kbc kit kln ken kla kfi kea kns kbl kr0 kr1 kr2 kr3 kr4 kr5 klr kp0 kp1 kp2 kp3) (CW ad cI kc ksv kbc kit kln ken kla kfi kea kns kbl kr0 kr1 kr2 kr3 kr4 kr5 klr kp0 kp1 kp2 kp3) (some (.int r)) := by
  refine nd_ofCi (by decide) (Nat.le_of_ble_eq_true rfl) (fun p e s m args below meth c_ ls A Q hx hb hml hown hts hl hP hK hD hS hA hN hret => ?_)
  have hown : s.vm.findClass RX8 = some m.cls := hown
  have hl : lv_has ls 1 [(0, .ref (ad 0))] := hl
  have hret : ∀ (z0 : Int32) {H : Heap} {locs : List Loc} {pc : Nat} {ls : Array Slot}, some z0 = some r → va_P D vwCl (CW ad cI kc ksv kbc kit kln ken kla kfi kea kns kbl kr0 kr1 kr2 kr3 kr4 kr5 klr kp0 kp1 kp2 kp3) H → va_S A s.heap H locs → decode cX8_hidden pc = .ok (.ireturn, 1) → W p l e ⟨4, 0, 0, 89⟩ s m args below meth c_ H locs 0 0 Q (F0 m pc ls [.int z0]) := by
    intro z0 H locs pc ls h hP hS hd
    cases h
    exact hret hP hS hd
  rw [fX8_hidden] at hs
  refine lv_aload_n hx hb dX8_hidden_0 rfl (lv_at hl 0 rfl) ?_
  refine gf_X8_12 hx hb hts hown hK hP 0 rfl rfl dX8_hidden_1 ?_
  refine lv_iconst (v := (-1 : Int32)) hx hb dX8_hidden_4 (by decide) ?_
  obtain ⟨q1, eq1, hs⟩ := ob hs
  refine nd_callS (As := [.ref (ad 1), .int (-1 : Int32)]) (rest := []) (st1 := [.int q1]) hx hb hml hown hts hl hP hK hD hS hA hN (mX7_hiddenBy eq1) is_X7_hiddenBy wd_876 rfl rfl ⟨Nat.le_of_ble_eq_true rfl, Nat.le_of_ble_eq_true rfl⟩ (Nat.le_of_ble_eq_true rfl) ⟨Nat.zero_le _, Nat.zero_le _⟩ dX8_hidden_5 rfl rfl (fun H locs hP hD hS => ?_)
  exact hret _ hs hP hS dX8_hidden_8
def tX8_suspect_0 : List (Nat × Instr × Nat) := [(0, .aload_n 0, 1), (1, .getfield 12, 3), (4, .invokestatic 202, 3), (7, .ireturn, 1)]
theorem tX8_suspect_0_ok : tX8_suspect_0.all (fun q => decide (decode cX8_suspect q.1 = .ok q.2)) = true := by decide +kernel
theorem dX8_suspect_0 : decode cX8_suspect 0 = .ok (.aload_n 0, 1) := td tX8_suspect_0_ok 0 (q := (0, .aload_n 0, 1)) rfl
theorem dX8_suspect_1 : decode cX8_suspect 1 = .ok (.getfield 12, 3) := td tX8_suspect_0_ok 1 (q := (1, .getfield 12, 3)) rfl
theorem dX8_suspect_4 : decode cX8_suspect 4 = .ok (.invokestatic 202, 3) := td tX8_suspect_0_ok 2 (q := (4, .invokestatic 202, 3)) rfl
theorem dX8_suspect_7 : decode cX8_suspect 7 = .ok (.ireturn, 1) := td tX8_suspect_0_ok 3 (q := (7, .ireturn, 1)) rfl
def fX8_suspect (kc : (Nat → Int32)) : Option (Int32) :=
  (Option.bind (fX7_leastTrusted kc) (fun q1 => (some q1)))
set_option maxHeartbeats 4000000 in
set_option maxRecDepth 100000 in
theorem mX8_suspect {l : Launch} {D : va_G} {ad : Nat → Nat} {cI : ClassId} {kc : (Nat → Int32)} {ksv : (Nat → Int32)} {kbc : (Nat → Int32)} {kit : (Nat → Int32)} {kln : (Nat → Int32)} {ken : (Nat → Int32)} {kla : (Nat → Int32)} {kfi : (Nat → Int32)} {kea : (Nat → Int32)} {kns : Int32} {kbl : Int32} {kr0 : Int32} {kr1 : Int32} {kr2 : Int32} {kr3 : Int32} {kr4 : Int32} {kr5 : Int32} {klr : Int32} {kp0 : Int32} {kp1 : Int32} {kp2 : Int32} {kp3 : Int32} {r : Int32} (hs : fX8_suspect kc = some r) : nd_C l yX8_suspect cX8_suspect 1 (some .int) 5 115 D [(cI, .int)] [.ref (ad 0)] (CW ad cI kc ksv kbc kit kln ken kla kfi kea kns kbl kr0 kr1 kr2 kr3 kr4 kr5 klr kp0 kp1 kp2 kp3) (CW ad cI kc ksv kbc kit kln ken kla kfi kea kns kbl kr0 kr1 kr2 kr3 kr4 kr5 klr kp0 kp1 kp2 kp3) (some (.int r)) := by
  refine nd_ofCi (by decide) (Nat.le_of_ble_eq_true rfl) (fun p e s m args below meth c_ ls A Q hx hb hml hown hts hl hP hK hD hS hA hN hret => ?_)
  have hown : s.vm.findClass RX8 = some m.cls := hown
  have hl : lv_has ls 1 [(0, .ref (ad 0))] := hl
  have hret : ∀ (z0 : Int32) {H : Heap} {locs : List Loc} {pc : Nat} {ls : Array Slot}, some z0 = some r → va_P D vwCl (CW ad cI kc ksv kbc kit kln ken kla kfi kea kns kbl kr0 kr1 kr2 kr3 kr4 kr5 klr kp0 kp1 kp2 kp3) H → va_S A s.heap H locs → decode cX8_suspect pc = .ok (.ireturn, 1) → W p l e ⟨5, 0, 0, 115⟩ s m args below meth c_ H locs 0 0 Q (F0 m pc ls [.int z0]) := by
    intro z0 H locs pc ls h hP hS hd
    cases h
    exact hret hP hS hd
  rw [fX8_suspect] at hs
  refine lv_aload_n hx hb dX8_suspect_0 rfl (lv_at hl 0 rfl) ?_
  refine gf_X8_12 hx hb hts hown hK hP 0 rfl rfl dX8_suspect_1 ?_
  obtain ⟨q1, eq1, hs⟩ := ob hs
  refine nd_callS (As := [.ref (ad 1)]) (rest := []) (st1 := [.int q1]) hx hb hml hown hts hl hP hK hD hS hA hN (mX7_leastTrusted eq1) is_X7_leastTrusted wd_894 rfl rfl ⟨Nat.le_of_ble_eq_true rfl, Nat.le_of_ble_eq_true rfl⟩ (Nat.le_of_ble_eq_true rfl) ⟨Nat.zero_le _, Nat.zero_le _⟩ dX8_suspect_4 rfl rfl (fun H locs hP hD hS => ?_)
  exact hret _ hs hP hS dX8_suspect_7
def tX8_rightShare_0 : List (Nat × Instr × Nat) := [(0, .aload_n 0, 1), (1, .getfield 12, 3), (4, .invokestatic 205, 3), (7, .dreturn, 1)]
theorem tX8_rightShare_0_ok : tX8_rightShare_0.all (fun q => decide (decode cX8_rightShare q.1 = .ok q.2)) = true := by decide +kernel
theorem dX8_rightShare_0 : decode cX8_rightShare 0 = .ok (.aload_n 0, 1) := td tX8_rightShare_0_ok 0 (q := (0, .aload_n 0, 1)) rfl
theorem dX8_rightShare_1 : decode cX8_rightShare 1 = .ok (.getfield 12, 3) := td tX8_rightShare_0_ok 1 (q := (1, .getfield 12, 3)) rfl
theorem dX8_rightShare_4 : decode cX8_rightShare 4 = .ok (.invokestatic 205, 3) := td tX8_rightShare_0_ok 2 (q := (4, .invokestatic 205, 3)) rfl
theorem dX8_rightShare_7 : decode cX8_rightShare 7 = .ok (.dreturn, 1) := td tX8_rightShare_0_ok 3 (q := (7, .dreturn, 1)) rfl
def fX8_rightShare (kc : (Nat → Int32)) : Option (UInt64) :=
  (Option.bind (fX7_shareOfRight kc) (fun q1 => (some q1)))
set_option maxHeartbeats 4000000 in
set_option maxRecDepth 100000 in
theorem mX8_rightShare {l : Launch} {D : va_G} {ad : Nat → Nat} {cI : ClassId} {kc : (Nat → Int32)} {ksv : (Nat → Int32)} {kbc : (Nat → Int32)} {kit : (Nat → Int32)} {kln : (Nat → Int32)} {ken : (Nat → Int32)} {kla : (Nat → Int32)} {kfi : (Nat → Int32)} {kea : (Nat → Int32)} {kns : Int32} {kbl : Int32} {kr0 : Int32} {kr1 : Int32} {kr2 : Int32} {kr3 : Int32} {kr4 : Int32} {kr5 : Int32} {klr : Int32} {kp0 : Int32} {kp1 : Int32} {kp2 : Int32} {kp3 : Int32} {r : UInt64} (hs : fX8_rightShare kc = some r) : nd_C l yX8_rightShare cX8_rightShare 1 (some .double) 5 113 D [(cI, .int)] [.ref (ad 0)] (CW ad cI kc ksv kbc kit kln ken kla kfi kea kns kbl kr0 kr1 kr2 kr3 kr4 kr5 klr kp0 kp1 kp2 kp3) (CW ad cI kc ksv kbc kit kln ken kla kfi kea kns kbl kr0 kr1 kr2 kr3 kr4 kr5 klr kp0 kp1 kp2 kp3) (some (.double r)) := by
  refine nd_ofCd (by decide) (Nat.le_of_ble_eq_true rfl) (fun p e s m args below meth c_ ls A Q hx hb hml hown hts hl hP hK hD hS hA hN hret => ?_)
  have hown : s.vm.findClass RX8 = some m.cls := hown
  have hl : lv_has ls 1 [(0, .ref (ad 0))] := hl
  have hret : ∀ (z0 : UInt64) {H : Heap} {locs : List Loc} {pc : Nat} {ls : Array Slot}, some z0 = some r → va_P D vwCl (CW ad cI kc ksv kbc kit kln ken kla kfi kea kns kbl kr0 kr1 kr2 kr3 kr4 kr5 klr kp0 kp1 kp2 kp3) H → va_S A s.heap H locs → decode cX8_rightShare pc = .ok (.dreturn, 1) → W p l e ⟨5, 0, 0, 113⟩ s m args below meth c_ H locs 0 0 Q (F0 m pc ls [.double z0]) := by
    intro z0 H locs pc ls h hP hS hd
    cases h
    exact hret hP hS hd
  rw [fX8_rightShare] at hs
  refine lv_aload_n hx hb dX8_rightShare_0 rfl (lv_at hl 0 rfl) ?_
  refine gf_X8_12 hx hb hts hown hK hP 0 rfl rfl dX8_rightShare_1 ?_
  obtain ⟨q1, eq1, hs⟩ := ob hs
  refine nd_callS (As := [.ref (ad 1)]) (rest := []) (st1 := [.double q1]) hx hb hml hown hts hl hP hK hD hS hA hN (mX7_shareOfRight eq1) is_X7_shareOfRight wd_913 rfl rfl ⟨Nat.le_of_ble_eq_true rfl, Nat.le_of_ble_eq_true rfl⟩ (Nat.le_of_ble_eq_true rfl) ⟨Nat.zero_le _, Nat.zero_le _⟩ dX8_rightShare_4 rfl rfl (fun H locs hP hD hS => ?_)
  exact hret _ hs hP hS dX8_rightShare_7
def tX8_mixed_0 : List (Nat × Instr × Nat) := [(0, .ldc2_w 329, 3), (3, .lload_n 0, 1), (4, .lmul, 1), (5, .lload_n 2, 1), (6, .ladd, 1), (7, .lreturn, 1)]
theorem tX8_mixed_0_ok : tX8_mixed_0.all (fun q => decide (decode cX8_mixed q.1 = .ok q.2)) = true := by decide +kernel
theorem dX8_mixed_0 : decode cX8_mixed 0 = .ok (.ldc2_w 329, 3) := td tX8_mixed_0_ok 0 (q := (0, .ldc2_w 329, 3)) rfl
theorem dX8_mixed_3 : decode cX8_mixed 3 = .ok (.lload_n 0, 1) := td tX8_mixed_0_ok 1 (q := (3, .lload_n 0, 1)) rfl
theorem dX8_mixed_4 : decode cX8_mixed 4 = .ok (.lmul, 1) := td tX8_mixed_0_ok 2 (q := (4, .lmul, 1)) rfl
theorem dX8_mixed_5 : decode cX8_mixed 5 = .ok (.lload_n 2, 1) := td tX8_mixed_0_ok 3 (q := (5, .lload_n 2, 1)) rfl
theorem dX8_mixed_6 : decode cX8_mixed 6 = .ok (.ladd, 1) := td tX8_mixed_0_ok 4 (q := (6, .ladd, 1)) rfl
theorem dX8_mixed_7 : decode cX8_mixed 7 = .ok (.lreturn, 1) := td tX8_mixed_0_ok 5 (q := (7, .lreturn, 1)) rfl
def fX8_mixed (x0 : Int64) (x2 : Int64) : Option (Int64) :=
  (some (((31 : Int64) * x0) + x2))
set_option maxHeartbeats 4000000 in
set_option maxRecDepth 100000 in
theorem mX8_mixed {l : Launch} {D : va_G} {W0 : va_W} {tys : nd_T} {x0 : Int64} {x2 : Int64} {r : Int64} (hs : fX8_mixed x0 x2 = some r) : nd_C l yX8_mixed cX8_mixed 4 (some .long) 0 0 D tys [.long x0, .long x2] W0 W0 (some (.long r)) := by
  refine nd_ofCl (by decide) (Nat.le_of_ble_eq_true rfl) (fun p e s m args below meth c_ ls A Q hx hb hml hown hts hl hP hK hD hS hA hN hret => ?_)
  have hown : s.vm.findClass RX8 = some m.cls := hown
  have hl : lv_has ls 4 [(0, .long x0), (2, .long x2)] := hl
  have hret : ∀ (z0 : Int64) {H : Heap} {locs : List Loc} {pc : Nat} {ls : Array Slot}, some z0 = some r → va_P D vwCl W0 H → va_S A s.heap H locs → decode cX8_mixed pc = .ok (.lreturn, 1) → W p l e ⟨0, 0, 0, 0⟩ s m args below meth c_ H locs 0 0 Q (F0 m pc ls [.long z0]) := by
    intro z0 H locs pc ls h hP hS hd
    cases h
    exact hret hP hS hd
  rw [fX8_mixed] at hs
  refine lv_ldc2 hx hb hown (hts _ wd_938) dX8_mixed_0 ?_
  refine lv_lload_n hx hb dX8_mixed_3 rfl (lv_at hl 0 rfl) ?_
  refine lv_lmul hx hb dX8_mixed_4 ?_
  refine lv_lload_n hx hb dX8_mixed_5 rfl (lv_at hl 1 rfl) ?_
  refine lv_ladd hx hb dX8_mixed_6 ?_
  exact hret _ hs hP hS dX8_mixed_7
def tX8_hashWithNumbers_0 : List (Nat × Instr × Nat) := [(0, .lload_n 1, 1), (1, .lstore_n 3, 1), (2, .iconst 0, 1), (3, .istore 5, 2), (5, .iload 5, 2), (7, .bipush 13, 2), (9, .if_icmp .ge 21, 3), (12, .lload_n 3, 1), (13, .aload_n 0, 1), (14, .iload 5, 2), (16, .invokevirtual 185, 3), (19, .i2l, 1), (20, .invokestatic 230, 3), (23, .lstore_n 3, 1), (24, .iinc 5 1, 3), (27, .goto (-22), 3), (30, .lload_n 3, 1), (31, .lreturn, 1)]
theorem tX8_hashWithNumbers_0_ok : tX8_hashWithNumbers_0.all (fun q => decide (decode cX8_hashWithNumbers q.1 = .ok q.2)) = true := by decide +kernel
theorem dX8_hashWithNumbers_0 : decode cX8_hashWithNumbers 0 = .ok (.lload_n 1, 1) := td tX8_hashWithNumbers_0_ok 0 (q := (0, .lload_n 1, 1)) rfl
theorem dX8_hashWithNumbers_1 : decode cX8_hashWithNumbers 1 = .ok (.lstore_n 3, 1) := td tX8_hashWithNumbers_0_ok 1 (q := (1, .lstore_n 3, 1)) rfl
theorem dX8_hashWithNumbers_2 : decode cX8_hashWithNumbers 2 = .ok (.iconst 0, 1) := td tX8_hashWithNumbers_0_ok 2 (q := (2, .iconst 0, 1)) rfl
theorem dX8_hashWithNumbers_3 : decode cX8_hashWithNumbers 3 = .ok (.istore 5, 2) := td tX8_hashWithNumbers_0_ok 3 (q := (3, .istore 5, 2)) rfl
theorem dX8_hashWithNumbers_5 : decode cX8_hashWithNumbers 5 = .ok (.iload 5, 2) := td tX8_hashWithNumbers_0_ok 4 (q := (5, .iload 5, 2)) rfl
theorem dX8_hashWithNumbers_7 : decode cX8_hashWithNumbers 7 = .ok (.bipush 13, 2) := td tX8_hashWithNumbers_0_ok 5 (q := (7, .bipush 13, 2)) rfl
theorem dX8_hashWithNumbers_9 : decode cX8_hashWithNumbers 9 = .ok (.if_icmp .ge 21, 3) := td tX8_hashWithNumbers_0_ok 6 (q := (9, .if_icmp .ge 21, 3)) rfl
theorem dX8_hashWithNumbers_12 : decode cX8_hashWithNumbers 12 = .ok (.lload_n 3, 1) := td tX8_hashWithNumbers_0_ok 7 (q := (12, .lload_n 3, 1)) rfl
theorem dX8_hashWithNumbers_13 : decode cX8_hashWithNumbers 13 = .ok (.aload_n 0, 1) := td tX8_hashWithNumbers_0_ok 8 (q := (13, .aload_n 0, 1)) rfl
theorem dX8_hashWithNumbers_14 : decode cX8_hashWithNumbers 14 = .ok (.iload 5, 2) := td tX8_hashWithNumbers_0_ok 9 (q := (14, .iload 5, 2)) rfl
theorem dX8_hashWithNumbers_16 : decode cX8_hashWithNumbers 16 = .ok (.invokevirtual 185, 3) := td tX8_hashWithNumbers_0_ok 10 (q := (16, .invokevirtual 185, 3)) rfl
theorem dX8_hashWithNumbers_19 : decode cX8_hashWithNumbers 19 = .ok (.i2l, 1) := td tX8_hashWithNumbers_0_ok 11 (q := (19, .i2l, 1)) rfl
theorem dX8_hashWithNumbers_20 : decode cX8_hashWithNumbers 20 = .ok (.invokestatic 230, 3) := td tX8_hashWithNumbers_0_ok 12 (q := (20, .invokestatic 230, 3)) rfl
theorem dX8_hashWithNumbers_23 : decode cX8_hashWithNumbers 23 = .ok (.lstore_n 3, 1) := td tX8_hashWithNumbers_0_ok 13 (q := (23, .lstore_n 3, 1)) rfl
theorem dX8_hashWithNumbers_24 : decode cX8_hashWithNumbers 24 = .ok (.iinc 5 1, 3) := td tX8_hashWithNumbers_0_ok 14 (q := (24, .iinc 5 1, 3)) rfl
theorem dX8_hashWithNumbers_27 : decode cX8_hashWithNumbers 27 = .ok (.goto (-22), 3) := td tX8_hashWithNumbers_0_ok 15 (q := (27, .goto (-22), 3)) rfl
theorem dX8_hashWithNumbers_30 : decode cX8_hashWithNumbers 30 = .ok (.lload_n 3, 1) := td tX8_hashWithNumbers_0_ok 16 (q := (30, .lload_n 3, 1)) rfl
theorem dX8_hashWithNumbers_31 : decode cX8_hashWithNumbers 31 = .ok (.lreturn, 1) := td tX8_hashWithNumbers_0_ok 17 (q := (31, .lreturn, 1)) rfl
def fX8_hashWithNumbers_5 (k5 : Int64 → Option (Int64)) (kc : (Nat → Int32)) (kns : Int32) : Nat → Int64 → Int32 → Option (Int64)
  | 0, _, _ => none
  | n5 + 1, x3, x5 => (if (13 : Int32) ≤ x5 then (k5 x3) else (Option.bind (fX8_overallNumber kc kns x5) (fun q2 => (Option.bind (fX8_mixed x3 q2.toInt64) (fun q3 => (fX8_hashWithNumbers_5 k5 kc kns n5 q3 (x5 + (1 : Int32))))))))
def fX8_hashWithNumbers (kc : (Nat → Int32)) (kns : Int32) (x1 : Int64) : Option (Int64) :=
  (fX8_hashWithNumbers_5 (fun (u3_4 : Int64) => (some u3_4)) kc kns LF x1 (0 : Int32))
set_option maxHeartbeats 4000000 in
set_option maxRecDepth 100000 in
theorem mX8_hashWithNumbers {l : Launch} {D : va_G} {ad : Nat → Nat} {cI : ClassId} {kc : (Nat → Int32)} {ksv : (Nat → Int32)} {kbc : (Nat → Int32)} {kit : (Nat → Int32)} {kln : (Nat → Int32)} {ken : (Nat → Int32)} {kla : (Nat → Int32)} {kfi : (Nat → Int32)} {kea : (Nat → Int32)} {kns : Int32} {kbl : Int32} {kr0 : Int32} {kr1 : Int32} {kr2 : Int32} {kr3 : Int32} {kr4 : Int32} {kr5 : Int32} {klr : Int32} {kp0 : Int32} {kp1 : Int32} {kp2 : Int32} {kp3 : Int32} {x1 : Int64} {r : Int64} (hs : fX8_hashWithNumbers kc kns x1 = some r) : nd_C l yX8_hashWithNumbers cX8_hashWithNumbers 6 (some .long) 5 114 D [(cI, .int)] [.ref (ad 0), .long x1] (CW ad cI kc ksv kbc kit kln ken kla kfi kea kns kbl kr0 kr1 kr2 kr3 kr4 kr5 klr kp0 kp1 kp2 kp3) (CW ad cI kc ksv kbc kit kln ken kla kfi kea kns kbl kr0 kr1 kr2 kr3 kr4 kr5 klr kp0 kp1 kp2 kp3) (some (.long r)) := by
  refine nd_ofCl (by decide) (Nat.le_of_ble_eq_true rfl) (fun p e s m args below meth c_ ls A Q hx hb hml hown hts hl hP hK hD hS hA hN hret => ?_)
  have hown : s.vm.findClass RX8 = some m.cls := hown
  have hl : lv_has ls 6 [(0, .ref (ad 0)), (1, .long x1)] := hl
  have hret : ∀ (z0 : Int64) {H : Heap} {locs : List Loc} {pc : Nat} {ls : Array Slot}, some z0 = some r → va_P D vwCl (CW ad cI kc ksv kbc kit kln ken kla kfi kea kns kbl kr0 kr1 kr2 kr3 kr4 kr5 klr kp0 kp1 kp2 kp3) H → va_S A s.heap H locs → decode cX8_hashWithNumbers pc = .ok (.lreturn, 1) → W p l e ⟨5, 0, 0, 114⟩ s m args below meth c_ H locs 0 0 Q (F0 m pc ls [.long z0]) := by
    intro z0 H locs pc ls h hP hS hd
    cases h
    exact hret hP hS hd
  rw [fX8_hashWithNumbers] at hs
  refine lv_lload_n hx hb dX8_hashWithNumbers_0 rfl (lv_at hl 1 rfl) ?_
  refine lv_lstore_n (lv' := [(3, .long x1), (0, .ref (ad 0)), (1, .long x1)]) hx hb dX8_hashWithNumbers_1 rfl hl (by decide) rfl (fun ls hl => ?_)
  refine lv_iconst (v := (0 : Int32)) hx hb dX8_hashWithNumbers_2 (by decide) ?_
  refine lv_istore (lv' := [(5, .int (0 : Int32)), (3, .long x1), (0, .ref (ad 0)), (1, .long x1)]) hx hb dX8_hashWithNumbers_3 hl (by decide) rfl (fun ls hl => ?_)
  have L5 : ∀ (n5 : Nat) (k5 : Int64 → Option (Int64)) (v3_4 : Int64) (v5_4 : Int32) (H : Heap) (locs : List Loc) (ls : Array Slot), lv_has ls 6 [(0, .ref (ad 0)), (3, .long v3_4), (5, .int v5_4)] → va_P D vwCl (CW ad cI kc ksv kbc kit kln ken kla kfi kea kns kbl kr0 kr1 kr2 kr3 kr4 kr5 klr kp0 kp1 kp2 kp3) H → va_S A s.heap H locs → fX8_hashWithNumbers_5 k5 kc kns n5 v3_4 v5_4 = some r → (∀ (u3_4 : Int64) (H : Heap) (locs : List Loc) (ls : Array Slot), lv_has ls 6 [(3, .long u3_4)] → va_P D vwCl (CW ad cI kc ksv kbc kit kln ken kla kfi kea kns kbl kr0 kr1 kr2 kr3 kr4 kr5 klr kp0 kp1 kp2 kp3) H → va_S A s.heap H locs → k5 u3_4 = some r → W p l e ⟨5, 0, 0, 114⟩ s m args below meth c_ H locs 0 0 Q (F0 m 30 ls [])) → W p l e ⟨5, 0, 0, 114⟩ s m args below meth c_ H locs 0 0 Q (F0 m 5 ls []) := by
    intro n5
    induction n5 with
    | zero =>
      intro k5 v3_4 v5_4 H locs ls hl hP hS hs hk5
      rw [fX8_hashWithNumbers_5] at hs
      cases hs
    | succ n5 ih5 =>
      intro k5 v3_4 v5_4 H locs ls hl hP hS hs hk5
      rw [fX8_hashWithNumbers_5] at hs
      refine lv_iload hx hb dX8_hashWithNumbers_5 (lv_at hl 2 rfl) ?_
      refine lv_bipush (v := (13 : Int32)) hx hb dX8_hashWithNumbers_7 (by decide) ?_
      refine lv_icmp_ge (tgt := 30) hx hb dX8_hashWithNumbers_9 (by decide) (fun b5 => ?_) (fun b5 => ?_)
      · have hs := ite_t hs b5
        exact hk5 v3_4 _ _ _ (lv_sub hl [1] rfl) hP hS hs
      · have hs := ite_f hs b5
        refine lv_lload_n hx hb dX8_hashWithNumbers_12 rfl (lv_at hl 1 rfl) ?_
        refine lv_aload_n hx hb dX8_hashWithNumbers_13 rfl (lv_at hl 0 rfl) ?_
        refine lv_iload hx hb dX8_hashWithNumbers_14 (lv_at hl 2 rfl) ?_
        obtain ⟨q6, eq6, hs⟩ := ob hs
        refine nd_callV (As := [.int v5_4]) (rest := [.long v3_4]) (st1 := [.int q6, .long v3_4]) hx hb hml hown hts hl hP hK hD hS hA hN (mX8_overallNumber eq6) iv_X8_overallNumber wd_747 0 rfl rfl rfl rfl ⟨Nat.le_of_ble_eq_true rfl, Nat.le_of_ble_eq_true rfl⟩ (Nat.le_of_ble_eq_true rfl) ⟨Nat.zero_le _, Nat.zero_le _⟩ dX8_hashWithNumbers_16 rfl rfl (fun H locs hP hD hS => ?_)
        refine lv_i2l hx hb dX8_hashWithNumbers_19 rfl ?_
        obtain ⟨q7, eq7, hs⟩ := ob hs
        refine nd_callS (As := [.long v3_4, .long q6.toInt64]) (rest := []) (st1 := [.long q7]) hx hb hml hown hts hl hP hK hD hS hA hN (mX8_mixed eq7) is_X8_mixed wd_935 rfl rfl ⟨Nat.le_of_ble_eq_true rfl, Nat.le_of_ble_eq_true rfl⟩ (Nat.le_of_ble_eq_true rfl) ⟨Nat.zero_le _, Nat.zero_le _⟩ dX8_hashWithNumbers_20 rfl rfl (fun H locs hP hD hS => ?_)
        refine lv_lstore_n (lv' := [(3, .long q7), (0, .ref (ad 0)), (5, .int v5_4)]) hx hb dX8_hashWithNumbers_23 rfl hl (by decide) rfl (fun ls hl => ?_)
        refine lv_iinc (v := v5_4 + (1 : Int32)) (lv' := [(5, .int (v5_4 + (1 : Int32))), (3, .long q7), (0, .ref (ad 0))]) hx hb dX8_hashWithNumbers_24 hl (k := 2) rfl rfl (by decide) rfl (fun ls hl => ?_)
        refine lv_goto (tgt := 5) hx hb dX8_hashWithNumbers_27 (by decide) ?_
        exact ih5 k5 q7 (v5_4 + (1 : Int32)) _ _ _ (lv_sub hl [2, 1, 0] rfl) hP hS hs hk5
  refine L5 LF _ x1 (0 : Int32) _ _ _ (lv_sub hl [2, 1, 0] rfl) hP hS hs (fun u3_4 H locs ls hl hP hS hs => ?_)
  refine lv_lload_n hx hb dX8_hashWithNumbers_30 rfl (lv_at hl 0 rfl) ?_
  exact hret _ hs hP hS dX8_hashWithNumbers_31
def tX8_hashWithPieces_0 : List (Nat × Instr × Nat) := [(0, .lload_n 1, 1), (1, .lstore_n 3, 1), (2, .iconst 0, 1), (3, .istore 5, 2), (5, .iload 5, 2), (7, .aload_n 0, 1), (8, .getfield 12, 3), (11, .invokevirtual 55, 3), (14, .if_icmp .ge 97, 3), (17, .iconst 0, 1), (18, .istore 6, 2), (20, .iload 6, 2), (22, .bipush 8, 2), (24, .if_icmp .ge 23, 3), (27, .lload_n 3, 1), (28, .aload_n 0, 1), (29, .iload 5, 2), (31, .iload 6, 2), (33, .invokevirtual 156, 3), (36, .i2l, 1), (37, .invokestatic 230, 3), (40, .lstore_n 3, 1), (41, .iinc 6 1, 3), (44, .goto (-24), 3), (47, .iconst 0, 1), (48, .istore 6, 2), (50, .iload 6, 2), (52, .aload_n 0, 1), (53, .getfield 12, 3), (56, .iload 5, 2), (58, .invokevirtual 88, 3), (61, .if_icmp .ge 44, 3), (64, .iconst 0, 1), (65, .istore 7, 2), (67, .iload 7, 2), (69, .bipush 9, 2), (71, .if_icmp .ge 28, 3), (74, .lload_n 3, 1), (75, .aload_n 0, 1), (76, .iload 5, 2), (78, .iload 6, 2), (80, .invokestatic 97, 3), (83, .iload 7, 2), (85, .invokevirtual 159, 3), (88, .i2l, 1), (89, .invokestatic 230, 3), (92, .lstore_n 3, 1), (93, .iinc 7 1, 3), (96, .goto (-29), 3), (99, .iinc 6 1, 3), (102, .goto (-52), 3), (105, .iinc 5 1, 3), (108, .goto (-103), 3), (111, .lload_n 3, 1), (112, .lreturn, 1)]
theorem tX8_hashWithPieces_0_ok : tX8_hashWithPieces_0.all (fun q => decide (decode cX8_hashWithPieces q.1 = .ok q.2)) = true := by decide +kernel
theorem dX8_hashWithPieces_0 : decode cX8_hashWithPieces 0 = .ok (.lload_n 1, 1) := td tX8_hashWithPieces_0_ok 0 (q := (0, .lload_n 1, 1)) rfl
theorem dX8_hashWithPieces_1 : decode cX8_hashWithPieces 1 = .ok (.lstore_n 3, 1) := td tX8_hashWithPieces_0_ok 1 (q := (1, .lstore_n 3, 1)) rfl
theorem dX8_hashWithPieces_2 : decode cX8_hashWithPieces 2 = .ok (.iconst 0, 1) := td tX8_hashWithPieces_0_ok 2 (q := (2, .iconst 0, 1)) rfl
theorem dX8_hashWithPieces_3 : decode cX8_hashWithPieces 3 = .ok (.istore 5, 2) := td tX8_hashWithPieces_0_ok 3 (q := (3, .istore 5, 2)) rfl
theorem dX8_hashWithPieces_5 : decode cX8_hashWithPieces 5 = .ok (.iload 5, 2) := td tX8_hashWithPieces_0_ok 4 (q := (5, .iload 5, 2)) rfl
theorem dX8_hashWithPieces_7 : decode cX8_hashWithPieces 7 = .ok (.aload_n 0, 1) := td tX8_hashWithPieces_0_ok 5 (q := (7, .aload_n 0, 1)) rfl
theorem dX8_hashWithPieces_8 : decode cX8_hashWithPieces 8 = .ok (.getfield 12, 3) := td tX8_hashWithPieces_0_ok 6 (q := (8, .getfield 12, 3)) rfl
theorem dX8_hashWithPieces_11 : decode cX8_hashWithPieces 11 = .ok (.invokevirtual 55, 3) := td tX8_hashWithPieces_0_ok 7 (q := (11, .invokevirtual 55, 3)) rfl
theorem dX8_hashWithPieces_14 : decode cX8_hashWithPieces 14 = .ok (.if_icmp .ge 97, 3) := td tX8_hashWithPieces_0_ok 8 (q := (14, .if_icmp .ge 97, 3)) rfl
theorem dX8_hashWithPieces_17 : decode cX8_hashWithPieces 17 = .ok (.iconst 0, 1) := td tX8_hashWithPieces_0_ok 9 (q := (17, .iconst 0, 1)) rfl
theorem dX8_hashWithPieces_18 : decode cX8_hashWithPieces 18 = .ok (.istore 6, 2) := td tX8_hashWithPieces_0_ok 10 (q := (18, .istore 6, 2)) rfl
theorem dX8_hashWithPieces_20 : decode cX8_hashWithPieces 20 = .ok (.iload 6, 2) := td tX8_hashWithPieces_0_ok 11 (q := (20, .iload 6, 2)) rfl
theorem dX8_hashWithPieces_22 : decode cX8_hashWithPieces 22 = .ok (.bipush 8, 2) := td tX8_hashWithPieces_0_ok 12 (q := (22, .bipush 8, 2)) rfl
theorem dX8_hashWithPieces_24 : decode cX8_hashWithPieces 24 = .ok (.if_icmp .ge 23, 3) := td tX8_hashWithPieces_0_ok 13 (q := (24, .if_icmp .ge 23, 3)) rfl
theorem dX8_hashWithPieces_27 : decode cX8_hashWithPieces 27 = .ok (.lload_n 3, 1) := td tX8_hashWithPieces_0_ok 14 (q := (27, .lload_n 3, 1)) rfl
theorem dX8_hashWithPieces_28 : decode cX8_hashWithPieces 28 = .ok (.aload_n 0, 1) := td tX8_hashWithPieces_0_ok 15 (q := (28, .aload_n 0, 1)) rfl
theorem dX8_hashWithPieces_29 : decode cX8_hashWithPieces 29 = .ok (.iload 5, 2) := td tX8_hashWithPieces_0_ok 16 (q := (29, .iload 5, 2)) rfl
theorem dX8_hashWithPieces_31 : decode cX8_hashWithPieces 31 = .ok (.iload 6, 2) := td tX8_hashWithPieces_0_ok 17 (q := (31, .iload 6, 2)) rfl
theorem dX8_hashWithPieces_33 : decode cX8_hashWithPieces 33 = .ok (.invokevirtual 156, 3) := td tX8_hashWithPieces_0_ok 18 (q := (33, .invokevirtual 156, 3)) rfl
theorem dX8_hashWithPieces_36 : decode cX8_hashWithPieces 36 = .ok (.i2l, 1) := td tX8_hashWithPieces_0_ok 19 (q := (36, .i2l, 1)) rfl
theorem dX8_hashWithPieces_37 : decode cX8_hashWithPieces 37 = .ok (.invokestatic 230, 3) := td tX8_hashWithPieces_0_ok 20 (q := (37, .invokestatic 230, 3)) rfl
theorem dX8_hashWithPieces_40 : decode cX8_hashWithPieces 40 = .ok (.lstore_n 3, 1) := td tX8_hashWithPieces_0_ok 21 (q := (40, .lstore_n 3, 1)) rfl
theorem dX8_hashWithPieces_41 : decode cX8_hashWithPieces 41 = .ok (.iinc 6 1, 3) := td tX8_hashWithPieces_0_ok 22 (q := (41, .iinc 6 1, 3)) rfl
theorem dX8_hashWithPieces_44 : decode cX8_hashWithPieces 44 = .ok (.goto (-24), 3) := td tX8_hashWithPieces_0_ok 23 (q := (44, .goto (-24), 3)) rfl
theorem dX8_hashWithPieces_47 : decode cX8_hashWithPieces 47 = .ok (.iconst 0, 1) := td tX8_hashWithPieces_0_ok 24 (q := (47, .iconst 0, 1)) rfl
theorem dX8_hashWithPieces_48 : decode cX8_hashWithPieces 48 = .ok (.istore 6, 2) := td tX8_hashWithPieces_0_ok 25 (q := (48, .istore 6, 2)) rfl
theorem dX8_hashWithPieces_50 : decode cX8_hashWithPieces 50 = .ok (.iload 6, 2) := td tX8_hashWithPieces_0_ok 26 (q := (50, .iload 6, 2)) rfl
theorem dX8_hashWithPieces_52 : decode cX8_hashWithPieces 52 = .ok (.aload_n 0, 1) := td tX8_hashWithPieces_0_ok 27 (q := (52, .aload_n 0, 1)) rfl
theorem dX8_hashWithPieces_53 : decode cX8_hashWithPieces 53 = .ok (.getfield 12, 3) := td tX8_hashWithPieces_0_ok 28 (q := (53, .getfield 12, 3)) rfl
theorem dX8_hashWithPieces_56 : decode cX8_hashWithPieces 56 = .ok (.iload 5, 2) := td tX8_hashWithPieces_0_ok 29 (q := (56, .iload 5, 2)) rfl
theorem dX8_hashWithPieces_58 : decode cX8_hashWithPieces 58 = .ok (.invokevirtual 88, 3) := td tX8_hashWithPieces_0_ok 30 (q := (58, .invokevirtual 88, 3)) rfl
theorem dX8_hashWithPieces_61 : decode cX8_hashWithPieces 61 = .ok (.if_icmp .ge 44, 3) := td tX8_hashWithPieces_0_ok 31 (q := (61, .if_icmp .ge 44, 3)) rfl
theorem dX8_hashWithPieces_64 : decode cX8_hashWithPieces 64 = .ok (.iconst 0, 1) := td tX8_hashWithPieces_0_ok 32 (q := (64, .iconst 0, 1)) rfl
theorem dX8_hashWithPieces_65 : decode cX8_hashWithPieces 65 = .ok (.istore 7, 2) := td tX8_hashWithPieces_0_ok 33 (q := (65, .istore 7, 2)) rfl
theorem dX8_hashWithPieces_67 : decode cX8_hashWithPieces 67 = .ok (.iload 7, 2) := td tX8_hashWithPieces_0_ok 34 (q := (67, .iload 7, 2)) rfl
theorem dX8_hashWithPieces_69 : decode cX8_hashWithPieces 69 = .ok (.bipush 9, 2) := td tX8_hashWithPieces_0_ok 35 (q := (69, .bipush 9, 2)) rfl
theorem dX8_hashWithPieces_71 : decode cX8_hashWithPieces 71 = .ok (.if_icmp .ge 28, 3) := td tX8_hashWithPieces_0_ok 36 (q := (71, .if_icmp .ge 28, 3)) rfl
theorem dX8_hashWithPieces_74 : decode cX8_hashWithPieces 74 = .ok (.lload_n 3, 1) := td tX8_hashWithPieces_0_ok 37 (q := (74, .lload_n 3, 1)) rfl
theorem dX8_hashWithPieces_75 : decode cX8_hashWithPieces 75 = .ok (.aload_n 0, 1) := td tX8_hashWithPieces_0_ok 38 (q := (75, .aload_n 0, 1)) rfl
theorem dX8_hashWithPieces_76 : decode cX8_hashWithPieces 76 = .ok (.iload 5, 2) := td tX8_hashWithPieces_0_ok 39 (q := (76, .iload 5, 2)) rfl
theorem dX8_hashWithPieces_78 : decode cX8_hashWithPieces 78 = .ok (.iload 6, 2) := td tX8_hashWithPieces_0_ok 40 (q := (78, .iload 6, 2)) rfl
theorem dX8_hashWithPieces_80 : decode cX8_hashWithPieces 80 = .ok (.invokestatic 97, 3) := td tX8_hashWithPieces_0_ok 41 (q := (80, .invokestatic 97, 3)) rfl
theorem dX8_hashWithPieces_83 : decode cX8_hashWithPieces 83 = .ok (.iload 7, 2) := td tX8_hashWithPieces_0_ok 42 (q := (83, .iload 7, 2)) rfl
theorem dX8_hashWithPieces_85 : decode cX8_hashWithPieces 85 = .ok (.invokevirtual 159, 3) := td tX8_hashWithPieces_0_ok 43 (q := (85, .invokevirtual 159, 3)) rfl
theorem dX8_hashWithPieces_88 : decode cX8_hashWithPieces 88 = .ok (.i2l, 1) := td tX8_hashWithPieces_0_ok 44 (q := (88, .i2l, 1)) rfl
theorem dX8_hashWithPieces_89 : decode cX8_hashWithPieces 89 = .ok (.invokestatic 230, 3) := td tX8_hashWithPieces_0_ok 45 (q := (89, .invokestatic 230, 3)) rfl
theorem dX8_hashWithPieces_92 : decode cX8_hashWithPieces 92 = .ok (.lstore_n 3, 1) := td tX8_hashWithPieces_0_ok 46 (q := (92, .lstore_n 3, 1)) rfl
theorem dX8_hashWithPieces_93 : decode cX8_hashWithPieces 93 = .ok (.iinc 7 1, 3) := td tX8_hashWithPieces_0_ok 47 (q := (93, .iinc 7 1, 3)) rfl
theorem dX8_hashWithPieces_96 : decode cX8_hashWithPieces 96 = .ok (.goto (-29), 3) := td tX8_hashWithPieces_0_ok 48 (q := (96, .goto (-29), 3)) rfl
theorem dX8_hashWithPieces_99 : decode cX8_hashWithPieces 99 = .ok (.iinc 6 1, 3) := td tX8_hashWithPieces_0_ok 49 (q := (99, .iinc 6 1, 3)) rfl
theorem dX8_hashWithPieces_102 : decode cX8_hashWithPieces 102 = .ok (.goto (-52), 3) := td tX8_hashWithPieces_0_ok 50 (q := (102, .goto (-52), 3)) rfl
theorem dX8_hashWithPieces_105 : decode cX8_hashWithPieces 105 = .ok (.iinc 5 1, 3) := td tX8_hashWithPieces_0_ok 51 (q := (105, .iinc 5 1, 3)) rfl
theorem dX8_hashWithPieces_108 : decode cX8_hashWithPieces 108 = .ok (.goto (-103), 3) := td tX8_hashWithPieces_0_ok 52 (q := (108, .goto (-103), 3)) rfl
theorem dX8_hashWithPieces_111 : decode cX8_hashWithPieces 111 = .ok (.lload_n 3, 1) := td tX8_hashWithPieces_0_ok 53 (q := (111, .lload_n 3, 1)) rfl
theorem dX8_hashWithPieces_112 : decode cX8_hashWithPieces 112 = .ok (.lreturn, 1) := td tX8_hashWithPieces_0_ok 54 (q := (112, .lreturn, 1)) rfl
def fX8_hashWithPieces_20 (k20 : Int64 → Option (Int64)) (kc : (Nat → Int32)) (x5 : Int32) : Nat → Int64 → Int32 → Option (Int64)
  | 0, _, _ => none
  | n20 + 1, x3, x6 => (if (8 : Int32) ≤ x6 then (k20 x3) else (Option.bind (fX8_pieceProperty kc x5 x6) (fun q4 => (Option.bind (fX8_mixed x3 q4.toInt64) (fun q5 => (fX8_hashWithPieces_20 k20 kc x5 n20 q5 (x6 + (1 : Int32))))))))
def fX8_hashWithPieces_67 (k67 : Int64 → Option (Int64)) (kc : (Nat → Int32)) (x5 : Int32) (x6 : Int32) : Nat → Int64 → Int32 → Option (Int64)
  | 0, _, _ => none
  | n67 + 1, x3, x7 => (if (9 : Int32) ≤ x7 then (k67 x3) else (Option.bind (fX0_slotOf x5 x6) (fun q13 => (Option.bind (fX8_receiptProperty kc q13 x7) (fun q14 => (Option.bind (fX8_mixed x3 q14.toInt64) (fun q15 => (fX8_hashWithPieces_67 k67 kc x5 x6 n67 q15 (x7 + (1 : Int32))))))))))
def fX8_hashWithPieces_50 (k50 : Int64 → Option (Int64)) (kc : (Nat → Int32)) (x5 : Int32) : Nat → Int64 → Int32 → Option (Int64)
  | 0, _, _ => none
  | n50 + 1, x3, x6 => (Option.bind (fX0_receiptsOf kc x5) (fun q10 => (if q10 ≤ x6 then (k50 x3) else (fX8_hashWithPieces_67 (fun (u3_16 : Int64) => (fX8_hashWithPieces_50 k50 kc x5 n50 u3_16 (x6 + (1 : Int32)))) kc x5 x6 LF x3 (0 : Int32)))))
def fX8_hashWithPieces_5 (k5 : Int64 → Option (Int64)) (kc : (Nat → Int32)) : Nat → Int64 → Int32 → Option (Int64)
  | 0, _, _ => none
  | n5 + 1, x3, x5 => (Option.bind (fX0_pieces kc) (fun q1 => (if q1 ≤ x5 then (k5 x3) else (fX8_hashWithPieces_20 (fun (u3_6 : Int64) => (fX8_hashWithPieces_50 (fun (u3_21 : Int64) => (fX8_hashWithPieces_5 k5 kc n5 u3_21 (x5 + (1 : Int32)))) kc x5 LF u3_6 (0 : Int32))) kc x5 LF x3 (0 : Int32)))))
def fX8_hashWithPieces (kc : (Nat → Int32)) (x1 : Int64) : Option (Int64) :=
  (fX8_hashWithPieces_5 (fun (u3_33 : Int64) => (some u3_33)) kc LF x1 (0 : Int32))
set_option maxHeartbeats 4000000 in
set_option maxRecDepth 100000 in
theorem mX8_hashWithPieces {l : Launch} {D : va_G} {ad : Nat → Nat} {cI : ClassId} {kc : (Nat → Int32)} {ksv : (Nat → Int32)} {kbc : (Nat → Int32)} {kit : (Nat → Int32)} {kln : (Nat → Int32)} {ken : (Nat → Int32)} {kla : (Nat → Int32)} {kfi : (Nat → Int32)} {kea : (Nat → Int32)} {kns : Int32} {kbl : Int32} {kr0 : Int32} {kr1 : Int32} {kr2 : Int32} {kr3 : Int32} {kr4 : Int32} {kr5 : Int32} {klr : Int32} {kp0 : Int32} {kp1 : Int32} {kp2 : Int32} {kp3 : Int32} {x1 : Int64} {r : Int64} (hs : fX8_hashWithPieces kc x1 = some r) : nd_C l yX8_hashWithPieces cX8_hashWithPieces 8 (some .long) 5 112 D [(cI, .int)] [.ref (ad 0), .long x1] (CW ad cI kc ksv kbc kit kln ken kla kfi kea kns kbl kr0 kr1 kr2 kr3 kr4 kr5 klr kp0 kp1 kp2 kp3) (CW ad cI kc ksv kbc kit kln ken kla kfi kea kns kbl kr0 kr1 kr2 kr3 kr4 kr5 klr kp0 kp1 kp2 kp3) (some (.long r)) := by
  refine nd_ofCl (by decide) (Nat.le_of_ble_eq_true rfl) (fun p e s m args below meth c_ ls A Q hx hb hml hown hts hl hP hK hD hS hA hN hret => ?_)
  have hown : s.vm.findClass RX8 = some m.cls := hown
  have hl : lv_has ls 8 [(0, .ref (ad 0)), (1, .long x1)] := hl
  have hret : ∀ (z0 : Int64) {H : Heap} {locs : List Loc} {pc : Nat} {ls : Array Slot}, some z0 = some r → va_P D vwCl (CW ad cI kc ksv kbc kit kln ken kla kfi kea kns kbl kr0 kr1 kr2 kr3 kr4 kr5 klr kp0 kp1 kp2 kp3) H → va_S A s.heap H locs → decode cX8_hashWithPieces pc = .ok (.lreturn, 1) → W p l e ⟨5, 0, 0, 112⟩ s m args below meth c_ H locs 0 0 Q (F0 m pc ls [.long z0]) := by
    intro z0 H locs pc ls h hP hS hd
    cases h
    exact hret hP hS hd
  rw [fX8_hashWithPieces] at hs
  refine lv_lload_n hx hb dX8_hashWithPieces_0 rfl (lv_at hl 1 rfl) ?_
  refine lv_lstore_n (lv' := [(3, .long x1), (0, .ref (ad 0)), (1, .long x1)]) hx hb dX8_hashWithPieces_1 rfl hl (by decide) rfl (fun ls hl => ?_)
  refine lv_iconst (v := (0 : Int32)) hx hb dX8_hashWithPieces_2 (by decide) ?_
  refine lv_istore (lv' := [(5, .int (0 : Int32)), (3, .long x1), (0, .ref (ad 0)), (1, .long x1)]) hx hb dX8_hashWithPieces_3 hl (by decide) rfl (fun ls hl => ?_)
  have L5 : ∀ (n5 : Nat) (k5 : Int64 → Option (Int64)) (v3_33 : Int64) (v5_33 : Int32) (H : Heap) (locs : List Loc) (ls : Array Slot), lv_has ls 8 [(0, .ref (ad 0)), (3, .long v3_33), (5, .int v5_33)] → va_P D vwCl (CW ad cI kc ksv kbc kit kln ken kla kfi kea kns kbl kr0 kr1 kr2 kr3 kr4 kr5 klr kp0 kp1 kp2 kp3) H → va_S A s.heap H locs → fX8_hashWithPieces_5 k5 kc n5 v3_33 v5_33 = some r → (∀ (u3_33 : Int64) (H : Heap) (locs : List Loc) (ls : Array Slot), lv_has ls 8 [(3, .long u3_33)] → va_P D vwCl (CW ad cI kc ksv kbc kit kln ken kla kfi kea kns kbl kr0 kr1 kr2 kr3 kr4 kr5 klr kp0 kp1 kp2 kp3) H → va_S A s.heap H locs → k5 u3_33 = some r → W p l e ⟨5, 0, 0, 112⟩ s m args below meth c_ H locs 0 0 Q (F0 m 111 ls [])) → W p l e ⟨5, 0, 0, 112⟩ s m args below meth c_ H locs 0 0 Q (F0 m 5 ls []) := by
    intro n5
    induction n5 with
    | zero =>
      intro k5 v3_33 v5_33 H locs ls hl hP hS hs hk5
      rw [fX8_hashWithPieces_5] at hs
      cases hs
    | succ n5 ih5 =>
      intro k5 v3_33 v5_33 H locs ls hl hP hS hs hk5
      rw [fX8_hashWithPieces_5] at hs
      refine lv_iload hx hb dX8_hashWithPieces_5 (lv_at hl 2 rfl) ?_
      refine lv_aload_n hx hb dX8_hashWithPieces_7 rfl (lv_at hl 0 rfl) ?_
      refine gf_X8_12 hx hb hts hown hK hP 0 rfl rfl dX8_hashWithPieces_8 ?_
      obtain ⟨q34, eq34, hs⟩ := ob hs
      refine nd_callV (As := []) (rest := [.int v5_33]) (st1 := [.int q34, .int v5_33]) hx hb hml hown hts hl hP hK hD hS hA hN (mX0_pieces eq34) iv_X0_pieces wd_98 1 rfl rfl rfl rfl ⟨Nat.le_of_ble_eq_true rfl, Nat.le_of_ble_eq_true rfl⟩ (Nat.le_of_ble_eq_true rfl) ⟨Nat.zero_le _, Nat.zero_le _⟩ dX8_hashWithPieces_11 rfl rfl (fun H locs hP hD hS => ?_)
      refine lv_icmp_ge (tgt := 111) hx hb dX8_hashWithPieces_14 (by decide) (fun b35 => ?_) (fun b35 => ?_)
      · have hs := ite_t hs b35
        exact hk5 v3_33 _ _ _ (lv_sub hl [1] rfl) hP hS hs
      · have hs := ite_f hs b35
        refine lv_iconst (v := (0 : Int32)) hx hb dX8_hashWithPieces_17 (by decide) ?_
        refine lv_istore (lv' := [(6, .int (0 : Int32)), (0, .ref (ad 0)), (3, .long v3_33), (5, .int v5_33)]) hx hb dX8_hashWithPieces_18 hl (by decide) rfl (fun ls hl => ?_)
        have L20 : ∀ (n20 : Nat) (k20 : Int64 → Option (Int64)) (v3_39 : Int64) (v6_39 : Int32) (H : Heap) (locs : List Loc) (ls : Array Slot), lv_has ls 8 [(0, .ref (ad 0)), (3, .long v3_39), (5, .int v5_33), (6, .int v6_39)] → va_P D vwCl (CW ad cI kc ksv kbc kit kln ken kla kfi kea kns kbl kr0 kr1 kr2 kr3 kr4 kr5 klr kp0 kp1 kp2 kp3) H → va_S A s.heap H locs → fX8_hashWithPieces_20 k20 kc v5_33 n20 v3_39 v6_39 = some r → (∀ (u3_39 : Int64) (H : Heap) (locs : List Loc) (ls : Array Slot), lv_has ls 8 [(0, .ref (ad 0)), (3, .long u3_39), (5, .int v5_33)] → va_P D vwCl (CW ad cI kc ksv kbc kit kln ken kla kfi kea kns kbl kr0 kr1 kr2 kr3 kr4 kr5 klr kp0 kp1 kp2 kp3) H → va_S A s.heap H locs → k20 u3_39 = some r → W p l e ⟨5, 0, 0, 112⟩ s m args below meth c_ H locs 0 0 Q (F0 m 47 ls [])) → W p l e ⟨5, 0, 0, 112⟩ s m args below meth c_ H locs 0 0 Q (F0 m 20 ls []) := by
          intro n20
          induction n20 with
          | zero =>
            intro k20 v3_39 v6_39 H locs ls hl hP hS hs hk20
            rw [fX8_hashWithPieces_20] at hs
            cases hs
          | succ n20 ih20 =>
            intro k20 v3_39 v6_39 H locs ls hl hP hS hs hk20
            rw [fX8_hashWithPieces_20] at hs
            refine lv_iload hx hb dX8_hashWithPieces_20 (lv_at hl 3 rfl) ?_
            refine lv_bipush (v := (8 : Int32)) hx hb dX8_hashWithPieces_22 (by decide) ?_
            refine lv_icmp_ge (tgt := 47) hx hb dX8_hashWithPieces_24 (by decide) (fun b40 => ?_) (fun b40 => ?_)
            · have hs := ite_t hs b40
              exact hk20 v3_39 _ _ _ (lv_sub hl [0, 1, 2] rfl) hP hS hs
            · have hs := ite_f hs b40
              refine lv_lload_n hx hb dX8_hashWithPieces_27 rfl (lv_at hl 1 rfl) ?_
              refine lv_aload_n hx hb dX8_hashWithPieces_28 rfl (lv_at hl 0 rfl) ?_
              refine lv_iload hx hb dX8_hashWithPieces_29 (lv_at hl 2 rfl) ?_
              refine lv_iload hx hb dX8_hashWithPieces_31 (lv_at hl 3 rfl) ?_
              obtain ⟨q41, eq41, hs⟩ := ob hs
              refine nd_callV (As := [.int v5_33, .int v6_39]) (rest := [.long v3_39]) (st1 := [.int q41, .long v3_39]) hx hb hml hown hts hl hP hK hD hS hA hN (mX8_pieceProperty eq41) iv_X8_pieceProperty wd_545 0 rfl rfl rfl rfl ⟨Nat.le_of_ble_eq_true rfl, Nat.le_of_ble_eq_true rfl⟩ (Nat.le_of_ble_eq_true rfl) ⟨Nat.zero_le _, Nat.zero_le _⟩ dX8_hashWithPieces_33 rfl rfl (fun H locs hP hD hS => ?_)
              refine lv_i2l hx hb dX8_hashWithPieces_36 rfl ?_
              obtain ⟨q42, eq42, hs⟩ := ob hs
              refine nd_callS (As := [.long v3_39, .long q41.toInt64]) (rest := []) (st1 := [.long q42]) hx hb hml hown hts hl hP hK hD hS hA hN (mX8_mixed eq42) is_X8_mixed wd_935 rfl rfl ⟨Nat.le_of_ble_eq_true rfl, Nat.le_of_ble_eq_true rfl⟩ (Nat.le_of_ble_eq_true rfl) ⟨Nat.zero_le _, Nat.zero_le _⟩ dX8_hashWithPieces_37 rfl rfl (fun H locs hP hD hS => ?_)
              refine lv_lstore_n (lv' := [(3, .long q42), (0, .ref (ad 0)), (5, .int v5_33), (6, .int v6_39)]) hx hb dX8_hashWithPieces_40 rfl hl (by decide) rfl (fun ls hl => ?_)
              refine lv_iinc (v := v6_39 + (1 : Int32)) (lv' := [(6, .int (v6_39 + (1 : Int32))), (3, .long q42), (0, .ref (ad 0)), (5, .int v5_33)]) hx hb dX8_hashWithPieces_41 hl (k := 3) rfl rfl (by decide) rfl (fun ls hl => ?_)
              refine lv_goto (tgt := 20) hx hb dX8_hashWithPieces_44 (by decide) ?_
              exact ih20 k20 q42 (v6_39 + (1 : Int32)) _ _ _ (lv_sub hl [2, 1, 3, 0] rfl) hP hS hs hk20
        refine L20 LF _ v3_33 (0 : Int32) _ _ _ (lv_sub hl [1, 2, 3, 0] rfl) hP hS hs (fun u3_39 H locs ls hl hP hS hs => ?_)
        refine lv_iconst (v := (0 : Int32)) hx hb dX8_hashWithPieces_47 (by decide) ?_
        refine lv_istore (lv' := [(6, .int (0 : Int32)), (0, .ref (ad 0)), (3, .long u3_39), (5, .int v5_33)]) hx hb dX8_hashWithPieces_48 hl (by decide) rfl (fun ls hl => ?_)
        have L50 : ∀ (n50 : Nat) (k50 : Int64 → Option (Int64)) (v3_54 : Int64) (v6_54 : Int32) (H : Heap) (locs : List Loc) (ls : Array Slot), lv_has ls 8 [(0, .ref (ad 0)), (3, .long v3_54), (5, .int v5_33), (6, .int v6_54)] → va_P D vwCl (CW ad cI kc ksv kbc kit kln ken kla kfi kea kns kbl kr0 kr1 kr2 kr3 kr4 kr5 klr kp0 kp1 kp2 kp3) H → va_S A s.heap H locs → fX8_hashWithPieces_50 k50 kc v5_33 n50 v3_54 v6_54 = some r → (∀ (u3_54 : Int64) (H : Heap) (locs : List Loc) (ls : Array Slot), lv_has ls 8 [(0, .ref (ad 0)), (3, .long u3_54), (5, .int v5_33)] → va_P D vwCl (CW ad cI kc ksv kbc kit kln ken kla kfi kea kns kbl kr0 kr1 kr2 kr3 kr4 kr5 klr kp0 kp1 kp2 kp3) H → va_S A s.heap H locs → k50 u3_54 = some r → W p l e ⟨5, 0, 0, 112⟩ s m args below meth c_ H locs 0 0 Q (F0 m 105 ls [])) → W p l e ⟨5, 0, 0, 112⟩ s m args below meth c_ H locs 0 0 Q (F0 m 50 ls []) := by
          intro n50
          induction n50 with
          | zero =>
            intro k50 v3_54 v6_54 H locs ls hl hP hS hs hk50
            rw [fX8_hashWithPieces_50] at hs
            cases hs
          | succ n50 ih50 =>
            intro k50 v3_54 v6_54 H locs ls hl hP hS hs hk50
            rw [fX8_hashWithPieces_50] at hs
            refine lv_iload hx hb dX8_hashWithPieces_50 (lv_at hl 3 rfl) ?_
            refine lv_aload_n hx hb dX8_hashWithPieces_52 rfl (lv_at hl 0 rfl) ?_
            refine gf_X8_12 hx hb hts hown hK hP 0 rfl rfl dX8_hashWithPieces_53 ?_
            refine lv_iload hx hb dX8_hashWithPieces_56 (lv_at hl 2 rfl) ?_
            obtain ⟨q55, eq55, hs⟩ := ob hs
            refine nd_callV (As := [.int v5_33]) (rest := [.int v6_54]) (st1 := [.int q55, .int v6_54]) hx hb hml hown hts hl hP hK hD hS hA hN (mX0_receiptsOf eq55) iv_X0_receiptsOf wd_226 1 rfl rfl rfl rfl ⟨Nat.le_of_ble_eq_true rfl, Nat.le_of_ble_eq_true rfl⟩ (Nat.le_of_ble_eq_true rfl) ⟨Nat.zero_le _, Nat.zero_le _⟩ dX8_hashWithPieces_58 rfl rfl (fun H locs hP hD hS => ?_)
            refine lv_icmp_ge (tgt := 105) hx hb dX8_hashWithPieces_61 (by decide) (fun b56 => ?_) (fun b56 => ?_)
            · have hs := ite_t hs b56
              exact hk50 v3_54 _ _ _ (lv_sub hl [0, 1, 2] rfl) hP hS hs
            · have hs := ite_f hs b56
              refine lv_iconst (v := (0 : Int32)) hx hb dX8_hashWithPieces_64 (by decide) ?_
              refine lv_istore (lv' := [(7, .int (0 : Int32)), (0, .ref (ad 0)), (3, .long v3_54), (5, .int v5_33), (6, .int v6_54)]) hx hb dX8_hashWithPieces_65 hl (by decide) rfl (fun ls hl => ?_)
              have L67 : ∀ (n67 : Nat) (k67 : Int64 → Option (Int64)) (v3_61 : Int64) (v7_61 : Int32) (H : Heap) (locs : List Loc) (ls : Array Slot), lv_has ls 8 [(0, .ref (ad 0)), (3, .long v3_61), (5, .int v5_33), (6, .int v6_54), (7, .int v7_61)] → va_P D vwCl (CW ad cI kc ksv kbc kit kln ken kla kfi kea kns kbl kr0 kr1 kr2 kr3 kr4 kr5 klr kp0 kp1 kp2 kp3) H → va_S A s.heap H locs → fX8_hashWithPieces_67 k67 kc v5_33 v6_54 n67 v3_61 v7_61 = some r → (∀ (u3_61 : Int64) (H : Heap) (locs : List Loc) (ls : Array Slot), lv_has ls 8 [(0, .ref (ad 0)), (3, .long u3_61), (5, .int v5_33), (6, .int v6_54)] → va_P D vwCl (CW ad cI kc ksv kbc kit kln ken kla kfi kea kns kbl kr0 kr1 kr2 kr3 kr4 kr5 klr kp0 kp1 kp2 kp3) H → va_S A s.heap H locs → k67 u3_61 = some r → W p l e ⟨5, 0, 0, 112⟩ s m args below meth c_ H locs 0 0 Q (F0 m 99 ls [])) → W p l e ⟨5, 0, 0, 112⟩ s m args below meth c_ H locs 0 0 Q (F0 m 67 ls []) := by
                intro n67
                induction n67 with
                | zero =>
                  intro k67 v3_61 v7_61 H locs ls hl hP hS hs hk67
                  rw [fX8_hashWithPieces_67] at hs
                  cases hs
                | succ n67 ih67 =>
                  intro k67 v3_61 v7_61 H locs ls hl hP hS hs hk67
                  rw [fX8_hashWithPieces_67] at hs
                  refine lv_iload hx hb dX8_hashWithPieces_67 (lv_at hl 4 rfl) ?_
                  refine lv_bipush (v := (9 : Int32)) hx hb dX8_hashWithPieces_69 (by decide) ?_
                  refine lv_icmp_ge (tgt := 99) hx hb dX8_hashWithPieces_71 (by decide) (fun b62 => ?_) (fun b62 => ?_)
                  · have hs := ite_t hs b62
                    exact hk67 v3_61 _ _ _ (lv_sub hl [0, 1, 2, 3] rfl) hP hS hs
                  · have hs := ite_f hs b62
                    refine lv_lload_n hx hb dX8_hashWithPieces_74 rfl (lv_at hl 1 rfl) ?_
                    refine lv_aload_n hx hb dX8_hashWithPieces_75 rfl (lv_at hl 0 rfl) ?_
                    refine lv_iload hx hb dX8_hashWithPieces_76 (lv_at hl 2 rfl) ?_
                    refine lv_iload hx hb dX8_hashWithPieces_78 (lv_at hl 3 rfl) ?_
                    obtain ⟨q63, eq63, hs⟩ := ob hs
                    refine nd_callS (As := [.int v5_33, .int v6_54]) (rest := [.ref (ad 0), .long v3_61]) (st1 := [.int q63, .ref (ad 0), .long v3_61]) hx hb hml hown hts hl hP hK hD hS hA hN (mX0_slotOf eq63) is_X0_slotOf wd_243 rfl rfl ⟨Nat.le_of_ble_eq_true rfl, Nat.le_of_ble_eq_true rfl⟩ (Nat.le_of_ble_eq_true rfl) ⟨Nat.zero_le _, Nat.zero_le _⟩ dX8_hashWithPieces_80 rfl rfl (fun H locs hP hD hS => ?_)
                    refine lv_iload hx hb dX8_hashWithPieces_83 (lv_at hl 4 rfl) ?_
                    obtain ⟨q64, eq64, hs⟩ := ob hs
                    refine nd_callV (As := [.int q63, .int v7_61]) (rest := [.long v3_61]) (st1 := [.int q64, .long v3_61]) hx hb hml hown hts hl hP hK hD hS hA hN (mX8_receiptProperty eq64) iv_X8_receiptProperty wd_577 0 rfl rfl rfl rfl ⟨Nat.le_of_ble_eq_true rfl, Nat.le_of_ble_eq_true rfl⟩ (Nat.le_of_ble_eq_true rfl) ⟨Nat.zero_le _, Nat.zero_le _⟩ dX8_hashWithPieces_85 rfl rfl (fun H locs hP hD hS => ?_)
                    refine lv_i2l hx hb dX8_hashWithPieces_88 rfl ?_
                    obtain ⟨q65, eq65, hs⟩ := ob hs
                    refine nd_callS (As := [.long v3_61, .long q64.toInt64]) (rest := []) (st1 := [.long q65]) hx hb hml hown hts hl hP hK hD hS hA hN (mX8_mixed eq65) is_X8_mixed wd_935 rfl rfl ⟨Nat.le_of_ble_eq_true rfl, Nat.le_of_ble_eq_true rfl⟩ (Nat.le_of_ble_eq_true rfl) ⟨Nat.zero_le _, Nat.zero_le _⟩ dX8_hashWithPieces_89 rfl rfl (fun H locs hP hD hS => ?_)
                    refine lv_lstore_n (lv' := [(3, .long q65), (0, .ref (ad 0)), (5, .int v5_33), (6, .int v6_54), (7, .int v7_61)]) hx hb dX8_hashWithPieces_92 rfl hl (by decide) rfl (fun ls hl => ?_)
                    refine lv_iinc (v := v7_61 + (1 : Int32)) (lv' := [(7, .int (v7_61 + (1 : Int32))), (3, .long q65), (0, .ref (ad 0)), (5, .int v5_33), (6, .int v6_54)]) hx hb dX8_hashWithPieces_93 hl (k := 4) rfl rfl (by decide) rfl (fun ls hl => ?_)
                    refine lv_goto (tgt := 67) hx hb dX8_hashWithPieces_96 (by decide) ?_
                    exact ih67 k67 q65 (v7_61 + (1 : Int32)) _ _ _ (lv_sub hl [2, 1, 3, 4, 0] rfl) hP hS hs hk67
              refine L67 LF _ v3_54 (0 : Int32) _ _ _ (lv_sub hl [1, 2, 3, 4, 0] rfl) hP hS hs (fun u3_61 H locs ls hl hP hS hs => ?_)
              refine lv_iinc (v := v6_54 + (1 : Int32)) (lv' := [(6, .int (v6_54 + (1 : Int32))), (0, .ref (ad 0)), (3, .long u3_61), (5, .int v5_33)]) hx hb dX8_hashWithPieces_99 hl (k := 3) rfl rfl (by decide) rfl (fun ls hl => ?_)
              refine lv_goto (tgt := 50) hx hb dX8_hashWithPieces_102 (by decide) ?_
              exact ih50 k50 u3_61 (v6_54 + (1 : Int32)) _ _ _ (lv_sub hl [1, 2, 3, 0] rfl) hP hS hs hk50
        refine L50 LF _ u3_39 (0 : Int32) _ _ _ (lv_sub hl [1, 2, 3, 0] rfl) hP hS hs (fun u3_54 H locs ls hl hP hS hs => ?_)
        refine lv_iinc (v := v5_33 + (1 : Int32)) (lv' := [(5, .int (v5_33 + (1 : Int32))), (0, .ref (ad 0)), (3, .long u3_54)]) hx hb dX8_hashWithPieces_105 hl (k := 2) rfl rfl (by decide) rfl (fun ls hl => ?_)
        refine lv_goto (tgt := 5) hx hb dX8_hashWithPieces_108 (by decide) ?_
        exact ih5 k5 u3_54 (v5_33 + (1 : Int32)) _ _ _ (lv_sub hl [1, 2, 0] rfl) hP hS hs hk5
  refine L5 LF _ x1 (0 : Int32) _ _ _ (lv_sub hl [2, 1, 0] rfl) hP hS hs (fun u3_33 H locs ls hl hP hS hs => ?_)
  refine lv_lload_n hx hb dX8_hashWithPieces_111 rfl (lv_at hl 0 rfl) ?_
  exact hret _ hs hP hS dX8_hashWithPieces_112
