def tX9_receipt_0 : List (Nat × Instr × Nat) := [(0, .aload_n 0, 1), (1, .iconst 0, 1), (2, .putfield 25, 3), (5, .aload_n 0, 1), (6, .iload_n 1, 1), (7, .iload_n 2, 1), (8, .invokevirtual 105, 3), (11, .ifCond .ne 9, 3), (14, .aload_n 0, 1), (15, .iconst 1, 1), (16, .invokevirtual 79, 3), (19, .ireturn, 1), (20, .iload_n 3, 1), (21, .iconst 0, 1), (22, .bipush 8, 2), (24, .invokestatic 29, 3), (27, .ifCond .eq 13, 3), (30, .aload_n 0, 1), (31, .iload_n 1, 1), (32, .iload_n 2, 1), (33, .iload_n 3, 1), (34, .invokevirtual 170, 3), (37, .goto 8, 3), (40, .aload_n 0, 1), (41, .iconst 2, 1), (42, .invokevirtual 79, 3), (45, .ireturn, 1)]
theorem tX9_receipt_0_ok : tX9_receipt_0.all (fun q => decide (decode cX9_receipt q.1 = .ok q.2)) = true := by decide +kernel
theorem dX9_receipt_0 : decode cX9_receipt 0 = .ok (.aload_n 0, 1) := td tX9_receipt_0_ok 0 (q := (0, .aload_n 0, 1)) rfl
theorem dX9_receipt_1 : decode cX9_receipt 1 = .ok (.iconst 0, 1) := td tX9_receipt_0_ok 1 (q := (1, .iconst 0, 1)) rfl
theorem dX9_receipt_2 : decode cX9_receipt 2 = .ok (.putfield 25, 3) := td tX9_receipt_0_ok 2 (q := (2, .putfield 25, 3)) rfl
theorem dX9_receipt_5 : decode cX9_receipt 5 = .ok (.aload_n 0, 1) := td tX9_receipt_0_ok 3 (q := (5, .aload_n 0, 1)) rfl
theorem dX9_receipt_6 : decode cX9_receipt 6 = .ok (.iload_n 1, 1) := td tX9_receipt_0_ok 4 (q := (6, .iload_n 1, 1)) rfl
theorem dX9_receipt_7 : decode cX9_receipt 7 = .ok (.iload_n 2, 1) := td tX9_receipt_0_ok 5 (q := (7, .iload_n 2, 1)) rfl
theorem dX9_receipt_8 : decode cX9_receipt 8 = .ok (.invokevirtual 105, 3) := td tX9_receipt_0_ok 6 (q := (8, .invokevirtual 105, 3)) rfl
theorem dX9_receipt_11 : decode cX9_receipt 11 = .ok (.ifCond .ne 9, 3) := td tX9_receipt_0_ok 7 (q := (11, .ifCond .ne 9, 3)) rfl
theorem dX9_receipt_14 : decode cX9_receipt 14 = .ok (.aload_n 0, 1) := td tX9_receipt_0_ok 8 (q := (14, .aload_n 0, 1)) rfl
theorem dX9_receipt_15 : decode cX9_receipt 15 = .ok (.iconst 1, 1) := td tX9_receipt_0_ok 9 (q := (15, .iconst 1, 1)) rfl
theorem dX9_receipt_16 : decode cX9_receipt 16 = .ok (.invokevirtual 79, 3) := td tX9_receipt_0_ok 10 (q := (16, .invokevirtual 79, 3)) rfl
theorem dX9_receipt_19 : decode cX9_receipt 19 = .ok (.ireturn, 1) := td tX9_receipt_0_ok 11 (q := (19, .ireturn, 1)) rfl
theorem dX9_receipt_20 : decode cX9_receipt 20 = .ok (.iload_n 3, 1) := td tX9_receipt_0_ok 12 (q := (20, .iload_n 3, 1)) rfl
theorem dX9_receipt_21 : decode cX9_receipt 21 = .ok (.iconst 0, 1) := td tX9_receipt_0_ok 13 (q := (21, .iconst 0, 1)) rfl
theorem dX9_receipt_22 : decode cX9_receipt 22 = .ok (.bipush 8, 2) := td tX9_receipt_0_ok 14 (q := (22, .bipush 8, 2)) rfl
theorem dX9_receipt_24 : decode cX9_receipt 24 = .ok (.invokestatic 29, 3) := td tX9_receipt_0_ok 15 (q := (24, .invokestatic 29, 3)) rfl
theorem dX9_receipt_27 : decode cX9_receipt 27 = .ok (.ifCond .eq 13, 3) := td tX9_receipt_0_ok 16 (q := (27, .ifCond .eq 13, 3)) rfl
theorem dX9_receipt_30 : decode cX9_receipt 30 = .ok (.aload_n 0, 1) := td tX9_receipt_0_ok 17 (q := (30, .aload_n 0, 1)) rfl
theorem dX9_receipt_31 : decode cX9_receipt 31 = .ok (.iload_n 1, 1) := td tX9_receipt_0_ok 18 (q := (31, .iload_n 1, 1)) rfl
theorem dX9_receipt_32 : decode cX9_receipt 32 = .ok (.iload_n 2, 1) := td tX9_receipt_0_ok 19 (q := (32, .iload_n 2, 1)) rfl
theorem dX9_receipt_33 : decode cX9_receipt 33 = .ok (.iload_n 3, 1) := td tX9_receipt_0_ok 20 (q := (33, .iload_n 3, 1)) rfl
theorem dX9_receipt_34 : decode cX9_receipt 34 = .ok (.invokevirtual 170, 3) := td tX9_receipt_0_ok 21 (q := (34, .invokevirtual 170, 3)) rfl
theorem dX9_receipt_37 : decode cX9_receipt 37 = .ok (.goto 8, 3) := td tX9_receipt_0_ok 22 (q := (37, .goto 8, 3)) rfl
theorem dX9_receipt_40 : decode cX9_receipt 40 = .ok (.aload_n 0, 1) := td tX9_receipt_0_ok 23 (q := (40, .aload_n 0, 1)) rfl
theorem dX9_receipt_41 : decode cX9_receipt 41 = .ok (.iconst 2, 1) := td tX9_receipt_0_ok 24 (q := (41, .iconst 2, 1)) rfl
theorem dX9_receipt_42 : decode cX9_receipt 42 = .ok (.invokevirtual 79, 3) := td tX9_receipt_0_ok 25 (q := (42, .invokevirtual 79, 3)) rfl
theorem dX9_receipt_45 : decode cX9_receipt 45 = .ok (.ireturn, 1) := td tX9_receipt_0_ok 26 (q := (45, .ireturn, 1)) rfl
def fX9_receipt (ms : (Nat → Int32)) (mt : Int32) (x1 : Int32) (x2 : Int32) (x3 : Int32) : Option (Int32 × Int32) :=
  (Option.bind (fX9_isReceipt ms x1 x2) (fun q1 => (if q1 = 0 then (Option.bind (fX9_fails (0 : Int32) (1 : Int32)) (fun q7 => (some (q7.1, q7.2)))) else (Option.bind (fX9_in x3 (0 : Int32) (8 : Int32)) (fun q3 => (if q3 = 0 then (Option.bind (fX9_fails (0 : Int32) (2 : Int32)) (fun q5 => (some (q5.1, q5.2)))) else (Option.bind (fX9_tellsReceipt ms x1 x2 x3) (fun q6 => (some (q6, (0 : Int32)))))))))))
set_option maxHeartbeats 4000000 in
set_option maxRecDepth 100000 in
theorem mX9_receipt {l : Launch} {D : va_G} {bd : Nat → Nat} {cI : ClassId} {ms : (Nat → Int32)} {msv : (Nat → Int32)} {mb : (Nat → Int32)} {mf : (Nat → Int32)} {mr : (Nat → Int32)} {mt : Int32} {mn : Int32} {ml : Int32} {mat : Int32} {mw : Int32} {mm : Int32} {mh : Int64} {x1 : Int32} {x2 : Int32} {x3 : Int32} {r : Int32} {mt' : Int32} (hs : fX9_receipt ms mt x1 x2 x3 = some (r, mt')) : nd_C l yX9_receipt cX9_receipt 4 (some .int) 4 97 D [(cI, .int)] [.ref (bd 0), .int x1, .int x2, .int x3] (MW bd cI ms msv mb mf mr mt mn ml mat mw mm mh) (MW bd cI ms msv mb mf mr mt' mn ml mat mw mm mh) (some (.int r)) := by
  refine nd_ofCi (by decide) (Nat.le_of_ble_eq_true rfl) (fun p e s m args below meth c_ ls A Q hx hb hml hown hts hl hP hK hD hS hA hN hret => ?_)
  have hown : s.vm.findClass RX9 = some m.cls := hown
  have hl : lv_has ls 4 [(0, .ref (bd 0)), (1, .int x1), (2, .int x2), (3, .int x3)] := hl
  have hret : ∀ (z0 : Int32) (z1 : Int32) {H : Heap} {locs : List Loc} {pc : Nat} {ls : Array Slot}, some (z0, z1) = some (r, mt') → va_P D vwCl (MW bd cI ms msv mb mf mr z1 mn ml mat mw mm mh) H → va_S A s.heap H locs → decode cX9_receipt pc = .ok (.ireturn, 1) → W p l e ⟨4, 0, 0, 97⟩ s m args below meth c_ H locs 0 0 Q (F0 m pc ls [.int z0]) := by
    intro z0 z1 H locs pc ls h hP hS hd
    cases h
    exact hret hP hS hd
  rw [fX9_receipt] at hs
  refine lv_aload_n hx hb dX9_receipt_0 rfl (lv_at hl 0 rfl) ?_
  refine lv_iconst (v := (0 : Int32)) hx hb dX9_receipt_1 (by decide) ?_
  refine pf_X9_25 hx hb hts hown hK hP hD hS 0 rfl rfl dX9_receipt_2 (fun H locs hP hD hS => ?_)
  have hP : va_P D vwCl (MW bd cI ms msv mb mf mr (0 : Int32) mn ml mat mw mm mh) H := hP
  have hD : va_D A (MW bd cI ms msv mb mf mr (0 : Int32) mn ml mat mw mm mh) := hD
  refine lv_aload_n hx hb dX9_receipt_5 rfl (lv_at hl 0 rfl) ?_
  refine lv_iload_n hx hb dX9_receipt_6 rfl (lv_at hl 1 rfl) ?_
  refine lv_iload_n hx hb dX9_receipt_7 rfl (lv_at hl 2 rfl) ?_
  obtain ⟨q1, eq1, hs⟩ := ob hs
  refine nd_callV (As := [.int x1, .int x2]) (rest := []) (st1 := [.int q1]) hx hb hml hown hts hl hP hK hD hS hA hN (mX9_isReceipt eq1) iv_X9_isReceipt wd_364 0 rfl rfl rfl rfl ⟨Nat.le_of_ble_eq_true rfl, Nat.le_of_ble_eq_true rfl⟩ (Nat.le_of_ble_eq_true rfl) ⟨Nat.zero_le _, Nat.zero_le _⟩ dX9_receipt_8 rfl rfl (fun H locs hP hD hS => ?_)
  refine lv_if_ne (tgt := 20) hx hb dX9_receipt_11 (by decide) (fun b2 => ?_) (fun b2 => ?_)
  · have hs := ite_f hs b2
    refine lv_iload_n hx hb dX9_receipt_20 rfl (lv_at hl 3 rfl) ?_
    refine lv_iconst (v := (0 : Int32)) hx hb dX9_receipt_21 (by decide) ?_
    refine lv_bipush (v := (8 : Int32)) hx hb dX9_receipt_22 (by decide) ?_
    obtain ⟨q3, eq3, hs⟩ := ob hs
    refine nd_callS (As := [.int x3, .int (0 : Int32), .int (8 : Int32)]) (rest := []) (st1 := [.int q3]) hx hb hml hown hts hl hP hK hD hS hA hN (mX9_in eq3) is_X9_in wd_127 rfl rfl ⟨Nat.le_of_ble_eq_true rfl, Nat.le_of_ble_eq_true rfl⟩ (Nat.le_of_ble_eq_true rfl) ⟨Nat.zero_le _, Nat.zero_le _⟩ dX9_receipt_24 rfl rfl (fun H locs hP hD hS => ?_)
    refine lv_if_eq (tgt := 40) hx hb dX9_receipt_27 (by decide) (fun b4 => ?_) (fun b4 => ?_)
    · have hs := ite_t hs b4
      refine lv_aload_n hx hb dX9_receipt_40 rfl (lv_at hl 0 rfl) ?_
      refine lv_iconst (v := (2 : Int32)) hx hb dX9_receipt_41 (by decide) ?_
      obtain ⟨q5, eq5, hs⟩ := ob hs
      refine nd_callV (As := [.int (2 : Int32)]) (rest := []) (st1 := [.int q5.1]) hx hb hml hown hts hl hP hK hD hS hA hN (mX9_fails eq5) iv_X9_fails wd_130 0 rfl rfl rfl rfl ⟨Nat.le_of_ble_eq_true rfl, Nat.le_of_ble_eq_true rfl⟩ (Nat.le_of_ble_eq_true rfl) ⟨Nat.zero_le _, Nat.zero_le _⟩ dX9_receipt_42 rfl rfl (fun H locs hP hD hS => ?_)
      exact hret _ _ hs hP hS dX9_receipt_45
    · have hs := ite_f hs b4
      refine lv_aload_n hx hb dX9_receipt_30 rfl (lv_at hl 0 rfl) ?_
      refine lv_iload_n hx hb dX9_receipt_31 rfl (lv_at hl 1 rfl) ?_
      refine lv_iload_n hx hb dX9_receipt_32 rfl (lv_at hl 2 rfl) ?_
      refine lv_iload_n hx hb dX9_receipt_33 rfl (lv_at hl 3 rfl) ?_
      obtain ⟨q6, eq6, hs⟩ := ob hs
      refine nd_callV (As := [.int x1, .int x2, .int x3]) (rest := []) (st1 := [.int q6]) hx hb hml hown hts hl hP hK hD hS hA hN (mX9_tellsReceipt eq6) iv_X9_tellsReceipt wd_619 0 rfl rfl rfl rfl ⟨Nat.le_of_ble_eq_true rfl, Nat.le_of_ble_eq_true rfl⟩ (Nat.le_of_ble_eq_true rfl) ⟨Nat.zero_le _, Nat.zero_le _⟩ dX9_receipt_34 rfl rfl (fun H locs hP hD hS => ?_)
      refine lv_goto (tgt := 45) hx hb dX9_receipt_37 (by decide) ?_
      exact hret _ _ hs hP hS dX9_receipt_45
  · have hs := ite_t hs b2
    refine lv_aload_n hx hb dX9_receipt_14 rfl (lv_at hl 0 rfl) ?_
    refine lv_iconst (v := (1 : Int32)) hx hb dX9_receipt_15 (by decide) ?_
    obtain ⟨q7, eq7, hs⟩ := ob hs
    refine nd_callV (As := [.int (1 : Int32)]) (rest := []) (st1 := [.int q7.1]) hx hb hml hown hts hl hP hK hD hS hA hN (mX9_fails eq7) iv_X9_fails wd_130 0 rfl rfl rfl rfl ⟨Nat.le_of_ble_eq_true rfl, Nat.le_of_ble_eq_true rfl⟩ (Nat.le_of_ble_eq_true rfl) ⟨Nat.zero_le _, Nat.zero_le _⟩ dX9_receipt_16 rfl rfl (fun H locs hP hD hS => ?_)
    exact hret _ _ hs hP hS dX9_receipt_19
def tX9_tellsPage_0 : List (Nat × Instr × Nat) := [(0, .iconst 0, 1), (1, .istore_n 3, 1), (2, .iconst 0, 1), (3, .istore 4, 2), (5, .iload 4, 2), (7, .aload_n 0, 1), (8, .getfield 7, 3), (11, .iconst 0, 1), (12, .iaload, 1), (13, .if_icmp .ge 125, 3), (16, .iconst 0, 1), (17, .istore 5, 2), (19, .iload 5, 2), (21, .aload_n 0, 1), (22, .iload 4, 2), (24, .iconst 2, 1), (25, .invokevirtual 33, 3), (28, .if_icmp .ge 104, 3), (31, .aload_n 0, 1), (32, .iload 4, 2), (34, .iload 5, 2), (36, .invokevirtual 161, 3), (39, .iload_n 1, 1), (40, .if_icmp .ne 86, 3), (43, .iload_n 2, 1), (44, .ifCond .ne 7, 3), (47, .iconst 1, 1), (48, .goto 51, 3), (51, .iload_n 2, 1), (52, .iconst 1, 1), (53, .if_icmp .ne 14, 3), (56, .aload_n 0, 1), (57, .iload 4, 2), (59, .iload 5, 2), (61, .invokevirtual 47, 3), (64, .goto 35, 3), (67, .iload_n 2, 1), (68, .iconst 2, 1), (69, .if_icmp .ne 14, 3), (72, .aload_n 0, 1), (73, .iload 4, 2), (75, .iload 5, 2), (77, .invokevirtual 108, 3), (80, .goto 19, 3), (83, .aload_n 0, 1), (84, .iload 4, 2), (86, .iload 5, 2), (88, .invokevirtual 158, 3), (91, .ifCond .ne 7, 3), (94, .iconst 0, 1), (95, .goto 4, 3), (98, .iconst 1, 1), (99, .istore 6, 2), (101, .iload_n 2, 1), (102, .iconst 4, 1), (103, .if_icmp .ne 18, 3), (106, .iload_n 3, 1), (107, .iconst 1, 1), (108, .aload_n 0, 1), (109, .iload 4, 2)]
theorem tX9_tellsPage_0_ok : tX9_tellsPage_0.all (fun q => decide (decode cX9_tellsPage q.1 = .ok q.2)) = true := by decide +kernel
theorem dX9_tellsPage_0 : decode cX9_tellsPage 0 = .ok (.iconst 0, 1) := td tX9_tellsPage_0_ok 0 (q := (0, .iconst 0, 1)) rfl
theorem dX9_tellsPage_1 : decode cX9_tellsPage 1 = .ok (.istore_n 3, 1) := td tX9_tellsPage_0_ok 1 (q := (1, .istore_n 3, 1)) rfl
theorem dX9_tellsPage_2 : decode cX9_tellsPage 2 = .ok (.iconst 0, 1) := td tX9_tellsPage_0_ok 2 (q := (2, .iconst 0, 1)) rfl
theorem dX9_tellsPage_3 : decode cX9_tellsPage 3 = .ok (.istore 4, 2) := td tX9_tellsPage_0_ok 3 (q := (3, .istore 4, 2)) rfl
theorem dX9_tellsPage_5 : decode cX9_tellsPage 5 = .ok (.iload 4, 2) := td tX9_tellsPage_0_ok 4 (q := (5, .iload 4, 2)) rfl
theorem dX9_tellsPage_7 : decode cX9_tellsPage 7 = .ok (.aload_n 0, 1) := td tX9_tellsPage_0_ok 5 (q := (7, .aload_n 0, 1)) rfl
theorem dX9_tellsPage_8 : decode cX9_tellsPage 8 = .ok (.getfield 7, 3) := td tX9_tellsPage_0_ok 6 (q := (8, .getfield 7, 3)) rfl
theorem dX9_tellsPage_11 : decode cX9_tellsPage 11 = .ok (.iconst 0, 1) := td tX9_tellsPage_0_ok 7 (q := (11, .iconst 0, 1)) rfl
theorem dX9_tellsPage_12 : decode cX9_tellsPage 12 = .ok (.iaload, 1) := td tX9_tellsPage_0_ok 8 (q := (12, .iaload, 1)) rfl
theorem dX9_tellsPage_13 : decode cX9_tellsPage 13 = .ok (.if_icmp .ge 125, 3) := td tX9_tellsPage_0_ok 9 (q := (13, .if_icmp .ge 125, 3)) rfl
theorem dX9_tellsPage_16 : decode cX9_tellsPage 16 = .ok (.iconst 0, 1) := td tX9_tellsPage_0_ok 10 (q := (16, .iconst 0, 1)) rfl
theorem dX9_tellsPage_17 : decode cX9_tellsPage 17 = .ok (.istore 5, 2) := td tX9_tellsPage_0_ok 11 (q := (17, .istore 5, 2)) rfl
theorem dX9_tellsPage_19 : decode cX9_tellsPage 19 = .ok (.iload 5, 2) := td tX9_tellsPage_0_ok 12 (q := (19, .iload 5, 2)) rfl
theorem dX9_tellsPage_21 : decode cX9_tellsPage 21 = .ok (.aload_n 0, 1) := td tX9_tellsPage_0_ok 13 (q := (21, .aload_n 0, 1)) rfl
theorem dX9_tellsPage_22 : decode cX9_tellsPage 22 = .ok (.iload 4, 2) := td tX9_tellsPage_0_ok 14 (q := (22, .iload 4, 2)) rfl
theorem dX9_tellsPage_24 : decode cX9_tellsPage 24 = .ok (.iconst 2, 1) := td tX9_tellsPage_0_ok 15 (q := (24, .iconst 2, 1)) rfl
theorem dX9_tellsPage_25 : decode cX9_tellsPage 25 = .ok (.invokevirtual 33, 3) := td tX9_tellsPage_0_ok 16 (q := (25, .invokevirtual 33, 3)) rfl
theorem dX9_tellsPage_28 : decode cX9_tellsPage 28 = .ok (.if_icmp .ge 104, 3) := td tX9_tellsPage_0_ok 17 (q := (28, .if_icmp .ge 104, 3)) rfl
theorem dX9_tellsPage_31 : decode cX9_tellsPage 31 = .ok (.aload_n 0, 1) := td tX9_tellsPage_0_ok 18 (q := (31, .aload_n 0, 1)) rfl
theorem dX9_tellsPage_32 : decode cX9_tellsPage 32 = .ok (.iload 4, 2) := td tX9_tellsPage_0_ok 19 (q := (32, .iload 4, 2)) rfl
theorem dX9_tellsPage_34 : decode cX9_tellsPage 34 = .ok (.iload 5, 2) := td tX9_tellsPage_0_ok 20 (q := (34, .iload 5, 2)) rfl
theorem dX9_tellsPage_36 : decode cX9_tellsPage 36 = .ok (.invokevirtual 161, 3) := td tX9_tellsPage_0_ok 21 (q := (36, .invokevirtual 161, 3)) rfl
theorem dX9_tellsPage_39 : decode cX9_tellsPage 39 = .ok (.iload_n 1, 1) := td tX9_tellsPage_0_ok 22 (q := (39, .iload_n 1, 1)) rfl
theorem dX9_tellsPage_40 : decode cX9_tellsPage 40 = .ok (.if_icmp .ne 86, 3) := td tX9_tellsPage_0_ok 23 (q := (40, .if_icmp .ne 86, 3)) rfl
theorem dX9_tellsPage_43 : decode cX9_tellsPage 43 = .ok (.iload_n 2, 1) := td tX9_tellsPage_0_ok 24 (q := (43, .iload_n 2, 1)) rfl
theorem dX9_tellsPage_44 : decode cX9_tellsPage 44 = .ok (.ifCond .ne 7, 3) := td tX9_tellsPage_0_ok 25 (q := (44, .ifCond .ne 7, 3)) rfl
theorem dX9_tellsPage_47 : decode cX9_tellsPage 47 = .ok (.iconst 1, 1) := td tX9_tellsPage_0_ok 26 (q := (47, .iconst 1, 1)) rfl
theorem dX9_tellsPage_48 : decode cX9_tellsPage 48 = .ok (.goto 51, 3) := td tX9_tellsPage_0_ok 27 (q := (48, .goto 51, 3)) rfl
theorem dX9_tellsPage_51 : decode cX9_tellsPage 51 = .ok (.iload_n 2, 1) := td tX9_tellsPage_0_ok 28 (q := (51, .iload_n 2, 1)) rfl
theorem dX9_tellsPage_52 : decode cX9_tellsPage 52 = .ok (.iconst 1, 1) := td tX9_tellsPage_0_ok 29 (q := (52, .iconst 1, 1)) rfl
theorem dX9_tellsPage_53 : decode cX9_tellsPage 53 = .ok (.if_icmp .ne 14, 3) := td tX9_tellsPage_0_ok 30 (q := (53, .if_icmp .ne 14, 3)) rfl
theorem dX9_tellsPage_56 : decode cX9_tellsPage 56 = .ok (.aload_n 0, 1) := td tX9_tellsPage_0_ok 31 (q := (56, .aload_n 0, 1)) rfl
theorem dX9_tellsPage_57 : decode cX9_tellsPage 57 = .ok (.iload 4, 2) := td tX9_tellsPage_0_ok 32 (q := (57, .iload 4, 2)) rfl
theorem dX9_tellsPage_59 : decode cX9_tellsPage 59 = .ok (.iload 5, 2) := td tX9_tellsPage_0_ok 33 (q := (59, .iload 5, 2)) rfl
theorem dX9_tellsPage_61 : decode cX9_tellsPage 61 = .ok (.invokevirtual 47, 3) := td tX9_tellsPage_0_ok 34 (q := (61, .invokevirtual 47, 3)) rfl
theorem dX9_tellsPage_64 : decode cX9_tellsPage 64 = .ok (.goto 35, 3) := td tX9_tellsPage_0_ok 35 (q := (64, .goto 35, 3)) rfl
theorem dX9_tellsPage_67 : decode cX9_tellsPage 67 = .ok (.iload_n 2, 1) := td tX9_tellsPage_0_ok 36 (q := (67, .iload_n 2, 1)) rfl
theorem dX9_tellsPage_68 : decode cX9_tellsPage 68 = .ok (.iconst 2, 1) := td tX9_tellsPage_0_ok 37 (q := (68, .iconst 2, 1)) rfl
theorem dX9_tellsPage_69 : decode cX9_tellsPage 69 = .ok (.if_icmp .ne 14, 3) := td tX9_tellsPage_0_ok 38 (q := (69, .if_icmp .ne 14, 3)) rfl
theorem dX9_tellsPage_72 : decode cX9_tellsPage 72 = .ok (.aload_n 0, 1) := td tX9_tellsPage_0_ok 39 (q := (72, .aload_n 0, 1)) rfl
theorem dX9_tellsPage_73 : decode cX9_tellsPage 73 = .ok (.iload 4, 2) := td tX9_tellsPage_0_ok 40 (q := (73, .iload 4, 2)) rfl
theorem dX9_tellsPage_75 : decode cX9_tellsPage 75 = .ok (.iload 5, 2) := td tX9_tellsPage_0_ok 41 (q := (75, .iload 5, 2)) rfl
theorem dX9_tellsPage_77 : decode cX9_tellsPage 77 = .ok (.invokevirtual 108, 3) := td tX9_tellsPage_0_ok 42 (q := (77, .invokevirtual 108, 3)) rfl
theorem dX9_tellsPage_80 : decode cX9_tellsPage 80 = .ok (.goto 19, 3) := td tX9_tellsPage_0_ok 43 (q := (80, .goto 19, 3)) rfl
theorem dX9_tellsPage_83 : decode cX9_tellsPage 83 = .ok (.aload_n 0, 1) := td tX9_tellsPage_0_ok 44 (q := (83, .aload_n 0, 1)) rfl
theorem dX9_tellsPage_84 : decode cX9_tellsPage 84 = .ok (.iload 4, 2) := td tX9_tellsPage_0_ok 45 (q := (84, .iload 4, 2)) rfl
theorem dX9_tellsPage_86 : decode cX9_tellsPage 86 = .ok (.iload 5, 2) := td tX9_tellsPage_0_ok 46 (q := (86, .iload 5, 2)) rfl
theorem dX9_tellsPage_88 : decode cX9_tellsPage 88 = .ok (.invokevirtual 158, 3) := td tX9_tellsPage_0_ok 47 (q := (88, .invokevirtual 158, 3)) rfl
theorem dX9_tellsPage_91 : decode cX9_tellsPage 91 = .ok (.ifCond .ne 7, 3) := td tX9_tellsPage_0_ok 48 (q := (91, .ifCond .ne 7, 3)) rfl
theorem dX9_tellsPage_94 : decode cX9_tellsPage 94 = .ok (.iconst 0, 1) := td tX9_tellsPage_0_ok 49 (q := (94, .iconst 0, 1)) rfl
theorem dX9_tellsPage_95 : decode cX9_tellsPage 95 = .ok (.goto 4, 3) := td tX9_tellsPage_0_ok 50 (q := (95, .goto 4, 3)) rfl
theorem dX9_tellsPage_98 : decode cX9_tellsPage 98 = .ok (.iconst 1, 1) := td tX9_tellsPage_0_ok 51 (q := (98, .iconst 1, 1)) rfl
theorem dX9_tellsPage_99 : decode cX9_tellsPage 99 = .ok (.istore 6, 2) := td tX9_tellsPage_0_ok 52 (q := (99, .istore 6, 2)) rfl
theorem dX9_tellsPage_101 : decode cX9_tellsPage 101 = .ok (.iload_n 2, 1) := td tX9_tellsPage_0_ok 53 (q := (101, .iload_n 2, 1)) rfl
theorem dX9_tellsPage_102 : decode cX9_tellsPage 102 = .ok (.iconst 4, 1) := td tX9_tellsPage_0_ok 54 (q := (102, .iconst 4, 1)) rfl
theorem dX9_tellsPage_103 : decode cX9_tellsPage 103 = .ok (.if_icmp .ne 18, 3) := td tX9_tellsPage_0_ok 55 (q := (103, .if_icmp .ne 18, 3)) rfl
theorem dX9_tellsPage_106 : decode cX9_tellsPage 106 = .ok (.iload_n 3, 1) := td tX9_tellsPage_0_ok 56 (q := (106, .iload_n 3, 1)) rfl
theorem dX9_tellsPage_107 : decode cX9_tellsPage 107 = .ok (.iconst 1, 1) := td tX9_tellsPage_0_ok 57 (q := (107, .iconst 1, 1)) rfl
theorem dX9_tellsPage_108 : decode cX9_tellsPage 108 = .ok (.aload_n 0, 1) := td tX9_tellsPage_0_ok 58 (q := (108, .aload_n 0, 1)) rfl
theorem dX9_tellsPage_109 : decode cX9_tellsPage 109 = .ok (.iload 4, 2) := td tX9_tellsPage_0_ok 59 (q := (109, .iload 4, 2)) rfl
def tX9_tellsPage_1 : List (Nat × Instr × Nat) := [(111, .iload 5, 2), (113, .invokevirtual 155, 3), (116, .ishl, 1), (117, .ior, 1), (118, .goto 7, 3), (121, .iload_n 3, 1), (122, .iload 6, 2), (124, .iadd, 1), (125, .istore_n 3, 1), (126, .iinc 5 1, 3), (129, .goto (-110), 3), (132, .iinc 4 1, 3), (135, .goto (-130), 3), (138, .iload_n 3, 1), (139, .ireturn, 1)]
theorem tX9_tellsPage_1_ok : tX9_tellsPage_1.all (fun q => decide (decode cX9_tellsPage q.1 = .ok q.2)) = true := by decide +kernel
theorem dX9_tellsPage_111 : decode cX9_tellsPage 111 = .ok (.iload 5, 2) := td tX9_tellsPage_1_ok 0 (q := (111, .iload 5, 2)) rfl
theorem dX9_tellsPage_113 : decode cX9_tellsPage 113 = .ok (.invokevirtual 155, 3) := td tX9_tellsPage_1_ok 1 (q := (113, .invokevirtual 155, 3)) rfl
theorem dX9_tellsPage_116 : decode cX9_tellsPage 116 = .ok (.ishl, 1) := td tX9_tellsPage_1_ok 2 (q := (116, .ishl, 1)) rfl
theorem dX9_tellsPage_117 : decode cX9_tellsPage 117 = .ok (.ior, 1) := td tX9_tellsPage_1_ok 3 (q := (117, .ior, 1)) rfl
theorem dX9_tellsPage_118 : decode cX9_tellsPage 118 = .ok (.goto 7, 3) := td tX9_tellsPage_1_ok 4 (q := (118, .goto 7, 3)) rfl
theorem dX9_tellsPage_121 : decode cX9_tellsPage 121 = .ok (.iload_n 3, 1) := td tX9_tellsPage_1_ok 5 (q := (121, .iload_n 3, 1)) rfl
theorem dX9_tellsPage_122 : decode cX9_tellsPage 122 = .ok (.iload 6, 2) := td tX9_tellsPage_1_ok 6 (q := (122, .iload 6, 2)) rfl
theorem dX9_tellsPage_124 : decode cX9_tellsPage 124 = .ok (.iadd, 1) := td tX9_tellsPage_1_ok 7 (q := (124, .iadd, 1)) rfl
theorem dX9_tellsPage_125 : decode cX9_tellsPage 125 = .ok (.istore_n 3, 1) := td tX9_tellsPage_1_ok 8 (q := (125, .istore_n 3, 1)) rfl
theorem dX9_tellsPage_126 : decode cX9_tellsPage 126 = .ok (.iinc 5 1, 3) := td tX9_tellsPage_1_ok 9 (q := (126, .iinc 5 1, 3)) rfl
theorem dX9_tellsPage_129 : decode cX9_tellsPage 129 = .ok (.goto (-110), 3) := td tX9_tellsPage_1_ok 10 (q := (129, .goto (-110), 3)) rfl
theorem dX9_tellsPage_132 : decode cX9_tellsPage 132 = .ok (.iinc 4 1, 3) := td tX9_tellsPage_1_ok 11 (q := (132, .iinc 4 1, 3)) rfl
theorem dX9_tellsPage_135 : decode cX9_tellsPage 135 = .ok (.goto (-130), 3) := td tX9_tellsPage_1_ok 12 (q := (135, .goto (-130), 3)) rfl
theorem dX9_tellsPage_138 : decode cX9_tellsPage 138 = .ok (.iload_n 3, 1) := td tX9_tellsPage_1_ok 13 (q := (138, .iload_n 3, 1)) rfl
theorem dX9_tellsPage_139 : decode cX9_tellsPage 139 = .ok (.ireturn, 1) := td tX9_tellsPage_1_ok 14 (q := (139, .ireturn, 1)) rfl
def fX9_tellsPage_19 (k19 : Int32 → Option (Int32)) (ms : (Nat → Int32)) (x1 : Int32) (x2 : Int32) (x4 : Int32) : Nat → Int32 → Int32 → Option (Int32)
  | 0, _, _ => none
  | n19 + 1, x3, x5 => (Option.bind (fX9_of ms x4 (2 : Int32)) (fun q3 => (if q3 ≤ x5 then (k19 x3) else (Option.bind (fX9_pageOf ms x4 x5) (fun q5 => (if q5 = x1 then (if x2 = 0 then (if x2 = (4 : Int32) then (Option.bind (fX9_shopOf ms x4 x5) (fun q23 => (fX9_tellsPage_19 k19 ms x1 x2 x4 n19 (x3 ||| ((1 : Int32) <<< (q23 &&& 31))) (x5 + (1 : Int32))))) else (fX9_tellsPage_19 k19 ms x1 x2 x4 n19 (x3 + (1 : Int32)) (x5 + (1 : Int32)))) else (if x2 = (1 : Int32) then (Option.bind (fX9_sumOf ms x4 x5) (fun q19 => (if x2 = (4 : Int32) then (Option.bind (fX9_shopOf ms x4 x5) (fun q21 => (fX9_tellsPage_19 k19 ms x1 x2 x4 n19 (x3 ||| ((1 : Int32) <<< (q21 &&& 31))) (x5 + (1 : Int32))))) else (fX9_tellsPage_19 k19 ms x1 x2 x4 n19 (x3 + q19) (x5 + (1 : Int32)))))) else (if x2 = (2 : Int32) then (Option.bind (fX9_totalOf ms x4 x5) (fun q16 => (if x2 = (4 : Int32) then (Option.bind (fX9_shopOf ms x4 x5) (fun q18 => (fX9_tellsPage_19 k19 ms x1 x2 x4 n19 (x3 ||| ((1 : Int32) <<< (q18 &&& 31))) (x5 + (1 : Int32))))) else (fX9_tellsPage_19 k19 ms x1 x2 x4 n19 (x3 + q16) (x5 + (1 : Int32)))))) else (Option.bind (fX9_stateOf ms x4 x5) (fun q10 => (if q10 = 0 then (if x2 = (4 : Int32) then (Option.bind (fX9_shopOf ms x4 x5) (fun q15 => (fX9_tellsPage_19 k19 ms x1 x2 x4 n19 (x3 ||| ((1 : Int32) <<< (q15 &&& 31))) (x5 + (1 : Int32))))) else (fX9_tellsPage_19 k19 ms x1 x2 x4 n19 (x3 + (0 : Int32)) (x5 + (1 : Int32)))) else (if x2 = (4 : Int32) then (Option.bind (fX9_shopOf ms x4 x5) (fun q13 => (fX9_tellsPage_19 k19 ms x1 x2 x4 n19 (x3 ||| ((1 : Int32) <<< (q13 &&& 31))) (x5 + (1 : Int32))))) else (fX9_tellsPage_19 k19 ms x1 x2 x4 n19 (x3 + (1 : Int32)) (x5 + (1 : Int32)))))))))) else (fX9_tellsPage_19 k19 ms x1 x2 x4 n19 x3 (x5 + (1 : Int32)))))))))
def fX9_tellsPage_5 (k5 : Int32 → Option (Int32)) (ms : (Nat → Int32)) (x1 : Int32) (x2 : Int32) : Nat → Int32 → Int32 → Option (Int32)
  | 0, _, _ => none
  | n5 + 1, x3, x4 => (Option.bind (aget ms 531 (0 : Int32)) (fun t1 => (if t1 ≤ x4 then (k5 x3) else (fX9_tellsPage_19 (fun (u3_24 : Int32) => (fX9_tellsPage_5 k5 ms x1 x2 n5 u3_24 (x4 + (1 : Int32)))) ms x1 x2 x4 LF x3 (0 : Int32)))))
def fX9_tellsPage (ms : (Nat → Int32)) (x1 : Int32) (x2 : Int32) : Option (Int32) :=
  (fX9_tellsPage_5 (fun (u3_46 : Int32) => (some u3_46)) ms x1 x2 LF (0 : Int32) (0 : Int32))
set_option maxHeartbeats 4000000 in
set_option maxRecDepth 100000 in
theorem mX9_tellsPage {l : Launch} {D : va_G} {bd : Nat → Nat} {cI : ClassId} {ms : (Nat → Int32)} {msv : (Nat → Int32)} {mb : (Nat → Int32)} {mf : (Nat → Int32)} {mr : (Nat → Int32)} {mt : Int32} {mn : Int32} {ml : Int32} {mat : Int32} {mw : Int32} {mm : Int32} {mh : Int64} {x1 : Int32} {x2 : Int32} {r : Int32} (hs : fX9_tellsPage ms x1 x2 = some r) : nd_C l yX9_tellsPage cX9_tellsPage 7 (some .int) 3 74 D [(cI, .int)] [.ref (bd 0), .int x1, .int x2] (MW bd cI ms msv mb mf mr mt mn ml mat mw mm mh) (MW bd cI ms msv mb mf mr mt mn ml mat mw mm mh) (some (.int r)) := by
  refine nd_ofCi (by decide) (Nat.le_of_ble_eq_true rfl) (fun p e s m args below meth c_ ls A Q hx hb hml hown hts hl hP hK hD hS hA hN hret => ?_)
  have hown : s.vm.findClass RX9 = some m.cls := hown
  have hl : lv_has ls 7 [(0, .ref (bd 0)), (1, .int x1), (2, .int x2)] := hl
  have hret : ∀ (z0 : Int32) {H : Heap} {locs : List Loc} {pc : Nat} {ls : Array Slot}, some z0 = some r → va_P D vwCl (MW bd cI ms msv mb mf mr mt mn ml mat mw mm mh) H → va_S A s.heap H locs → decode cX9_tellsPage pc = .ok (.ireturn, 1) → W p l e ⟨3, 0, 0, 74⟩ s m args below meth c_ H locs 0 0 Q (F0 m pc ls [.int z0]) := by
    intro z0 H locs pc ls h hP hS hd
    cases h
    exact hret hP hS hd
  rw [fX9_tellsPage] at hs
  refine lv_iconst (v := (0 : Int32)) hx hb dX9_tellsPage_0 (by decide) ?_
  refine lv_istore_n (lv' := [(3, .int (0 : Int32)), (0, .ref (bd 0)), (1, .int x1), (2, .int x2)]) hx hb dX9_tellsPage_1 rfl hl (by decide) rfl (fun ls hl => ?_)
  refine lv_iconst (v := (0 : Int32)) hx hb dX9_tellsPage_2 (by decide) ?_
  refine lv_istore (lv' := [(4, .int (0 : Int32)), (3, .int (0 : Int32)), (0, .ref (bd 0)), (1, .int x1), (2, .int x2)]) hx hb dX9_tellsPage_3 hl (by decide) rfl (fun ls hl => ?_)
  have L5 : ∀ (n5 : Nat) (k5 : Int32 → Option (Int32)) (v3_46 : Int32) (v4_46 : Int32) (H : Heap) (locs : List Loc) (ls : Array Slot), lv_has ls 7 [(0, .ref (bd 0)), (1, .int x1), (2, .int x2), (3, .int v3_46), (4, .int v4_46)] → va_P D vwCl (MW bd cI ms msv mb mf mr mt mn ml mat mw mm mh) H → va_S A s.heap H locs → fX9_tellsPage_5 k5 ms x1 x2 n5 v3_46 v4_46 = some r → (∀ (u3_46 : Int32) (H : Heap) (locs : List Loc) (ls : Array Slot), lv_has ls 7 [(3, .int u3_46)] → va_P D vwCl (MW bd cI ms msv mb mf mr mt mn ml mat mw mm mh) H → va_S A s.heap H locs → k5 u3_46 = some r → W p l e ⟨3, 0, 0, 74⟩ s m args below meth c_ H locs 0 0 Q (F0 m 138 ls [])) → W p l e ⟨3, 0, 0, 74⟩ s m args below meth c_ H locs 0 0 Q (F0 m 5 ls []) := by
    intro n5
    induction n5 with
    | zero =>
      intro k5 v3_46 v4_46 H locs ls hl hP hS hs hk5
      rw [fX9_tellsPage_5] at hs
      cases hs
    | succ n5 ih5 =>
      intro k5 v3_46 v4_46 H locs ls hl hP hS hs hk5
      rw [fX9_tellsPage_5] at hs
      refine lv_iload hx hb dX9_tellsPage_5 (lv_at hl 4 rfl) ?_
      refine lv_aload_n hx hb dX9_tellsPage_7 rfl (lv_at hl 0 rfl) ?_
      refine gf_X9_7 hx hb hts hown hK hP 0 rfl rfl dX9_tellsPage_8 ?_
      refine lv_iconst (v := (0 : Int32)) hx hb dX9_tellsPage_11 (by decide) ?_
      obtain ⟨t47, et47, hs⟩ := ob hs
      refine nd_iald hx hb hK hP 1 0 rfl rfl et47 dX9_tellsPage_12 ?_
      refine lv_icmp_ge (tgt := 138) hx hb dX9_tellsPage_13 (by decide) (fun b48 => ?_) (fun b48 => ?_)
      · have hs := ite_t hs b48
        exact hk5 v3_46 _ _ _ (lv_sub hl [3] rfl) hP hS hs
      · have hs := ite_f hs b48
        refine lv_iconst (v := (0 : Int32)) hx hb dX9_tellsPage_16 (by decide) ?_
        refine lv_istore (lv' := [(5, .int (0 : Int32)), (0, .ref (bd 0)), (1, .int x1), (2, .int x2), (3, .int v3_46), (4, .int v4_46)]) hx hb dX9_tellsPage_17 hl (by decide) rfl (fun ls hl => ?_)
        have L19 : ∀ (n19 : Nat) (k19 : Int32 → Option (Int32)) (v3_70 : Int32) (v5_70 : Int32) (H : Heap) (locs : List Loc) (ls : Array Slot), lv_has ls 7 [(0, .ref (bd 0)), (1, .int x1), (2, .int x2), (3, .int v3_70), (4, .int v4_46), (5, .int v5_70)] → va_P D vwCl (MW bd cI ms msv mb mf mr mt mn ml mat mw mm mh) H → va_S A s.heap H locs → fX9_tellsPage_19 k19 ms x1 x2 v4_46 n19 v3_70 v5_70 = some r → (∀ (u3_70 : Int32) (H : Heap) (locs : List Loc) (ls : Array Slot), lv_has ls 7 [(0, .ref (bd 0)), (1, .int x1), (2, .int x2), (3, .int u3_70), (4, .int v4_46)] → va_P D vwCl (MW bd cI ms msv mb mf mr mt mn ml mat mw mm mh) H → va_S A s.heap H locs → k19 u3_70 = some r → W p l e ⟨3, 0, 0, 74⟩ s m args below meth c_ H locs 0 0 Q (F0 m 132 ls [])) → W p l e ⟨3, 0, 0, 74⟩ s m args below meth c_ H locs 0 0 Q (F0 m 19 ls []) := by
          intro n19
          induction n19 with
          | zero =>
            intro k19 v3_70 v5_70 H locs ls hl hP hS hs hk19
            rw [fX9_tellsPage_19] at hs
            cases hs
          | succ n19 ih19 =>
            intro k19 v3_70 v5_70 H locs ls hl hP hS hs hk19
            rw [fX9_tellsPage_19] at hs
            refine lv_iload hx hb dX9_tellsPage_19 (lv_at hl 5 rfl) ?_
            refine lv_aload_n hx hb dX9_tellsPage_21 rfl (lv_at hl 0 rfl) ?_
            refine lv_iload hx hb dX9_tellsPage_22 (lv_at hl 4 rfl) ?_
            refine lv_iconst (v := (2 : Int32)) hx hb dX9_tellsPage_24 (by decide) ?_
            obtain ⟨q71, eq71, hs⟩ := ob hs
            refine nd_callV (As := [.int v4_46, .int (2 : Int32)]) (rest := [.int v5_70]) (st1 := [.int q71, .int v5_70]) hx hb hml hown hts hl hP hK hD hS hA hN (mX9_of eq71) iv_X9_of wd_307 0 rfl rfl rfl rfl ⟨Nat.le_of_ble_eq_true rfl, Nat.le_of_ble_eq_true rfl⟩ (Nat.le_of_ble_eq_true rfl) ⟨Nat.zero_le _, Nat.zero_le _⟩ dX9_tellsPage_25 rfl rfl (fun H locs hP hD hS => ?_)
            refine lv_icmp_ge (tgt := 132) hx hb dX9_tellsPage_28 (by decide) (fun b72 => ?_) (fun b72 => ?_)
            · have hs := ite_t hs b72
              exact hk19 v3_70 _ _ _ (lv_sub hl [0, 1, 2, 3, 4] rfl) hP hS hs
            · have hs := ite_f hs b72
              refine lv_aload_n hx hb dX9_tellsPage_31 rfl (lv_at hl 0 rfl) ?_
              refine lv_iload hx hb dX9_tellsPage_32 (lv_at hl 4 rfl) ?_
              refine lv_iload hx hb dX9_tellsPage_34 (lv_at hl 5 rfl) ?_
              obtain ⟨q73, eq73, hs⟩ := ob hs
              refine nd_callV (As := [.int v4_46, .int v5_70]) (rest := []) (st1 := [.int q73]) hx hb hml hown hts hl hP hK hD hS hA hN (mX9_pageOf eq73) iv_X9_pageOf wd_633 0 rfl rfl rfl rfl ⟨Nat.le_of_ble_eq_true rfl, Nat.le_of_ble_eq_true rfl⟩ (Nat.le_of_ble_eq_true rfl) ⟨Nat.zero_le _, Nat.zero_le _⟩ dX9_tellsPage_36 rfl rfl (fun H locs hP hD hS => ?_)
              refine lv_iload_n hx hb dX9_tellsPage_39 rfl (lv_at hl 1 rfl) ?_
              refine lv_icmp_ne (tgt := 126) hx hb dX9_tellsPage_40 (by decide) (fun b74 => ?_) (fun b74 => ?_)
              · have hs := ite_f hs b74
                refine lv_iinc (v := v5_70 + (1 : Int32)) (lv' := [(5, .int (v5_70 + (1 : Int32))), (0, .ref (bd 0)), (1, .int x1), (2, .int x2), (3, .int v3_70), (4, .int v4_46)]) hx hb dX9_tellsPage_126 hl (k := 5) rfl rfl (by decide) rfl (fun ls hl => ?_)
                refine lv_goto (tgt := 19) hx hb dX9_tellsPage_129 (by decide) ?_
                exact ih19 k19 v3_70 (v5_70 + (1 : Int32)) _ _ _ (lv_sub hl [1, 2, 3, 4, 5, 0] rfl) hP hS hs hk19
              · have hs := ite_t hs b74
                refine lv_iload_n hx hb dX9_tellsPage_43 rfl (lv_at hl 2 rfl) ?_
                refine lv_if_ne (tgt := 51) hx hb dX9_tellsPage_44 (by decide) (fun b75 => ?_) (fun b75 => ?_)
                · have hs := ite_f hs b75
                  refine lv_iload_n hx hb dX9_tellsPage_51 rfl (lv_at hl 2 rfl) ?_
                  refine lv_iconst (v := (1 : Int32)) hx hb dX9_tellsPage_52 (by decide) ?_
                  refine lv_icmp_ne (tgt := 67) hx hb dX9_tellsPage_53 (by decide) (fun b76 => ?_) (fun b76 => ?_)
                  · have hs := ite_f hs b76
                    refine lv_iload_n hx hb dX9_tellsPage_67 rfl (lv_at hl 2 rfl) ?_
                    refine lv_iconst (v := (2 : Int32)) hx hb dX9_tellsPage_68 (by decide) ?_
                    refine lv_icmp_ne (tgt := 83) hx hb dX9_tellsPage_69 (by decide) (fun b77 => ?_) (fun b77 => ?_)
                    · have hs := ite_f hs b77
                      refine lv_aload_n hx hb dX9_tellsPage_83 rfl (lv_at hl 0 rfl) ?_
                      refine lv_iload hx hb dX9_tellsPage_84 (lv_at hl 4 rfl) ?_
                      refine lv_iload hx hb dX9_tellsPage_86 (lv_at hl 5 rfl) ?_
                      obtain ⟨q78, eq78, hs⟩ := ob hs
                      refine nd_callV (As := [.int v4_46, .int v5_70]) (rest := []) (st1 := [.int q78]) hx hb hml hown hts hl hP hK hD hS hA hN (mX9_stateOf eq78) iv_X9_stateOf wd_623 0 rfl rfl rfl rfl ⟨Nat.le_of_ble_eq_true rfl, Nat.le_of_ble_eq_true rfl⟩ (Nat.le_of_ble_eq_true rfl) ⟨Nat.zero_le _, Nat.zero_le _⟩ dX9_tellsPage_88 rfl rfl (fun H locs hP hD hS => ?_)
                      refine lv_if_ne (tgt := 98) hx hb dX9_tellsPage_91 (by decide) (fun b79 => ?_) (fun b79 => ?_)
                      · have hs := ite_f hs b79
                        refine lv_iconst (v := (1 : Int32)) hx hb dX9_tellsPage_98 (by decide) ?_
                        refine lv_istore (lv' := [(6, .int (1 : Int32)), (0, .ref (bd 0)), (1, .int x1), (2, .int x2), (3, .int v3_70), (4, .int v4_46), (5, .int v5_70)]) hx hb dX9_tellsPage_99 hl (by decide) rfl (fun ls hl => ?_)
                        refine lv_iload_n hx hb dX9_tellsPage_101 rfl (lv_at hl 3 rfl) ?_
                        refine lv_iconst (v := (4 : Int32)) hx hb dX9_tellsPage_102 (by decide) ?_
                        refine lv_icmp_ne (tgt := 121) hx hb dX9_tellsPage_103 (by decide) (fun b80 => ?_) (fun b80 => ?_)
                        · have hs := ite_f hs b80
                          refine lv_iload_n hx hb dX9_tellsPage_121 rfl (lv_at hl 4 rfl) ?_
                          refine lv_iload hx hb dX9_tellsPage_122 (lv_at hl 0 rfl) ?_
                          refine lv_iadd hx hb dX9_tellsPage_124 ?_
                          refine lv_istore_n (lv' := [(3, .int (v3_70 + (1 : Int32))), (6, .int (1 : Int32)), (0, .ref (bd 0)), (1, .int x1), (2, .int x2), (4, .int v4_46), (5, .int v5_70)]) hx hb dX9_tellsPage_125 rfl hl (by decide) rfl (fun ls hl => ?_)
                          refine lv_iinc (v := v5_70 + (1 : Int32)) (lv' := [(5, .int (v5_70 + (1 : Int32))), (3, .int (v3_70 + (1 : Int32))), (6, .int (1 : Int32)), (0, .ref (bd 0)), (1, .int x1), (2, .int x2), (4, .int v4_46)]) hx hb dX9_tellsPage_126 hl (k := 6) rfl rfl (by decide) rfl (fun ls hl => ?_)
                          refine lv_goto (tgt := 19) hx hb dX9_tellsPage_129 (by decide) ?_
                          exact ih19 k19 (v3_70 + (1 : Int32)) (v5_70 + (1 : Int32)) _ _ _ (lv_sub hl [3, 4, 5, 1, 6, 0] rfl) hP hS hs hk19
                        · have hs := ite_t hs b80
                          refine lv_iload_n hx hb dX9_tellsPage_106 rfl (lv_at hl 4 rfl) ?_
                          refine lv_iconst (v := (1 : Int32)) hx hb dX9_tellsPage_107 (by decide) ?_
                          refine lv_aload_n hx hb dX9_tellsPage_108 rfl (lv_at hl 1 rfl) ?_
                          refine lv_iload hx hb dX9_tellsPage_109 (lv_at hl 5 rfl) ?_
                          refine lv_iload hx hb dX9_tellsPage_111 (lv_at hl 6 rfl) ?_
                          obtain ⟨q81, eq81, hs⟩ := ob hs
                          refine nd_callV (As := [.int v4_46, .int v5_70]) (rest := [.int (1 : Int32), .int v3_70]) (st1 := [.int q81, .int (1 : Int32), .int v3_70]) hx hb hml hown hts hl hP hK hD hS hA hN (mX9_shopOf eq81) iv_X9_shopOf wd_645 0 rfl rfl rfl rfl ⟨Nat.le_of_ble_eq_true rfl, Nat.le_of_ble_eq_true rfl⟩ (Nat.le_of_ble_eq_true rfl) ⟨Nat.zero_le _, Nat.zero_le _⟩ dX9_tellsPage_113 rfl rfl (fun H locs hP hD hS => ?_)
                          refine lv_ishl hx hb dX9_tellsPage_116 ?_
                          refine lv_ior hx hb dX9_tellsPage_117 ?_
                          refine lv_goto (tgt := 125) hx hb dX9_tellsPage_118 (by decide) ?_
                          refine lv_istore_n (lv' := [(3, .int (v3_70 ||| ((1 : Int32) <<< (q81 &&& 31)))), (6, .int (1 : Int32)), (0, .ref (bd 0)), (1, .int x1), (2, .int x2), (4, .int v4_46), (5, .int v5_70)]) hx hb dX9_tellsPage_125 rfl hl (by decide) rfl (fun ls hl => ?_)
                          refine lv_iinc (v := v5_70 + (1 : Int32)) (lv' := [(5, .int (v5_70 + (1 : Int32))), (3, .int (v3_70 ||| ((1 : Int32) <<< (q81 &&& 31)))), (6, .int (1 : Int32)), (0, .ref (bd 0)), (1, .int x1), (2, .int x2), (4, .int v4_46)]) hx hb dX9_tellsPage_126 hl (k := 6) rfl rfl (by decide) rfl (fun ls hl => ?_)
                          refine lv_goto (tgt := 19) hx hb dX9_tellsPage_129 (by decide) ?_
                          exact ih19 k19 (v3_70 ||| ((1 : Int32) <<< (q81 &&& 31))) (v5_70 + (1 : Int32)) _ _ _ (lv_sub hl [3, 4, 5, 1, 6, 0] rfl) hP hS hs hk19
                      · have hs := ite_t hs b79
                        refine lv_iconst (v := (0 : Int32)) hx hb dX9_tellsPage_94 (by decide) ?_
                        refine lv_goto (tgt := 99) hx hb dX9_tellsPage_95 (by decide) ?_
                        refine lv_istore (lv' := [(6, .int (0 : Int32)), (0, .ref (bd 0)), (1, .int x1), (2, .int x2), (3, .int v3_70), (4, .int v4_46), (5, .int v5_70)]) hx hb dX9_tellsPage_99 hl (by decide) rfl (fun ls hl => ?_)
                        refine lv_iload_n hx hb dX9_tellsPage_101 rfl (lv_at hl 3 rfl) ?_
                        refine lv_iconst (v := (4 : Int32)) hx hb dX9_tellsPage_102 (by decide) ?_
                        refine lv_icmp_ne (tgt := 121) hx hb dX9_tellsPage_103 (by decide) (fun b82 => ?_) (fun b82 => ?_)
                        · have hs := ite_f hs b82
                          refine lv_iload_n hx hb dX9_tellsPage_121 rfl (lv_at hl 4 rfl) ?_
                          refine lv_iload hx hb dX9_tellsPage_122 (lv_at hl 0 rfl) ?_
                          refine lv_iadd hx hb dX9_tellsPage_124 ?_
                          refine lv_istore_n (lv' := [(3, .int (v3_70 + (0 : Int32))), (6, .int (0 : Int32)), (0, .ref (bd 0)), (1, .int x1), (2, .int x2), (4, .int v4_46), (5, .int v5_70)]) hx hb dX9_tellsPage_125 rfl hl (by decide) rfl (fun ls hl => ?_)
                          refine lv_iinc (v := v5_70 + (1 : Int32)) (lv' := [(5, .int (v5_70 + (1 : Int32))), (3, .int (v3_70 + (0 : Int32))), (6, .int (0 : Int32)), (0, .ref (bd 0)), (1, .int x1), (2, .int x2), (4, .int v4_46)]) hx hb dX9_tellsPage_126 hl (k := 6) rfl rfl (by decide) rfl (fun ls hl => ?_)
                          refine lv_goto (tgt := 19) hx hb dX9_tellsPage_129 (by decide) ?_
                          exact ih19 k19 (v3_70 + (0 : Int32)) (v5_70 + (1 : Int32)) _ _ _ (lv_sub hl [3, 4, 5, 1, 6, 0] rfl) hP hS hs hk19
                        · have hs := ite_t hs b82
                          refine lv_iload_n hx hb dX9_tellsPage_106 rfl (lv_at hl 4 rfl) ?_
                          refine lv_iconst (v := (1 : Int32)) hx hb dX9_tellsPage_107 (by decide) ?_
                          refine lv_aload_n hx hb dX9_tellsPage_108 rfl (lv_at hl 1 rfl) ?_
                          refine lv_iload hx hb dX9_tellsPage_109 (lv_at hl 5 rfl) ?_
                          refine lv_iload hx hb dX9_tellsPage_111 (lv_at hl 6 rfl) ?_
                          obtain ⟨q83, eq83, hs⟩ := ob hs
                          refine nd_callV (As := [.int v4_46, .int v5_70]) (rest := [.int (1 : Int32), .int v3_70]) (st1 := [.int q83, .int (1 : Int32), .int v3_70]) hx hb hml hown hts hl hP hK hD hS hA hN (mX9_shopOf eq83) iv_X9_shopOf wd_645 0 rfl rfl rfl rfl ⟨Nat.le_of_ble_eq_true rfl, Nat.le_of_ble_eq_true rfl⟩ (Nat.le_of_ble_eq_true rfl) ⟨Nat.zero_le _, Nat.zero_le _⟩ dX9_tellsPage_113 rfl rfl (fun H locs hP hD hS => ?_)
                          refine lv_ishl hx hb dX9_tellsPage_116 ?_
                          refine lv_ior hx hb dX9_tellsPage_117 ?_
                          refine lv_goto (tgt := 125) hx hb dX9_tellsPage_118 (by decide) ?_
                          refine lv_istore_n (lv' := [(3, .int (v3_70 ||| ((1 : Int32) <<< (q83 &&& 31)))), (6, .int (0 : Int32)), (0, .ref (bd 0)), (1, .int x1), (2, .int x2), (4, .int v4_46), (5, .int v5_70)]) hx hb dX9_tellsPage_125 rfl hl (by decide) rfl (fun ls hl => ?_)
                          refine lv_iinc (v := v5_70 + (1 : Int32)) (lv' := [(5, .int (v5_70 + (1 : Int32))), (3, .int (v3_70 ||| ((1 : Int32) <<< (q83 &&& 31)))), (6, .int (0 : Int32)), (0, .ref (bd 0)), (1, .int x1), (2, .int x2), (4, .int v4_46)]) hx hb dX9_tellsPage_126 hl (k := 6) rfl rfl (by decide) rfl (fun ls hl => ?_)
                          refine lv_goto (tgt := 19) hx hb dX9_tellsPage_129 (by decide) ?_
                          exact ih19 k19 (v3_70 ||| ((1 : Int32) <<< (q83 &&& 31))) (v5_70 + (1 : Int32)) _ _ _ (lv_sub hl [3, 4, 5, 1, 6, 0] rfl) hP hS hs hk19
                    · have hs := ite_t hs b77
                      refine lv_aload_n hx hb dX9_tellsPage_72 rfl (lv_at hl 0 rfl) ?_
                      refine lv_iload hx hb dX9_tellsPage_73 (lv_at hl 4 rfl) ?_
                      refine lv_iload hx hb dX9_tellsPage_75 (lv_at hl 5 rfl) ?_
                      obtain ⟨q84, eq84, hs⟩ := ob hs
                      refine nd_callV (As := [.int v4_46, .int v5_70]) (rest := []) (st1 := [.int q84]) hx hb hml hown hts hl hP hK hD hS hA hN (mX9_totalOf eq84) iv_X9_totalOf wd_368 0 rfl rfl rfl rfl ⟨Nat.le_of_ble_eq_true rfl, Nat.le_of_ble_eq_true rfl⟩ (Nat.le_of_ble_eq_true rfl) ⟨Nat.zero_le _, Nat.zero_le _⟩ dX9_tellsPage_77 rfl rfl (fun H locs hP hD hS => ?_)
                      refine lv_goto (tgt := 99) hx hb dX9_tellsPage_80 (by decide) ?_
                      refine lv_istore (lv' := [(6, .int q84), (0, .ref (bd 0)), (1, .int x1), (2, .int x2), (3, .int v3_70), (4, .int v4_46), (5, .int v5_70)]) hx hb dX9_tellsPage_99 hl (by decide) rfl (fun ls hl => ?_)
                      refine lv_iload_n hx hb dX9_tellsPage_101 rfl (lv_at hl 3 rfl) ?_
                      refine lv_iconst (v := (4 : Int32)) hx hb dX9_tellsPage_102 (by decide) ?_
                      refine lv_icmp_ne (tgt := 121) hx hb dX9_tellsPage_103 (by decide) (fun b85 => ?_) (fun b85 => ?_)
                      · have hs := ite_f hs b85
                        refine lv_iload_n hx hb dX9_tellsPage_121 rfl (lv_at hl 4 rfl) ?_
                        refine lv_iload hx hb dX9_tellsPage_122 (lv_at hl 0 rfl) ?_
                        refine lv_iadd hx hb dX9_tellsPage_124 ?_
                        refine lv_istore_n (lv' := [(3, .int (v3_70 + q84)), (6, .int q84), (0, .ref (bd 0)), (1, .int x1), (2, .int x2), (4, .int v4_46), (5, .int v5_70)]) hx hb dX9_tellsPage_125 rfl hl (by decide) rfl (fun ls hl => ?_)
                        refine lv_iinc (v := v5_70 + (1 : Int32)) (lv' := [(5, .int (v5_70 + (1 : Int32))), (3, .int (v3_70 + q84)), (6, .int q84), (0, .ref (bd 0)), (1, .int x1), (2, .int x2), (4, .int v4_46)]) hx hb dX9_tellsPage_126 hl (k := 6) rfl rfl (by decide) rfl (fun ls hl => ?_)
                        refine lv_goto (tgt := 19) hx hb dX9_tellsPage_129 (by decide) ?_
                        exact ih19 k19 (v3_70 + q84) (v5_70 + (1 : Int32)) _ _ _ (lv_sub hl [3, 4, 5, 1, 6, 0] rfl) hP hS hs hk19
                      · have hs := ite_t hs b85
                        refine lv_iload_n hx hb dX9_tellsPage_106 rfl (lv_at hl 4 rfl) ?_
                        refine lv_iconst (v := (1 : Int32)) hx hb dX9_tellsPage_107 (by decide) ?_
                        refine lv_aload_n hx hb dX9_tellsPage_108 rfl (lv_at hl 1 rfl) ?_
                        refine lv_iload hx hb dX9_tellsPage_109 (lv_at hl 5 rfl) ?_
                        refine lv_iload hx hb dX9_tellsPage_111 (lv_at hl 6 rfl) ?_
                        obtain ⟨q86, eq86, hs⟩ := ob hs
                        refine nd_callV (As := [.int v4_46, .int v5_70]) (rest := [.int (1 : Int32), .int v3_70]) (st1 := [.int q86, .int (1 : Int32), .int v3_70]) hx hb hml hown hts hl hP hK hD hS hA hN (mX9_shopOf eq86) iv_X9_shopOf wd_645 0 rfl rfl rfl rfl ⟨Nat.le_of_ble_eq_true rfl, Nat.le_of_ble_eq_true rfl⟩ (Nat.le_of_ble_eq_true rfl) ⟨Nat.zero_le _, Nat.zero_le _⟩ dX9_tellsPage_113 rfl rfl (fun H locs hP hD hS => ?_)
                        refine lv_ishl hx hb dX9_tellsPage_116 ?_
                        refine lv_ior hx hb dX9_tellsPage_117 ?_
                        refine lv_goto (tgt := 125) hx hb dX9_tellsPage_118 (by decide) ?_
                        refine lv_istore_n (lv' := [(3, .int (v3_70 ||| ((1 : Int32) <<< (q86 &&& 31)))), (6, .int q84), (0, .ref (bd 0)), (1, .int x1), (2, .int x2), (4, .int v4_46), (5, .int v5_70)]) hx hb dX9_tellsPage_125 rfl hl (by decide) rfl (fun ls hl => ?_)
                        refine lv_iinc (v := v5_70 + (1 : Int32)) (lv' := [(5, .int (v5_70 + (1 : Int32))), (3, .int (v3_70 ||| ((1 : Int32) <<< (q86 &&& 31)))), (6, .int q84), (0, .ref (bd 0)), (1, .int x1), (2, .int x2), (4, .int v4_46)]) hx hb dX9_tellsPage_126 hl (k := 6) rfl rfl (by decide) rfl (fun ls hl => ?_)
                        refine lv_goto (tgt := 19) hx hb dX9_tellsPage_129 (by decide) ?_
                        exact ih19 k19 (v3_70 ||| ((1 : Int32) <<< (q86 &&& 31))) (v5_70 + (1 : Int32)) _ _ _ (lv_sub hl [3, 4, 5, 1, 6, 0] rfl) hP hS hs hk19
                  · have hs := ite_t hs b76
                    refine lv_aload_n hx hb dX9_tellsPage_56 rfl (lv_at hl 0 rfl) ?_
                    refine lv_iload hx hb dX9_tellsPage_57 (lv_at hl 4 rfl) ?_
                    refine lv_iload hx hb dX9_tellsPage_59 (lv_at hl 5 rfl) ?_
                    obtain ⟨q87, eq87, hs⟩ := ob hs
                    refine nd_callV (As := [.int v4_46, .int v5_70]) (rest := []) (st1 := [.int q87]) hx hb hml hown hts hl hP hK hD hS hA hN (mX9_sumOf eq87) iv_X9_sumOf wd_345 0 rfl rfl rfl rfl ⟨Nat.le_of_ble_eq_true rfl, Nat.le_of_ble_eq_true rfl⟩ (Nat.le_of_ble_eq_true rfl) ⟨Nat.zero_le _, Nat.zero_le _⟩ dX9_tellsPage_61 rfl rfl (fun H locs hP hD hS => ?_)
                    refine lv_goto (tgt := 99) hx hb dX9_tellsPage_64 (by decide) ?_
                    refine lv_istore (lv' := [(6, .int q87), (0, .ref (bd 0)), (1, .int x1), (2, .int x2), (3, .int v3_70), (4, .int v4_46), (5, .int v5_70)]) hx hb dX9_tellsPage_99 hl (by decide) rfl (fun ls hl => ?_)
                    refine lv_iload_n hx hb dX9_tellsPage_101 rfl (lv_at hl 3 rfl) ?_
                    refine lv_iconst (v := (4 : Int32)) hx hb dX9_tellsPage_102 (by decide) ?_
                    refine lv_icmp_ne (tgt := 121) hx hb dX9_tellsPage_103 (by decide) (fun b88 => ?_) (fun b88 => ?_)
                    · have hs := ite_f hs b88
                      refine lv_iload_n hx hb dX9_tellsPage_121 rfl (lv_at hl 4 rfl) ?_
                      refine lv_iload hx hb dX9_tellsPage_122 (lv_at hl 0 rfl) ?_
                      refine lv_iadd hx hb dX9_tellsPage_124 ?_
                      refine lv_istore_n (lv' := [(3, .int (v3_70 + q87)), (6, .int q87), (0, .ref (bd 0)), (1, .int x1), (2, .int x2), (4, .int v4_46), (5, .int v5_70)]) hx hb dX9_tellsPage_125 rfl hl (by decide) rfl (fun ls hl => ?_)
                      refine lv_iinc (v := v5_70 + (1 : Int32)) (lv' := [(5, .int (v5_70 + (1 : Int32))), (3, .int (v3_70 + q87)), (6, .int q87), (0, .ref (bd 0)), (1, .int x1), (2, .int x2), (4, .int v4_46)]) hx hb dX9_tellsPage_126 hl (k := 6) rfl rfl (by decide) rfl (fun ls hl => ?_)
                      refine lv_goto (tgt := 19) hx hb dX9_tellsPage_129 (by decide) ?_
                      exact ih19 k19 (v3_70 + q87) (v5_70 + (1 : Int32)) _ _ _ (lv_sub hl [3, 4, 5, 1, 6, 0] rfl) hP hS hs hk19
                    · have hs := ite_t hs b88
                      refine lv_iload_n hx hb dX9_tellsPage_106 rfl (lv_at hl 4 rfl) ?_
                      refine lv_iconst (v := (1 : Int32)) hx hb dX9_tellsPage_107 (by decide) ?_
                      refine lv_aload_n hx hb dX9_tellsPage_108 rfl (lv_at hl 1 rfl) ?_
                      refine lv_iload hx hb dX9_tellsPage_109 (lv_at hl 5 rfl) ?_
                      refine lv_iload hx hb dX9_tellsPage_111 (lv_at hl 6 rfl) ?_
                      obtain ⟨q89, eq89, hs⟩ := ob hs
                      refine nd_callV (As := [.int v4_46, .int v5_70]) (rest := [.int (1 : Int32), .int v3_70]) (st1 := [.int q89, .int (1 : Int32), .int v3_70]) hx hb hml hown hts hl hP hK hD hS hA hN (mX9_shopOf eq89) iv_X9_shopOf wd_645 0 rfl rfl rfl rfl ⟨Nat.le_of_ble_eq_true rfl, Nat.le_of_ble_eq_true rfl⟩ (Nat.le_of_ble_eq_true rfl) ⟨Nat.zero_le _, Nat.zero_le _⟩ dX9_tellsPage_113 rfl rfl (fun H locs hP hD hS => ?_)
                      refine lv_ishl hx hb dX9_tellsPage_116 ?_
                      refine lv_ior hx hb dX9_tellsPage_117 ?_
                      refine lv_goto (tgt := 125) hx hb dX9_tellsPage_118 (by decide) ?_
                      refine lv_istore_n (lv' := [(3, .int (v3_70 ||| ((1 : Int32) <<< (q89 &&& 31)))), (6, .int q87), (0, .ref (bd 0)), (1, .int x1), (2, .int x2), (4, .int v4_46), (5, .int v5_70)]) hx hb dX9_tellsPage_125 rfl hl (by decide) rfl (fun ls hl => ?_)
                      refine lv_iinc (v := v5_70 + (1 : Int32)) (lv' := [(5, .int (v5_70 + (1 : Int32))), (3, .int (v3_70 ||| ((1 : Int32) <<< (q89 &&& 31)))), (6, .int q87), (0, .ref (bd 0)), (1, .int x1), (2, .int x2), (4, .int v4_46)]) hx hb dX9_tellsPage_126 hl (k := 6) rfl rfl (by decide) rfl (fun ls hl => ?_)
                      refine lv_goto (tgt := 19) hx hb dX9_tellsPage_129 (by decide) ?_
                      exact ih19 k19 (v3_70 ||| ((1 : Int32) <<< (q89 &&& 31))) (v5_70 + (1 : Int32)) _ _ _ (lv_sub hl [3, 4, 5, 1, 6, 0] rfl) hP hS hs hk19
                · have hs := ite_t hs b75
                  refine lv_iconst (v := (1 : Int32)) hx hb dX9_tellsPage_47 (by decide) ?_
                  refine lv_goto (tgt := 99) hx hb dX9_tellsPage_48 (by decide) ?_
                  refine lv_istore (lv' := [(6, .int (1 : Int32)), (0, .ref (bd 0)), (1, .int x1), (2, .int x2), (3, .int v3_70), (4, .int v4_46), (5, .int v5_70)]) hx hb dX9_tellsPage_99 hl (by decide) rfl (fun ls hl => ?_)
                  refine lv_iload_n hx hb dX9_tellsPage_101 rfl (lv_at hl 3 rfl) ?_
                  refine lv_iconst (v := (4 : Int32)) hx hb dX9_tellsPage_102 (by decide) ?_
                  refine lv_icmp_ne (tgt := 121) hx hb dX9_tellsPage_103 (by decide) (fun b90 => ?_) (fun b90 => ?_)
                  · have hs := ite_f hs b90
                    refine lv_iload_n hx hb dX9_tellsPage_121 rfl (lv_at hl 4 rfl) ?_
                    refine lv_iload hx hb dX9_tellsPage_122 (lv_at hl 0 rfl) ?_
                    refine lv_iadd hx hb dX9_tellsPage_124 ?_
                    refine lv_istore_n (lv' := [(3, .int (v3_70 + (1 : Int32))), (6, .int (1 : Int32)), (0, .ref (bd 0)), (1, .int x1), (2, .int x2), (4, .int v4_46), (5, .int v5_70)]) hx hb dX9_tellsPage_125 rfl hl (by decide) rfl (fun ls hl => ?_)
                    refine lv_iinc (v := v5_70 + (1 : Int32)) (lv' := [(5, .int (v5_70 + (1 : Int32))), (3, .int (v3_70 + (1 : Int32))), (6, .int (1 : Int32)), (0, .ref (bd 0)), (1, .int x1), (2, .int x2), (4, .int v4_46)]) hx hb dX9_tellsPage_126 hl (k := 6) rfl rfl (by decide) rfl (fun ls hl => ?_)
                    refine lv_goto (tgt := 19) hx hb dX9_tellsPage_129 (by decide) ?_
                    exact ih19 k19 (v3_70 + (1 : Int32)) (v5_70 + (1 : Int32)) _ _ _ (lv_sub hl [3, 4, 5, 1, 6, 0] rfl) hP hS hs hk19
                  · have hs := ite_t hs b90
                    refine lv_iload_n hx hb dX9_tellsPage_106 rfl (lv_at hl 4 rfl) ?_
                    refine lv_iconst (v := (1 : Int32)) hx hb dX9_tellsPage_107 (by decide) ?_
                    refine lv_aload_n hx hb dX9_tellsPage_108 rfl (lv_at hl 1 rfl) ?_
                    refine lv_iload hx hb dX9_tellsPage_109 (lv_at hl 5 rfl) ?_
                    refine lv_iload hx hb dX9_tellsPage_111 (lv_at hl 6 rfl) ?_
                    obtain ⟨q91, eq91, hs⟩ := ob hs
                    refine nd_callV (As := [.int v4_46, .int v5_70]) (rest := [.int (1 : Int32), .int v3_70]) (st1 := [.int q91, .int (1 : Int32), .int v3_70]) hx hb hml hown hts hl hP hK hD hS hA hN (mX9_shopOf eq91) iv_X9_shopOf wd_645 0 rfl rfl rfl rfl ⟨Nat.le_of_ble_eq_true rfl, Nat.le_of_ble_eq_true rfl⟩ (Nat.le_of_ble_eq_true rfl) ⟨Nat.zero_le _, Nat.zero_le _⟩ dX9_tellsPage_113 rfl rfl (fun H locs hP hD hS => ?_)
                    refine lv_ishl hx hb dX9_tellsPage_116 ?_
                    refine lv_ior hx hb dX9_tellsPage_117 ?_
                    refine lv_goto (tgt := 125) hx hb dX9_tellsPage_118 (by decide) ?_
                    refine lv_istore_n (lv' := [(3, .int (v3_70 ||| ((1 : Int32) <<< (q91 &&& 31)))), (6, .int (1 : Int32)), (0, .ref (bd 0)), (1, .int x1), (2, .int x2), (4, .int v4_46), (5, .int v5_70)]) hx hb dX9_tellsPage_125 rfl hl (by decide) rfl (fun ls hl => ?_)
                    refine lv_iinc (v := v5_70 + (1 : Int32)) (lv' := [(5, .int (v5_70 + (1 : Int32))), (3, .int (v3_70 ||| ((1 : Int32) <<< (q91 &&& 31)))), (6, .int (1 : Int32)), (0, .ref (bd 0)), (1, .int x1), (2, .int x2), (4, .int v4_46)]) hx hb dX9_tellsPage_126 hl (k := 6) rfl rfl (by decide) rfl (fun ls hl => ?_)
                    refine lv_goto (tgt := 19) hx hb dX9_tellsPage_129 (by decide) ?_
                    exact ih19 k19 (v3_70 ||| ((1 : Int32) <<< (q91 &&& 31))) (v5_70 + (1 : Int32)) _ _ _ (lv_sub hl [3, 4, 5, 1, 6, 0] rfl) hP hS hs hk19
        refine L19 LF _ v3_46 (0 : Int32) _ _ _ (lv_sub hl [1, 2, 3, 4, 5, 0] rfl) hP hS hs (fun u3_70 H locs ls hl hP hS hs => ?_)
        refine lv_iinc (v := v4_46 + (1 : Int32)) (lv' := [(4, .int (v4_46 + (1 : Int32))), (0, .ref (bd 0)), (1, .int x1), (2, .int x2), (3, .int u3_70)]) hx hb dX9_tellsPage_132 hl (k := 4) rfl rfl (by decide) rfl (fun ls hl => ?_)
        refine lv_goto (tgt := 5) hx hb dX9_tellsPage_135 (by decide) ?_
        exact ih5 k5 u3_70 (v4_46 + (1 : Int32)) _ _ _ (lv_sub hl [1, 2, 3, 4, 0] rfl) hP hS hs hk5
  refine L5 LF _ (0 : Int32) (0 : Int32) _ _ _ (lv_sub hl [2, 3, 4, 1, 0] rfl) hP hS hs (fun u3_46 H locs ls hl hP hS hs => ?_)
  refine lv_iload_n hx hb dX9_tellsPage_138 rfl (lv_at hl 0 rfl) ?_
  exact hret _ hs hP hS dX9_tellsPage_139
def tX9_page_0 : List (Nat × Instr × Nat) := [(0, .aload_n 0, 1), (1, .iconst 0, 1), (2, .putfield 25, 3), (5, .iload_n 1, 1), (6, .iconst 0, 1), (7, .bipush 7, 2), (9, .invokestatic 29, 3), (12, .ifCond .eq 21, 3), (15, .iload_n 2, 1), (16, .iconst 0, 1), (17, .iconst 4, 1), (18, .invokestatic 29, 3), (21, .ifCond .eq 12, 3), (24, .aload_n 0, 1), (25, .iload_n 1, 1), (26, .iload_n 2, 1), (27, .invokevirtual 174, 3), (30, .goto 8, 3), (33, .aload_n 0, 1), (34, .iconst 1, 1), (35, .invokevirtual 79, 3), (38, .ireturn, 1)]
theorem tX9_page_0_ok : tX9_page_0.all (fun q => decide (decode cX9_page q.1 = .ok q.2)) = true := by decide +kernel
theorem dX9_page_0 : decode cX9_page 0 = .ok (.aload_n 0, 1) := td tX9_page_0_ok 0 (q := (0, .aload_n 0, 1)) rfl
theorem dX9_page_1 : decode cX9_page 1 = .ok (.iconst 0, 1) := td tX9_page_0_ok 1 (q := (1, .iconst 0, 1)) rfl
theorem dX9_page_2 : decode cX9_page 2 = .ok (.putfield 25, 3) := td tX9_page_0_ok 2 (q := (2, .putfield 25, 3)) rfl
theorem dX9_page_5 : decode cX9_page 5 = .ok (.iload_n 1, 1) := td tX9_page_0_ok 3 (q := (5, .iload_n 1, 1)) rfl
theorem dX9_page_6 : decode cX9_page 6 = .ok (.iconst 0, 1) := td tX9_page_0_ok 4 (q := (6, .iconst 0, 1)) rfl
theorem dX9_page_7 : decode cX9_page 7 = .ok (.bipush 7, 2) := td tX9_page_0_ok 5 (q := (7, .bipush 7, 2)) rfl
theorem dX9_page_9 : decode cX9_page 9 = .ok (.invokestatic 29, 3) := td tX9_page_0_ok 6 (q := (9, .invokestatic 29, 3)) rfl
theorem dX9_page_12 : decode cX9_page 12 = .ok (.ifCond .eq 21, 3) := td tX9_page_0_ok 7 (q := (12, .ifCond .eq 21, 3)) rfl
theorem dX9_page_15 : decode cX9_page 15 = .ok (.iload_n 2, 1) := td tX9_page_0_ok 8 (q := (15, .iload_n 2, 1)) rfl
theorem dX9_page_16 : decode cX9_page 16 = .ok (.iconst 0, 1) := td tX9_page_0_ok 9 (q := (16, .iconst 0, 1)) rfl
theorem dX9_page_17 : decode cX9_page 17 = .ok (.iconst 4, 1) := td tX9_page_0_ok 10 (q := (17, .iconst 4, 1)) rfl
theorem dX9_page_18 : decode cX9_page 18 = .ok (.invokestatic 29, 3) := td tX9_page_0_ok 11 (q := (18, .invokestatic 29, 3)) rfl
theorem dX9_page_21 : decode cX9_page 21 = .ok (.ifCond .eq 12, 3) := td tX9_page_0_ok 12 (q := (21, .ifCond .eq 12, 3)) rfl
theorem dX9_page_24 : decode cX9_page 24 = .ok (.aload_n 0, 1) := td tX9_page_0_ok 13 (q := (24, .aload_n 0, 1)) rfl
theorem dX9_page_25 : decode cX9_page 25 = .ok (.iload_n 1, 1) := td tX9_page_0_ok 14 (q := (25, .iload_n 1, 1)) rfl
theorem dX9_page_26 : decode cX9_page 26 = .ok (.iload_n 2, 1) := td tX9_page_0_ok 15 (q := (26, .iload_n 2, 1)) rfl
theorem dX9_page_27 : decode cX9_page 27 = .ok (.invokevirtual 174, 3) := td tX9_page_0_ok 16 (q := (27, .invokevirtual 174, 3)) rfl
theorem dX9_page_30 : decode cX9_page 30 = .ok (.goto 8, 3) := td tX9_page_0_ok 17 (q := (30, .goto 8, 3)) rfl
theorem dX9_page_33 : decode cX9_page 33 = .ok (.aload_n 0, 1) := td tX9_page_0_ok 18 (q := (33, .aload_n 0, 1)) rfl
theorem dX9_page_34 : decode cX9_page 34 = .ok (.iconst 1, 1) := td tX9_page_0_ok 19 (q := (34, .iconst 1, 1)) rfl
theorem dX9_page_35 : decode cX9_page 35 = .ok (.invokevirtual 79, 3) := td tX9_page_0_ok 20 (q := (35, .invokevirtual 79, 3)) rfl
theorem dX9_page_38 : decode cX9_page 38 = .ok (.ireturn, 1) := td tX9_page_0_ok 21 (q := (38, .ireturn, 1)) rfl
def fX9_page (ms : (Nat → Int32)) (mt : Int32) (x1 : Int32) (x2 : Int32) : Option (Int32 × Int32) :=
  (Option.bind (fX9_in x1 (0 : Int32) (7 : Int32)) (fun q1 => (if q1 = 0 then (Option.bind (fX9_fails (0 : Int32) (1 : Int32)) (fun q3 => (some (q3.1, q3.2)))) else (Option.bind (fX9_in x2 (0 : Int32) (4 : Int32)) (fun q4 => (if q4 = 0 then (Option.bind (fX9_fails (0 : Int32) (1 : Int32)) (fun q6 => (some (q6.1, q6.2)))) else (Option.bind (fX9_tellsPage ms x1 x2) (fun q7 => (some (q7, (0 : Int32)))))))))))
set_option maxHeartbeats 4000000 in
set_option maxRecDepth 100000 in
theorem mX9_page {l : Launch} {D : va_G} {bd : Nat → Nat} {cI : ClassId} {ms : (Nat → Int32)} {msv : (Nat → Int32)} {mb : (Nat → Int32)} {mf : (Nat → Int32)} {mr : (Nat → Int32)} {mt : Int32} {mn : Int32} {ml : Int32} {mat : Int32} {mw : Int32} {mm : Int32} {mh : Int64} {x1 : Int32} {x2 : Int32} {r : Int32} {mt' : Int32} (hs : fX9_page ms mt x1 x2 = some (r, mt')) : nd_C l yX9_page cX9_page 3 (some .int) 4 100 D [(cI, .int)] [.ref (bd 0), .int x1, .int x2] (MW bd cI ms msv mb mf mr mt mn ml mat mw mm mh) (MW bd cI ms msv mb mf mr mt' mn ml mat mw mm mh) (some (.int r)) := by
  refine nd_ofCi (by decide) (Nat.le_of_ble_eq_true rfl) (fun p e s m args below meth c_ ls A Q hx hb hml hown hts hl hP hK hD hS hA hN hret => ?_)
  have hown : s.vm.findClass RX9 = some m.cls := hown
  have hl : lv_has ls 3 [(0, .ref (bd 0)), (1, .int x1), (2, .int x2)] := hl
  have hret : ∀ (z0 : Int32) (z1 : Int32) {H : Heap} {locs : List Loc} {pc : Nat} {ls : Array Slot}, some (z0, z1) = some (r, mt') → va_P D vwCl (MW bd cI ms msv mb mf mr z1 mn ml mat mw mm mh) H → va_S A s.heap H locs → decode cX9_page pc = .ok (.ireturn, 1) → W p l e ⟨4, 0, 0, 100⟩ s m args below meth c_ H locs 0 0 Q (F0 m pc ls [.int z0]) := by
    intro z0 z1 H locs pc ls h hP hS hd
    cases h
    exact hret hP hS hd
  rw [fX9_page] at hs
  refine lv_aload_n hx hb dX9_page_0 rfl (lv_at hl 0 rfl) ?_
  refine lv_iconst (v := (0 : Int32)) hx hb dX9_page_1 (by decide) ?_
  refine pf_X9_25 hx hb hts hown hK hP hD hS 0 rfl rfl dX9_page_2 (fun H locs hP hD hS => ?_)
  have hP : va_P D vwCl (MW bd cI ms msv mb mf mr (0 : Int32) mn ml mat mw mm mh) H := hP
  have hD : va_D A (MW bd cI ms msv mb mf mr (0 : Int32) mn ml mat mw mm mh) := hD
  refine lv_iload_n hx hb dX9_page_5 rfl (lv_at hl 1 rfl) ?_
  refine lv_iconst (v := (0 : Int32)) hx hb dX9_page_6 (by decide) ?_
  refine lv_bipush (v := (7 : Int32)) hx hb dX9_page_7 (by decide) ?_
  obtain ⟨q1, eq1, hs⟩ := ob hs
  refine nd_callS (As := [.int x1, .int (0 : Int32), .int (7 : Int32)]) (rest := []) (st1 := [.int q1]) hx hb hml hown hts hl hP hK hD hS hA hN (mX9_in eq1) is_X9_in wd_127 rfl rfl ⟨Nat.le_of_ble_eq_true rfl, Nat.le_of_ble_eq_true rfl⟩ (Nat.le_of_ble_eq_true rfl) ⟨Nat.zero_le _, Nat.zero_le _⟩ dX9_page_9 rfl rfl (fun H locs hP hD hS => ?_)
  refine lv_if_eq (tgt := 33) hx hb dX9_page_12 (by decide) (fun b2 => ?_) (fun b2 => ?_)
  · have hs := ite_t hs b2
    refine lv_aload_n hx hb dX9_page_33 rfl (lv_at hl 0 rfl) ?_
    refine lv_iconst (v := (1 : Int32)) hx hb dX9_page_34 (by decide) ?_
    obtain ⟨q3, eq3, hs⟩ := ob hs
    refine nd_callV (As := [.int (1 : Int32)]) (rest := []) (st1 := [.int q3.1]) hx hb hml hown hts hl hP hK hD hS hA hN (mX9_fails eq3) iv_X9_fails wd_130 0 rfl rfl rfl rfl ⟨Nat.le_of_ble_eq_true rfl, Nat.le_of_ble_eq_true rfl⟩ (Nat.le_of_ble_eq_true rfl) ⟨Nat.zero_le _, Nat.zero_le _⟩ dX9_page_35 rfl rfl (fun H locs hP hD hS => ?_)
    exact hret _ _ hs hP hS dX9_page_38
  · have hs := ite_f hs b2
    refine lv_iload_n hx hb dX9_page_15 rfl (lv_at hl 2 rfl) ?_
    refine lv_iconst (v := (0 : Int32)) hx hb dX9_page_16 (by decide) ?_
    refine lv_iconst (v := (4 : Int32)) hx hb dX9_page_17 (by decide) ?_
    obtain ⟨q4, eq4, hs⟩ := ob hs
    refine nd_callS (As := [.int x2, .int (0 : Int32), .int (4 : Int32)]) (rest := []) (st1 := [.int q4]) hx hb hml hown hts hl hP hK hD hS hA hN (mX9_in eq4) is_X9_in wd_127 rfl rfl ⟨Nat.le_of_ble_eq_true rfl, Nat.le_of_ble_eq_true rfl⟩ (Nat.le_of_ble_eq_true rfl) ⟨Nat.zero_le _, Nat.zero_le _⟩ dX9_page_18 rfl rfl (fun H locs hP hD hS => ?_)
    refine lv_if_eq (tgt := 33) hx hb dX9_page_21 (by decide) (fun b5 => ?_) (fun b5 => ?_)
    · have hs := ite_t hs b5
      refine lv_aload_n hx hb dX9_page_33 rfl (lv_at hl 0 rfl) ?_
      refine lv_iconst (v := (1 : Int32)) hx hb dX9_page_34 (by decide) ?_
      obtain ⟨q6, eq6, hs⟩ := ob hs
      refine nd_callV (As := [.int (1 : Int32)]) (rest := []) (st1 := [.int q6.1]) hx hb hml hown hts hl hP hK hD hS hA hN (mX9_fails eq6) iv_X9_fails wd_130 0 rfl rfl rfl rfl ⟨Nat.le_of_ble_eq_true rfl, Nat.le_of_ble_eq_true rfl⟩ (Nat.le_of_ble_eq_true rfl) ⟨Nat.zero_le _, Nat.zero_le _⟩ dX9_page_35 rfl rfl (fun H locs hP hD hS => ?_)
      exact hret _ _ hs hP hS dX9_page_38
    · have hs := ite_f hs b5
      refine lv_aload_n hx hb dX9_page_24 rfl (lv_at hl 0 rfl) ?_
      refine lv_iload_n hx hb dX9_page_25 rfl (lv_at hl 1 rfl) ?_
      refine lv_iload_n hx hb dX9_page_26 rfl (lv_at hl 2 rfl) ?_
      obtain ⟨q7, eq7, hs⟩ := ob hs
      refine nd_callV (As := [.int x1, .int x2]) (rest := []) (st1 := [.int q7]) hx hb hml hown hts hl hP hK hD hS hA hN (mX9_tellsPage eq7) iv_X9_tellsPage wd_671 0 rfl rfl rfl rfl ⟨Nat.le_of_ble_eq_true rfl, Nat.le_of_ble_eq_true rfl⟩ (Nat.le_of_ble_eq_true rfl) ⟨Nat.zero_le _, Nat.zero_le _⟩ dX9_page_27 rfl rfl (fun H locs hP hD hS => ?_)
      refine lv_goto (tgt := 38) hx hb dX9_page_30 (by decide) ?_
      exact hret _ _ hs hP hS dX9_page_38
def tX9_rankOf_0 : List (Nat × Instr × Nat) := [(0, .iconst 0, 1), (1, .istore_n 3, 1), (2, .iconst 0, 1), (3, .istore 4, 2), (5, .iload 4, 2), (7, .aload_n 0, 1), (8, .getfield 7, 3), (11, .iconst 0, 1), (12, .iaload, 1), (13, .if_icmp .ge 112, 3), (16, .iconst 0, 1), (17, .istore 5, 2), (19, .iload 5, 2), (21, .aload_n 0, 1), (22, .iload 4, 2), (24, .iconst 2, 1), (25, .invokevirtual 33, 3), (28, .if_icmp .ge 91, 3), (31, .aload_n 0, 1), (32, .iload_n 1, 1), (33, .iload_n 2, 1), (34, .invokevirtual 57, 3), (37, .aload_n 0, 1), (38, .iload 4, 2), (40, .iload 5, 2), (42, .invokevirtual 57, 3), (45, .isub, 1), (46, .istore 6, 2), (48, .iload 6, 2), (50, .ifCond .gt 26, 3), (53, .iload 6, 2), (55, .ifCond .ne 25, 3), (58, .iload 4, 2), (60, .iload_n 1, 1), (61, .if_icmp .lt 15, 3), (64, .iload 4, 2), (66, .iload_n 1, 1), (67, .if_icmp .ne 13, 3), (70, .iload 5, 2), (72, .iload_n 2, 1), (73, .if_icmp .ge 7, 3), (76, .iconst 1, 1), (77, .goto 4, 3), (80, .iconst 0, 1), (81, .istore 7, 2), (83, .iload_n 3, 1), (84, .iload 7, 2), (86, .ifCond .eq 24, 3), (89, .aload_n 0, 1), (90, .iload 4, 2), (92, .iload 5, 2), (94, .invokevirtual 161, 3), (97, .aload_n 0, 1), (98, .iload_n 1, 1), (99, .iload_n 2, 1), (100, .invokevirtual 161, 3), (103, .if_icmp .ne 7, 3), (106, .iconst 1, 1), (107, .goto 4, 3), (110, .iconst 0, 1)]
theorem tX9_rankOf_0_ok : tX9_rankOf_0.all (fun q => decide (decode cX9_rankOf q.1 = .ok q.2)) = true := by decide +kernel
theorem dX9_rankOf_0 : decode cX9_rankOf 0 = .ok (.iconst 0, 1) := td tX9_rankOf_0_ok 0 (q := (0, .iconst 0, 1)) rfl
theorem dX9_rankOf_1 : decode cX9_rankOf 1 = .ok (.istore_n 3, 1) := td tX9_rankOf_0_ok 1 (q := (1, .istore_n 3, 1)) rfl
theorem dX9_rankOf_2 : decode cX9_rankOf 2 = .ok (.iconst 0, 1) := td tX9_rankOf_0_ok 2 (q := (2, .iconst 0, 1)) rfl
theorem dX9_rankOf_3 : decode cX9_rankOf 3 = .ok (.istore 4, 2) := td tX9_rankOf_0_ok 3 (q := (3, .istore 4, 2)) rfl
theorem dX9_rankOf_5 : decode cX9_rankOf 5 = .ok (.iload 4, 2) := td tX9_rankOf_0_ok 4 (q := (5, .iload 4, 2)) rfl
theorem dX9_rankOf_7 : decode cX9_rankOf 7 = .ok (.aload_n 0, 1) := td tX9_rankOf_0_ok 5 (q := (7, .aload_n 0, 1)) rfl
theorem dX9_rankOf_8 : decode cX9_rankOf 8 = .ok (.getfield 7, 3) := td tX9_rankOf_0_ok 6 (q := (8, .getfield 7, 3)) rfl
theorem dX9_rankOf_11 : decode cX9_rankOf 11 = .ok (.iconst 0, 1) := td tX9_rankOf_0_ok 7 (q := (11, .iconst 0, 1)) rfl
theorem dX9_rankOf_12 : decode cX9_rankOf 12 = .ok (.iaload, 1) := td tX9_rankOf_0_ok 8 (q := (12, .iaload, 1)) rfl
theorem dX9_rankOf_13 : decode cX9_rankOf 13 = .ok (.if_icmp .ge 112, 3) := td tX9_rankOf_0_ok 9 (q := (13, .if_icmp .ge 112, 3)) rfl
theorem dX9_rankOf_16 : decode cX9_rankOf 16 = .ok (.iconst 0, 1) := td tX9_rankOf_0_ok 10 (q := (16, .iconst 0, 1)) rfl
theorem dX9_rankOf_17 : decode cX9_rankOf 17 = .ok (.istore 5, 2) := td tX9_rankOf_0_ok 11 (q := (17, .istore 5, 2)) rfl
theorem dX9_rankOf_19 : decode cX9_rankOf 19 = .ok (.iload 5, 2) := td tX9_rankOf_0_ok 12 (q := (19, .iload 5, 2)) rfl
theorem dX9_rankOf_21 : decode cX9_rankOf 21 = .ok (.aload_n 0, 1) := td tX9_rankOf_0_ok 13 (q := (21, .aload_n 0, 1)) rfl
theorem dX9_rankOf_22 : decode cX9_rankOf 22 = .ok (.iload 4, 2) := td tX9_rankOf_0_ok 14 (q := (22, .iload 4, 2)) rfl
theorem dX9_rankOf_24 : decode cX9_rankOf 24 = .ok (.iconst 2, 1) := td tX9_rankOf_0_ok 15 (q := (24, .iconst 2, 1)) rfl
theorem dX9_rankOf_25 : decode cX9_rankOf 25 = .ok (.invokevirtual 33, 3) := td tX9_rankOf_0_ok 16 (q := (25, .invokevirtual 33, 3)) rfl
theorem dX9_rankOf_28 : decode cX9_rankOf 28 = .ok (.if_icmp .ge 91, 3) := td tX9_rankOf_0_ok 17 (q := (28, .if_icmp .ge 91, 3)) rfl
theorem dX9_rankOf_31 : decode cX9_rankOf 31 = .ok (.aload_n 0, 1) := td tX9_rankOf_0_ok 18 (q := (31, .aload_n 0, 1)) rfl
theorem dX9_rankOf_32 : decode cX9_rankOf 32 = .ok (.iload_n 1, 1) := td tX9_rankOf_0_ok 19 (q := (32, .iload_n 1, 1)) rfl
theorem dX9_rankOf_33 : decode cX9_rankOf 33 = .ok (.iload_n 2, 1) := td tX9_rankOf_0_ok 20 (q := (33, .iload_n 2, 1)) rfl
theorem dX9_rankOf_34 : decode cX9_rankOf 34 = .ok (.invokevirtual 57, 3) := td tX9_rankOf_0_ok 21 (q := (34, .invokevirtual 57, 3)) rfl
theorem dX9_rankOf_37 : decode cX9_rankOf 37 = .ok (.aload_n 0, 1) := td tX9_rankOf_0_ok 22 (q := (37, .aload_n 0, 1)) rfl
theorem dX9_rankOf_38 : decode cX9_rankOf 38 = .ok (.iload 4, 2) := td tX9_rankOf_0_ok 23 (q := (38, .iload 4, 2)) rfl
theorem dX9_rankOf_40 : decode cX9_rankOf 40 = .ok (.iload 5, 2) := td tX9_rankOf_0_ok 24 (q := (40, .iload 5, 2)) rfl
theorem dX9_rankOf_42 : decode cX9_rankOf 42 = .ok (.invokevirtual 57, 3) := td tX9_rankOf_0_ok 25 (q := (42, .invokevirtual 57, 3)) rfl
theorem dX9_rankOf_45 : decode cX9_rankOf 45 = .ok (.isub, 1) := td tX9_rankOf_0_ok 26 (q := (45, .isub, 1)) rfl
theorem dX9_rankOf_46 : decode cX9_rankOf 46 = .ok (.istore 6, 2) := td tX9_rankOf_0_ok 27 (q := (46, .istore 6, 2)) rfl
theorem dX9_rankOf_48 : decode cX9_rankOf 48 = .ok (.iload 6, 2) := td tX9_rankOf_0_ok 28 (q := (48, .iload 6, 2)) rfl
theorem dX9_rankOf_50 : decode cX9_rankOf 50 = .ok (.ifCond .gt 26, 3) := td tX9_rankOf_0_ok 29 (q := (50, .ifCond .gt 26, 3)) rfl
theorem dX9_rankOf_53 : decode cX9_rankOf 53 = .ok (.iload 6, 2) := td tX9_rankOf_0_ok 30 (q := (53, .iload 6, 2)) rfl
theorem dX9_rankOf_55 : decode cX9_rankOf 55 = .ok (.ifCond .ne 25, 3) := td tX9_rankOf_0_ok 31 (q := (55, .ifCond .ne 25, 3)) rfl
theorem dX9_rankOf_58 : decode cX9_rankOf 58 = .ok (.iload 4, 2) := td tX9_rankOf_0_ok 32 (q := (58, .iload 4, 2)) rfl
theorem dX9_rankOf_60 : decode cX9_rankOf 60 = .ok (.iload_n 1, 1) := td tX9_rankOf_0_ok 33 (q := (60, .iload_n 1, 1)) rfl
theorem dX9_rankOf_61 : decode cX9_rankOf 61 = .ok (.if_icmp .lt 15, 3) := td tX9_rankOf_0_ok 34 (q := (61, .if_icmp .lt 15, 3)) rfl
theorem dX9_rankOf_64 : decode cX9_rankOf 64 = .ok (.iload 4, 2) := td tX9_rankOf_0_ok 35 (q := (64, .iload 4, 2)) rfl
theorem dX9_rankOf_66 : decode cX9_rankOf 66 = .ok (.iload_n 1, 1) := td tX9_rankOf_0_ok 36 (q := (66, .iload_n 1, 1)) rfl
theorem dX9_rankOf_67 : decode cX9_rankOf 67 = .ok (.if_icmp .ne 13, 3) := td tX9_rankOf_0_ok 37 (q := (67, .if_icmp .ne 13, 3)) rfl
theorem dX9_rankOf_70 : decode cX9_rankOf 70 = .ok (.iload 5, 2) := td tX9_rankOf_0_ok 38 (q := (70, .iload 5, 2)) rfl
theorem dX9_rankOf_72 : decode cX9_rankOf 72 = .ok (.iload_n 2, 1) := td tX9_rankOf_0_ok 39 (q := (72, .iload_n 2, 1)) rfl
theorem dX9_rankOf_73 : decode cX9_rankOf 73 = .ok (.if_icmp .ge 7, 3) := td tX9_rankOf_0_ok 40 (q := (73, .if_icmp .ge 7, 3)) rfl
theorem dX9_rankOf_76 : decode cX9_rankOf 76 = .ok (.iconst 1, 1) := td tX9_rankOf_0_ok 41 (q := (76, .iconst 1, 1)) rfl
theorem dX9_rankOf_77 : decode cX9_rankOf 77 = .ok (.goto 4, 3) := td tX9_rankOf_0_ok 42 (q := (77, .goto 4, 3)) rfl
theorem dX9_rankOf_80 : decode cX9_rankOf 80 = .ok (.iconst 0, 1) := td tX9_rankOf_0_ok 43 (q := (80, .iconst 0, 1)) rfl
theorem dX9_rankOf_81 : decode cX9_rankOf 81 = .ok (.istore 7, 2) := td tX9_rankOf_0_ok 44 (q := (81, .istore 7, 2)) rfl
theorem dX9_rankOf_83 : decode cX9_rankOf 83 = .ok (.iload_n 3, 1) := td tX9_rankOf_0_ok 45 (q := (83, .iload_n 3, 1)) rfl
theorem dX9_rankOf_84 : decode cX9_rankOf 84 = .ok (.iload 7, 2) := td tX9_rankOf_0_ok 46 (q := (84, .iload 7, 2)) rfl
theorem dX9_rankOf_86 : decode cX9_rankOf 86 = .ok (.ifCond .eq 24, 3) := td tX9_rankOf_0_ok 47 (q := (86, .ifCond .eq 24, 3)) rfl
theorem dX9_rankOf_89 : decode cX9_rankOf 89 = .ok (.aload_n 0, 1) := td tX9_rankOf_0_ok 48 (q := (89, .aload_n 0, 1)) rfl
theorem dX9_rankOf_90 : decode cX9_rankOf 90 = .ok (.iload 4, 2) := td tX9_rankOf_0_ok 49 (q := (90, .iload 4, 2)) rfl
theorem dX9_rankOf_92 : decode cX9_rankOf 92 = .ok (.iload 5, 2) := td tX9_rankOf_0_ok 50 (q := (92, .iload 5, 2)) rfl
theorem dX9_rankOf_94 : decode cX9_rankOf 94 = .ok (.invokevirtual 161, 3) := td tX9_rankOf_0_ok 51 (q := (94, .invokevirtual 161, 3)) rfl
theorem dX9_rankOf_97 : decode cX9_rankOf 97 = .ok (.aload_n 0, 1) := td tX9_rankOf_0_ok 52 (q := (97, .aload_n 0, 1)) rfl
theorem dX9_rankOf_98 : decode cX9_rankOf 98 = .ok (.iload_n 1, 1) := td tX9_rankOf_0_ok 53 (q := (98, .iload_n 1, 1)) rfl
theorem dX9_rankOf_99 : decode cX9_rankOf 99 = .ok (.iload_n 2, 1) := td tX9_rankOf_0_ok 54 (q := (99, .iload_n 2, 1)) rfl
theorem dX9_rankOf_100 : decode cX9_rankOf 100 = .ok (.invokevirtual 161, 3) := td tX9_rankOf_0_ok 55 (q := (100, .invokevirtual 161, 3)) rfl
theorem dX9_rankOf_103 : decode cX9_rankOf 103 = .ok (.if_icmp .ne 7, 3) := td tX9_rankOf_0_ok 56 (q := (103, .if_icmp .ne 7, 3)) rfl
theorem dX9_rankOf_106 : decode cX9_rankOf 106 = .ok (.iconst 1, 1) := td tX9_rankOf_0_ok 57 (q := (106, .iconst 1, 1)) rfl
theorem dX9_rankOf_107 : decode cX9_rankOf 107 = .ok (.goto 4, 3) := td tX9_rankOf_0_ok 58 (q := (107, .goto 4, 3)) rfl
theorem dX9_rankOf_110 : decode cX9_rankOf 110 = .ok (.iconst 0, 1) := td tX9_rankOf_0_ok 59 (q := (110, .iconst 0, 1)) rfl
def tX9_rankOf_1 : List (Nat × Instr × Nat) := [(111, .iadd, 1), (112, .istore_n 3, 1), (113, .iinc 5 1, 3), (116, .goto (-97), 3), (119, .iinc 4 1, 3), (122, .goto (-117), 3), (125, .iload_n 3, 1), (126, .ireturn, 1)]
theorem tX9_rankOf_1_ok : tX9_rankOf_1.all (fun q => decide (decode cX9_rankOf q.1 = .ok q.2)) = true := by decide +kernel
theorem dX9_rankOf_111 : decode cX9_rankOf 111 = .ok (.iadd, 1) := td tX9_rankOf_1_ok 0 (q := (111, .iadd, 1)) rfl
theorem dX9_rankOf_112 : decode cX9_rankOf 112 = .ok (.istore_n 3, 1) := td tX9_rankOf_1_ok 1 (q := (112, .istore_n 3, 1)) rfl
theorem dX9_rankOf_113 : decode cX9_rankOf 113 = .ok (.iinc 5 1, 3) := td tX9_rankOf_1_ok 2 (q := (113, .iinc 5 1, 3)) rfl
theorem dX9_rankOf_116 : decode cX9_rankOf 116 = .ok (.goto (-97), 3) := td tX9_rankOf_1_ok 3 (q := (116, .goto (-97), 3)) rfl
theorem dX9_rankOf_119 : decode cX9_rankOf 119 = .ok (.iinc 4 1, 3) := td tX9_rankOf_1_ok 4 (q := (119, .iinc 4 1, 3)) rfl
theorem dX9_rankOf_122 : decode cX9_rankOf 122 = .ok (.goto (-117), 3) := td tX9_rankOf_1_ok 5 (q := (122, .goto (-117), 3)) rfl
theorem dX9_rankOf_125 : decode cX9_rankOf 125 = .ok (.iload_n 3, 1) := td tX9_rankOf_1_ok 6 (q := (125, .iload_n 3, 1)) rfl
theorem dX9_rankOf_126 : decode cX9_rankOf 126 = .ok (.ireturn, 1) := td tX9_rankOf_1_ok 7 (q := (126, .ireturn, 1)) rfl
def fX9_rankOf_19 (k19 : Int32 → Option (Int32)) (ms : (Nat → Int32)) (x1 : Int32) (x2 : Int32) (x4 : Int32) : Nat → Int32 → Int32 → Option (Int32)
  | 0, _, _ => none
  | n19 + 1, x3, x5 => (Option.bind (fX9_of ms x4 (2 : Int32)) (fun q3 => (if q3 ≤ x5 then (k19 x3) else (Option.bind (fX9_timeOf ms x1 x2) (fun q5 => (Option.bind (fX9_timeOf ms x4 x5) (fun q6 => (if 0 < (q5 - q6) then (Option.bind (fX9_pageOf ms x4 x5) (fun q8 => (Option.bind (fX9_pageOf ms x1 x2) (fun q9 => (if q8 = q9 then (fX9_rankOf_19 k19 ms x1 x2 x4 n19 (x3 + (1 : Int32)) (x5 + (1 : Int32))) else (fX9_rankOf_19 k19 ms x1 x2 x4 n19 (x3 + (0 : Int32)) (x5 + (1 : Int32)))))))) else (if (q5 - q6) = 0 then (if x4 < x1 then (Option.bind (fX9_pageOf ms x4 x5) (fun q13 => (Option.bind (fX9_pageOf ms x1 x2) (fun q14 => (if q13 = q14 then (fX9_rankOf_19 k19 ms x1 x2 x4 n19 (x3 + (1 : Int32)) (x5 + (1 : Int32))) else (fX9_rankOf_19 k19 ms x1 x2 x4 n19 (x3 + (0 : Int32)) (x5 + (1 : Int32)))))))) else (if x4 = x1 then (if x2 ≤ x5 then (fX9_rankOf_19 k19 ms x1 x2 x4 n19 (x3 + (0 : Int32)) (x5 + (1 : Int32))) else (Option.bind (fX9_pageOf ms x4 x5) (fun q18 => (Option.bind (fX9_pageOf ms x1 x2) (fun q19 => (if q18 = q19 then (fX9_rankOf_19 k19 ms x1 x2 x4 n19 (x3 + (1 : Int32)) (x5 + (1 : Int32))) else (fX9_rankOf_19 k19 ms x1 x2 x4 n19 (x3 + (0 : Int32)) (x5 + (1 : Int32))))))))) else (fX9_rankOf_19 k19 ms x1 x2 x4 n19 (x3 + (0 : Int32)) (x5 + (1 : Int32))))) else (fX9_rankOf_19 k19 ms x1 x2 x4 n19 (x3 + (0 : Int32)) (x5 + (1 : Int32))))))))))))
def fX9_rankOf_5 (k5 : Int32 → Option (Int32)) (ms : (Nat → Int32)) (x1 : Int32) (x2 : Int32) : Nat → Int32 → Int32 → Option (Int32)
  | 0, _, _ => none
  | n5 + 1, x3, x4 => (Option.bind (aget ms 531 (0 : Int32)) (fun t1 => (if t1 ≤ x4 then (k5 x3) else (fX9_rankOf_19 (fun (u3_21 : Int32) => (fX9_rankOf_5 k5 ms x1 x2 n5 u3_21 (x4 + (1 : Int32)))) ms x1 x2 x4 LF x3 (0 : Int32)))))
def fX9_rankOf (ms : (Nat → Int32)) (x1 : Int32) (x2 : Int32) : Option (Int32) :=
  (fX9_rankOf_5 (fun (u3_40 : Int32) => (some u3_40)) ms x1 x2 LF (0 : Int32) (0 : Int32))
set_option maxHeartbeats 4000000 in
set_option maxRecDepth 100000 in
theorem mX9_rankOf {l : Launch} {D : va_G} {bd : Nat → Nat} {cI : ClassId} {ms : (Nat → Int32)} {msv : (Nat → Int32)} {mb : (Nat → Int32)} {mf : (Nat → Int32)} {mr : (Nat → Int32)} {mt : Int32} {mn : Int32} {ml : Int32} {mat : Int32} {mw : Int32} {mm : Int32} {mh : Int64} {x1 : Int32} {x2 : Int32} {r : Int32} (hs : fX9_rankOf ms x1 x2 = some r) : nd_C l yX9_rankOf cX9_rankOf 8 (some .int) 3 65 D [(cI, .int)] [.ref (bd 0), .int x1, .int x2] (MW bd cI ms msv mb mf mr mt mn ml mat mw mm mh) (MW bd cI ms msv mb mf mr mt mn ml mat mw mm mh) (some (.int r)) := by
  refine nd_ofCi (by decide) (Nat.le_of_ble_eq_true rfl) (fun p e s m args below meth c_ ls A Q hx hb hml hown hts hl hP hK hD hS hA hN hret => ?_)
  have hown : s.vm.findClass RX9 = some m.cls := hown
  have hl : lv_has ls 8 [(0, .ref (bd 0)), (1, .int x1), (2, .int x2)] := hl
  have hret : ∀ (z0 : Int32) {H : Heap} {locs : List Loc} {pc : Nat} {ls : Array Slot}, some z0 = some r → va_P D vwCl (MW bd cI ms msv mb mf mr mt mn ml mat mw mm mh) H → va_S A s.heap H locs → decode cX9_rankOf pc = .ok (.ireturn, 1) → W p l e ⟨3, 0, 0, 65⟩ s m args below meth c_ H locs 0 0 Q (F0 m pc ls [.int z0]) := by
    intro z0 H locs pc ls h hP hS hd
    cases h
    exact hret hP hS hd
  rw [fX9_rankOf] at hs
  refine lv_iconst (v := (0 : Int32)) hx hb dX9_rankOf_0 (by decide) ?_
  refine lv_istore_n (lv' := [(3, .int (0 : Int32)), (0, .ref (bd 0)), (1, .int x1), (2, .int x2)]) hx hb dX9_rankOf_1 rfl hl (by decide) rfl (fun ls hl => ?_)
  refine lv_iconst (v := (0 : Int32)) hx hb dX9_rankOf_2 (by decide) ?_
  refine lv_istore (lv' := [(4, .int (0 : Int32)), (3, .int (0 : Int32)), (0, .ref (bd 0)), (1, .int x1), (2, .int x2)]) hx hb dX9_rankOf_3 hl (by decide) rfl (fun ls hl => ?_)
  have L5 : ∀ (n5 : Nat) (k5 : Int32 → Option (Int32)) (v3_40 : Int32) (v4_40 : Int32) (H : Heap) (locs : List Loc) (ls : Array Slot), lv_has ls 8 [(0, .ref (bd 0)), (1, .int x1), (2, .int x2), (3, .int v3_40), (4, .int v4_40)] → va_P D vwCl (MW bd cI ms msv mb mf mr mt mn ml mat mw mm mh) H → va_S A s.heap H locs → fX9_rankOf_5 k5 ms x1 x2 n5 v3_40 v4_40 = some r → (∀ (u3_40 : Int32) (H : Heap) (locs : List Loc) (ls : Array Slot), lv_has ls 8 [(3, .int u3_40)] → va_P D vwCl (MW bd cI ms msv mb mf mr mt mn ml mat mw mm mh) H → va_S A s.heap H locs → k5 u3_40 = some r → W p l e ⟨3, 0, 0, 65⟩ s m args below meth c_ H locs 0 0 Q (F0 m 125 ls [])) → W p l e ⟨3, 0, 0, 65⟩ s m args below meth c_ H locs 0 0 Q (F0 m 5 ls []) := by
    intro n5
    induction n5 with
    | zero =>
      intro k5 v3_40 v4_40 H locs ls hl hP hS hs hk5
      rw [fX9_rankOf_5] at hs
      cases hs
    | succ n5 ih5 =>
      intro k5 v3_40 v4_40 H locs ls hl hP hS hs hk5
      rw [fX9_rankOf_5] at hs
      refine lv_iload hx hb dX9_rankOf_5 (lv_at hl 4 rfl) ?_
      refine lv_aload_n hx hb dX9_rankOf_7 rfl (lv_at hl 0 rfl) ?_
      refine gf_X9_7 hx hb hts hown hK hP 0 rfl rfl dX9_rankOf_8 ?_
      refine lv_iconst (v := (0 : Int32)) hx hb dX9_rankOf_11 (by decide) ?_
      obtain ⟨t41, et41, hs⟩ := ob hs
      refine nd_iald hx hb hK hP 1 0 rfl rfl et41 dX9_rankOf_12 ?_
      refine lv_icmp_ge (tgt := 125) hx hb dX9_rankOf_13 (by decide) (fun b42 => ?_) (fun b42 => ?_)
      · have hs := ite_t hs b42
        exact hk5 v3_40 _ _ _ (lv_sub hl [3] rfl) hP hS hs
      · have hs := ite_f hs b42
        refine lv_iconst (v := (0 : Int32)) hx hb dX9_rankOf_16 (by decide) ?_
        refine lv_istore (lv' := [(5, .int (0 : Int32)), (0, .ref (bd 0)), (1, .int x1), (2, .int x2), (3, .int v3_40), (4, .int v4_40)]) hx hb dX9_rankOf_17 hl (by decide) rfl (fun ls hl => ?_)
        have L19 : ∀ (n19 : Nat) (k19 : Int32 → Option (Int32)) (v3_61 : Int32) (v5_61 : Int32) (H : Heap) (locs : List Loc) (ls : Array Slot), lv_has ls 8 [(0, .ref (bd 0)), (1, .int x1), (2, .int x2), (3, .int v3_61), (4, .int v4_40), (5, .int v5_61)] → va_P D vwCl (MW bd cI ms msv mb mf mr mt mn ml mat mw mm mh) H → va_S A s.heap H locs → fX9_rankOf_19 k19 ms x1 x2 v4_40 n19 v3_61 v5_61 = some r → (∀ (u3_61 : Int32) (H : Heap) (locs : List Loc) (ls : Array Slot), lv_has ls 8 [(0, .ref (bd 0)), (1, .int x1), (2, .int x2), (3, .int u3_61), (4, .int v4_40)] → va_P D vwCl (MW bd cI ms msv mb mf mr mt mn ml mat mw mm mh) H → va_S A s.heap H locs → k19 u3_61 = some r → W p l e ⟨3, 0, 0, 65⟩ s m args below meth c_ H locs 0 0 Q (F0 m 119 ls [])) → W p l e ⟨3, 0, 0, 65⟩ s m args below meth c_ H locs 0 0 Q (F0 m 19 ls []) := by
          intro n19
          induction n19 with
          | zero =>
            intro k19 v3_61 v5_61 H locs ls hl hP hS hs hk19
            rw [fX9_rankOf_19] at hs
            cases hs
          | succ n19 ih19 =>
            intro k19 v3_61 v5_61 H locs ls hl hP hS hs hk19
            rw [fX9_rankOf_19] at hs
            refine lv_iload hx hb dX9_rankOf_19 (lv_at hl 5 rfl) ?_
            refine lv_aload_n hx hb dX9_rankOf_21 rfl (lv_at hl 0 rfl) ?_
            refine lv_iload hx hb dX9_rankOf_22 (lv_at hl 4 rfl) ?_
            refine lv_iconst (v := (2 : Int32)) hx hb dX9_rankOf_24 (by decide) ?_
            obtain ⟨q62, eq62, hs⟩ := ob hs
            refine nd_callV (As := [.int v4_40, .int (2 : Int32)]) (rest := [.int v5_61]) (st1 := [.int q62, .int v5_61]) hx hb hml hown hts hl hP hK hD hS hA hN (mX9_of eq62) iv_X9_of wd_307 0 rfl rfl rfl rfl ⟨Nat.le_of_ble_eq_true rfl, Nat.le_of_ble_eq_true rfl⟩ (Nat.le_of_ble_eq_true rfl) ⟨Nat.zero_le _, Nat.zero_le _⟩ dX9_rankOf_25 rfl rfl (fun H locs hP hD hS => ?_)
            refine lv_icmp_ge (tgt := 119) hx hb dX9_rankOf_28 (by decide) (fun b63 => ?_) (fun b63 => ?_)
            · have hs := ite_t hs b63
              exact hk19 v3_61 _ _ _ (lv_sub hl [0, 1, 2, 3, 4] rfl) hP hS hs
            · have hs := ite_f hs b63
              refine lv_aload_n hx hb dX9_rankOf_31 rfl (lv_at hl 0 rfl) ?_
              refine lv_iload_n hx hb dX9_rankOf_32 rfl (lv_at hl 1 rfl) ?_
              refine lv_iload_n hx hb dX9_rankOf_33 rfl (lv_at hl 2 rfl) ?_
              obtain ⟨q64, eq64, hs⟩ := ob hs
              refine nd_callV (As := [.int x1, .int x2]) (rest := []) (st1 := [.int q64]) hx hb hml hown hts hl hP hK hD hS hA hN (mX9_timeOf eq64) iv_X9_timeOf wd_315 0 rfl rfl rfl rfl ⟨Nat.le_of_ble_eq_true rfl, Nat.le_of_ble_eq_true rfl⟩ (Nat.le_of_ble_eq_true rfl) ⟨Nat.zero_le _, Nat.zero_le _⟩ dX9_rankOf_34 rfl rfl (fun H locs hP hD hS => ?_)
              refine lv_aload_n hx hb dX9_rankOf_37 rfl (lv_at hl 0 rfl) ?_
              refine lv_iload hx hb dX9_rankOf_38 (lv_at hl 4 rfl) ?_
              refine lv_iload hx hb dX9_rankOf_40 (lv_at hl 5 rfl) ?_
              obtain ⟨q65, eq65, hs⟩ := ob hs
              refine nd_callV (As := [.int v4_40, .int v5_61]) (rest := [.int q64]) (st1 := [.int q65, .int q64]) hx hb hml hown hts hl hP hK hD hS hA hN (mX9_timeOf eq65) iv_X9_timeOf wd_315 0 rfl rfl rfl rfl ⟨Nat.le_of_ble_eq_true rfl, Nat.le_of_ble_eq_true rfl⟩ (Nat.le_of_ble_eq_true rfl) ⟨Nat.zero_le _, Nat.zero_le _⟩ dX9_rankOf_42 rfl rfl (fun H locs hP hD hS => ?_)
              refine lv_isub hx hb dX9_rankOf_45 ?_
              refine lv_istore (lv' := [(6, .int (q64 - q65)), (0, .ref (bd 0)), (1, .int x1), (2, .int x2), (3, .int v3_61), (4, .int v4_40), (5, .int v5_61)]) hx hb dX9_rankOf_46 hl (by decide) rfl (fun ls hl => ?_)
              refine lv_iload hx hb dX9_rankOf_48 (lv_at hl 0 rfl) ?_
              refine lv_if_gt (tgt := 76) hx hb dX9_rankOf_50 (by decide) (fun b66 => ?_) (fun b66 => ?_)
              · have hs := ite_t hs b66
                refine lv_iconst (v := (1 : Int32)) hx hb dX9_rankOf_76 (by decide) ?_
                refine lv_goto (tgt := 81) hx hb dX9_rankOf_77 (by decide) ?_
                refine lv_istore (lv' := [(7, .int (1 : Int32)), (6, .int (q64 - q65)), (0, .ref (bd 0)), (1, .int x1), (2, .int x2), (3, .int v3_61), (4, .int v4_40), (5, .int v5_61)]) hx hb dX9_rankOf_81 hl (by decide) rfl (fun ls hl => ?_)
                refine lv_iload_n hx hb dX9_rankOf_83 rfl (lv_at hl 5 rfl) ?_
                refine lv_iload hx hb dX9_rankOf_84 (lv_at hl 0 rfl) ?_
                refine lv_if_eq (tgt := 110) hx hb dX9_rankOf_86 (by decide) (fun h => absurd h (by decide)) (fun _ => ?_)
                refine lv_aload_n hx hb dX9_rankOf_89 rfl (lv_at hl 2 rfl) ?_
                refine lv_iload hx hb dX9_rankOf_90 (lv_at hl 6 rfl) ?_
                refine lv_iload hx hb dX9_rankOf_92 (lv_at hl 7 rfl) ?_
                obtain ⟨q67, eq67, hs⟩ := ob hs
                refine nd_callV (As := [.int v4_40, .int v5_61]) (rest := [.int v3_61]) (st1 := [.int q67, .int v3_61]) hx hb hml hown hts hl hP hK hD hS hA hN (mX9_pageOf eq67) iv_X9_pageOf wd_633 0 rfl rfl rfl rfl ⟨Nat.le_of_ble_eq_true rfl, Nat.le_of_ble_eq_true rfl⟩ (Nat.le_of_ble_eq_true rfl) ⟨Nat.zero_le _, Nat.zero_le _⟩ dX9_rankOf_94 rfl rfl (fun H locs hP hD hS => ?_)
                refine lv_aload_n hx hb dX9_rankOf_97 rfl (lv_at hl 2 rfl) ?_
                refine lv_iload_n hx hb dX9_rankOf_98 rfl (lv_at hl 3 rfl) ?_
                refine lv_iload_n hx hb dX9_rankOf_99 rfl (lv_at hl 4 rfl) ?_
                obtain ⟨q68, eq68, hs⟩ := ob hs
                refine nd_callV (As := [.int x1, .int x2]) (rest := [.int q67, .int v3_61]) (st1 := [.int q68, .int q67, .int v3_61]) hx hb hml hown hts hl hP hK hD hS hA hN (mX9_pageOf eq68) iv_X9_pageOf wd_633 0 rfl rfl rfl rfl ⟨Nat.le_of_ble_eq_true rfl, Nat.le_of_ble_eq_true rfl⟩ (Nat.le_of_ble_eq_true rfl) ⟨Nat.zero_le _, Nat.zero_le _⟩ dX9_rankOf_100 rfl rfl (fun H locs hP hD hS => ?_)
                refine lv_icmp_ne (tgt := 110) hx hb dX9_rankOf_103 (by decide) (fun b69 => ?_) (fun b69 => ?_)
                · have hs := ite_f hs b69
                  refine lv_iconst (v := (0 : Int32)) hx hb dX9_rankOf_110 (by decide) ?_
                  refine lv_iadd hx hb dX9_rankOf_111 ?_
                  refine lv_istore_n (lv' := [(3, .int (v3_61 + (0 : Int32))), (7, .int (1 : Int32)), (6, .int (q64 - q65)), (0, .ref (bd 0)), (1, .int x1), (2, .int x2), (4, .int v4_40), (5, .int v5_61)]) hx hb dX9_rankOf_112 rfl hl (by decide) rfl (fun ls hl => ?_)
                  refine lv_iinc (v := v5_61 + (1 : Int32)) (lv' := [(5, .int (v5_61 + (1 : Int32))), (3, .int (v3_61 + (0 : Int32))), (7, .int (1 : Int32)), (6, .int (q64 - q65)), (0, .ref (bd 0)), (1, .int x1), (2, .int x2), (4, .int v4_40)]) hx hb dX9_rankOf_113 hl (k := 7) rfl rfl (by decide) rfl (fun ls hl => ?_)
                  refine lv_goto (tgt := 19) hx hb dX9_rankOf_116 (by decide) ?_
                  exact ih19 k19 (v3_61 + (0 : Int32)) (v5_61 + (1 : Int32)) _ _ _ (lv_sub hl [4, 5, 6, 1, 7, 0] rfl) hP hS hs hk19
                · have hs := ite_t hs b69
                  refine lv_iconst (v := (1 : Int32)) hx hb dX9_rankOf_106 (by decide) ?_
                  refine lv_goto (tgt := 111) hx hb dX9_rankOf_107 (by decide) ?_
                  refine lv_iadd hx hb dX9_rankOf_111 ?_
                  refine lv_istore_n (lv' := [(3, .int (v3_61 + (1 : Int32))), (7, .int (1 : Int32)), (6, .int (q64 - q65)), (0, .ref (bd 0)), (1, .int x1), (2, .int x2), (4, .int v4_40), (5, .int v5_61)]) hx hb dX9_rankOf_112 rfl hl (by decide) rfl (fun ls hl => ?_)
                  refine lv_iinc (v := v5_61 + (1 : Int32)) (lv' := [(5, .int (v5_61 + (1 : Int32))), (3, .int (v3_61 + (1 : Int32))), (7, .int (1 : Int32)), (6, .int (q64 - q65)), (0, .ref (bd 0)), (1, .int x1), (2, .int x2), (4, .int v4_40)]) hx hb dX9_rankOf_113 hl (k := 7) rfl rfl (by decide) rfl (fun ls hl => ?_)
                  refine lv_goto (tgt := 19) hx hb dX9_rankOf_116 (by decide) ?_
                  exact ih19 k19 (v3_61 + (1 : Int32)) (v5_61 + (1 : Int32)) _ _ _ (lv_sub hl [4, 5, 6, 1, 7, 0] rfl) hP hS hs hk19
              · have hs := ite_f hs b66
                refine lv_iload hx hb dX9_rankOf_53 (lv_at hl 0 rfl) ?_
                refine lv_if_ne (tgt := 80) hx hb dX9_rankOf_55 (by decide) (fun b70 => ?_) (fun b70 => ?_)
                · have hs := ite_f hs b70
                  refine lv_iconst (v := (0 : Int32)) hx hb dX9_rankOf_80 (by decide) ?_
                  refine lv_istore (lv' := [(7, .int (0 : Int32)), (6, .int (q64 - q65)), (0, .ref (bd 0)), (1, .int x1), (2, .int x2), (3, .int v3_61), (4, .int v4_40), (5, .int v5_61)]) hx hb dX9_rankOf_81 hl (by decide) rfl (fun ls hl => ?_)
                  refine lv_iload_n hx hb dX9_rankOf_83 rfl (lv_at hl 5 rfl) ?_
                  refine lv_iload hx hb dX9_rankOf_84 (lv_at hl 0 rfl) ?_
                  refine lv_if_eq (tgt := 110) hx hb dX9_rankOf_86 (by decide) (fun _ => ?_) (fun h => absurd (by decide) h)
                  refine lv_iconst (v := (0 : Int32)) hx hb dX9_rankOf_110 (by decide) ?_
                  refine lv_iadd hx hb dX9_rankOf_111 ?_
                  refine lv_istore_n (lv' := [(3, .int (v3_61 + (0 : Int32))), (7, .int (0 : Int32)), (6, .int (q64 - q65)), (0, .ref (bd 0)), (1, .int x1), (2, .int x2), (4, .int v4_40), (5, .int v5_61)]) hx hb dX9_rankOf_112 rfl hl (by decide) rfl (fun ls hl => ?_)
                  refine lv_iinc (v := v5_61 + (1 : Int32)) (lv' := [(5, .int (v5_61 + (1 : Int32))), (3, .int (v3_61 + (0 : Int32))), (7, .int (0 : Int32)), (6, .int (q64 - q65)), (0, .ref (bd 0)), (1, .int x1), (2, .int x2), (4, .int v4_40)]) hx hb dX9_rankOf_113 hl (k := 7) rfl rfl (by decide) rfl (fun ls hl => ?_)
                  refine lv_goto (tgt := 19) hx hb dX9_rankOf_116 (by decide) ?_
                  exact ih19 k19 (v3_61 + (0 : Int32)) (v5_61 + (1 : Int32)) _ _ _ (lv_sub hl [4, 5, 6, 1, 7, 0] rfl) hP hS hs hk19
                · have hs := ite_t hs b70
                  refine lv_iload hx hb dX9_rankOf_58 (lv_at hl 5 rfl) ?_
                  refine lv_iload_n hx hb dX9_rankOf_60 rfl (lv_at hl 2 rfl) ?_
                  refine lv_icmp_lt (tgt := 76) hx hb dX9_rankOf_61 (by decide) (fun b71 => ?_) (fun b71 => ?_)
                  · have hs := ite_t hs b71
                    refine lv_iconst (v := (1 : Int32)) hx hb dX9_rankOf_76 (by decide) ?_
                    refine lv_goto (tgt := 81) hx hb dX9_rankOf_77 (by decide) ?_
                    refine lv_istore (lv' := [(7, .int (1 : Int32)), (6, .int (q64 - q65)), (0, .ref (bd 0)), (1, .int x1), (2, .int x2), (3, .int v3_61), (4, .int v4_40), (5, .int v5_61)]) hx hb dX9_rankOf_81 hl (by decide) rfl (fun ls hl => ?_)
                    refine lv_iload_n hx hb dX9_rankOf_83 rfl (lv_at hl 5 rfl) ?_
                    refine lv_iload hx hb dX9_rankOf_84 (lv_at hl 0 rfl) ?_
                    refine lv_if_eq (tgt := 110) hx hb dX9_rankOf_86 (by decide) (fun h => absurd h (by decide)) (fun _ => ?_)
                    refine lv_aload_n hx hb dX9_rankOf_89 rfl (lv_at hl 2 rfl) ?_
                    refine lv_iload hx hb dX9_rankOf_90 (lv_at hl 6 rfl) ?_
                    refine lv_iload hx hb dX9_rankOf_92 (lv_at hl 7 rfl) ?_
                    obtain ⟨q72, eq72, hs⟩ := ob hs
                    refine nd_callV (As := [.int v4_40, .int v5_61]) (rest := [.int v3_61]) (st1 := [.int q72, .int v3_61]) hx hb hml hown hts hl hP hK hD hS hA hN (mX9_pageOf eq72) iv_X9_pageOf wd_633 0 rfl rfl rfl rfl ⟨Nat.le_of_ble_eq_true rfl, Nat.le_of_ble_eq_true rfl⟩ (Nat.le_of_ble_eq_true rfl) ⟨Nat.zero_le _, Nat.zero_le _⟩ dX9_rankOf_94 rfl rfl (fun H locs hP hD hS => ?_)
                    refine lv_aload_n hx hb dX9_rankOf_97 rfl (lv_at hl 2 rfl) ?_
                    refine lv_iload_n hx hb dX9_rankOf_98 rfl (lv_at hl 3 rfl) ?_
                    refine lv_iload_n hx hb dX9_rankOf_99 rfl (lv_at hl 4 rfl) ?_
                    obtain ⟨q73, eq73, hs⟩ := ob hs
                    refine nd_callV (As := [.int x1, .int x2]) (rest := [.int q72, .int v3_61]) (st1 := [.int q73, .int q72, .int v3_61]) hx hb hml hown hts hl hP hK hD hS hA hN (mX9_pageOf eq73) iv_X9_pageOf wd_633 0 rfl rfl rfl rfl ⟨Nat.le_of_ble_eq_true rfl, Nat.le_of_ble_eq_true rfl⟩ (Nat.le_of_ble_eq_true rfl) ⟨Nat.zero_le _, Nat.zero_le _⟩ dX9_rankOf_100 rfl rfl (fun H locs hP hD hS => ?_)
                    refine lv_icmp_ne (tgt := 110) hx hb dX9_rankOf_103 (by decide) (fun b74 => ?_) (fun b74 => ?_)
                    · have hs := ite_f hs b74
                      refine lv_iconst (v := (0 : Int32)) hx hb dX9_rankOf_110 (by decide) ?_
                      refine lv_iadd hx hb dX9_rankOf_111 ?_
                      refine lv_istore_n (lv' := [(3, .int (v3_61 + (0 : Int32))), (7, .int (1 : Int32)), (6, .int (q64 - q65)), (0, .ref (bd 0)), (1, .int x1), (2, .int x2), (4, .int v4_40), (5, .int v5_61)]) hx hb dX9_rankOf_112 rfl hl (by decide) rfl (fun ls hl => ?_)
                      refine lv_iinc (v := v5_61 + (1 : Int32)) (lv' := [(5, .int (v5_61 + (1 : Int32))), (3, .int (v3_61 + (0 : Int32))), (7, .int (1 : Int32)), (6, .int (q64 - q65)), (0, .ref (bd 0)), (1, .int x1), (2, .int x2), (4, .int v4_40)]) hx hb dX9_rankOf_113 hl (k := 7) rfl rfl (by decide) rfl (fun ls hl => ?_)
                      refine lv_goto (tgt := 19) hx hb dX9_rankOf_116 (by decide) ?_
                      exact ih19 k19 (v3_61 + (0 : Int32)) (v5_61 + (1 : Int32)) _ _ _ (lv_sub hl [4, 5, 6, 1, 7, 0] rfl) hP hS hs hk19
                    · have hs := ite_t hs b74
                      refine lv_iconst (v := (1 : Int32)) hx hb dX9_rankOf_106 (by decide) ?_
                      refine lv_goto (tgt := 111) hx hb dX9_rankOf_107 (by decide) ?_
                      refine lv_iadd hx hb dX9_rankOf_111 ?_
                      refine lv_istore_n (lv' := [(3, .int (v3_61 + (1 : Int32))), (7, .int (1 : Int32)), (6, .int (q64 - q65)), (0, .ref (bd 0)), (1, .int x1), (2, .int x2), (4, .int v4_40), (5, .int v5_61)]) hx hb dX9_rankOf_112 rfl hl (by decide) rfl (fun ls hl => ?_)
                      refine lv_iinc (v := v5_61 + (1 : Int32)) (lv' := [(5, .int (v5_61 + (1 : Int32))), (3, .int (v3_61 + (1 : Int32))), (7, .int (1 : Int32)), (6, .int (q64 - q65)), (0, .ref (bd 0)), (1, .int x1), (2, .int x2), (4, .int v4_40)]) hx hb dX9_rankOf_113 hl (k := 7) rfl rfl (by decide) rfl (fun ls hl => ?_)
                      refine lv_goto (tgt := 19) hx hb dX9_rankOf_116 (by decide) ?_
                      exact ih19 k19 (v3_61 + (1 : Int32)) (v5_61 + (1 : Int32)) _ _ _ (lv_sub hl [4, 5, 6, 1, 7, 0] rfl) hP hS hs hk19
                  · have hs := ite_f hs b71
                    refine lv_iload hx hb dX9_rankOf_64 (lv_at hl 5 rfl) ?_
                    refine lv_iload_n hx hb dX9_rankOf_66 rfl (lv_at hl 2 rfl) ?_
                    refine lv_icmp_ne (tgt := 80) hx hb dX9_rankOf_67 (by decide) (fun b75 => ?_) (fun b75 => ?_)
                    · have hs := ite_f hs b75
                      refine lv_iconst (v := (0 : Int32)) hx hb dX9_rankOf_80 (by decide) ?_
                      refine lv_istore (lv' := [(7, .int (0 : Int32)), (6, .int (q64 - q65)), (0, .ref (bd 0)), (1, .int x1), (2, .int x2), (3, .int v3_61), (4, .int v4_40), (5, .int v5_61)]) hx hb dX9_rankOf_81 hl (by decide) rfl (fun ls hl => ?_)
                      refine lv_iload_n hx hb dX9_rankOf_83 rfl (lv_at hl 5 rfl) ?_
                      refine lv_iload hx hb dX9_rankOf_84 (lv_at hl 0 rfl) ?_
                      refine lv_if_eq (tgt := 110) hx hb dX9_rankOf_86 (by decide) (fun _ => ?_) (fun h => absurd (by decide) h)
                      refine lv_iconst (v := (0 : Int32)) hx hb dX9_rankOf_110 (by decide) ?_
                      refine lv_iadd hx hb dX9_rankOf_111 ?_
                      refine lv_istore_n (lv' := [(3, .int (v3_61 + (0 : Int32))), (7, .int (0 : Int32)), (6, .int (q64 - q65)), (0, .ref (bd 0)), (1, .int x1), (2, .int x2), (4, .int v4_40), (5, .int v5_61)]) hx hb dX9_rankOf_112 rfl hl (by decide) rfl (fun ls hl => ?_)
                      refine lv_iinc (v := v5_61 + (1 : Int32)) (lv' := [(5, .int (v5_61 + (1 : Int32))), (3, .int (v3_61 + (0 : Int32))), (7, .int (0 : Int32)), (6, .int (q64 - q65)), (0, .ref (bd 0)), (1, .int x1), (2, .int x2), (4, .int v4_40)]) hx hb dX9_rankOf_113 hl (k := 7) rfl rfl (by decide) rfl (fun ls hl => ?_)
                      refine lv_goto (tgt := 19) hx hb dX9_rankOf_116 (by decide) ?_
                      exact ih19 k19 (v3_61 + (0 : Int32)) (v5_61 + (1 : Int32)) _ _ _ (lv_sub hl [4, 5, 6, 1, 7, 0] rfl) hP hS hs hk19
                    · have hs := ite_t hs b75
                      refine lv_iload hx hb dX9_rankOf_70 (lv_at hl 6 rfl) ?_
                      refine lv_iload_n hx hb dX9_rankOf_72 rfl (lv_at hl 3 rfl) ?_
                      refine lv_icmp_ge (tgt := 80) hx hb dX9_rankOf_73 (by decide) (fun b76 => ?_) (fun b76 => ?_)
                      · have hs := ite_t hs b76
                        refine lv_iconst (v := (0 : Int32)) hx hb dX9_rankOf_80 (by decide) ?_
                        refine lv_istore (lv' := [(7, .int (0 : Int32)), (6, .int (q64 - q65)), (0, .ref (bd 0)), (1, .int x1), (2, .int x2), (3, .int v3_61), (4, .int v4_40), (5, .int v5_61)]) hx hb dX9_rankOf_81 hl (by decide) rfl (fun ls hl => ?_)
                        refine lv_iload_n hx hb dX9_rankOf_83 rfl (lv_at hl 5 rfl) ?_
                        refine lv_iload hx hb dX9_rankOf_84 (lv_at hl 0 rfl) ?_
                        refine lv_if_eq (tgt := 110) hx hb dX9_rankOf_86 (by decide) (fun _ => ?_) (fun h => absurd (by decide) h)
                        refine lv_iconst (v := (0 : Int32)) hx hb dX9_rankOf_110 (by decide) ?_
                        refine lv_iadd hx hb dX9_rankOf_111 ?_
                        refine lv_istore_n (lv' := [(3, .int (v3_61 + (0 : Int32))), (7, .int (0 : Int32)), (6, .int (q64 - q65)), (0, .ref (bd 0)), (1, .int x1), (2, .int x2), (4, .int v4_40), (5, .int v5_61)]) hx hb dX9_rankOf_112 rfl hl (by decide) rfl (fun ls hl => ?_)
                        refine lv_iinc (v := v5_61 + (1 : Int32)) (lv' := [(5, .int (v5_61 + (1 : Int32))), (3, .int (v3_61 + (0 : Int32))), (7, .int (0 : Int32)), (6, .int (q64 - q65)), (0, .ref (bd 0)), (1, .int x1), (2, .int x2), (4, .int v4_40)]) hx hb dX9_rankOf_113 hl (k := 7) rfl rfl (by decide) rfl (fun ls hl => ?_)
                        refine lv_goto (tgt := 19) hx hb dX9_rankOf_116 (by decide) ?_
                        exact ih19 k19 (v3_61 + (0 : Int32)) (v5_61 + (1 : Int32)) _ _ _ (lv_sub hl [4, 5, 6, 1, 7, 0] rfl) hP hS hs hk19
                      · have hs := ite_f hs b76
                        refine lv_iconst (v := (1 : Int32)) hx hb dX9_rankOf_76 (by decide) ?_
                        refine lv_goto (tgt := 81) hx hb dX9_rankOf_77 (by decide) ?_
                        refine lv_istore (lv' := [(7, .int (1 : Int32)), (6, .int (q64 - q65)), (0, .ref (bd 0)), (1, .int x1), (2, .int x2), (3, .int v3_61), (4, .int v4_40), (5, .int v5_61)]) hx hb dX9_rankOf_81 hl (by decide) rfl (fun ls hl => ?_)
                        refine lv_iload_n hx hb dX9_rankOf_83 rfl (lv_at hl 5 rfl) ?_
                        refine lv_iload hx hb dX9_rankOf_84 (lv_at hl 0 rfl) ?_
                        refine lv_if_eq (tgt := 110) hx hb dX9_rankOf_86 (by decide) (fun h => absurd h (by decide)) (fun _ => ?_)
                        refine lv_aload_n hx hb dX9_rankOf_89 rfl (lv_at hl 2 rfl) ?_
                        refine lv_iload hx hb dX9_rankOf_90 (lv_at hl 6 rfl) ?_
                        refine lv_iload hx hb dX9_rankOf_92 (lv_at hl 7 rfl) ?_
                        obtain ⟨q77, eq77, hs⟩ := ob hs
                        refine nd_callV (As := [.int v4_40, .int v5_61]) (rest := [.int v3_61]) (st1 := [.int q77, .int v3_61]) hx hb hml hown hts hl hP hK hD hS hA hN (mX9_pageOf eq77) iv_X9_pageOf wd_633 0 rfl rfl rfl rfl ⟨Nat.le_of_ble_eq_true rfl, Nat.le_of_ble_eq_true rfl⟩ (Nat.le_of_ble_eq_true rfl) ⟨Nat.zero_le _, Nat.zero_le _⟩ dX9_rankOf_94 rfl rfl (fun H locs hP hD hS => ?_)
                        refine lv_aload_n hx hb dX9_rankOf_97 rfl (lv_at hl 2 rfl) ?_
                        refine lv_iload_n hx hb dX9_rankOf_98 rfl (lv_at hl 3 rfl) ?_
                        refine lv_iload_n hx hb dX9_rankOf_99 rfl (lv_at hl 4 rfl) ?_
                        obtain ⟨q78, eq78, hs⟩ := ob hs
                        refine nd_callV (As := [.int x1, .int x2]) (rest := [.int q77, .int v3_61]) (st1 := [.int q78, .int q77, .int v3_61]) hx hb hml hown hts hl hP hK hD hS hA hN (mX9_pageOf eq78) iv_X9_pageOf wd_633 0 rfl rfl rfl rfl ⟨Nat.le_of_ble_eq_true rfl, Nat.le_of_ble_eq_true rfl⟩ (Nat.le_of_ble_eq_true rfl) ⟨Nat.zero_le _, Nat.zero_le _⟩ dX9_rankOf_100 rfl rfl (fun H locs hP hD hS => ?_)
                        refine lv_icmp_ne (tgt := 110) hx hb dX9_rankOf_103 (by decide) (fun b79 => ?_) (fun b79 => ?_)
                        · have hs := ite_f hs b79
                          refine lv_iconst (v := (0 : Int32)) hx hb dX9_rankOf_110 (by decide) ?_
                          refine lv_iadd hx hb dX9_rankOf_111 ?_
                          refine lv_istore_n (lv' := [(3, .int (v3_61 + (0 : Int32))), (7, .int (1 : Int32)), (6, .int (q64 - q65)), (0, .ref (bd 0)), (1, .int x1), (2, .int x2), (4, .int v4_40), (5, .int v5_61)]) hx hb dX9_rankOf_112 rfl hl (by decide) rfl (fun ls hl => ?_)
                          refine lv_iinc (v := v5_61 + (1 : Int32)) (lv' := [(5, .int (v5_61 + (1 : Int32))), (3, .int (v3_61 + (0 : Int32))), (7, .int (1 : Int32)), (6, .int (q64 - q65)), (0, .ref (bd 0)), (1, .int x1), (2, .int x2), (4, .int v4_40)]) hx hb dX9_rankOf_113 hl (k := 7) rfl rfl (by decide) rfl (fun ls hl => ?_)
                          refine lv_goto (tgt := 19) hx hb dX9_rankOf_116 (by decide) ?_
                          exact ih19 k19 (v3_61 + (0 : Int32)) (v5_61 + (1 : Int32)) _ _ _ (lv_sub hl [4, 5, 6, 1, 7, 0] rfl) hP hS hs hk19
                        · have hs := ite_t hs b79
                          refine lv_iconst (v := (1 : Int32)) hx hb dX9_rankOf_106 (by decide) ?_
                          refine lv_goto (tgt := 111) hx hb dX9_rankOf_107 (by decide) ?_
                          refine lv_iadd hx hb dX9_rankOf_111 ?_
                          refine lv_istore_n (lv' := [(3, .int (v3_61 + (1 : Int32))), (7, .int (1 : Int32)), (6, .int (q64 - q65)), (0, .ref (bd 0)), (1, .int x1), (2, .int x2), (4, .int v4_40), (5, .int v5_61)]) hx hb dX9_rankOf_112 rfl hl (by decide) rfl (fun ls hl => ?_)
                          refine lv_iinc (v := v5_61 + (1 : Int32)) (lv' := [(5, .int (v5_61 + (1 : Int32))), (3, .int (v3_61 + (1 : Int32))), (7, .int (1 : Int32)), (6, .int (q64 - q65)), (0, .ref (bd 0)), (1, .int x1), (2, .int x2), (4, .int v4_40)]) hx hb dX9_rankOf_113 hl (k := 7) rfl rfl (by decide) rfl (fun ls hl => ?_)
                          refine lv_goto (tgt := 19) hx hb dX9_rankOf_116 (by decide) ?_
                          exact ih19 k19 (v3_61 + (1 : Int32)) (v5_61 + (1 : Int32)) _ _ _ (lv_sub hl [4, 5, 6, 1, 7, 0] rfl) hP hS hs hk19
        refine L19 LF _ v3_40 (0 : Int32) _ _ _ (lv_sub hl [1, 2, 3, 4, 5, 0] rfl) hP hS hs (fun u3_61 H locs ls hl hP hS hs => ?_)
        refine lv_iinc (v := v4_40 + (1 : Int32)) (lv' := [(4, .int (v4_40 + (1 : Int32))), (0, .ref (bd 0)), (1, .int x1), (2, .int x2), (3, .int u3_61)]) hx hb dX9_rankOf_119 hl (k := 4) rfl rfl (by decide) rfl (fun ls hl => ?_)
        refine lv_goto (tgt := 5) hx hb dX9_rankOf_122 (by decide) ?_
        exact ih5 k5 u3_61 (v4_40 + (1 : Int32)) _ _ _ (lv_sub hl [1, 2, 3, 4, 0] rfl) hP hS hs hk5
  refine L5 LF _ (0 : Int32) (0 : Int32) _ _ _ (lv_sub hl [2, 3, 4, 1, 0] rfl) hP hS hs (fun u3_40 H locs ls hl hP hS hs => ?_)
  refine lv_iload_n hx hb dX9_rankOf_125 rfl (lv_at hl 0 rfl) ?_
  exact hret _ hs hP hS dX9_rankOf_126
def tX9_tellsLine_0 : List (Nat × Instr × Nat) := [(0, .iconst 0, 1), (1, .istore 4, 2), (3, .iload 4, 2), (5, .aload_n 0, 1), (6, .getfield 7, 3), (9, .iconst 0, 1), (10, .iaload, 1), (11, .if_icmp .ge 82, 3), (14, .iconst 0, 1), (15, .istore 5, 2), (17, .iload 5, 2), (19, .aload_n 0, 1), (20, .iload 4, 2), (22, .iconst 2, 1), (23, .invokevirtual 33, 3), (26, .if_icmp .ge 61, 3), (29, .aload_n 0, 1), (30, .iload 4, 2), (32, .iload 5, 2), (34, .invokevirtual 161, 3), (37, .iload_n 1, 1), (38, .if_icmp .ne 43, 3), (41, .aload_n 0, 1), (42, .iload 4, 2), (44, .iload 5, 2), (46, .invokevirtual 177, 3), (49, .iload_n 2, 1), (50, .if_icmp .ne 31, 3), (53, .iload_n 3, 1), (54, .ifCond .ne 8, 3), (57, .iload 4, 2), (59, .goto 21, 3), (62, .iload_n 3, 1), (63, .iconst 1, 1), (64, .if_icmp .ne 8, 3), (67, .iload 5, 2), (69, .goto 11, 3), (72, .aload_n 0, 1), (73, .iload 4, 2), (75, .iload 5, 2), (77, .invokevirtual 47, 3), (80, .ireturn, 1), (81, .iinc 5 1, 3), (84, .goto (-67), 3), (87, .iinc 4 1, 3), (90, .goto (-87), 3), (93, .iconst (-1), 1), (94, .ireturn, 1)]
theorem tX9_tellsLine_0_ok : tX9_tellsLine_0.all (fun q => decide (decode cX9_tellsLine q.1 = .ok q.2)) = true := by decide +kernel
theorem dX9_tellsLine_0 : decode cX9_tellsLine 0 = .ok (.iconst 0, 1) := td tX9_tellsLine_0_ok 0 (q := (0, .iconst 0, 1)) rfl
theorem dX9_tellsLine_1 : decode cX9_tellsLine 1 = .ok (.istore 4, 2) := td tX9_tellsLine_0_ok 1 (q := (1, .istore 4, 2)) rfl
theorem dX9_tellsLine_3 : decode cX9_tellsLine 3 = .ok (.iload 4, 2) := td tX9_tellsLine_0_ok 2 (q := (3, .iload 4, 2)) rfl
theorem dX9_tellsLine_5 : decode cX9_tellsLine 5 = .ok (.aload_n 0, 1) := td tX9_tellsLine_0_ok 3 (q := (5, .aload_n 0, 1)) rfl
theorem dX9_tellsLine_6 : decode cX9_tellsLine 6 = .ok (.getfield 7, 3) := td tX9_tellsLine_0_ok 4 (q := (6, .getfield 7, 3)) rfl
theorem dX9_tellsLine_9 : decode cX9_tellsLine 9 = .ok (.iconst 0, 1) := td tX9_tellsLine_0_ok 5 (q := (9, .iconst 0, 1)) rfl
theorem dX9_tellsLine_10 : decode cX9_tellsLine 10 = .ok (.iaload, 1) := td tX9_tellsLine_0_ok 6 (q := (10, .iaload, 1)) rfl
theorem dX9_tellsLine_11 : decode cX9_tellsLine 11 = .ok (.if_icmp .ge 82, 3) := td tX9_tellsLine_0_ok 7 (q := (11, .if_icmp .ge 82, 3)) rfl
theorem dX9_tellsLine_14 : decode cX9_tellsLine 14 = .ok (.iconst 0, 1) := td tX9_tellsLine_0_ok 8 (q := (14, .iconst 0, 1)) rfl
theorem dX9_tellsLine_15 : decode cX9_tellsLine 15 = .ok (.istore 5, 2) := td tX9_tellsLine_0_ok 9 (q := (15, .istore 5, 2)) rfl
theorem dX9_tellsLine_17 : decode cX9_tellsLine 17 = .ok (.iload 5, 2) := td tX9_tellsLine_0_ok 10 (q := (17, .iload 5, 2)) rfl
theorem dX9_tellsLine_19 : decode cX9_tellsLine 19 = .ok (.aload_n 0, 1) := td tX9_tellsLine_0_ok 11 (q := (19, .aload_n 0, 1)) rfl
theorem dX9_tellsLine_20 : decode cX9_tellsLine 20 = .ok (.iload 4, 2) := td tX9_tellsLine_0_ok 12 (q := (20, .iload 4, 2)) rfl
theorem dX9_tellsLine_22 : decode cX9_tellsLine 22 = .ok (.iconst 2, 1) := td tX9_tellsLine_0_ok 13 (q := (22, .iconst 2, 1)) rfl
theorem dX9_tellsLine_23 : decode cX9_tellsLine 23 = .ok (.invokevirtual 33, 3) := td tX9_tellsLine_0_ok 14 (q := (23, .invokevirtual 33, 3)) rfl
theorem dX9_tellsLine_26 : decode cX9_tellsLine 26 = .ok (.if_icmp .ge 61, 3) := td tX9_tellsLine_0_ok 15 (q := (26, .if_icmp .ge 61, 3)) rfl
theorem dX9_tellsLine_29 : decode cX9_tellsLine 29 = .ok (.aload_n 0, 1) := td tX9_tellsLine_0_ok 16 (q := (29, .aload_n 0, 1)) rfl
theorem dX9_tellsLine_30 : decode cX9_tellsLine 30 = .ok (.iload 4, 2) := td tX9_tellsLine_0_ok 17 (q := (30, .iload 4, 2)) rfl
theorem dX9_tellsLine_32 : decode cX9_tellsLine 32 = .ok (.iload 5, 2) := td tX9_tellsLine_0_ok 18 (q := (32, .iload 5, 2)) rfl
theorem dX9_tellsLine_34 : decode cX9_tellsLine 34 = .ok (.invokevirtual 161, 3) := td tX9_tellsLine_0_ok 19 (q := (34, .invokevirtual 161, 3)) rfl
theorem dX9_tellsLine_37 : decode cX9_tellsLine 37 = .ok (.iload_n 1, 1) := td tX9_tellsLine_0_ok 20 (q := (37, .iload_n 1, 1)) rfl
theorem dX9_tellsLine_38 : decode cX9_tellsLine 38 = .ok (.if_icmp .ne 43, 3) := td tX9_tellsLine_0_ok 21 (q := (38, .if_icmp .ne 43, 3)) rfl
theorem dX9_tellsLine_41 : decode cX9_tellsLine 41 = .ok (.aload_n 0, 1) := td tX9_tellsLine_0_ok 22 (q := (41, .aload_n 0, 1)) rfl
theorem dX9_tellsLine_42 : decode cX9_tellsLine 42 = .ok (.iload 4, 2) := td tX9_tellsLine_0_ok 23 (q := (42, .iload 4, 2)) rfl
theorem dX9_tellsLine_44 : decode cX9_tellsLine 44 = .ok (.iload 5, 2) := td tX9_tellsLine_0_ok 24 (q := (44, .iload 5, 2)) rfl
theorem dX9_tellsLine_46 : decode cX9_tellsLine 46 = .ok (.invokevirtual 177, 3) := td tX9_tellsLine_0_ok 25 (q := (46, .invokevirtual 177, 3)) rfl
theorem dX9_tellsLine_49 : decode cX9_tellsLine 49 = .ok (.iload_n 2, 1) := td tX9_tellsLine_0_ok 26 (q := (49, .iload_n 2, 1)) rfl
theorem dX9_tellsLine_50 : decode cX9_tellsLine 50 = .ok (.if_icmp .ne 31, 3) := td tX9_tellsLine_0_ok 27 (q := (50, .if_icmp .ne 31, 3)) rfl
theorem dX9_tellsLine_53 : decode cX9_tellsLine 53 = .ok (.iload_n 3, 1) := td tX9_tellsLine_0_ok 28 (q := (53, .iload_n 3, 1)) rfl
theorem dX9_tellsLine_54 : decode cX9_tellsLine 54 = .ok (.ifCond .ne 8, 3) := td tX9_tellsLine_0_ok 29 (q := (54, .ifCond .ne 8, 3)) rfl
theorem dX9_tellsLine_57 : decode cX9_tellsLine 57 = .ok (.iload 4, 2) := td tX9_tellsLine_0_ok 30 (q := (57, .iload 4, 2)) rfl
theorem dX9_tellsLine_59 : decode cX9_tellsLine 59 = .ok (.goto 21, 3) := td tX9_tellsLine_0_ok 31 (q := (59, .goto 21, 3)) rfl
theorem dX9_tellsLine_62 : decode cX9_tellsLine 62 = .ok (.iload_n 3, 1) := td tX9_tellsLine_0_ok 32 (q := (62, .iload_n 3, 1)) rfl
theorem dX9_tellsLine_63 : decode cX9_tellsLine 63 = .ok (.iconst 1, 1) := td tX9_tellsLine_0_ok 33 (q := (63, .iconst 1, 1)) rfl
theorem dX9_tellsLine_64 : decode cX9_tellsLine 64 = .ok (.if_icmp .ne 8, 3) := td tX9_tellsLine_0_ok 34 (q := (64, .if_icmp .ne 8, 3)) rfl
theorem dX9_tellsLine_67 : decode cX9_tellsLine 67 = .ok (.iload 5, 2) := td tX9_tellsLine_0_ok 35 (q := (67, .iload 5, 2)) rfl
theorem dX9_tellsLine_69 : decode cX9_tellsLine 69 = .ok (.goto 11, 3) := td tX9_tellsLine_0_ok 36 (q := (69, .goto 11, 3)) rfl
theorem dX9_tellsLine_72 : decode cX9_tellsLine 72 = .ok (.aload_n 0, 1) := td tX9_tellsLine_0_ok 37 (q := (72, .aload_n 0, 1)) rfl
theorem dX9_tellsLine_73 : decode cX9_tellsLine 73 = .ok (.iload 4, 2) := td tX9_tellsLine_0_ok 38 (q := (73, .iload 4, 2)) rfl
theorem dX9_tellsLine_75 : decode cX9_tellsLine 75 = .ok (.iload 5, 2) := td tX9_tellsLine_0_ok 39 (q := (75, .iload 5, 2)) rfl
theorem dX9_tellsLine_77 : decode cX9_tellsLine 77 = .ok (.invokevirtual 47, 3) := td tX9_tellsLine_0_ok 40 (q := (77, .invokevirtual 47, 3)) rfl
theorem dX9_tellsLine_80 : decode cX9_tellsLine 80 = .ok (.ireturn, 1) := td tX9_tellsLine_0_ok 41 (q := (80, .ireturn, 1)) rfl
theorem dX9_tellsLine_81 : decode cX9_tellsLine 81 = .ok (.iinc 5 1, 3) := td tX9_tellsLine_0_ok 42 (q := (81, .iinc 5 1, 3)) rfl
theorem dX9_tellsLine_84 : decode cX9_tellsLine 84 = .ok (.goto (-67), 3) := td tX9_tellsLine_0_ok 43 (q := (84, .goto (-67), 3)) rfl
theorem dX9_tellsLine_87 : decode cX9_tellsLine 87 = .ok (.iinc 4 1, 3) := td tX9_tellsLine_0_ok 44 (q := (87, .iinc 4 1, 3)) rfl
theorem dX9_tellsLine_90 : decode cX9_tellsLine 90 = .ok (.goto (-87), 3) := td tX9_tellsLine_0_ok 45 (q := (90, .goto (-87), 3)) rfl
theorem dX9_tellsLine_93 : decode cX9_tellsLine 93 = .ok (.iconst (-1), 1) := td tX9_tellsLine_0_ok 46 (q := (93, .iconst (-1), 1)) rfl
theorem dX9_tellsLine_94 : decode cX9_tellsLine 94 = .ok (.ireturn, 1) := td tX9_tellsLine_0_ok 47 (q := (94, .ireturn, 1)) rfl
def fX9_tellsLine_17 (k17 : Unit → Option (Int32)) (ms : (Nat → Int32)) (x1 : Int32) (x2 : Int32) (x3 : Int32) (x4 : Int32) : Nat → Int32 → Option (Int32)
  | 0, _ => none
  | n17 + 1, x5 => (Option.bind (fX9_of ms x4 (2 : Int32)) (fun q3 => (if q3 ≤ x5 then (k17 ()) else (Option.bind (fX9_pageOf ms x4 x5) (fun q5 => (if q5 = x1 then (Option.bind (fX9_rankOf ms x4 x5) (fun q7 => (if q7 = x2 then (if x3 = 0 then (some x4) else (if x3 = (1 : Int32) then (some x5) else (Option.bind (fX9_sumOf ms x4 x5) (fun q11 => (some q11))))) else (fX9_tellsLine_17 k17 ms x1 x2 x3 x4 n17 (x5 + (1 : Int32)))))) else (fX9_tellsLine_17 k17 ms x1 x2 x3 x4 n17 (x5 + (1 : Int32)))))))))
def fX9_tellsLine_3 (k3 : Unit → Option (Int32)) (ms : (Nat → Int32)) (x1 : Int32) (x2 : Int32) (x3 : Int32) : Nat → Int32 → Option (Int32)
  | 0, _ => none
  | n3 + 1, x4 => (Option.bind (aget ms 531 (0 : Int32)) (fun t1 => (if t1 ≤ x4 then (k3 ()) else (fX9_tellsLine_17 (fun (_ : Unit) => (fX9_tellsLine_3 k3 ms x1 x2 x3 n3 (x4 + (1 : Int32)))) ms x1 x2 x3 x4 LF (0 : Int32)))))
def fX9_tellsLine (ms : (Nat → Int32)) (x1 : Int32) (x2 : Int32) (x3 : Int32) : Option (Int32) :=
  (fX9_tellsLine_3 (fun (_ : Unit) => (some (-1 : Int32))) ms x1 x2 x3 LF (0 : Int32))
set_option maxHeartbeats 4000000 in
set_option maxRecDepth 100000 in
theorem mX9_tellsLine {l : Launch} {D : va_G} {bd : Nat → Nat} {cI : ClassId} {ms : (Nat → Int32)} {msv : (Nat → Int32)} {mb : (Nat → Int32)} {mf : (Nat → Int32)} {mr : (Nat → Int32)} {mt : Int32} {mn : Int32} {ml : Int32} {mat : Int32} {mw : Int32} {mm : Int32} {mh : Int64} {x1 : Int32} {x2 : Int32} {x3 : Int32} {r : Int32} (hs : fX9_tellsLine ms x1 x2 x3 = some r) : nd_C l yX9_tellsLine cX9_tellsLine 6 (some .int) 4 92 D [(cI, .int)] [.ref (bd 0), .int x1, .int x2, .int x3] (MW bd cI ms msv mb mf mr mt mn ml mat mw mm mh) (MW bd cI ms msv mb mf mr mt mn ml mat mw mm mh) (some (.int r)) := by
  refine nd_ofCi (by decide) (Nat.le_of_ble_eq_true rfl) (fun p e s m args below meth c_ ls A Q hx hb hml hown hts hl hP hK hD hS hA hN hret => ?_)
  have hown : s.vm.findClass RX9 = some m.cls := hown
  have hl : lv_has ls 6 [(0, .ref (bd 0)), (1, .int x1), (2, .int x2), (3, .int x3)] := hl
  have hret : ∀ (z0 : Int32) {H : Heap} {locs : List Loc} {pc : Nat} {ls : Array Slot}, some z0 = some r → va_P D vwCl (MW bd cI ms msv mb mf mr mt mn ml mat mw mm mh) H → va_S A s.heap H locs → decode cX9_tellsLine pc = .ok (.ireturn, 1) → W p l e ⟨4, 0, 0, 92⟩ s m args below meth c_ H locs 0 0 Q (F0 m pc ls [.int z0]) := by
    intro z0 H locs pc ls h hP hS hd
    cases h
    exact hret hP hS hd
  rw [fX9_tellsLine] at hs
  refine lv_iconst (v := (0 : Int32)) hx hb dX9_tellsLine_0 (by decide) ?_
  refine lv_istore (lv' := [(4, .int (0 : Int32)), (0, .ref (bd 0)), (1, .int x1), (2, .int x2), (3, .int x3)]) hx hb dX9_tellsLine_1 hl (by decide) rfl (fun ls hl => ?_)
  have L3 : ∀ (n3 : Nat) (k3 : Unit → Option (Int32)) (v4_22 : Int32) (H : Heap) (locs : List Loc) (ls : Array Slot), lv_has ls 6 [(0, .ref (bd 0)), (1, .int x1), (2, .int x2), (3, .int x3), (4, .int v4_22)] → va_P D vwCl (MW bd cI ms msv mb mf mr mt mn ml mat mw mm mh) H → va_S A s.heap H locs → fX9_tellsLine_3 k3 ms x1 x2 x3 n3 v4_22 = some r → (∀ (H : Heap) (locs : List Loc) (ls : Array Slot), lv_has ls 6 [] → va_P D vwCl (MW bd cI ms msv mb mf mr mt mn ml mat mw mm mh) H → va_S A s.heap H locs → k3 () = some r → W p l e ⟨4, 0, 0, 92⟩ s m args below meth c_ H locs 0 0 Q (F0 m 93 ls [])) → W p l e ⟨4, 0, 0, 92⟩ s m args below meth c_ H locs 0 0 Q (F0 m 3 ls []) := by
    intro n3
    induction n3 with
    | zero =>
      intro k3 v4_22 H locs ls hl hP hS hs hk3
      rw [fX9_tellsLine_3] at hs
      cases hs
    | succ n3 ih3 =>
      intro k3 v4_22 H locs ls hl hP hS hs hk3
      rw [fX9_tellsLine_3] at hs
      refine lv_iload hx hb dX9_tellsLine_3 (lv_at hl 4 rfl) ?_
      refine lv_aload_n hx hb dX9_tellsLine_5 rfl (lv_at hl 0 rfl) ?_
      refine gf_X9_7 hx hb hts hown hK hP 0 rfl rfl dX9_tellsLine_6 ?_
      refine lv_iconst (v := (0 : Int32)) hx hb dX9_tellsLine_9 (by decide) ?_
      obtain ⟨t23, et23, hs⟩ := ob hs
      refine nd_iald hx hb hK hP 1 0 rfl rfl et23 dX9_tellsLine_10 ?_
      refine lv_icmp_ge (tgt := 93) hx hb dX9_tellsLine_11 (by decide) (fun b24 => ?_) (fun b24 => ?_)
      · have hs := ite_t hs b24
        exact hk3  _ _ _ (lv_sub hl [] rfl) hP hS hs
      · have hs := ite_f hs b24
        refine lv_iconst (v := (0 : Int32)) hx hb dX9_tellsLine_14 (by decide) ?_
        refine lv_istore (lv' := [(5, .int (0 : Int32)), (0, .ref (bd 0)), (1, .int x1), (2, .int x2), (3, .int x3), (4, .int v4_22)]) hx hb dX9_tellsLine_15 hl (by decide) rfl (fun ls hl => ?_)
        have L17 : ∀ (n17 : Nat) (k17 : Unit → Option (Int32)) (v5_34 : Int32) (H : Heap) (locs : List Loc) (ls : Array Slot), lv_has ls 6 [(0, .ref (bd 0)), (1, .int x1), (2, .int x2), (3, .int x3), (4, .int v4_22), (5, .int v5_34)] → va_P D vwCl (MW bd cI ms msv mb mf mr mt mn ml mat mw mm mh) H → va_S A s.heap H locs → fX9_tellsLine_17 k17 ms x1 x2 x3 v4_22 n17 v5_34 = some r → (∀ (H : Heap) (locs : List Loc) (ls : Array Slot), lv_has ls 6 [(0, .ref (bd 0)), (1, .int x1), (2, .int x2), (3, .int x3), (4, .int v4_22)] → va_P D vwCl (MW bd cI ms msv mb mf mr mt mn ml mat mw mm mh) H → va_S A s.heap H locs → k17 () = some r → W p l e ⟨4, 0, 0, 92⟩ s m args below meth c_ H locs 0 0 Q (F0 m 87 ls [])) → W p l e ⟨4, 0, 0, 92⟩ s m args below meth c_ H locs 0 0 Q (F0 m 17 ls []) := by
          intro n17
          induction n17 with
          | zero =>
            intro k17 v5_34 H locs ls hl hP hS hs hk17
            rw [fX9_tellsLine_17] at hs
            cases hs
          | succ n17 ih17 =>
            intro k17 v5_34 H locs ls hl hP hS hs hk17
            rw [fX9_tellsLine_17] at hs
            refine lv_iload hx hb dX9_tellsLine_17 (lv_at hl 5 rfl) ?_
            refine lv_aload_n hx hb dX9_tellsLine_19 rfl (lv_at hl 0 rfl) ?_
            refine lv_iload hx hb dX9_tellsLine_20 (lv_at hl 4 rfl) ?_
            refine lv_iconst (v := (2 : Int32)) hx hb dX9_tellsLine_22 (by decide) ?_
            obtain ⟨q35, eq35, hs⟩ := ob hs
            refine nd_callV (As := [.int v4_22, .int (2 : Int32)]) (rest := [.int v5_34]) (st1 := [.int q35, .int v5_34]) hx hb hml hown hts hl hP hK hD hS hA hN (mX9_of eq35) iv_X9_of wd_307 0 rfl rfl rfl rfl ⟨Nat.le_of_ble_eq_true rfl, Nat.le_of_ble_eq_true rfl⟩ (Nat.le_of_ble_eq_true rfl) ⟨Nat.zero_le _, Nat.zero_le _⟩ dX9_tellsLine_23 rfl rfl (fun H locs hP hD hS => ?_)
            refine lv_icmp_ge (tgt := 87) hx hb dX9_tellsLine_26 (by decide) (fun b36 => ?_) (fun b36 => ?_)
            · have hs := ite_t hs b36
              exact hk17  _ _ _ (lv_sub hl [0, 1, 2, 3, 4] rfl) hP hS hs
            · have hs := ite_f hs b36
              refine lv_aload_n hx hb dX9_tellsLine_29 rfl (lv_at hl 0 rfl) ?_
              refine lv_iload hx hb dX9_tellsLine_30 (lv_at hl 4 rfl) ?_
              refine lv_iload hx hb dX9_tellsLine_32 (lv_at hl 5 rfl) ?_
              obtain ⟨q37, eq37, hs⟩ := ob hs
              refine nd_callV (As := [.int v4_22, .int v5_34]) (rest := []) (st1 := [.int q37]) hx hb hml hown hts hl hP hK hD hS hA hN (mX9_pageOf eq37) iv_X9_pageOf wd_633 0 rfl rfl rfl rfl ⟨Nat.le_of_ble_eq_true rfl, Nat.le_of_ble_eq_true rfl⟩ (Nat.le_of_ble_eq_true rfl) ⟨Nat.zero_le _, Nat.zero_le _⟩ dX9_tellsLine_34 rfl rfl (fun H locs hP hD hS => ?_)
              refine lv_iload_n hx hb dX9_tellsLine_37 rfl (lv_at hl 1 rfl) ?_
              refine lv_icmp_ne (tgt := 81) hx hb dX9_tellsLine_38 (by decide) (fun b38 => ?_) (fun b38 => ?_)
              · have hs := ite_f hs b38
                refine lv_iinc (v := v5_34 + (1 : Int32)) (lv' := [(5, .int (v5_34 + (1 : Int32))), (0, .ref (bd 0)), (1, .int x1), (2, .int x2), (3, .int x3), (4, .int v4_22)]) hx hb dX9_tellsLine_81 hl (k := 5) rfl rfl (by decide) rfl (fun ls hl => ?_)
                refine lv_goto (tgt := 17) hx hb dX9_tellsLine_84 (by decide) ?_
                exact ih17 k17 (v5_34 + (1 : Int32)) _ _ _ (lv_sub hl [1, 2, 3, 4, 5, 0] rfl) hP hS hs hk17
              · have hs := ite_t hs b38
                refine lv_aload_n hx hb dX9_tellsLine_41 rfl (lv_at hl 0 rfl) ?_
                refine lv_iload hx hb dX9_tellsLine_42 (lv_at hl 4 rfl) ?_
                refine lv_iload hx hb dX9_tellsLine_44 (lv_at hl 5 rfl) ?_
                obtain ⟨q39, eq39, hs⟩ := ob hs
                refine nd_callV (As := [.int v4_22, .int v5_34]) (rest := []) (st1 := [.int q39]) hx hb hml hown hts hl hP hK hD hS hA hN (mX9_rankOf eq39) iv_X9_rankOf wd_717 0 rfl rfl rfl rfl ⟨Nat.le_of_ble_eq_true rfl, Nat.le_of_ble_eq_true rfl⟩ (Nat.le_of_ble_eq_true rfl) ⟨Nat.zero_le _, Nat.zero_le _⟩ dX9_tellsLine_46 rfl rfl (fun H locs hP hD hS => ?_)
                refine lv_iload_n hx hb dX9_tellsLine_49 rfl (lv_at hl 2 rfl) ?_
                refine lv_icmp_ne (tgt := 81) hx hb dX9_tellsLine_50 (by decide) (fun b40 => ?_) (fun b40 => ?_)
                · have hs := ite_f hs b40
                  refine lv_iinc (v := v5_34 + (1 : Int32)) (lv' := [(5, .int (v5_34 + (1 : Int32))), (0, .ref (bd 0)), (1, .int x1), (2, .int x2), (3, .int x3), (4, .int v4_22)]) hx hb dX9_tellsLine_81 hl (k := 5) rfl rfl (by decide) rfl (fun ls hl => ?_)
                  refine lv_goto (tgt := 17) hx hb dX9_tellsLine_84 (by decide) ?_
                  exact ih17 k17 (v5_34 + (1 : Int32)) _ _ _ (lv_sub hl [1, 2, 3, 4, 5, 0] rfl) hP hS hs hk17
                · have hs := ite_t hs b40
                  refine lv_iload_n hx hb dX9_tellsLine_53 rfl (lv_at hl 3 rfl) ?_
                  refine lv_if_ne (tgt := 62) hx hb dX9_tellsLine_54 (by decide) (fun b41 => ?_) (fun b41 => ?_)
                  · have hs := ite_f hs b41
                    refine lv_iload_n hx hb dX9_tellsLine_62 rfl (lv_at hl 3 rfl) ?_
                    refine lv_iconst (v := (1 : Int32)) hx hb dX9_tellsLine_63 (by decide) ?_
                    refine lv_icmp_ne (tgt := 72) hx hb dX9_tellsLine_64 (by decide) (fun b42 => ?_) (fun b42 => ?_)
                    · have hs := ite_f hs b42
                      refine lv_aload_n hx hb dX9_tellsLine_72 rfl (lv_at hl 0 rfl) ?_
                      refine lv_iload hx hb dX9_tellsLine_73 (lv_at hl 4 rfl) ?_
                      refine lv_iload hx hb dX9_tellsLine_75 (lv_at hl 5 rfl) ?_
                      obtain ⟨q43, eq43, hs⟩ := ob hs
                      refine nd_callV (As := [.int v4_22, .int v5_34]) (rest := []) (st1 := [.int q43]) hx hb hml hown hts hl hP hK hD hS hA hN (mX9_sumOf eq43) iv_X9_sumOf wd_345 0 rfl rfl rfl rfl ⟨Nat.le_of_ble_eq_true rfl, Nat.le_of_ble_eq_true rfl⟩ (Nat.le_of_ble_eq_true rfl) ⟨Nat.zero_le _, Nat.zero_le _⟩ dX9_tellsLine_77 rfl rfl (fun H locs hP hD hS => ?_)
                      exact hret _ hs hP hS dX9_tellsLine_80
                    · have hs := ite_t hs b42
                      refine lv_iload hx hb dX9_tellsLine_67 (lv_at hl 5 rfl) ?_
                      refine lv_goto (tgt := 80) hx hb dX9_tellsLine_69 (by decide) ?_
                      exact hret _ hs hP hS dX9_tellsLine_80
                  · have hs := ite_t hs b41
                    refine lv_iload hx hb dX9_tellsLine_57 (lv_at hl 4 rfl) ?_
                    refine lv_goto (tgt := 80) hx hb dX9_tellsLine_59 (by decide) ?_
                    exact hret _ hs hP hS dX9_tellsLine_80
        refine L17 LF _ (0 : Int32) _ _ _ (lv_sub hl [1, 2, 3, 4, 5, 0] rfl) hP hS hs (fun  H locs ls hl hP hS hs => ?_)
        refine lv_iinc (v := v4_22 + (1 : Int32)) (lv' := [(4, .int (v4_22 + (1 : Int32))), (0, .ref (bd 0)), (1, .int x1), (2, .int x2), (3, .int x3)]) hx hb dX9_tellsLine_87 hl (k := 4) rfl rfl (by decide) rfl (fun ls hl => ?_)
        refine lv_goto (tgt := 3) hx hb dX9_tellsLine_90 (by decide) ?_
        exact ih3 k3 (v4_22 + (1 : Int32)) _ _ _ (lv_sub hl [1, 2, 3, 4, 0] rfl) hP hS hs hk3
  refine L3 LF _ (0 : Int32) _ _ _ (lv_sub hl [1, 2, 3, 4, 0] rfl) hP hS hs (fun  H locs ls hl hP hS hs => ?_)
  refine lv_iconst (v := (-1 : Int32)) hx hb dX9_tellsLine_93 (by decide) ?_
  exact hret _ hs hP hS dX9_tellsLine_94
def tX9_line_0 : List (Nat × Instr × Nat) := [(0, .aload_n 0, 1), (1, .iconst 0, 1), (2, .putfield 25, 3), (5, .iload_n 1, 1), (6, .iconst 0, 1), (7, .bipush 7, 2), (9, .invokestatic 29, 3), (12, .ifCond .eq 26, 3), (15, .iload_n 2, 1), (16, .ifCond .lt 22, 3), (19, .iload_n 3, 1), (20, .iconst 0, 1), (21, .iconst 2, 1), (22, .invokestatic 29, 3), (25, .ifCond .eq 13, 3), (28, .aload_n 0, 1), (29, .iload_n 1, 1), (30, .iload_n 2, 1), (31, .iload_n 3, 1), (32, .invokevirtual 180, 3), (35, .goto 8, 3), (38, .aload_n 0, 1), (39, .iconst 1, 1), (40, .invokevirtual 79, 3), (43, .ireturn, 1)]
theorem tX9_line_0_ok : tX9_line_0.all (fun q => decide (decode cX9_line q.1 = .ok q.2)) = true := by decide +kernel
theorem dX9_line_0 : decode cX9_line 0 = .ok (.aload_n 0, 1) := td tX9_line_0_ok 0 (q := (0, .aload_n 0, 1)) rfl
theorem dX9_line_1 : decode cX9_line 1 = .ok (.iconst 0, 1) := td tX9_line_0_ok 1 (q := (1, .iconst 0, 1)) rfl
theorem dX9_line_2 : decode cX9_line 2 = .ok (.putfield 25, 3) := td tX9_line_0_ok 2 (q := (2, .putfield 25, 3)) rfl
theorem dX9_line_5 : decode cX9_line 5 = .ok (.iload_n 1, 1) := td tX9_line_0_ok 3 (q := (5, .iload_n 1, 1)) rfl
theorem dX9_line_6 : decode cX9_line 6 = .ok (.iconst 0, 1) := td tX9_line_0_ok 4 (q := (6, .iconst 0, 1)) rfl
theorem dX9_line_7 : decode cX9_line 7 = .ok (.bipush 7, 2) := td tX9_line_0_ok 5 (q := (7, .bipush 7, 2)) rfl
theorem dX9_line_9 : decode cX9_line 9 = .ok (.invokestatic 29, 3) := td tX9_line_0_ok 6 (q := (9, .invokestatic 29, 3)) rfl
theorem dX9_line_12 : decode cX9_line 12 = .ok (.ifCond .eq 26, 3) := td tX9_line_0_ok 7 (q := (12, .ifCond .eq 26, 3)) rfl
theorem dX9_line_15 : decode cX9_line 15 = .ok (.iload_n 2, 1) := td tX9_line_0_ok 8 (q := (15, .iload_n 2, 1)) rfl
theorem dX9_line_16 : decode cX9_line 16 = .ok (.ifCond .lt 22, 3) := td tX9_line_0_ok 9 (q := (16, .ifCond .lt 22, 3)) rfl
theorem dX9_line_19 : decode cX9_line 19 = .ok (.iload_n 3, 1) := td tX9_line_0_ok 10 (q := (19, .iload_n 3, 1)) rfl
theorem dX9_line_20 : decode cX9_line 20 = .ok (.iconst 0, 1) := td tX9_line_0_ok 11 (q := (20, .iconst 0, 1)) rfl
theorem dX9_line_21 : decode cX9_line 21 = .ok (.iconst 2, 1) := td tX9_line_0_ok 12 (q := (21, .iconst 2, 1)) rfl
theorem dX9_line_22 : decode cX9_line 22 = .ok (.invokestatic 29, 3) := td tX9_line_0_ok 13 (q := (22, .invokestatic 29, 3)) rfl
theorem dX9_line_25 : decode cX9_line 25 = .ok (.ifCond .eq 13, 3) := td tX9_line_0_ok 14 (q := (25, .ifCond .eq 13, 3)) rfl
theorem dX9_line_28 : decode cX9_line 28 = .ok (.aload_n 0, 1) := td tX9_line_0_ok 15 (q := (28, .aload_n 0, 1)) rfl
theorem dX9_line_29 : decode cX9_line 29 = .ok (.iload_n 1, 1) := td tX9_line_0_ok 16 (q := (29, .iload_n 1, 1)) rfl
theorem dX9_line_30 : decode cX9_line 30 = .ok (.iload_n 2, 1) := td tX9_line_0_ok 17 (q := (30, .iload_n 2, 1)) rfl
theorem dX9_line_31 : decode cX9_line 31 = .ok (.iload_n 3, 1) := td tX9_line_0_ok 18 (q := (31, .iload_n 3, 1)) rfl
theorem dX9_line_32 : decode cX9_line 32 = .ok (.invokevirtual 180, 3) := td tX9_line_0_ok 19 (q := (32, .invokevirtual 180, 3)) rfl
theorem dX9_line_35 : decode cX9_line 35 = .ok (.goto 8, 3) := td tX9_line_0_ok 20 (q := (35, .goto 8, 3)) rfl
theorem dX9_line_38 : decode cX9_line 38 = .ok (.aload_n 0, 1) := td tX9_line_0_ok 21 (q := (38, .aload_n 0, 1)) rfl
theorem dX9_line_39 : decode cX9_line 39 = .ok (.iconst 1, 1) := td tX9_line_0_ok 22 (q := (39, .iconst 1, 1)) rfl
theorem dX9_line_40 : decode cX9_line 40 = .ok (.invokevirtual 79, 3) := td tX9_line_0_ok 23 (q := (40, .invokevirtual 79, 3)) rfl
theorem dX9_line_43 : decode cX9_line 43 = .ok (.ireturn, 1) := td tX9_line_0_ok 24 (q := (43, .ireturn, 1)) rfl
def fX9_line (ms : (Nat → Int32)) (mt : Int32) (x1 : Int32) (x2 : Int32) (x3 : Int32) : Option (Int32 × Int32) :=
  (Option.bind (fX9_in x1 (0 : Int32) (7 : Int32)) (fun q1 => (if q1 = 0 then (Option.bind (fX9_fails (0 : Int32) (1 : Int32)) (fun q3 => (some (q3.1, q3.2)))) else (if x2 < 0 then (Option.bind (fX9_fails (0 : Int32) (1 : Int32)) (fun q5 => (some (q5.1, q5.2)))) else (Option.bind (fX9_in x3 (0 : Int32) (2 : Int32)) (fun q6 => (if q6 = 0 then (Option.bind (fX9_fails (0 : Int32) (1 : Int32)) (fun q8 => (some (q8.1, q8.2)))) else (Option.bind (fX9_tellsLine ms x1 x2 x3) (fun q9 => (some (q9, (0 : Int32))))))))))))
set_option maxHeartbeats 4000000 in
set_option maxRecDepth 100000 in
theorem mX9_line {l : Launch} {D : va_G} {bd : Nat → Nat} {cI : ClassId} {ms : (Nat → Int32)} {msv : (Nat → Int32)} {mb : (Nat → Int32)} {mf : (Nat → Int32)} {mr : (Nat → Int32)} {mt : Int32} {mn : Int32} {ml : Int32} {mat : Int32} {mw : Int32} {mm : Int32} {mh : Int64} {x1 : Int32} {x2 : Int32} {x3 : Int32} {r : Int32} {mt' : Int32} (hs : fX9_line ms mt x1 x2 x3 = some (r, mt')) : nd_C l yX9_line cX9_line 4 (some .int) 5 117 D [(cI, .int)] [.ref (bd 0), .int x1, .int x2, .int x3] (MW bd cI ms msv mb mf mr mt mn ml mat mw mm mh) (MW bd cI ms msv mb mf mr mt' mn ml mat mw mm mh) (some (.int r)) := by
  refine nd_ofCi (by decide) (Nat.le_of_ble_eq_true rfl) (fun p e s m args below meth c_ ls A Q hx hb hml hown hts hl hP hK hD hS hA hN hret => ?_)
  have hown : s.vm.findClass RX9 = some m.cls := hown
  have hl : lv_has ls 4 [(0, .ref (bd 0)), (1, .int x1), (2, .int x2), (3, .int x3)] := hl
  have hret : ∀ (z0 : Int32) (z1 : Int32) {H : Heap} {locs : List Loc} {pc : Nat} {ls : Array Slot}, some (z0, z1) = some (r, mt') → va_P D vwCl (MW bd cI ms msv mb mf mr z1 mn ml mat mw mm mh) H → va_S A s.heap H locs → decode cX9_line pc = .ok (.ireturn, 1) → W p l e ⟨5, 0, 0, 117⟩ s m args below meth c_ H locs 0 0 Q (F0 m pc ls [.int z0]) := by
    intro z0 z1 H locs pc ls h hP hS hd
    cases h
    exact hret hP hS hd
  rw [fX9_line] at hs
  refine lv_aload_n hx hb dX9_line_0 rfl (lv_at hl 0 rfl) ?_
  refine lv_iconst (v := (0 : Int32)) hx hb dX9_line_1 (by decide) ?_
  refine pf_X9_25 hx hb hts hown hK hP hD hS 0 rfl rfl dX9_line_2 (fun H locs hP hD hS => ?_)
  have hP : va_P D vwCl (MW bd cI ms msv mb mf mr (0 : Int32) mn ml mat mw mm mh) H := hP
  have hD : va_D A (MW bd cI ms msv mb mf mr (0 : Int32) mn ml mat mw mm mh) := hD
  refine lv_iload_n hx hb dX9_line_5 rfl (lv_at hl 1 rfl) ?_
  refine lv_iconst (v := (0 : Int32)) hx hb dX9_line_6 (by decide) ?_
  refine lv_bipush (v := (7 : Int32)) hx hb dX9_line_7 (by decide) ?_
  obtain ⟨q1, eq1, hs⟩ := ob hs
  refine nd_callS (As := [.int x1, .int (0 : Int32), .int (7 : Int32)]) (rest := []) (st1 := [.int q1]) hx hb hml hown hts hl hP hK hD hS hA hN (mX9_in eq1) is_X9_in wd_127 rfl rfl ⟨Nat.le_of_ble_eq_true rfl, Nat.le_of_ble_eq_true rfl⟩ (Nat.le_of_ble_eq_true rfl) ⟨Nat.zero_le _, Nat.zero_le _⟩ dX9_line_9 rfl rfl (fun H locs hP hD hS => ?_)
  refine lv_if_eq (tgt := 38) hx hb dX9_line_12 (by decide) (fun b2 => ?_) (fun b2 => ?_)
  · have hs := ite_t hs b2
    refine lv_aload_n hx hb dX9_line_38 rfl (lv_at hl 0 rfl) ?_
    refine lv_iconst (v := (1 : Int32)) hx hb dX9_line_39 (by decide) ?_
    obtain ⟨q3, eq3, hs⟩ := ob hs
    refine nd_callV (As := [.int (1 : Int32)]) (rest := []) (st1 := [.int q3.1]) hx hb hml hown hts hl hP hK hD hS hA hN (mX9_fails eq3) iv_X9_fails wd_130 0 rfl rfl rfl rfl ⟨Nat.le_of_ble_eq_true rfl, Nat.le_of_ble_eq_true rfl⟩ (Nat.le_of_ble_eq_true rfl) ⟨Nat.zero_le _, Nat.zero_le _⟩ dX9_line_40 rfl rfl (fun H locs hP hD hS => ?_)
    exact hret _ _ hs hP hS dX9_line_43
  · have hs := ite_f hs b2
    refine lv_iload_n hx hb dX9_line_15 rfl (lv_at hl 2 rfl) ?_
    refine lv_if_lt (tgt := 38) hx hb dX9_line_16 (by decide) (fun b4 => ?_) (fun b4 => ?_)
    · have hs := ite_t hs b4
      refine lv_aload_n hx hb dX9_line_38 rfl (lv_at hl 0 rfl) ?_
      refine lv_iconst (v := (1 : Int32)) hx hb dX9_line_39 (by decide) ?_
      obtain ⟨q5, eq5, hs⟩ := ob hs
      refine nd_callV (As := [.int (1 : Int32)]) (rest := []) (st1 := [.int q5.1]) hx hb hml hown hts hl hP hK hD hS hA hN (mX9_fails eq5) iv_X9_fails wd_130 0 rfl rfl rfl rfl ⟨Nat.le_of_ble_eq_true rfl, Nat.le_of_ble_eq_true rfl⟩ (Nat.le_of_ble_eq_true rfl) ⟨Nat.zero_le _, Nat.zero_le _⟩ dX9_line_40 rfl rfl (fun H locs hP hD hS => ?_)
      exact hret _ _ hs hP hS dX9_line_43
    · have hs := ite_f hs b4
      refine lv_iload_n hx hb dX9_line_19 rfl (lv_at hl 3 rfl) ?_
      refine lv_iconst (v := (0 : Int32)) hx hb dX9_line_20 (by decide) ?_
      refine lv_iconst (v := (2 : Int32)) hx hb dX9_line_21 (by decide) ?_
      obtain ⟨q6, eq6, hs⟩ := ob hs
      refine nd_callS (As := [.int x3, .int (0 : Int32), .int (2 : Int32)]) (rest := []) (st1 := [.int q6]) hx hb hml hown hts hl hP hK hD hS hA hN (mX9_in eq6) is_X9_in wd_127 rfl rfl ⟨Nat.le_of_ble_eq_true rfl, Nat.le_of_ble_eq_true rfl⟩ (Nat.le_of_ble_eq_true rfl) ⟨Nat.zero_le _, Nat.zero_le _⟩ dX9_line_22 rfl rfl (fun H locs hP hD hS => ?_)
      refine lv_if_eq (tgt := 38) hx hb dX9_line_25 (by decide) (fun b7 => ?_) (fun b7 => ?_)
      · have hs := ite_t hs b7
        refine lv_aload_n hx hb dX9_line_38 rfl (lv_at hl 0 rfl) ?_
        refine lv_iconst (v := (1 : Int32)) hx hb dX9_line_39 (by decide) ?_
        obtain ⟨q8, eq8, hs⟩ := ob hs
        refine nd_callV (As := [.int (1 : Int32)]) (rest := []) (st1 := [.int q8.1]) hx hb hml hown hts hl hP hK hD hS hA hN (mX9_fails eq8) iv_X9_fails wd_130 0 rfl rfl rfl rfl ⟨Nat.le_of_ble_eq_true rfl, Nat.le_of_ble_eq_true rfl⟩ (Nat.le_of_ble_eq_true rfl) ⟨Nat.zero_le _, Nat.zero_le _⟩ dX9_line_40 rfl rfl (fun H locs hP hD hS => ?_)
        exact hret _ _ hs hP hS dX9_line_43
      · have hs := ite_f hs b7
        refine lv_aload_n hx hb dX9_line_28 rfl (lv_at hl 0 rfl) ?_
        refine lv_iload_n hx hb dX9_line_29 rfl (lv_at hl 1 rfl) ?_
        refine lv_iload_n hx hb dX9_line_30 rfl (lv_at hl 2 rfl) ?_
        refine lv_iload_n hx hb dX9_line_31 rfl (lv_at hl 3 rfl) ?_
        obtain ⟨q9, eq9, hs⟩ := ob hs
        refine nd_callV (As := [.int x1, .int x2, .int x3]) (rest := []) (st1 := [.int q9]) hx hb hml hown hts hl hP hK hD hS hA hN (mX9_tellsLine eq9) iv_X9_tellsLine wd_713 0 rfl rfl rfl rfl ⟨Nat.le_of_ble_eq_true rfl, Nat.le_of_ble_eq_true rfl⟩ (Nat.le_of_ble_eq_true rfl) ⟨Nat.zero_le _, Nat.zero_le _⟩ dX9_line_32 rfl rfl (fun H locs hP hD hS => ?_)
        refine lv_goto (tgt := 43) hx hb dX9_line_35 (by decide) ?_
        exact hret _ _ hs hP hS dX9_line_43
def tX9_sumBy_0 : List (Nat × Instr × Nat) := [(0, .iconst 0, 1), (1, .istore_n 3, 1), (2, .iconst 0, 1), (3, .istore 4, 2), (5, .iload 4, 2), (7, .aload_n 0, 1), (8, .getfield 7, 3), (11, .iconst 0, 1), (12, .iaload, 1), (13, .if_icmp .ge 91, 3), (16, .iconst 0, 1), (17, .istore 5, 2), (19, .iload 5, 2), (21, .aload_n 0, 1), (22, .iload 4, 2), (24, .iconst 2, 1), (25, .invokevirtual 33, 3), (28, .if_icmp .ge 70, 3), (31, .iload_n 1, 1), (32, .iconst (-1), 1), (33, .if_icmp .eq 15, 3), (36, .aload_n 0, 1), (37, .iload 4, 2), (39, .iload 5, 2), (41, .invokevirtual 155, 3), (44, .iload_n 1, 1), (45, .if_icmp .ne 24, 3), (48, .iload_n 2, 1), (49, .iconst (-1), 1), (50, .if_icmp .eq 15, 3), (53, .aload_n 0, 1), (54, .iload 4, 2), (56, .iload 5, 2), (58, .invokevirtual 164, 3), (61, .iload_n 2, 1), (62, .if_icmp .ne 7, 3), (65, .iconst 1, 1), (66, .goto 4, 3), (69, .iconst 0, 1), (70, .istore 6, 2), (72, .iload_n 3, 1), (73, .iload 6, 2), (75, .ifCond .eq 14, 3), (78, .aload_n 0, 1), (79, .iload 4, 2), (81, .iload 5, 2), (83, .invokevirtual 47, 3), (86, .goto 4, 3), (89, .iconst 0, 1), (90, .iadd, 1), (91, .istore_n 3, 1), (92, .iinc 5 1, 3), (95, .goto (-76), 3), (98, .iinc 4 1, 3), (101, .goto (-96), 3), (104, .iload_n 3, 1), (105, .ireturn, 1)]
theorem tX9_sumBy_0_ok : tX9_sumBy_0.all (fun q => decide (decode cX9_sumBy q.1 = .ok q.2)) = true := by decide +kernel
theorem dX9_sumBy_0 : decode cX9_sumBy 0 = .ok (.iconst 0, 1) := td tX9_sumBy_0_ok 0 (q := (0, .iconst 0, 1)) rfl
theorem dX9_sumBy_1 : decode cX9_sumBy 1 = .ok (.istore_n 3, 1) := td tX9_sumBy_0_ok 1 (q := (1, .istore_n 3, 1)) rfl
theorem dX9_sumBy_2 : decode cX9_sumBy 2 = .ok (.iconst 0, 1) := td tX9_sumBy_0_ok 2 (q := (2, .iconst 0, 1)) rfl
theorem dX9_sumBy_3 : decode cX9_sumBy 3 = .ok (.istore 4, 2) := td tX9_sumBy_0_ok 3 (q := (3, .istore 4, 2)) rfl
theorem dX9_sumBy_5 : decode cX9_sumBy 5 = .ok (.iload 4, 2) := td tX9_sumBy_0_ok 4 (q := (5, .iload 4, 2)) rfl
theorem dX9_sumBy_7 : decode cX9_sumBy 7 = .ok (.aload_n 0, 1) := td tX9_sumBy_0_ok 5 (q := (7, .aload_n 0, 1)) rfl
theorem dX9_sumBy_8 : decode cX9_sumBy 8 = .ok (.getfield 7, 3) := td tX9_sumBy_0_ok 6 (q := (8, .getfield 7, 3)) rfl
theorem dX9_sumBy_11 : decode cX9_sumBy 11 = .ok (.iconst 0, 1) := td tX9_sumBy_0_ok 7 (q := (11, .iconst 0, 1)) rfl
theorem dX9_sumBy_12 : decode cX9_sumBy 12 = .ok (.iaload, 1) := td tX9_sumBy_0_ok 8 (q := (12, .iaload, 1)) rfl
theorem dX9_sumBy_13 : decode cX9_sumBy 13 = .ok (.if_icmp .ge 91, 3) := td tX9_sumBy_0_ok 9 (q := (13, .if_icmp .ge 91, 3)) rfl
theorem dX9_sumBy_16 : decode cX9_sumBy 16 = .ok (.iconst 0, 1) := td tX9_sumBy_0_ok 10 (q := (16, .iconst 0, 1)) rfl
theorem dX9_sumBy_17 : decode cX9_sumBy 17 = .ok (.istore 5, 2) := td tX9_sumBy_0_ok 11 (q := (17, .istore 5, 2)) rfl
theorem dX9_sumBy_19 : decode cX9_sumBy 19 = .ok (.iload 5, 2) := td tX9_sumBy_0_ok 12 (q := (19, .iload 5, 2)) rfl
theorem dX9_sumBy_21 : decode cX9_sumBy 21 = .ok (.aload_n 0, 1) := td tX9_sumBy_0_ok 13 (q := (21, .aload_n 0, 1)) rfl
theorem dX9_sumBy_22 : decode cX9_sumBy 22 = .ok (.iload 4, 2) := td tX9_sumBy_0_ok 14 (q := (22, .iload 4, 2)) rfl
theorem dX9_sumBy_24 : decode cX9_sumBy 24 = .ok (.iconst 2, 1) := td tX9_sumBy_0_ok 15 (q := (24, .iconst 2, 1)) rfl
theorem dX9_sumBy_25 : decode cX9_sumBy 25 = .ok (.invokevirtual 33, 3) := td tX9_sumBy_0_ok 16 (q := (25, .invokevirtual 33, 3)) rfl
theorem dX9_sumBy_28 : decode cX9_sumBy 28 = .ok (.if_icmp .ge 70, 3) := td tX9_sumBy_0_ok 17 (q := (28, .if_icmp .ge 70, 3)) rfl
theorem dX9_sumBy_31 : decode cX9_sumBy 31 = .ok (.iload_n 1, 1) := td tX9_sumBy_0_ok 18 (q := (31, .iload_n 1, 1)) rfl
theorem dX9_sumBy_32 : decode cX9_sumBy 32 = .ok (.iconst (-1), 1) := td tX9_sumBy_0_ok 19 (q := (32, .iconst (-1), 1)) rfl
theorem dX9_sumBy_33 : decode cX9_sumBy 33 = .ok (.if_icmp .eq 15, 3) := td tX9_sumBy_0_ok 20 (q := (33, .if_icmp .eq 15, 3)) rfl
theorem dX9_sumBy_36 : decode cX9_sumBy 36 = .ok (.aload_n 0, 1) := td tX9_sumBy_0_ok 21 (q := (36, .aload_n 0, 1)) rfl
theorem dX9_sumBy_37 : decode cX9_sumBy 37 = .ok (.iload 4, 2) := td tX9_sumBy_0_ok 22 (q := (37, .iload 4, 2)) rfl
theorem dX9_sumBy_39 : decode cX9_sumBy 39 = .ok (.iload 5, 2) := td tX9_sumBy_0_ok 23 (q := (39, .iload 5, 2)) rfl
theorem dX9_sumBy_41 : decode cX9_sumBy 41 = .ok (.invokevirtual 155, 3) := td tX9_sumBy_0_ok 24 (q := (41, .invokevirtual 155, 3)) rfl
theorem dX9_sumBy_44 : decode cX9_sumBy 44 = .ok (.iload_n 1, 1) := td tX9_sumBy_0_ok 25 (q := (44, .iload_n 1, 1)) rfl
theorem dX9_sumBy_45 : decode cX9_sumBy 45 = .ok (.if_icmp .ne 24, 3) := td tX9_sumBy_0_ok 26 (q := (45, .if_icmp .ne 24, 3)) rfl
theorem dX9_sumBy_48 : decode cX9_sumBy 48 = .ok (.iload_n 2, 1) := td tX9_sumBy_0_ok 27 (q := (48, .iload_n 2, 1)) rfl
theorem dX9_sumBy_49 : decode cX9_sumBy 49 = .ok (.iconst (-1), 1) := td tX9_sumBy_0_ok 28 (q := (49, .iconst (-1), 1)) rfl
theorem dX9_sumBy_50 : decode cX9_sumBy 50 = .ok (.if_icmp .eq 15, 3) := td tX9_sumBy_0_ok 29 (q := (50, .if_icmp .eq 15, 3)) rfl
theorem dX9_sumBy_53 : decode cX9_sumBy 53 = .ok (.aload_n 0, 1) := td tX9_sumBy_0_ok 30 (q := (53, .aload_n 0, 1)) rfl
theorem dX9_sumBy_54 : decode cX9_sumBy 54 = .ok (.iload 4, 2) := td tX9_sumBy_0_ok 31 (q := (54, .iload 4, 2)) rfl
theorem dX9_sumBy_56 : decode cX9_sumBy 56 = .ok (.iload 5, 2) := td tX9_sumBy_0_ok 32 (q := (56, .iload 5, 2)) rfl
theorem dX9_sumBy_58 : decode cX9_sumBy 58 = .ok (.invokevirtual 164, 3) := td tX9_sumBy_0_ok 33 (q := (58, .invokevirtual 164, 3)) rfl
theorem dX9_sumBy_61 : decode cX9_sumBy 61 = .ok (.iload_n 2, 1) := td tX9_sumBy_0_ok 34 (q := (61, .iload_n 2, 1)) rfl
theorem dX9_sumBy_62 : decode cX9_sumBy 62 = .ok (.if_icmp .ne 7, 3) := td tX9_sumBy_0_ok 35 (q := (62, .if_icmp .ne 7, 3)) rfl
theorem dX9_sumBy_65 : decode cX9_sumBy 65 = .ok (.iconst 1, 1) := td tX9_sumBy_0_ok 36 (q := (65, .iconst 1, 1)) rfl
theorem dX9_sumBy_66 : decode cX9_sumBy 66 = .ok (.goto 4, 3) := td tX9_sumBy_0_ok 37 (q := (66, .goto 4, 3)) rfl
theorem dX9_sumBy_69 : decode cX9_sumBy 69 = .ok (.iconst 0, 1) := td tX9_sumBy_0_ok 38 (q := (69, .iconst 0, 1)) rfl
theorem dX9_sumBy_70 : decode cX9_sumBy 70 = .ok (.istore 6, 2) := td tX9_sumBy_0_ok 39 (q := (70, .istore 6, 2)) rfl
theorem dX9_sumBy_72 : decode cX9_sumBy 72 = .ok (.iload_n 3, 1) := td tX9_sumBy_0_ok 40 (q := (72, .iload_n 3, 1)) rfl
theorem dX9_sumBy_73 : decode cX9_sumBy 73 = .ok (.iload 6, 2) := td tX9_sumBy_0_ok 41 (q := (73, .iload 6, 2)) rfl
theorem dX9_sumBy_75 : decode cX9_sumBy 75 = .ok (.ifCond .eq 14, 3) := td tX9_sumBy_0_ok 42 (q := (75, .ifCond .eq 14, 3)) rfl
theorem dX9_sumBy_78 : decode cX9_sumBy 78 = .ok (.aload_n 0, 1) := td tX9_sumBy_0_ok 43 (q := (78, .aload_n 0, 1)) rfl
theorem dX9_sumBy_79 : decode cX9_sumBy 79 = .ok (.iload 4, 2) := td tX9_sumBy_0_ok 44 (q := (79, .iload 4, 2)) rfl
theorem dX9_sumBy_81 : decode cX9_sumBy 81 = .ok (.iload 5, 2) := td tX9_sumBy_0_ok 45 (q := (81, .iload 5, 2)) rfl
theorem dX9_sumBy_83 : decode cX9_sumBy 83 = .ok (.invokevirtual 47, 3) := td tX9_sumBy_0_ok 46 (q := (83, .invokevirtual 47, 3)) rfl
theorem dX9_sumBy_86 : decode cX9_sumBy 86 = .ok (.goto 4, 3) := td tX9_sumBy_0_ok 47 (q := (86, .goto 4, 3)) rfl
theorem dX9_sumBy_89 : decode cX9_sumBy 89 = .ok (.iconst 0, 1) := td tX9_sumBy_0_ok 48 (q := (89, .iconst 0, 1)) rfl
theorem dX9_sumBy_90 : decode cX9_sumBy 90 = .ok (.iadd, 1) := td tX9_sumBy_0_ok 49 (q := (90, .iadd, 1)) rfl
theorem dX9_sumBy_91 : decode cX9_sumBy 91 = .ok (.istore_n 3, 1) := td tX9_sumBy_0_ok 50 (q := (91, .istore_n 3, 1)) rfl
theorem dX9_sumBy_92 : decode cX9_sumBy 92 = .ok (.iinc 5 1, 3) := td tX9_sumBy_0_ok 51 (q := (92, .iinc 5 1, 3)) rfl
theorem dX9_sumBy_95 : decode cX9_sumBy 95 = .ok (.goto (-76), 3) := td tX9_sumBy_0_ok 52 (q := (95, .goto (-76), 3)) rfl
theorem dX9_sumBy_98 : decode cX9_sumBy 98 = .ok (.iinc 4 1, 3) := td tX9_sumBy_0_ok 53 (q := (98, .iinc 4 1, 3)) rfl
theorem dX9_sumBy_101 : decode cX9_sumBy 101 = .ok (.goto (-96), 3) := td tX9_sumBy_0_ok 54 (q := (101, .goto (-96), 3)) rfl
theorem dX9_sumBy_104 : decode cX9_sumBy 104 = .ok (.iload_n 3, 1) := td tX9_sumBy_0_ok 55 (q := (104, .iload_n 3, 1)) rfl
theorem dX9_sumBy_105 : decode cX9_sumBy 105 = .ok (.ireturn, 1) := td tX9_sumBy_0_ok 56 (q := (105, .ireturn, 1)) rfl
def fX9_sumBy_19 (k19 : Int32 → Option (Int32)) (ms : (Nat → Int32)) (x1 : Int32) (x2 : Int32) (x4 : Int32) : Nat → Int32 → Int32 → Option (Int32)
  | 0, _, _ => none
  | n19 + 1, x3, x5 => (Option.bind (fX9_of ms x4 (2 : Int32)) (fun q3 => (if q3 ≤ x5 then (k19 x3) else (if x1 = (-1 : Int32) then (if x2 = (-1 : Int32) then (Option.bind (fX9_sumOf ms x4 x5) (fun q7 => (fX9_sumBy_19 k19 ms x1 x2 x4 n19 (x3 + q7) (x5 + (1 : Int32))))) else (Option.bind (fX9_hourOf ms x4 x5) (fun q8 => (if q8 = x2 then (Option.bind (fX9_sumOf ms x4 x5) (fun q10 => (fX9_sumBy_19 k19 ms x1 x2 x4 n19 (x3 + q10) (x5 + (1 : Int32))))) else (fX9_sumBy_19 k19 ms x1 x2 x4 n19 (x3 + (0 : Int32)) (x5 + (1 : Int32))))))) else (Option.bind (fX9_shopOf ms x4 x5) (fun q11 => (if q11 = x1 then (if x2 = (-1 : Int32) then (Option.bind (fX9_sumOf ms x4 x5) (fun q14 => (fX9_sumBy_19 k19 ms x1 x2 x4 n19 (x3 + q14) (x5 + (1 : Int32))))) else (Option.bind (fX9_hourOf ms x4 x5) (fun q15 => (if q15 = x2 then (Option.bind (fX9_sumOf ms x4 x5) (fun q17 => (fX9_sumBy_19 k19 ms x1 x2 x4 n19 (x3 + q17) (x5 + (1 : Int32))))) else (fX9_sumBy_19 k19 ms x1 x2 x4 n19 (x3 + (0 : Int32)) (x5 + (1 : Int32))))))) else (fX9_sumBy_19 k19 ms x1 x2 x4 n19 (x3 + (0 : Int32)) (x5 + (1 : Int32))))))))))
def fX9_sumBy_5 (k5 : Int32 → Option (Int32)) (ms : (Nat → Int32)) (x1 : Int32) (x2 : Int32) : Nat → Int32 → Int32 → Option (Int32)
  | 0, _, _ => none
  | n5 + 1, x3, x4 => (Option.bind (aget ms 531 (0 : Int32)) (fun t1 => (if t1 ≤ x4 then (k5 x3) else (fX9_sumBy_19 (fun (u3_18 : Int32) => (fX9_sumBy_5 k5 ms x1 x2 n5 u3_18 (x4 + (1 : Int32)))) ms x1 x2 x4 LF x3 (0 : Int32)))))
def fX9_sumBy (ms : (Nat → Int32)) (x1 : Int32) (x2 : Int32) : Option (Int32) :=
  (fX9_sumBy_5 (fun (u3_34 : Int32) => (some u3_34)) ms x1 x2 LF (0 : Int32) (0 : Int32))
set_option maxHeartbeats 4000000 in
set_option maxRecDepth 100000 in
theorem mX9_sumBy {l : Launch} {D : va_G} {bd : Nat → Nat} {cI : ClassId} {ms : (Nat → Int32)} {msv : (Nat → Int32)} {mb : (Nat → Int32)} {mf : (Nat → Int32)} {mr : (Nat → Int32)} {mt : Int32} {mn : Int32} {ml : Int32} {mat : Int32} {mw : Int32} {mm : Int32} {mh : Int64} {x1 : Int32} {x2 : Int32} {r : Int32} (hs : fX9_sumBy ms x1 x2 = some r) : nd_C l yX9_sumBy cX9_sumBy 7 (some .int) 3 65 D [(cI, .int)] [.ref (bd 0), .int x1, .int x2] (MW bd cI ms msv mb mf mr mt mn ml mat mw mm mh) (MW bd cI ms msv mb mf mr mt mn ml mat mw mm mh) (some (.int r)) := by
  refine nd_ofCi (by decide) (Nat.le_of_ble_eq_true rfl) (fun p e s m args below meth c_ ls A Q hx hb hml hown hts hl hP hK hD hS hA hN hret => ?_)
  have hown : s.vm.findClass RX9 = some m.cls := hown
  have hl : lv_has ls 7 [(0, .ref (bd 0)), (1, .int x1), (2, .int x2)] := hl
  have hret : ∀ (z0 : Int32) {H : Heap} {locs : List Loc} {pc : Nat} {ls : Array Slot}, some z0 = some r → va_P D vwCl (MW bd cI ms msv mb mf mr mt mn ml mat mw mm mh) H → va_S A s.heap H locs → decode cX9_sumBy pc = .ok (.ireturn, 1) → W p l e ⟨3, 0, 0, 65⟩ s m args below meth c_ H locs 0 0 Q (F0 m pc ls [.int z0]) := by
    intro z0 H locs pc ls h hP hS hd
    cases h
    exact hret hP hS hd
  rw [fX9_sumBy] at hs
  refine lv_iconst (v := (0 : Int32)) hx hb dX9_sumBy_0 (by decide) ?_
  refine lv_istore_n (lv' := [(3, .int (0 : Int32)), (0, .ref (bd 0)), (1, .int x1), (2, .int x2)]) hx hb dX9_sumBy_1 rfl hl (by decide) rfl (fun ls hl => ?_)
  refine lv_iconst (v := (0 : Int32)) hx hb dX9_sumBy_2 (by decide) ?_
  refine lv_istore (lv' := [(4, .int (0 : Int32)), (3, .int (0 : Int32)), (0, .ref (bd 0)), (1, .int x1), (2, .int x2)]) hx hb dX9_sumBy_3 hl (by decide) rfl (fun ls hl => ?_)
  have L5 : ∀ (n5 : Nat) (k5 : Int32 → Option (Int32)) (v3_34 : Int32) (v4_34 : Int32) (H : Heap) (locs : List Loc) (ls : Array Slot), lv_has ls 7 [(0, .ref (bd 0)), (1, .int x1), (2, .int x2), (3, .int v3_34), (4, .int v4_34)] → va_P D vwCl (MW bd cI ms msv mb mf mr mt mn ml mat mw mm mh) H → va_S A s.heap H locs → fX9_sumBy_5 k5 ms x1 x2 n5 v3_34 v4_34 = some r → (∀ (u3_34 : Int32) (H : Heap) (locs : List Loc) (ls : Array Slot), lv_has ls 7 [(3, .int u3_34)] → va_P D vwCl (MW bd cI ms msv mb mf mr mt mn ml mat mw mm mh) H → va_S A s.heap H locs → k5 u3_34 = some r → W p l e ⟨3, 0, 0, 65⟩ s m args below meth c_ H locs 0 0 Q (F0 m 104 ls [])) → W p l e ⟨3, 0, 0, 65⟩ s m args below meth c_ H locs 0 0 Q (F0 m 5 ls []) := by
    intro n5
    induction n5 with
    | zero =>
      intro k5 v3_34 v4_34 H locs ls hl hP hS hs hk5
      rw [fX9_sumBy_5] at hs
      cases hs
    | succ n5 ih5 =>
      intro k5 v3_34 v4_34 H locs ls hl hP hS hs hk5
      rw [fX9_sumBy_5] at hs
      refine lv_iload hx hb dX9_sumBy_5 (lv_at hl 4 rfl) ?_
      refine lv_aload_n hx hb dX9_sumBy_7 rfl (lv_at hl 0 rfl) ?_
      refine gf_X9_7 hx hb hts hown hK hP 0 rfl rfl dX9_sumBy_8 ?_
      refine lv_iconst (v := (0 : Int32)) hx hb dX9_sumBy_11 (by decide) ?_
      obtain ⟨t35, et35, hs⟩ := ob hs
      refine nd_iald hx hb hK hP 1 0 rfl rfl et35 dX9_sumBy_12 ?_
      refine lv_icmp_ge (tgt := 104) hx hb dX9_sumBy_13 (by decide) (fun b36 => ?_) (fun b36 => ?_)
      · have hs := ite_t hs b36
        exact hk5 v3_34 _ _ _ (lv_sub hl [3] rfl) hP hS hs
      · have hs := ite_f hs b36
        refine lv_iconst (v := (0 : Int32)) hx hb dX9_sumBy_16 (by decide) ?_
        refine lv_istore (lv' := [(5, .int (0 : Int32)), (0, .ref (bd 0)), (1, .int x1), (2, .int x2), (3, .int v3_34), (4, .int v4_34)]) hx hb dX9_sumBy_17 hl (by decide) rfl (fun ls hl => ?_)
        have L19 : ∀ (n19 : Nat) (k19 : Int32 → Option (Int32)) (v3_52 : Int32) (v5_52 : Int32) (H : Heap) (locs : List Loc) (ls : Array Slot), lv_has ls 7 [(0, .ref (bd 0)), (1, .int x1), (2, .int x2), (3, .int v3_52), (4, .int v4_34), (5, .int v5_52)] → va_P D vwCl (MW bd cI ms msv mb mf mr mt mn ml mat mw mm mh) H → va_S A s.heap H locs → fX9_sumBy_19 k19 ms x1 x2 v4_34 n19 v3_52 v5_52 = some r → (∀ (u3_52 : Int32) (H : Heap) (locs : List Loc) (ls : Array Slot), lv_has ls 7 [(0, .ref (bd 0)), (1, .int x1), (2, .int x2), (3, .int u3_52), (4, .int v4_34)] → va_P D vwCl (MW bd cI ms msv mb mf mr mt mn ml mat mw mm mh) H → va_S A s.heap H locs → k19 u3_52 = some r → W p l e ⟨3, 0, 0, 65⟩ s m args below meth c_ H locs 0 0 Q (F0 m 98 ls [])) → W p l e ⟨3, 0, 0, 65⟩ s m args below meth c_ H locs 0 0 Q (F0 m 19 ls []) := by
          intro n19
          induction n19 with
          | zero =>
            intro k19 v3_52 v5_52 H locs ls hl hP hS hs hk19
            rw [fX9_sumBy_19] at hs
            cases hs
          | succ n19 ih19 =>
            intro k19 v3_52 v5_52 H locs ls hl hP hS hs hk19
            rw [fX9_sumBy_19] at hs
            refine lv_iload hx hb dX9_sumBy_19 (lv_at hl 5 rfl) ?_
            refine lv_aload_n hx hb dX9_sumBy_21 rfl (lv_at hl 0 rfl) ?_
            refine lv_iload hx hb dX9_sumBy_22 (lv_at hl 4 rfl) ?_
            refine lv_iconst (v := (2 : Int32)) hx hb dX9_sumBy_24 (by decide) ?_
            obtain ⟨q53, eq53, hs⟩ := ob hs
            refine nd_callV (As := [.int v4_34, .int (2 : Int32)]) (rest := [.int v5_52]) (st1 := [.int q53, .int v5_52]) hx hb hml hown hts hl hP hK hD hS hA hN (mX9_of eq53) iv_X9_of wd_307 0 rfl rfl rfl rfl ⟨Nat.le_of_ble_eq_true rfl, Nat.le_of_ble_eq_true rfl⟩ (Nat.le_of_ble_eq_true rfl) ⟨Nat.zero_le _, Nat.zero_le _⟩ dX9_sumBy_25 rfl rfl (fun H locs hP hD hS => ?_)
            refine lv_icmp_ge (tgt := 98) hx hb dX9_sumBy_28 (by decide) (fun b54 => ?_) (fun b54 => ?_)
            · have hs := ite_t hs b54
              exact hk19 v3_52 _ _ _ (lv_sub hl [0, 1, 2, 3, 4] rfl) hP hS hs
            · have hs := ite_f hs b54
              refine lv_iload_n hx hb dX9_sumBy_31 rfl (lv_at hl 1 rfl) ?_
              refine lv_iconst (v := (-1 : Int32)) hx hb dX9_sumBy_32 (by decide) ?_
              refine lv_icmp_eq (tgt := 48) hx hb dX9_sumBy_33 (by decide) (fun b55 => ?_) (fun b55 => ?_)
              · have hs := ite_t hs b55
                refine lv_iload_n hx hb dX9_sumBy_48 rfl (lv_at hl 2 rfl) ?_
                refine lv_iconst (v := (-1 : Int32)) hx hb dX9_sumBy_49 (by decide) ?_
                refine lv_icmp_eq (tgt := 65) hx hb dX9_sumBy_50 (by decide) (fun b56 => ?_) (fun b56 => ?_)
                · have hs := ite_t hs b56
                  refine lv_iconst (v := (1 : Int32)) hx hb dX9_sumBy_65 (by decide) ?_
                  refine lv_goto (tgt := 70) hx hb dX9_sumBy_66 (by decide) ?_
                  refine lv_istore (lv' := [(6, .int (1 : Int32)), (0, .ref (bd 0)), (1, .int x1), (2, .int x2), (3, .int v3_52), (4, .int v4_34), (5, .int v5_52)]) hx hb dX9_sumBy_70 hl (by decide) rfl (fun ls hl => ?_)
                  refine lv_iload_n hx hb dX9_sumBy_72 rfl (lv_at hl 4 rfl) ?_
                  refine lv_iload hx hb dX9_sumBy_73 (lv_at hl 0 rfl) ?_
                  refine lv_if_eq (tgt := 89) hx hb dX9_sumBy_75 (by decide) (fun h => absurd h (by decide)) (fun _ => ?_)
                  refine lv_aload_n hx hb dX9_sumBy_78 rfl (lv_at hl 1 rfl) ?_
                  refine lv_iload hx hb dX9_sumBy_79 (lv_at hl 5 rfl) ?_
                  refine lv_iload hx hb dX9_sumBy_81 (lv_at hl 6 rfl) ?_
                  obtain ⟨q57, eq57, hs⟩ := ob hs
                  refine nd_callV (As := [.int v4_34, .int v5_52]) (rest := [.int v3_52]) (st1 := [.int q57, .int v3_52]) hx hb hml hown hts hl hP hK hD hS hA hN (mX9_sumOf eq57) iv_X9_sumOf wd_345 0 rfl rfl rfl rfl ⟨Nat.le_of_ble_eq_true rfl, Nat.le_of_ble_eq_true rfl⟩ (Nat.le_of_ble_eq_true rfl) ⟨Nat.zero_le _, Nat.zero_le _⟩ dX9_sumBy_83 rfl rfl (fun H locs hP hD hS => ?_)
                  refine lv_goto (tgt := 90) hx hb dX9_sumBy_86 (by decide) ?_
                  refine lv_iadd hx hb dX9_sumBy_90 ?_
                  refine lv_istore_n (lv' := [(3, .int (v3_52 + q57)), (6, .int (1 : Int32)), (0, .ref (bd 0)), (1, .int x1), (2, .int x2), (4, .int v4_34), (5, .int v5_52)]) hx hb dX9_sumBy_91 rfl hl (by decide) rfl (fun ls hl => ?_)
                  refine lv_iinc (v := v5_52 + (1 : Int32)) (lv' := [(5, .int (v5_52 + (1 : Int32))), (3, .int (v3_52 + q57)), (6, .int (1 : Int32)), (0, .ref (bd 0)), (1, .int x1), (2, .int x2), (4, .int v4_34)]) hx hb dX9_sumBy_92 hl (k := 6) rfl rfl (by decide) rfl (fun ls hl => ?_)
                  refine lv_goto (tgt := 19) hx hb dX9_sumBy_95 (by decide) ?_
                  exact ih19 k19 (v3_52 + q57) (v5_52 + (1 : Int32)) _ _ _ (lv_sub hl [3, 4, 5, 1, 6, 0] rfl) hP hS hs hk19
                · have hs := ite_f hs b56
                  refine lv_aload_n hx hb dX9_sumBy_53 rfl (lv_at hl 0 rfl) ?_
                  refine lv_iload hx hb dX9_sumBy_54 (lv_at hl 4 rfl) ?_
                  refine lv_iload hx hb dX9_sumBy_56 (lv_at hl 5 rfl) ?_
                  obtain ⟨q58, eq58, hs⟩ := ob hs
                  refine nd_callV (As := [.int v4_34, .int v5_52]) (rest := []) (st1 := [.int q58]) hx hb hml hown hts hl hP hK hD hS hA hN (mX9_hourOf eq58) iv_X9_hourOf wd_637 0 rfl rfl rfl rfl ⟨Nat.le_of_ble_eq_true rfl, Nat.le_of_ble_eq_true rfl⟩ (Nat.le_of_ble_eq_true rfl) ⟨Nat.zero_le _, Nat.zero_le _⟩ dX9_sumBy_58 rfl rfl (fun H locs hP hD hS => ?_)
                  refine lv_iload_n hx hb dX9_sumBy_61 rfl (lv_at hl 2 rfl) ?_
                  refine lv_icmp_ne (tgt := 69) hx hb dX9_sumBy_62 (by decide) (fun b59 => ?_) (fun b59 => ?_)
                  · have hs := ite_f hs b59
                    refine lv_iconst (v := (0 : Int32)) hx hb dX9_sumBy_69 (by decide) ?_
                    refine lv_istore (lv' := [(6, .int (0 : Int32)), (0, .ref (bd 0)), (1, .int x1), (2, .int x2), (3, .int v3_52), (4, .int v4_34), (5, .int v5_52)]) hx hb dX9_sumBy_70 hl (by decide) rfl (fun ls hl => ?_)
                    refine lv_iload_n hx hb dX9_sumBy_72 rfl (lv_at hl 4 rfl) ?_
                    refine lv_iload hx hb dX9_sumBy_73 (lv_at hl 0 rfl) ?_
                    refine lv_if_eq (tgt := 89) hx hb dX9_sumBy_75 (by decide) (fun _ => ?_) (fun h => absurd (by decide) h)
                    refine lv_iconst (v := (0 : Int32)) hx hb dX9_sumBy_89 (by decide) ?_
                    refine lv_iadd hx hb dX9_sumBy_90 ?_
                    refine lv_istore_n (lv' := [(3, .int (v3_52 + (0 : Int32))), (6, .int (0 : Int32)), (0, .ref (bd 0)), (1, .int x1), (2, .int x2), (4, .int v4_34), (5, .int v5_52)]) hx hb dX9_sumBy_91 rfl hl (by decide) rfl (fun ls hl => ?_)
                    refine lv_iinc (v := v5_52 + (1 : Int32)) (lv' := [(5, .int (v5_52 + (1 : Int32))), (3, .int (v3_52 + (0 : Int32))), (6, .int (0 : Int32)), (0, .ref (bd 0)), (1, .int x1), (2, .int x2), (4, .int v4_34)]) hx hb dX9_sumBy_92 hl (k := 6) rfl rfl (by decide) rfl (fun ls hl => ?_)
                    refine lv_goto (tgt := 19) hx hb dX9_sumBy_95 (by decide) ?_
                    exact ih19 k19 (v3_52 + (0 : Int32)) (v5_52 + (1 : Int32)) _ _ _ (lv_sub hl [3, 4, 5, 1, 6, 0] rfl) hP hS hs hk19
                  · have hs := ite_t hs b59
                    refine lv_iconst (v := (1 : Int32)) hx hb dX9_sumBy_65 (by decide) ?_
                    refine lv_goto (tgt := 70) hx hb dX9_sumBy_66 (by decide) ?_
                    refine lv_istore (lv' := [(6, .int (1 : Int32)), (0, .ref (bd 0)), (1, .int x1), (2, .int x2), (3, .int v3_52), (4, .int v4_34), (5, .int v5_52)]) hx hb dX9_sumBy_70 hl (by decide) rfl (fun ls hl => ?_)
                    refine lv_iload_n hx hb dX9_sumBy_72 rfl (lv_at hl 4 rfl) ?_
                    refine lv_iload hx hb dX9_sumBy_73 (lv_at hl 0 rfl) ?_
                    refine lv_if_eq (tgt := 89) hx hb dX9_sumBy_75 (by decide) (fun h => absurd h (by decide)) (fun _ => ?_)
                    refine lv_aload_n hx hb dX9_sumBy_78 rfl (lv_at hl 1 rfl) ?_
                    refine lv_iload hx hb dX9_sumBy_79 (lv_at hl 5 rfl) ?_
                    refine lv_iload hx hb dX9_sumBy_81 (lv_at hl 6 rfl) ?_
                    obtain ⟨q60, eq60, hs⟩ := ob hs
                    refine nd_callV (As := [.int v4_34, .int v5_52]) (rest := [.int v3_52]) (st1 := [.int q60, .int v3_52]) hx hb hml hown hts hl hP hK hD hS hA hN (mX9_sumOf eq60) iv_X9_sumOf wd_345 0 rfl rfl rfl rfl ⟨Nat.le_of_ble_eq_true rfl, Nat.le_of_ble_eq_true rfl⟩ (Nat.le_of_ble_eq_true rfl) ⟨Nat.zero_le _, Nat.zero_le _⟩ dX9_sumBy_83 rfl rfl (fun H locs hP hD hS => ?_)
                    refine lv_goto (tgt := 90) hx hb dX9_sumBy_86 (by decide) ?_
                    refine lv_iadd hx hb dX9_sumBy_90 ?_
                    refine lv_istore_n (lv' := [(3, .int (v3_52 + q60)), (6, .int (1 : Int32)), (0, .ref (bd 0)), (1, .int x1), (2, .int x2), (4, .int v4_34), (5, .int v5_52)]) hx hb dX9_sumBy_91 rfl hl (by decide) rfl (fun ls hl => ?_)
                    refine lv_iinc (v := v5_52 + (1 : Int32)) (lv' := [(5, .int (v5_52 + (1 : Int32))), (3, .int (v3_52 + q60)), (6, .int (1 : Int32)), (0, .ref (bd 0)), (1, .int x1), (2, .int x2), (4, .int v4_34)]) hx hb dX9_sumBy_92 hl (k := 6) rfl rfl (by decide) rfl (fun ls hl => ?_)
                    refine lv_goto (tgt := 19) hx hb dX9_sumBy_95 (by decide) ?_
                    exact ih19 k19 (v3_52 + q60) (v5_52 + (1 : Int32)) _ _ _ (lv_sub hl [3, 4, 5, 1, 6, 0] rfl) hP hS hs hk19
              · have hs := ite_f hs b55
                refine lv_aload_n hx hb dX9_sumBy_36 rfl (lv_at hl 0 rfl) ?_
                refine lv_iload hx hb dX9_sumBy_37 (lv_at hl 4 rfl) ?_
                refine lv_iload hx hb dX9_sumBy_39 (lv_at hl 5 rfl) ?_
                obtain ⟨q61, eq61, hs⟩ := ob hs
                refine nd_callV (As := [.int v4_34, .int v5_52]) (rest := []) (st1 := [.int q61]) hx hb hml hown hts hl hP hK hD hS hA hN (mX9_shopOf eq61) iv_X9_shopOf wd_645 0 rfl rfl rfl rfl ⟨Nat.le_of_ble_eq_true rfl, Nat.le_of_ble_eq_true rfl⟩ (Nat.le_of_ble_eq_true rfl) ⟨Nat.zero_le _, Nat.zero_le _⟩ dX9_sumBy_41 rfl rfl (fun H locs hP hD hS => ?_)
                refine lv_iload_n hx hb dX9_sumBy_44 rfl (lv_at hl 1 rfl) ?_
                refine lv_icmp_ne (tgt := 69) hx hb dX9_sumBy_45 (by decide) (fun b62 => ?_) (fun b62 => ?_)
                · have hs := ite_f hs b62
                  refine lv_iconst (v := (0 : Int32)) hx hb dX9_sumBy_69 (by decide) ?_
                  refine lv_istore (lv' := [(6, .int (0 : Int32)), (0, .ref (bd 0)), (1, .int x1), (2, .int x2), (3, .int v3_52), (4, .int v4_34), (5, .int v5_52)]) hx hb dX9_sumBy_70 hl (by decide) rfl (fun ls hl => ?_)
                  refine lv_iload_n hx hb dX9_sumBy_72 rfl (lv_at hl 4 rfl) ?_
                  refine lv_iload hx hb dX9_sumBy_73 (lv_at hl 0 rfl) ?_
                  refine lv_if_eq (tgt := 89) hx hb dX9_sumBy_75 (by decide) (fun _ => ?_) (fun h => absurd (by decide) h)
                  refine lv_iconst (v := (0 : Int32)) hx hb dX9_sumBy_89 (by decide) ?_
                  refine lv_iadd hx hb dX9_sumBy_90 ?_
                  refine lv_istore_n (lv' := [(3, .int (v3_52 + (0 : Int32))), (6, .int (0 : Int32)), (0, .ref (bd 0)), (1, .int x1), (2, .int x2), (4, .int v4_34), (5, .int v5_52)]) hx hb dX9_sumBy_91 rfl hl (by decide) rfl (fun ls hl => ?_)
                  refine lv_iinc (v := v5_52 + (1 : Int32)) (lv' := [(5, .int (v5_52 + (1 : Int32))), (3, .int (v3_52 + (0 : Int32))), (6, .int (0 : Int32)), (0, .ref (bd 0)), (1, .int x1), (2, .int x2), (4, .int v4_34)]) hx hb dX9_sumBy_92 hl (k := 6) rfl rfl (by decide) rfl (fun ls hl => ?_)
                  refine lv_goto (tgt := 19) hx hb dX9_sumBy_95 (by decide) ?_
                  exact ih19 k19 (v3_52 + (0 : Int32)) (v5_52 + (1 : Int32)) _ _ _ (lv_sub hl [3, 4, 5, 1, 6, 0] rfl) hP hS hs hk19
                · have hs := ite_t hs b62
                  refine lv_iload_n hx hb dX9_sumBy_48 rfl (lv_at hl 2 rfl) ?_
                  refine lv_iconst (v := (-1 : Int32)) hx hb dX9_sumBy_49 (by decide) ?_
                  refine lv_icmp_eq (tgt := 65) hx hb dX9_sumBy_50 (by decide) (fun b63 => ?_) (fun b63 => ?_)
                  · have hs := ite_t hs b63
                    refine lv_iconst (v := (1 : Int32)) hx hb dX9_sumBy_65 (by decide) ?_
                    refine lv_goto (tgt := 70) hx hb dX9_sumBy_66 (by decide) ?_
                    refine lv_istore (lv' := [(6, .int (1 : Int32)), (0, .ref (bd 0)), (1, .int x1), (2, .int x2), (3, .int v3_52), (4, .int v4_34), (5, .int v5_52)]) hx hb dX9_sumBy_70 hl (by decide) rfl (fun ls hl => ?_)
                    refine lv_iload_n hx hb dX9_sumBy_72 rfl (lv_at hl 4 rfl) ?_
                    refine lv_iload hx hb dX9_sumBy_73 (lv_at hl 0 rfl) ?_
                    refine lv_if_eq (tgt := 89) hx hb dX9_sumBy_75 (by decide) (fun h => absurd h (by decide)) (fun _ => ?_)
                    refine lv_aload_n hx hb dX9_sumBy_78 rfl (lv_at hl 1 rfl) ?_
                    refine lv_iload hx hb dX9_sumBy_79 (lv_at hl 5 rfl) ?_
                    refine lv_iload hx hb dX9_sumBy_81 (lv_at hl 6 rfl) ?_
                    obtain ⟨q64, eq64, hs⟩ := ob hs
                    refine nd_callV (As := [.int v4_34, .int v5_52]) (rest := [.int v3_52]) (st1 := [.int q64, .int v3_52]) hx hb hml hown hts hl hP hK hD hS hA hN (mX9_sumOf eq64) iv_X9_sumOf wd_345 0 rfl rfl rfl rfl ⟨Nat.le_of_ble_eq_true rfl, Nat.le_of_ble_eq_true rfl⟩ (Nat.le_of_ble_eq_true rfl) ⟨Nat.zero_le _, Nat.zero_le _⟩ dX9_sumBy_83 rfl rfl (fun H locs hP hD hS => ?_)
                    refine lv_goto (tgt := 90) hx hb dX9_sumBy_86 (by decide) ?_
                    refine lv_iadd hx hb dX9_sumBy_90 ?_
                    refine lv_istore_n (lv' := [(3, .int (v3_52 + q64)), (6, .int (1 : Int32)), (0, .ref (bd 0)), (1, .int x1), (2, .int x2), (4, .int v4_34), (5, .int v5_52)]) hx hb dX9_sumBy_91 rfl hl (by decide) rfl (fun ls hl => ?_)
                    refine lv_iinc (v := v5_52 + (1 : Int32)) (lv' := [(5, .int (v5_52 + (1 : Int32))), (3, .int (v3_52 + q64)), (6, .int (1 : Int32)), (0, .ref (bd 0)), (1, .int x1), (2, .int x2), (4, .int v4_34)]) hx hb dX9_sumBy_92 hl (k := 6) rfl rfl (by decide) rfl (fun ls hl => ?_)
                    refine lv_goto (tgt := 19) hx hb dX9_sumBy_95 (by decide) ?_
                    exact ih19 k19 (v3_52 + q64) (v5_52 + (1 : Int32)) _ _ _ (lv_sub hl [3, 4, 5, 1, 6, 0] rfl) hP hS hs hk19
                  · have hs := ite_f hs b63
                    refine lv_aload_n hx hb dX9_sumBy_53 rfl (lv_at hl 0 rfl) ?_
                    refine lv_iload hx hb dX9_sumBy_54 (lv_at hl 4 rfl) ?_
                    refine lv_iload hx hb dX9_sumBy_56 (lv_at hl 5 rfl) ?_
                    obtain ⟨q65, eq65, hs⟩ := ob hs
                    refine nd_callV (As := [.int v4_34, .int v5_52]) (rest := []) (st1 := [.int q65]) hx hb hml hown hts hl hP hK hD hS hA hN (mX9_hourOf eq65) iv_X9_hourOf wd_637 0 rfl rfl rfl rfl ⟨Nat.le_of_ble_eq_true rfl, Nat.le_of_ble_eq_true rfl⟩ (Nat.le_of_ble_eq_true rfl) ⟨Nat.zero_le _, Nat.zero_le _⟩ dX9_sumBy_58 rfl rfl (fun H locs hP hD hS => ?_)
                    refine lv_iload_n hx hb dX9_sumBy_61 rfl (lv_at hl 2 rfl) ?_
                    refine lv_icmp_ne (tgt := 69) hx hb dX9_sumBy_62 (by decide) (fun b66 => ?_) (fun b66 => ?_)
                    · have hs := ite_f hs b66
                      refine lv_iconst (v := (0 : Int32)) hx hb dX9_sumBy_69 (by decide) ?_
                      refine lv_istore (lv' := [(6, .int (0 : Int32)), (0, .ref (bd 0)), (1, .int x1), (2, .int x2), (3, .int v3_52), (4, .int v4_34), (5, .int v5_52)]) hx hb dX9_sumBy_70 hl (by decide) rfl (fun ls hl => ?_)
                      refine lv_iload_n hx hb dX9_sumBy_72 rfl (lv_at hl 4 rfl) ?_
                      refine lv_iload hx hb dX9_sumBy_73 (lv_at hl 0 rfl) ?_
                      refine lv_if_eq (tgt := 89) hx hb dX9_sumBy_75 (by decide) (fun _ => ?_) (fun h => absurd (by decide) h)
                      refine lv_iconst (v := (0 : Int32)) hx hb dX9_sumBy_89 (by decide) ?_
                      refine lv_iadd hx hb dX9_sumBy_90 ?_
                      refine lv_istore_n (lv' := [(3, .int (v3_52 + (0 : Int32))), (6, .int (0 : Int32)), (0, .ref (bd 0)), (1, .int x1), (2, .int x2), (4, .int v4_34), (5, .int v5_52)]) hx hb dX9_sumBy_91 rfl hl (by decide) rfl (fun ls hl => ?_)
                      refine lv_iinc (v := v5_52 + (1 : Int32)) (lv' := [(5, .int (v5_52 + (1 : Int32))), (3, .int (v3_52 + (0 : Int32))), (6, .int (0 : Int32)), (0, .ref (bd 0)), (1, .int x1), (2, .int x2), (4, .int v4_34)]) hx hb dX9_sumBy_92 hl (k := 6) rfl rfl (by decide) rfl (fun ls hl => ?_)
                      refine lv_goto (tgt := 19) hx hb dX9_sumBy_95 (by decide) ?_
                      exact ih19 k19 (v3_52 + (0 : Int32)) (v5_52 + (1 : Int32)) _ _ _ (lv_sub hl [3, 4, 5, 1, 6, 0] rfl) hP hS hs hk19
                    · have hs := ite_t hs b66
                      refine lv_iconst (v := (1 : Int32)) hx hb dX9_sumBy_65 (by decide) ?_
                      refine lv_goto (tgt := 70) hx hb dX9_sumBy_66 (by decide) ?_
                      refine lv_istore (lv' := [(6, .int (1 : Int32)), (0, .ref (bd 0)), (1, .int x1), (2, .int x2), (3, .int v3_52), (4, .int v4_34), (5, .int v5_52)]) hx hb dX9_sumBy_70 hl (by decide) rfl (fun ls hl => ?_)
                      refine lv_iload_n hx hb dX9_sumBy_72 rfl (lv_at hl 4 rfl) ?_
                      refine lv_iload hx hb dX9_sumBy_73 (lv_at hl 0 rfl) ?_
                      refine lv_if_eq (tgt := 89) hx hb dX9_sumBy_75 (by decide) (fun h => absurd h (by decide)) (fun _ => ?_)
                      refine lv_aload_n hx hb dX9_sumBy_78 rfl (lv_at hl 1 rfl) ?_
                      refine lv_iload hx hb dX9_sumBy_79 (lv_at hl 5 rfl) ?_
                      refine lv_iload hx hb dX9_sumBy_81 (lv_at hl 6 rfl) ?_
                      obtain ⟨q67, eq67, hs⟩ := ob hs
                      refine nd_callV (As := [.int v4_34, .int v5_52]) (rest := [.int v3_52]) (st1 := [.int q67, .int v3_52]) hx hb hml hown hts hl hP hK hD hS hA hN (mX9_sumOf eq67) iv_X9_sumOf wd_345 0 rfl rfl rfl rfl ⟨Nat.le_of_ble_eq_true rfl, Nat.le_of_ble_eq_true rfl⟩ (Nat.le_of_ble_eq_true rfl) ⟨Nat.zero_le _, Nat.zero_le _⟩ dX9_sumBy_83 rfl rfl (fun H locs hP hD hS => ?_)
                      refine lv_goto (tgt := 90) hx hb dX9_sumBy_86 (by decide) ?_
                      refine lv_iadd hx hb dX9_sumBy_90 ?_
                      refine lv_istore_n (lv' := [(3, .int (v3_52 + q67)), (6, .int (1 : Int32)), (0, .ref (bd 0)), (1, .int x1), (2, .int x2), (4, .int v4_34), (5, .int v5_52)]) hx hb dX9_sumBy_91 rfl hl (by decide) rfl (fun ls hl => ?_)
                      refine lv_iinc (v := v5_52 + (1 : Int32)) (lv' := [(5, .int (v5_52 + (1 : Int32))), (3, .int (v3_52 + q67)), (6, .int (1 : Int32)), (0, .ref (bd 0)), (1, .int x1), (2, .int x2), (4, .int v4_34)]) hx hb dX9_sumBy_92 hl (k := 6) rfl rfl (by decide) rfl (fun ls hl => ?_)
                      refine lv_goto (tgt := 19) hx hb dX9_sumBy_95 (by decide) ?_
                      exact ih19 k19 (v3_52 + q67) (v5_52 + (1 : Int32)) _ _ _ (lv_sub hl [3, 4, 5, 1, 6, 0] rfl) hP hS hs hk19
        refine L19 LF _ v3_34 (0 : Int32) _ _ _ (lv_sub hl [1, 2, 3, 4, 5, 0] rfl) hP hS hs (fun u3_52 H locs ls hl hP hS hs => ?_)
        refine lv_iinc (v := v4_34 + (1 : Int32)) (lv' := [(4, .int (v4_34 + (1 : Int32))), (0, .ref (bd 0)), (1, .int x1), (2, .int x2), (3, .int u3_52)]) hx hb dX9_sumBy_98 hl (k := 4) rfl rfl (by decide) rfl (fun ls hl => ?_)
        refine lv_goto (tgt := 5) hx hb dX9_sumBy_101 (by decide) ?_
        exact ih5 k5 u3_52 (v4_34 + (1 : Int32)) _ _ _ (lv_sub hl [1, 2, 3, 4, 0] rfl) hP hS hs hk5
  refine L5 LF _ (0 : Int32) (0 : Int32) _ _ _ (lv_sub hl [2, 3, 4, 1, 0] rfl) hP hS hs (fun u3_34 H locs ls hl hP hS hs => ?_)
  refine lv_iload_n hx hb dX9_sumBy_104 rfl (lv_at hl 0 rfl) ?_
  exact hret _ hs hP hS dX9_sumBy_105
def tX9_sum_0 : List (Nat × Instr × Nat) := [(0, .aload_n 0, 1), (1, .iconst 0, 1), (2, .putfield 25, 3), (5, .iload_n 1, 1), (6, .iconst (-1), 1), (7, .bipush 9, 2), (9, .invokestatic 29, 3), (12, .ifCond .eq 22, 3), (15, .iload_n 2, 1), (16, .iconst (-1), 1), (17, .bipush 23, 2), (19, .invokestatic 29, 3), (22, .ifCond .eq 12, 3), (25, .aload_n 0, 1), (26, .iload_n 1, 1), (27, .iload_n 2, 1), (28, .invokevirtual 183, 3), (31, .goto 8, 3), (34, .aload_n 0, 1), (35, .iconst 1, 1), (36, .invokevirtual 79, 3), (39, .ireturn, 1)]
theorem tX9_sum_0_ok : tX9_sum_0.all (fun q => decide (decode cX9_sum q.1 = .ok q.2)) = true := by decide +kernel
theorem dX9_sum_0 : decode cX9_sum 0 = .ok (.aload_n 0, 1) := td tX9_sum_0_ok 0 (q := (0, .aload_n 0, 1)) rfl
theorem dX9_sum_1 : decode cX9_sum 1 = .ok (.iconst 0, 1) := td tX9_sum_0_ok 1 (q := (1, .iconst 0, 1)) rfl
theorem dX9_sum_2 : decode cX9_sum 2 = .ok (.putfield 25, 3) := td tX9_sum_0_ok 2 (q := (2, .putfield 25, 3)) rfl
theorem dX9_sum_5 : decode cX9_sum 5 = .ok (.iload_n 1, 1) := td tX9_sum_0_ok 3 (q := (5, .iload_n 1, 1)) rfl
theorem dX9_sum_6 : decode cX9_sum 6 = .ok (.iconst (-1), 1) := td tX9_sum_0_ok 4 (q := (6, .iconst (-1), 1)) rfl
theorem dX9_sum_7 : decode cX9_sum 7 = .ok (.bipush 9, 2) := td tX9_sum_0_ok 5 (q := (7, .bipush 9, 2)) rfl
theorem dX9_sum_9 : decode cX9_sum 9 = .ok (.invokestatic 29, 3) := td tX9_sum_0_ok 6 (q := (9, .invokestatic 29, 3)) rfl
theorem dX9_sum_12 : decode cX9_sum 12 = .ok (.ifCond .eq 22, 3) := td tX9_sum_0_ok 7 (q := (12, .ifCond .eq 22, 3)) rfl
theorem dX9_sum_15 : decode cX9_sum 15 = .ok (.iload_n 2, 1) := td tX9_sum_0_ok 8 (q := (15, .iload_n 2, 1)) rfl
theorem dX9_sum_16 : decode cX9_sum 16 = .ok (.iconst (-1), 1) := td tX9_sum_0_ok 9 (q := (16, .iconst (-1), 1)) rfl
theorem dX9_sum_17 : decode cX9_sum 17 = .ok (.bipush 23, 2) := td tX9_sum_0_ok 10 (q := (17, .bipush 23, 2)) rfl
theorem dX9_sum_19 : decode cX9_sum 19 = .ok (.invokestatic 29, 3) := td tX9_sum_0_ok 11 (q := (19, .invokestatic 29, 3)) rfl
theorem dX9_sum_22 : decode cX9_sum 22 = .ok (.ifCond .eq 12, 3) := td tX9_sum_0_ok 12 (q := (22, .ifCond .eq 12, 3)) rfl
theorem dX9_sum_25 : decode cX9_sum 25 = .ok (.aload_n 0, 1) := td tX9_sum_0_ok 13 (q := (25, .aload_n 0, 1)) rfl
theorem dX9_sum_26 : decode cX9_sum 26 = .ok (.iload_n 1, 1) := td tX9_sum_0_ok 14 (q := (26, .iload_n 1, 1)) rfl
theorem dX9_sum_27 : decode cX9_sum 27 = .ok (.iload_n 2, 1) := td tX9_sum_0_ok 15 (q := (27, .iload_n 2, 1)) rfl
theorem dX9_sum_28 : decode cX9_sum 28 = .ok (.invokevirtual 183, 3) := td tX9_sum_0_ok 16 (q := (28, .invokevirtual 183, 3)) rfl
theorem dX9_sum_31 : decode cX9_sum 31 = .ok (.goto 8, 3) := td tX9_sum_0_ok 17 (q := (31, .goto 8, 3)) rfl
theorem dX9_sum_34 : decode cX9_sum 34 = .ok (.aload_n 0, 1) := td tX9_sum_0_ok 18 (q := (34, .aload_n 0, 1)) rfl
theorem dX9_sum_35 : decode cX9_sum 35 = .ok (.iconst 1, 1) := td tX9_sum_0_ok 19 (q := (35, .iconst 1, 1)) rfl
theorem dX9_sum_36 : decode cX9_sum 36 = .ok (.invokevirtual 79, 3) := td tX9_sum_0_ok 20 (q := (36, .invokevirtual 79, 3)) rfl
theorem dX9_sum_39 : decode cX9_sum 39 = .ok (.ireturn, 1) := td tX9_sum_0_ok 21 (q := (39, .ireturn, 1)) rfl
def fX9_sum (ms : (Nat → Int32)) (mt : Int32) (x1 : Int32) (x2 : Int32) : Option (Int32 × Int32) :=
  (Option.bind (fX9_in x1 (-1 : Int32) (9 : Int32)) (fun q1 => (if q1 = 0 then (Option.bind (fX9_fails (0 : Int32) (1 : Int32)) (fun q3 => (some (q3.1, q3.2)))) else (Option.bind (fX9_in x2 (-1 : Int32) (23 : Int32)) (fun q4 => (if q4 = 0 then (Option.bind (fX9_fails (0 : Int32) (1 : Int32)) (fun q6 => (some (q6.1, q6.2)))) else (Option.bind (fX9_sumBy ms x1 x2) (fun q7 => (some (q7, (0 : Int32)))))))))))
set_option maxHeartbeats 4000000 in
set_option maxRecDepth 100000 in
theorem mX9_sum {l : Launch} {D : va_G} {bd : Nat → Nat} {cI : ClassId} {ms : (Nat → Int32)} {msv : (Nat → Int32)} {mb : (Nat → Int32)} {mf : (Nat → Int32)} {mr : (Nat → Int32)} {mt : Int32} {mn : Int32} {ml : Int32} {mat : Int32} {mw : Int32} {mm : Int32} {mh : Int64} {x1 : Int32} {x2 : Int32} {r : Int32} {mt' : Int32} (hs : fX9_sum ms mt x1 x2 = some (r, mt')) : nd_C l yX9_sum cX9_sum 3 (some .int) 4 91 D [(cI, .int)] [.ref (bd 0), .int x1, .int x2] (MW bd cI ms msv mb mf mr mt mn ml mat mw mm mh) (MW bd cI ms msv mb mf mr mt' mn ml mat mw mm mh) (some (.int r)) := by
  refine nd_ofCi (by decide) (Nat.le_of_ble_eq_true rfl) (fun p e s m args below meth c_ ls A Q hx hb hml hown hts hl hP hK hD hS hA hN hret => ?_)
  have hown : s.vm.findClass RX9 = some m.cls := hown
  have hl : lv_has ls 3 [(0, .ref (bd 0)), (1, .int x1), (2, .int x2)] := hl
  have hret : ∀ (z0 : Int32) (z1 : Int32) {H : Heap} {locs : List Loc} {pc : Nat} {ls : Array Slot}, some (z0, z1) = some (r, mt') → va_P D vwCl (MW bd cI ms msv mb mf mr z1 mn ml mat mw mm mh) H → va_S A s.heap H locs → decode cX9_sum pc = .ok (.ireturn, 1) → W p l e ⟨4, 0, 0, 91⟩ s m args below meth c_ H locs 0 0 Q (F0 m pc ls [.int z0]) := by
    intro z0 z1 H locs pc ls h hP hS hd
    cases h
    exact hret hP hS hd
  rw [fX9_sum] at hs
  refine lv_aload_n hx hb dX9_sum_0 rfl (lv_at hl 0 rfl) ?_
  refine lv_iconst (v := (0 : Int32)) hx hb dX9_sum_1 (by decide) ?_
  refine pf_X9_25 hx hb hts hown hK hP hD hS 0 rfl rfl dX9_sum_2 (fun H locs hP hD hS => ?_)
  have hP : va_P D vwCl (MW bd cI ms msv mb mf mr (0 : Int32) mn ml mat mw mm mh) H := hP
  have hD : va_D A (MW bd cI ms msv mb mf mr (0 : Int32) mn ml mat mw mm mh) := hD
  refine lv_iload_n hx hb dX9_sum_5 rfl (lv_at hl 1 rfl) ?_
  refine lv_iconst (v := (-1 : Int32)) hx hb dX9_sum_6 (by decide) ?_
  refine lv_bipush (v := (9 : Int32)) hx hb dX9_sum_7 (by decide) ?_
  obtain ⟨q1, eq1, hs⟩ := ob hs
  refine nd_callS (As := [.int x1, .int (-1 : Int32), .int (9 : Int32)]) (rest := []) (st1 := [.int q1]) hx hb hml hown hts hl hP hK hD hS hA hN (mX9_in eq1) is_X9_in wd_127 rfl rfl ⟨Nat.le_of_ble_eq_true rfl, Nat.le_of_ble_eq_true rfl⟩ (Nat.le_of_ble_eq_true rfl) ⟨Nat.zero_le _, Nat.zero_le _⟩ dX9_sum_9 rfl rfl (fun H locs hP hD hS => ?_)
  refine lv_if_eq (tgt := 34) hx hb dX9_sum_12 (by decide) (fun b2 => ?_) (fun b2 => ?_)
  · have hs := ite_t hs b2
    refine lv_aload_n hx hb dX9_sum_34 rfl (lv_at hl 0 rfl) ?_
    refine lv_iconst (v := (1 : Int32)) hx hb dX9_sum_35 (by decide) ?_
    obtain ⟨q3, eq3, hs⟩ := ob hs
    refine nd_callV (As := [.int (1 : Int32)]) (rest := []) (st1 := [.int q3.1]) hx hb hml hown hts hl hP hK hD hS hA hN (mX9_fails eq3) iv_X9_fails wd_130 0 rfl rfl rfl rfl ⟨Nat.le_of_ble_eq_true rfl, Nat.le_of_ble_eq_true rfl⟩ (Nat.le_of_ble_eq_true rfl) ⟨Nat.zero_le _, Nat.zero_le _⟩ dX9_sum_36 rfl rfl (fun H locs hP hD hS => ?_)
    exact hret _ _ hs hP hS dX9_sum_39
  · have hs := ite_f hs b2
    refine lv_iload_n hx hb dX9_sum_15 rfl (lv_at hl 2 rfl) ?_
    refine lv_iconst (v := (-1 : Int32)) hx hb dX9_sum_16 (by decide) ?_
    refine lv_bipush (v := (23 : Int32)) hx hb dX9_sum_17 (by decide) ?_
    obtain ⟨q4, eq4, hs⟩ := ob hs
    refine nd_callS (As := [.int x2, .int (-1 : Int32), .int (23 : Int32)]) (rest := []) (st1 := [.int q4]) hx hb hml hown hts hl hP hK hD hS hA hN (mX9_in eq4) is_X9_in wd_127 rfl rfl ⟨Nat.le_of_ble_eq_true rfl, Nat.le_of_ble_eq_true rfl⟩ (Nat.le_of_ble_eq_true rfl) ⟨Nat.zero_le _, Nat.zero_le _⟩ dX9_sum_19 rfl rfl (fun H locs hP hD hS => ?_)
    refine lv_if_eq (tgt := 34) hx hb dX9_sum_22 (by decide) (fun b5 => ?_) (fun b5 => ?_)
    · have hs := ite_t hs b5
      refine lv_aload_n hx hb dX9_sum_34 rfl (lv_at hl 0 rfl) ?_
      refine lv_iconst (v := (1 : Int32)) hx hb dX9_sum_35 (by decide) ?_
      obtain ⟨q6, eq6, hs⟩ := ob hs
      refine nd_callV (As := [.int (1 : Int32)]) (rest := []) (st1 := [.int q6.1]) hx hb hml hown hts hl hP hK hD hS hA hN (mX9_fails eq6) iv_X9_fails wd_130 0 rfl rfl rfl rfl ⟨Nat.le_of_ble_eq_true rfl, Nat.le_of_ble_eq_true rfl⟩ (Nat.le_of_ble_eq_true rfl) ⟨Nat.zero_le _, Nat.zero_le _⟩ dX9_sum_36 rfl rfl (fun H locs hP hD hS => ?_)
      exact hret _ _ hs hP hS dX9_sum_39
    · have hs := ite_f hs b5
      refine lv_aload_n hx hb dX9_sum_25 rfl (lv_at hl 0 rfl) ?_
      refine lv_iload_n hx hb dX9_sum_26 rfl (lv_at hl 1 rfl) ?_
      refine lv_iload_n hx hb dX9_sum_27 rfl (lv_at hl 2 rfl) ?_
      obtain ⟨q7, eq7, hs⟩ := ob hs
      refine nd_callV (As := [.int x1, .int x2]) (rest := []) (st1 := [.int q7]) hx hb hml hown hts hl hP hK hD hS hA hN (mX9_sumBy eq7) iv_X9_sumBy wd_736 0 rfl rfl rfl rfl ⟨Nat.le_of_ble_eq_true rfl, Nat.le_of_ble_eq_true rfl⟩ (Nat.le_of_ble_eq_true rfl) ⟨Nat.zero_le _, Nat.zero_le _⟩ dX9_sum_28 rfl rfl (fun H locs hP hD hS => ?_)
      refine lv_goto (tgt := 39) hx hb dX9_sum_31 (by decide) ?_
      exact hret _ _ hs hP hS dX9_sum_39
def tX9_joined_0 : List (Nat × Instr × Nat) := [(0, .iconst 0, 1), (1, .istore_n 1, 1), (2, .iconst 0, 1), (3, .istore_n 2, 1), (4, .iload_n 2, 1), (5, .aload_n 0, 1), (6, .getfield 7, 3), (9, .iconst 0, 1), (10, .iaload, 1), (11, .if_icmp .ge 26, 3), (14, .iload_n 1, 1), (15, .aload_n 0, 1), (16, .iload_n 2, 1), (17, .invokevirtual 60, 3), (20, .iconst (-1), 1), (21, .if_icmp .ne 7, 3), (24, .iconst 0, 1), (25, .goto 4, 3), (28, .iconst 1, 1), (29, .iadd, 1), (30, .istore_n 1, 1), (31, .iinc 2 1, 3), (34, .goto (-30), 3), (37, .iload_n 1, 1), (38, .ireturn, 1)]
theorem tX9_joined_0_ok : tX9_joined_0.all (fun q => decide (decode cX9_joined q.1 = .ok q.2)) = true := by decide +kernel
theorem dX9_joined_0 : decode cX9_joined 0 = .ok (.iconst 0, 1) := td tX9_joined_0_ok 0 (q := (0, .iconst 0, 1)) rfl
theorem dX9_joined_1 : decode cX9_joined 1 = .ok (.istore_n 1, 1) := td tX9_joined_0_ok 1 (q := (1, .istore_n 1, 1)) rfl
theorem dX9_joined_2 : decode cX9_joined 2 = .ok (.iconst 0, 1) := td tX9_joined_0_ok 2 (q := (2, .iconst 0, 1)) rfl
theorem dX9_joined_3 : decode cX9_joined 3 = .ok (.istore_n 2, 1) := td tX9_joined_0_ok 3 (q := (3, .istore_n 2, 1)) rfl
theorem dX9_joined_4 : decode cX9_joined 4 = .ok (.iload_n 2, 1) := td tX9_joined_0_ok 4 (q := (4, .iload_n 2, 1)) rfl
theorem dX9_joined_5 : decode cX9_joined 5 = .ok (.aload_n 0, 1) := td tX9_joined_0_ok 5 (q := (5, .aload_n 0, 1)) rfl
theorem dX9_joined_6 : decode cX9_joined 6 = .ok (.getfield 7, 3) := td tX9_joined_0_ok 6 (q := (6, .getfield 7, 3)) rfl
theorem dX9_joined_9 : decode cX9_joined 9 = .ok (.iconst 0, 1) := td tX9_joined_0_ok 7 (q := (9, .iconst 0, 1)) rfl
theorem dX9_joined_10 : decode cX9_joined 10 = .ok (.iaload, 1) := td tX9_joined_0_ok 8 (q := (10, .iaload, 1)) rfl
theorem dX9_joined_11 : decode cX9_joined 11 = .ok (.if_icmp .ge 26, 3) := td tX9_joined_0_ok 9 (q := (11, .if_icmp .ge 26, 3)) rfl
theorem dX9_joined_14 : decode cX9_joined 14 = .ok (.iload_n 1, 1) := td tX9_joined_0_ok 10 (q := (14, .iload_n 1, 1)) rfl
theorem dX9_joined_15 : decode cX9_joined 15 = .ok (.aload_n 0, 1) := td tX9_joined_0_ok 11 (q := (15, .aload_n 0, 1)) rfl
theorem dX9_joined_16 : decode cX9_joined 16 = .ok (.iload_n 2, 1) := td tX9_joined_0_ok 12 (q := (16, .iload_n 2, 1)) rfl
theorem dX9_joined_17 : decode cX9_joined 17 = .ok (.invokevirtual 60, 3) := td tX9_joined_0_ok 13 (q := (17, .invokevirtual 60, 3)) rfl
theorem dX9_joined_20 : decode cX9_joined 20 = .ok (.iconst (-1), 1) := td tX9_joined_0_ok 14 (q := (20, .iconst (-1), 1)) rfl
theorem dX9_joined_21 : decode cX9_joined 21 = .ok (.if_icmp .ne 7, 3) := td tX9_joined_0_ok 15 (q := (21, .if_icmp .ne 7, 3)) rfl
theorem dX9_joined_24 : decode cX9_joined 24 = .ok (.iconst 0, 1) := td tX9_joined_0_ok 16 (q := (24, .iconst 0, 1)) rfl
theorem dX9_joined_25 : decode cX9_joined 25 = .ok (.goto 4, 3) := td tX9_joined_0_ok 17 (q := (25, .goto 4, 3)) rfl
theorem dX9_joined_28 : decode cX9_joined 28 = .ok (.iconst 1, 1) := td tX9_joined_0_ok 18 (q := (28, .iconst 1, 1)) rfl
theorem dX9_joined_29 : decode cX9_joined 29 = .ok (.iadd, 1) := td tX9_joined_0_ok 19 (q := (29, .iadd, 1)) rfl
theorem dX9_joined_30 : decode cX9_joined 30 = .ok (.istore_n 1, 1) := td tX9_joined_0_ok 20 (q := (30, .istore_n 1, 1)) rfl
theorem dX9_joined_31 : decode cX9_joined 31 = .ok (.iinc 2 1, 3) := td tX9_joined_0_ok 21 (q := (31, .iinc 2 1, 3)) rfl
theorem dX9_joined_34 : decode cX9_joined 34 = .ok (.goto (-30), 3) := td tX9_joined_0_ok 22 (q := (34, .goto (-30), 3)) rfl
theorem dX9_joined_37 : decode cX9_joined 37 = .ok (.iload_n 1, 1) := td tX9_joined_0_ok 23 (q := (37, .iload_n 1, 1)) rfl
theorem dX9_joined_38 : decode cX9_joined 38 = .ok (.ireturn, 1) := td tX9_joined_0_ok 24 (q := (38, .ireturn, 1)) rfl
def fX9_joined_4 (k4 : Int32 → Option (Int32)) (ms : (Nat → Int32)) : Nat → Int32 → Int32 → Option (Int32)
  | 0, _, _ => none
  | n4 + 1, x1, x2 => (Option.bind (aget ms 531 (0 : Int32)) (fun t1 => (if t1 ≤ x2 then (k4 x1) else (Option.bind (fX9_lowerOf ms x2) (fun q3 => (if q3 = (-1 : Int32) then (fX9_joined_4 k4 ms n4 (x1 + (0 : Int32)) (x2 + (1 : Int32))) else (fX9_joined_4 k4 ms n4 (x1 + (1 : Int32)) (x2 + (1 : Int32)))))))))
def fX9_joined (ms : (Nat → Int32)) : Option (Int32) :=
  (fX9_joined_4 (fun (u1_5 : Int32) => (some u1_5)) ms LF (0 : Int32) (0 : Int32))
set_option maxHeartbeats 4000000 in
set_option maxRecDepth 100000 in
theorem mX9_joined {l : Launch} {D : va_G} {bd : Nat → Nat} {cI : ClassId} {ms : (Nat → Int32)} {msv : (Nat → Int32)} {mb : (Nat → Int32)} {mf : (Nat → Int32)} {mr : (Nat → Int32)} {mt : Int32} {mn : Int32} {ml : Int32} {mat : Int32} {mw : Int32} {mm : Int32} {mh : Int64} {r : Int32} (hs : fX9_joined ms = some r) : nd_C l yX9_joined cX9_joined 3 (some .int) 2 43 D [(cI, .int)] [.ref (bd 0)] (MW bd cI ms msv mb mf mr mt mn ml mat mw mm mh) (MW bd cI ms msv mb mf mr mt mn ml mat mw mm mh) (some (.int r)) := by
  refine nd_ofCi (by decide) (Nat.le_of_ble_eq_true rfl) (fun p e s m args below meth c_ ls A Q hx hb hml hown hts hl hP hK hD hS hA hN hret => ?_)
  have hown : s.vm.findClass RX9 = some m.cls := hown
  have hl : lv_has ls 3 [(0, .ref (bd 0))] := hl
  have hret : ∀ (z0 : Int32) {H : Heap} {locs : List Loc} {pc : Nat} {ls : Array Slot}, some z0 = some r → va_P D vwCl (MW bd cI ms msv mb mf mr mt mn ml mat mw mm mh) H → va_S A s.heap H locs → decode cX9_joined pc = .ok (.ireturn, 1) → W p l e ⟨2, 0, 0, 43⟩ s m args below meth c_ H locs 0 0 Q (F0 m pc ls [.int z0]) := by
    intro z0 H locs pc ls h hP hS hd
    cases h
    exact hret hP hS hd
  rw [fX9_joined] at hs
  refine lv_iconst (v := (0 : Int32)) hx hb dX9_joined_0 (by decide) ?_
  refine lv_istore_n (lv' := [(1, .int (0 : Int32)), (0, .ref (bd 0))]) hx hb dX9_joined_1 rfl hl (by decide) rfl (fun ls hl => ?_)
  refine lv_iconst (v := (0 : Int32)) hx hb dX9_joined_2 (by decide) ?_
  refine lv_istore_n (lv' := [(2, .int (0 : Int32)), (1, .int (0 : Int32)), (0, .ref (bd 0))]) hx hb dX9_joined_3 rfl hl (by decide) rfl (fun ls hl => ?_)
  have L4 : ∀ (n4 : Nat) (k4 : Int32 → Option (Int32)) (v1_5 : Int32) (v2_5 : Int32) (H : Heap) (locs : List Loc) (ls : Array Slot), lv_has ls 3 [(0, .ref (bd 0)), (1, .int v1_5), (2, .int v2_5)] → va_P D vwCl (MW bd cI ms msv mb mf mr mt mn ml mat mw mm mh) H → va_S A s.heap H locs → fX9_joined_4 k4 ms n4 v1_5 v2_5 = some r → (∀ (u1_5 : Int32) (H : Heap) (locs : List Loc) (ls : Array Slot), lv_has ls 3 [(1, .int u1_5)] → va_P D vwCl (MW bd cI ms msv mb mf mr mt mn ml mat mw mm mh) H → va_S A s.heap H locs → k4 u1_5 = some r → W p l e ⟨2, 0, 0, 43⟩ s m args below meth c_ H locs 0 0 Q (F0 m 37 ls [])) → W p l e ⟨2, 0, 0, 43⟩ s m args below meth c_ H locs 0 0 Q (F0 m 4 ls []) := by
    intro n4
    induction n4 with
    | zero =>
      intro k4 v1_5 v2_5 H locs ls hl hP hS hs hk4
      rw [fX9_joined_4] at hs
      cases hs
    | succ n4 ih4 =>
      intro k4 v1_5 v2_5 H locs ls hl hP hS hs hk4
      rw [fX9_joined_4] at hs
      refine lv_iload_n hx hb dX9_joined_4 rfl (lv_at hl 2 rfl) ?_
      refine lv_aload_n hx hb dX9_joined_5 rfl (lv_at hl 0 rfl) ?_
      refine gf_X9_7 hx hb hts hown hK hP 0 rfl rfl dX9_joined_6 ?_
      refine lv_iconst (v := (0 : Int32)) hx hb dX9_joined_9 (by decide) ?_
      obtain ⟨t6, et6, hs⟩ := ob hs
      refine nd_iald hx hb hK hP 1 0 rfl rfl et6 dX9_joined_10 ?_
      refine lv_icmp_ge (tgt := 37) hx hb dX9_joined_11 (by decide) (fun b7 => ?_) (fun b7 => ?_)
      · have hs := ite_t hs b7
        exact hk4 v1_5 _ _ _ (lv_sub hl [1] rfl) hP hS hs
      · have hs := ite_f hs b7
        refine lv_iload_n hx hb dX9_joined_14 rfl (lv_at hl 1 rfl) ?_
        refine lv_aload_n hx hb dX9_joined_15 rfl (lv_at hl 0 rfl) ?_
        refine lv_iload_n hx hb dX9_joined_16 rfl (lv_at hl 2 rfl) ?_
        obtain ⟨q8, eq8, hs⟩ := ob hs
        refine nd_callV (As := [.int v2_5]) (rest := [.int v1_5]) (st1 := [.int q8, .int v1_5]) hx hb hml hown hts hl hP hK hD hS hA hN (mX9_lowerOf eq8) iv_X9_lowerOf wd_303 0 rfl rfl rfl rfl ⟨Nat.le_of_ble_eq_true rfl, Nat.le_of_ble_eq_true rfl⟩ (Nat.le_of_ble_eq_true rfl) ⟨Nat.zero_le _, Nat.zero_le _⟩ dX9_joined_17 rfl rfl (fun H locs hP hD hS => ?_)
        refine lv_iconst (v := (-1 : Int32)) hx hb dX9_joined_20 (by decide) ?_
        refine lv_icmp_ne (tgt := 28) hx hb dX9_joined_21 (by decide) (fun b9 => ?_) (fun b9 => ?_)
        · have hs := ite_f hs b9
          refine lv_iconst (v := (1 : Int32)) hx hb dX9_joined_28 (by decide) ?_
          refine lv_iadd hx hb dX9_joined_29 ?_
          refine lv_istore_n (lv' := [(1, .int (v1_5 + (1 : Int32))), (0, .ref (bd 0)), (2, .int v2_5)]) hx hb dX9_joined_30 rfl hl (by decide) rfl (fun ls hl => ?_)
          refine lv_iinc (v := v2_5 + (1 : Int32)) (lv' := [(2, .int (v2_5 + (1 : Int32))), (1, .int (v1_5 + (1 : Int32))), (0, .ref (bd 0))]) hx hb dX9_joined_31 hl (k := 2) rfl rfl (by decide) rfl (fun ls hl => ?_)
          refine lv_goto (tgt := 4) hx hb dX9_joined_34 (by decide) ?_
          exact ih4 k4 (v1_5 + (1 : Int32)) (v2_5 + (1 : Int32)) _ _ _ (lv_sub hl [2, 1, 0] rfl) hP hS hs hk4
        · have hs := ite_t hs b9
          refine lv_iconst (v := (0 : Int32)) hx hb dX9_joined_24 (by decide) ?_
          refine lv_goto (tgt := 29) hx hb dX9_joined_25 (by decide) ?_
          refine lv_iadd hx hb dX9_joined_29 ?_
          refine lv_istore_n (lv' := [(1, .int (v1_5 + (0 : Int32))), (0, .ref (bd 0)), (2, .int v2_5)]) hx hb dX9_joined_30 rfl hl (by decide) rfl (fun ls hl => ?_)
          refine lv_iinc (v := v2_5 + (1 : Int32)) (lv' := [(2, .int (v2_5 + (1 : Int32))), (1, .int (v1_5 + (0 : Int32))), (0, .ref (bd 0))]) hx hb dX9_joined_31 hl (k := 2) rfl rfl (by decide) rfl (fun ls hl => ?_)
          refine lv_goto (tgt := 4) hx hb dX9_joined_34 (by decide) ?_
          exact ih4 k4 (v1_5 + (0 : Int32)) (v2_5 + (1 : Int32)) _ _ _ (lv_sub hl [2, 1, 0] rfl) hP hS hs hk4
  refine L4 LF _ (0 : Int32) (0 : Int32) _ _ _ (lv_sub hl [2, 1, 0] rfl) hP hS hs (fun u1_5 H locs ls hl hP hS hs => ?_)
  refine lv_iload_n hx hb dX9_joined_37 rfl (lv_at hl 0 rfl) ?_
  exact hret _ hs hP hS dX9_joined_38
def tX9_overReceipts_0 : List (Nat × Instr × Nat) := [(0, .iconst 0, 1), (1, .istore_n 2, 1), (2, .iconst 0, 1), (3, .istore_n 3, 1), (4, .iload_n 3, 1), (5, .aload_n 0, 1), (6, .getfield 7, 3), (9, .iconst 0, 1), (10, .iaload, 1), (11, .if_icmp .ge 75, 3), (14, .iconst 0, 1), (15, .istore 4, 2), (17, .iload 4, 2), (19, .aload_n 0, 1), (20, .iload_n 3, 1), (21, .iconst 2, 1), (22, .invokevirtual 33, 3), (25, .if_icmp .ge 55, 3), (28, .iload_n 2, 1), (29, .iload_n 1, 1), (30, .iconst 2, 1), (31, .if_icmp .ne 7, 3), (34, .iconst 1, 1), (35, .goto 37, 3), (38, .iload_n 1, 1), (39, .bipush 10, 2), (41, .if_icmp .ne 13, 3), (44, .aload_n 0, 1), (45, .iload_n 3, 1), (46, .iload 4, 2), (48, .invokevirtual 167, 3), (51, .goto 21, 3), (54, .aload_n 0, 1), (55, .iload_n 3, 1), (56, .iload 4, 2), (58, .invokevirtual 158, 3), (61, .iload_n 1, 1), (62, .iconst 4, 1), (63, .isub, 1), (64, .if_icmp .ne 7, 3), (67, .iconst 1, 1), (68, .goto 4, 3), (71, .iconst 0, 1), (72, .iadd, 1), (73, .istore_n 2, 1), (74, .iinc 4 1, 3), (77, .goto (-60), 3), (80, .iinc 3 1, 3), (83, .goto (-79), 3), (86, .iload_n 2, 1), (87, .ireturn, 1)]
theorem tX9_overReceipts_0_ok : tX9_overReceipts_0.all (fun q => decide (decode cX9_overReceipts q.1 = .ok q.2)) = true := by decide +kernel
theorem dX9_overReceipts_0 : decode cX9_overReceipts 0 = .ok (.iconst 0, 1) := td tX9_overReceipts_0_ok 0 (q := (0, .iconst 0, 1)) rfl
theorem dX9_overReceipts_1 : decode cX9_overReceipts 1 = .ok (.istore_n 2, 1) := td tX9_overReceipts_0_ok 1 (q := (1, .istore_n 2, 1)) rfl
theorem dX9_overReceipts_2 : decode cX9_overReceipts 2 = .ok (.iconst 0, 1) := td tX9_overReceipts_0_ok 2 (q := (2, .iconst 0, 1)) rfl
theorem dX9_overReceipts_3 : decode cX9_overReceipts 3 = .ok (.istore_n 3, 1) := td tX9_overReceipts_0_ok 3 (q := (3, .istore_n 3, 1)) rfl
theorem dX9_overReceipts_4 : decode cX9_overReceipts 4 = .ok (.iload_n 3, 1) := td tX9_overReceipts_0_ok 4 (q := (4, .iload_n 3, 1)) rfl
theorem dX9_overReceipts_5 : decode cX9_overReceipts 5 = .ok (.aload_n 0, 1) := td tX9_overReceipts_0_ok 5 (q := (5, .aload_n 0, 1)) rfl
theorem dX9_overReceipts_6 : decode cX9_overReceipts 6 = .ok (.getfield 7, 3) := td tX9_overReceipts_0_ok 6 (q := (6, .getfield 7, 3)) rfl
theorem dX9_overReceipts_9 : decode cX9_overReceipts 9 = .ok (.iconst 0, 1) := td tX9_overReceipts_0_ok 7 (q := (9, .iconst 0, 1)) rfl
theorem dX9_overReceipts_10 : decode cX9_overReceipts 10 = .ok (.iaload, 1) := td tX9_overReceipts_0_ok 8 (q := (10, .iaload, 1)) rfl
theorem dX9_overReceipts_11 : decode cX9_overReceipts 11 = .ok (.if_icmp .ge 75, 3) := td tX9_overReceipts_0_ok 9 (q := (11, .if_icmp .ge 75, 3)) rfl
theorem dX9_overReceipts_14 : decode cX9_overReceipts 14 = .ok (.iconst 0, 1) := td tX9_overReceipts_0_ok 10 (q := (14, .iconst 0, 1)) rfl
theorem dX9_overReceipts_15 : decode cX9_overReceipts 15 = .ok (.istore 4, 2) := td tX9_overReceipts_0_ok 11 (q := (15, .istore 4, 2)) rfl
theorem dX9_overReceipts_17 : decode cX9_overReceipts 17 = .ok (.iload 4, 2) := td tX9_overReceipts_0_ok 12 (q := (17, .iload 4, 2)) rfl
theorem dX9_overReceipts_19 : decode cX9_overReceipts 19 = .ok (.aload_n 0, 1) := td tX9_overReceipts_0_ok 13 (q := (19, .aload_n 0, 1)) rfl
theorem dX9_overReceipts_20 : decode cX9_overReceipts 20 = .ok (.iload_n 3, 1) := td tX9_overReceipts_0_ok 14 (q := (20, .iload_n 3, 1)) rfl
theorem dX9_overReceipts_21 : decode cX9_overReceipts 21 = .ok (.iconst 2, 1) := td tX9_overReceipts_0_ok 15 (q := (21, .iconst 2, 1)) rfl
theorem dX9_overReceipts_22 : decode cX9_overReceipts 22 = .ok (.invokevirtual 33, 3) := td tX9_overReceipts_0_ok 16 (q := (22, .invokevirtual 33, 3)) rfl
theorem dX9_overReceipts_25 : decode cX9_overReceipts 25 = .ok (.if_icmp .ge 55, 3) := td tX9_overReceipts_0_ok 17 (q := (25, .if_icmp .ge 55, 3)) rfl
theorem dX9_overReceipts_28 : decode cX9_overReceipts 28 = .ok (.iload_n 2, 1) := td tX9_overReceipts_0_ok 18 (q := (28, .iload_n 2, 1)) rfl
theorem dX9_overReceipts_29 : decode cX9_overReceipts 29 = .ok (.iload_n 1, 1) := td tX9_overReceipts_0_ok 19 (q := (29, .iload_n 1, 1)) rfl
theorem dX9_overReceipts_30 : decode cX9_overReceipts 30 = .ok (.iconst 2, 1) := td tX9_overReceipts_0_ok 20 (q := (30, .iconst 2, 1)) rfl
theorem dX9_overReceipts_31 : decode cX9_overReceipts 31 = .ok (.if_icmp .ne 7, 3) := td tX9_overReceipts_0_ok 21 (q := (31, .if_icmp .ne 7, 3)) rfl
theorem dX9_overReceipts_34 : decode cX9_overReceipts 34 = .ok (.iconst 1, 1) := td tX9_overReceipts_0_ok 22 (q := (34, .iconst 1, 1)) rfl
theorem dX9_overReceipts_35 : decode cX9_overReceipts 35 = .ok (.goto 37, 3) := td tX9_overReceipts_0_ok 23 (q := (35, .goto 37, 3)) rfl
theorem dX9_overReceipts_38 : decode cX9_overReceipts 38 = .ok (.iload_n 1, 1) := td tX9_overReceipts_0_ok 24 (q := (38, .iload_n 1, 1)) rfl
theorem dX9_overReceipts_39 : decode cX9_overReceipts 39 = .ok (.bipush 10, 2) := td tX9_overReceipts_0_ok 25 (q := (39, .bipush 10, 2)) rfl
theorem dX9_overReceipts_41 : decode cX9_overReceipts 41 = .ok (.if_icmp .ne 13, 3) := td tX9_overReceipts_0_ok 26 (q := (41, .if_icmp .ne 13, 3)) rfl
theorem dX9_overReceipts_44 : decode cX9_overReceipts 44 = .ok (.aload_n 0, 1) := td tX9_overReceipts_0_ok 27 (q := (44, .aload_n 0, 1)) rfl
theorem dX9_overReceipts_45 : decode cX9_overReceipts 45 = .ok (.iload_n 3, 1) := td tX9_overReceipts_0_ok 28 (q := (45, .iload_n 3, 1)) rfl
theorem dX9_overReceipts_46 : decode cX9_overReceipts 46 = .ok (.iload 4, 2) := td tX9_overReceipts_0_ok 29 (q := (46, .iload 4, 2)) rfl
theorem dX9_overReceipts_48 : decode cX9_overReceipts 48 = .ok (.invokevirtual 167, 3) := td tX9_overReceipts_0_ok 30 (q := (48, .invokevirtual 167, 3)) rfl
theorem dX9_overReceipts_51 : decode cX9_overReceipts 51 = .ok (.goto 21, 3) := td tX9_overReceipts_0_ok 31 (q := (51, .goto 21, 3)) rfl
theorem dX9_overReceipts_54 : decode cX9_overReceipts 54 = .ok (.aload_n 0, 1) := td tX9_overReceipts_0_ok 32 (q := (54, .aload_n 0, 1)) rfl
theorem dX9_overReceipts_55 : decode cX9_overReceipts 55 = .ok (.iload_n 3, 1) := td tX9_overReceipts_0_ok 33 (q := (55, .iload_n 3, 1)) rfl
theorem dX9_overReceipts_56 : decode cX9_overReceipts 56 = .ok (.iload 4, 2) := td tX9_overReceipts_0_ok 34 (q := (56, .iload 4, 2)) rfl
theorem dX9_overReceipts_58 : decode cX9_overReceipts 58 = .ok (.invokevirtual 158, 3) := td tX9_overReceipts_0_ok 35 (q := (58, .invokevirtual 158, 3)) rfl
theorem dX9_overReceipts_61 : decode cX9_overReceipts 61 = .ok (.iload_n 1, 1) := td tX9_overReceipts_0_ok 36 (q := (61, .iload_n 1, 1)) rfl
theorem dX9_overReceipts_62 : decode cX9_overReceipts 62 = .ok (.iconst 4, 1) := td tX9_overReceipts_0_ok 37 (q := (62, .iconst 4, 1)) rfl
theorem dX9_overReceipts_63 : decode cX9_overReceipts 63 = .ok (.isub, 1) := td tX9_overReceipts_0_ok 38 (q := (63, .isub, 1)) rfl
theorem dX9_overReceipts_64 : decode cX9_overReceipts 64 = .ok (.if_icmp .ne 7, 3) := td tX9_overReceipts_0_ok 39 (q := (64, .if_icmp .ne 7, 3)) rfl
theorem dX9_overReceipts_67 : decode cX9_overReceipts 67 = .ok (.iconst 1, 1) := td tX9_overReceipts_0_ok 40 (q := (67, .iconst 1, 1)) rfl
theorem dX9_overReceipts_68 : decode cX9_overReceipts 68 = .ok (.goto 4, 3) := td tX9_overReceipts_0_ok 41 (q := (68, .goto 4, 3)) rfl
theorem dX9_overReceipts_71 : decode cX9_overReceipts 71 = .ok (.iconst 0, 1) := td tX9_overReceipts_0_ok 42 (q := (71, .iconst 0, 1)) rfl
theorem dX9_overReceipts_72 : decode cX9_overReceipts 72 = .ok (.iadd, 1) := td tX9_overReceipts_0_ok 43 (q := (72, .iadd, 1)) rfl
theorem dX9_overReceipts_73 : decode cX9_overReceipts 73 = .ok (.istore_n 2, 1) := td tX9_overReceipts_0_ok 44 (q := (73, .istore_n 2, 1)) rfl
theorem dX9_overReceipts_74 : decode cX9_overReceipts 74 = .ok (.iinc 4 1, 3) := td tX9_overReceipts_0_ok 45 (q := (74, .iinc 4 1, 3)) rfl
theorem dX9_overReceipts_77 : decode cX9_overReceipts 77 = .ok (.goto (-60), 3) := td tX9_overReceipts_0_ok 46 (q := (77, .goto (-60), 3)) rfl
theorem dX9_overReceipts_80 : decode cX9_overReceipts 80 = .ok (.iinc 3 1, 3) := td tX9_overReceipts_0_ok 47 (q := (80, .iinc 3 1, 3)) rfl
theorem dX9_overReceipts_83 : decode cX9_overReceipts 83 = .ok (.goto (-79), 3) := td tX9_overReceipts_0_ok 48 (q := (83, .goto (-79), 3)) rfl
theorem dX9_overReceipts_86 : decode cX9_overReceipts 86 = .ok (.iload_n 2, 1) := td tX9_overReceipts_0_ok 49 (q := (86, .iload_n 2, 1)) rfl
theorem dX9_overReceipts_87 : decode cX9_overReceipts 87 = .ok (.ireturn, 1) := td tX9_overReceipts_0_ok 50 (q := (87, .ireturn, 1)) rfl
def fX9_overReceipts_17 (k17 : Int32 → Option (Int32)) (ms : (Nat → Int32)) (x1 : Int32) (x3 : Int32) : Nat → Int32 → Int32 → Option (Int32)
  | 0, _, _ => none
  | n17 + 1, x2, x4 => (Option.bind (fX9_of ms x3 (2 : Int32)) (fun q3 => (if q3 ≤ x4 then (k17 x2) else (if x1 = (2 : Int32) then (fX9_overReceipts_17 k17 ms x1 x3 n17 (x2 + (1 : Int32)) (x4 + (1 : Int32))) else (if x1 = (10 : Int32) then (Option.bind (fX9_alike ms x3 x4) (fun q9 => (fX9_overReceipts_17 k17 ms x1 x3 n17 (x2 + q9) (x4 + (1 : Int32))))) else (Option.bind (fX9_stateOf ms x3 x4) (fun q7 => (if q7 = (x1 - (4 : Int32)) then (fX9_overReceipts_17 k17 ms x1 x3 n17 (x2 + (1 : Int32)) (x4 + (1 : Int32))) else (fX9_overReceipts_17 k17 ms x1 x3 n17 (x2 + (0 : Int32)) (x4 + (1 : Int32)))))))))))
def fX9_overReceipts_4 (k4 : Int32 → Option (Int32)) (ms : (Nat → Int32)) (x1 : Int32) : Nat → Int32 → Int32 → Option (Int32)
  | 0, _, _ => none
  | n4 + 1, x2, x3 => (Option.bind (aget ms 531 (0 : Int32)) (fun t1 => (if t1 ≤ x3 then (k4 x2) else (fX9_overReceipts_17 (fun (u2_10 : Int32) => (fX9_overReceipts_4 k4 ms x1 n4 u2_10 (x3 + (1 : Int32)))) ms x1 x3 LF x2 (0 : Int32)))))
def fX9_overReceipts (ms : (Nat → Int32)) (x1 : Int32) : Option (Int32) :=
  (fX9_overReceipts_4 (fun (u2_18 : Int32) => (some u2_18)) ms x1 LF (0 : Int32) (0 : Int32))
set_option maxHeartbeats 4000000 in
set_option maxRecDepth 100000 in
theorem mX9_overReceipts {l : Launch} {D : va_G} {bd : Nat → Nat} {cI : ClassId} {ms : (Nat → Int32)} {msv : (Nat → Int32)} {mb : (Nat → Int32)} {mf : (Nat → Int32)} {mr : (Nat → Int32)} {mt : Int32} {mn : Int32} {ml : Int32} {mat : Int32} {mw : Int32} {mm : Int32} {mh : Int64} {x1 : Int32} {r : Int32} (hs : fX9_overReceipts ms x1 = some r) : nd_C l yX9_overReceipts cX9_overReceipts 5 (some .int) 3 74 D [(cI, .int)] [.ref (bd 0), .int x1] (MW bd cI ms msv mb mf mr mt mn ml mat mw mm mh) (MW bd cI ms msv mb mf mr mt mn ml mat mw mm mh) (some (.int r)) := by
  refine nd_ofCi (by decide) (Nat.le_of_ble_eq_true rfl) (fun p e s m args below meth c_ ls A Q hx hb hml hown hts hl hP hK hD hS hA hN hret => ?_)
  have hown : s.vm.findClass RX9 = some m.cls := hown
  have hl : lv_has ls 5 [(0, .ref (bd 0)), (1, .int x1)] := hl
  have hret : ∀ (z0 : Int32) {H : Heap} {locs : List Loc} {pc : Nat} {ls : Array Slot}, some z0 = some r → va_P D vwCl (MW bd cI ms msv mb mf mr mt mn ml mat mw mm mh) H → va_S A s.heap H locs → decode cX9_overReceipts pc = .ok (.ireturn, 1) → W p l e ⟨3, 0, 0, 74⟩ s m args below meth c_ H locs 0 0 Q (F0 m pc ls [.int z0]) := by
    intro z0 H locs pc ls h hP hS hd
    cases h
    exact hret hP hS hd
  rw [fX9_overReceipts] at hs
  refine lv_iconst (v := (0 : Int32)) hx hb dX9_overReceipts_0 (by decide) ?_
  refine lv_istore_n (lv' := [(2, .int (0 : Int32)), (0, .ref (bd 0)), (1, .int x1)]) hx hb dX9_overReceipts_1 rfl hl (by decide) rfl (fun ls hl => ?_)
  refine lv_iconst (v := (0 : Int32)) hx hb dX9_overReceipts_2 (by decide) ?_
  refine lv_istore_n (lv' := [(3, .int (0 : Int32)), (2, .int (0 : Int32)), (0, .ref (bd 0)), (1, .int x1)]) hx hb dX9_overReceipts_3 rfl hl (by decide) rfl (fun ls hl => ?_)
  have L4 : ∀ (n4 : Nat) (k4 : Int32 → Option (Int32)) (v2_18 : Int32) (v3_18 : Int32) (H : Heap) (locs : List Loc) (ls : Array Slot), lv_has ls 5 [(0, .ref (bd 0)), (1, .int x1), (2, .int v2_18), (3, .int v3_18)] → va_P D vwCl (MW bd cI ms msv mb mf mr mt mn ml mat mw mm mh) H → va_S A s.heap H locs → fX9_overReceipts_4 k4 ms x1 n4 v2_18 v3_18 = some r → (∀ (u2_18 : Int32) (H : Heap) (locs : List Loc) (ls : Array Slot), lv_has ls 5 [(2, .int u2_18)] → va_P D vwCl (MW bd cI ms msv mb mf mr mt mn ml mat mw mm mh) H → va_S A s.heap H locs → k4 u2_18 = some r → W p l e ⟨3, 0, 0, 74⟩ s m args below meth c_ H locs 0 0 Q (F0 m 86 ls [])) → W p l e ⟨3, 0, 0, 74⟩ s m args below meth c_ H locs 0 0 Q (F0 m 4 ls []) := by
    intro n4
    induction n4 with
    | zero =>
      intro k4 v2_18 v3_18 H locs ls hl hP hS hs hk4
      rw [fX9_overReceipts_4] at hs
      cases hs
    | succ n4 ih4 =>
      intro k4 v2_18 v3_18 H locs ls hl hP hS hs hk4
      rw [fX9_overReceipts_4] at hs
      refine lv_iload_n hx hb dX9_overReceipts_4 rfl (lv_at hl 3 rfl) ?_
      refine lv_aload_n hx hb dX9_overReceipts_5 rfl (lv_at hl 0 rfl) ?_
      refine gf_X9_7 hx hb hts hown hK hP 0 rfl rfl dX9_overReceipts_6 ?_
      refine lv_iconst (v := (0 : Int32)) hx hb dX9_overReceipts_9 (by decide) ?_
      obtain ⟨t19, et19, hs⟩ := ob hs
      refine nd_iald hx hb hK hP 1 0 rfl rfl et19 dX9_overReceipts_10 ?_
      refine lv_icmp_ge (tgt := 86) hx hb dX9_overReceipts_11 (by decide) (fun b20 => ?_) (fun b20 => ?_)
      · have hs := ite_t hs b20
        exact hk4 v2_18 _ _ _ (lv_sub hl [2] rfl) hP hS hs
      · have hs := ite_f hs b20
        refine lv_iconst (v := (0 : Int32)) hx hb dX9_overReceipts_14 (by decide) ?_
        refine lv_istore (lv' := [(4, .int (0 : Int32)), (0, .ref (bd 0)), (1, .int x1), (2, .int v2_18), (3, .int v3_18)]) hx hb dX9_overReceipts_15 hl (by decide) rfl (fun ls hl => ?_)
        have L17 : ∀ (n17 : Nat) (k17 : Int32 → Option (Int32)) (v2_28 : Int32) (v4_28 : Int32) (H : Heap) (locs : List Loc) (ls : Array Slot), lv_has ls 5 [(0, .ref (bd 0)), (1, .int x1), (2, .int v2_28), (3, .int v3_18), (4, .int v4_28)] → va_P D vwCl (MW bd cI ms msv mb mf mr mt mn ml mat mw mm mh) H → va_S A s.heap H locs → fX9_overReceipts_17 k17 ms x1 v3_18 n17 v2_28 v4_28 = some r → (∀ (u2_28 : Int32) (H : Heap) (locs : List Loc) (ls : Array Slot), lv_has ls 5 [(0, .ref (bd 0)), (1, .int x1), (2, .int u2_28), (3, .int v3_18)] → va_P D vwCl (MW bd cI ms msv mb mf mr mt mn ml mat mw mm mh) H → va_S A s.heap H locs → k17 u2_28 = some r → W p l e ⟨3, 0, 0, 74⟩ s m args below meth c_ H locs 0 0 Q (F0 m 80 ls [])) → W p l e ⟨3, 0, 0, 74⟩ s m args below meth c_ H locs 0 0 Q (F0 m 17 ls []) := by
          intro n17
          induction n17 with
          | zero =>
            intro k17 v2_28 v4_28 H locs ls hl hP hS hs hk17
            rw [fX9_overReceipts_17] at hs
            cases hs
          | succ n17 ih17 =>
            intro k17 v2_28 v4_28 H locs ls hl hP hS hs hk17
            rw [fX9_overReceipts_17] at hs
            refine lv_iload hx hb dX9_overReceipts_17 (lv_at hl 4 rfl) ?_
            refine lv_aload_n hx hb dX9_overReceipts_19 rfl (lv_at hl 0 rfl) ?_
            refine lv_iload_n hx hb dX9_overReceipts_20 rfl (lv_at hl 3 rfl) ?_
            refine lv_iconst (v := (2 : Int32)) hx hb dX9_overReceipts_21 (by decide) ?_
            obtain ⟨q29, eq29, hs⟩ := ob hs
            refine nd_callV (As := [.int v3_18, .int (2 : Int32)]) (rest := [.int v4_28]) (st1 := [.int q29, .int v4_28]) hx hb hml hown hts hl hP hK hD hS hA hN (mX9_of eq29) iv_X9_of wd_307 0 rfl rfl rfl rfl ⟨Nat.le_of_ble_eq_true rfl, Nat.le_of_ble_eq_true rfl⟩ (Nat.le_of_ble_eq_true rfl) ⟨Nat.zero_le _, Nat.zero_le _⟩ dX9_overReceipts_22 rfl rfl (fun H locs hP hD hS => ?_)
            refine lv_icmp_ge (tgt := 80) hx hb dX9_overReceipts_25 (by decide) (fun b30 => ?_) (fun b30 => ?_)
            · have hs := ite_t hs b30
              exact hk17 v2_28 _ _ _ (lv_sub hl [0, 1, 2, 3] rfl) hP hS hs
            · have hs := ite_f hs b30
              refine lv_iload_n hx hb dX9_overReceipts_28 rfl (lv_at hl 2 rfl) ?_
              refine lv_iload_n hx hb dX9_overReceipts_29 rfl (lv_at hl 1 rfl) ?_
              refine lv_iconst (v := (2 : Int32)) hx hb dX9_overReceipts_30 (by decide) ?_
              refine lv_icmp_ne (tgt := 38) hx hb dX9_overReceipts_31 (by decide) (fun b31 => ?_) (fun b31 => ?_)
              · have hs := ite_f hs b31
                refine lv_iload_n hx hb dX9_overReceipts_38 rfl (lv_at hl 1 rfl) ?_
                refine lv_bipush (v := (10 : Int32)) hx hb dX9_overReceipts_39 (by decide) ?_
                refine lv_icmp_ne (tgt := 54) hx hb dX9_overReceipts_41 (by decide) (fun b32 => ?_) (fun b32 => ?_)
                · have hs := ite_f hs b32
                  refine lv_aload_n hx hb dX9_overReceipts_54 rfl (lv_at hl 0 rfl) ?_
                  refine lv_iload_n hx hb dX9_overReceipts_55 rfl (lv_at hl 3 rfl) ?_
                  refine lv_iload hx hb dX9_overReceipts_56 (lv_at hl 4 rfl) ?_
                  obtain ⟨q33, eq33, hs⟩ := ob hs
                  refine nd_callV (As := [.int v3_18, .int v4_28]) (rest := [.int v2_28]) (st1 := [.int q33, .int v2_28]) hx hb hml hown hts hl hP hK hD hS hA hN (mX9_stateOf eq33) iv_X9_stateOf wd_623 0 rfl rfl rfl rfl ⟨Nat.le_of_ble_eq_true rfl, Nat.le_of_ble_eq_true rfl⟩ (Nat.le_of_ble_eq_true rfl) ⟨Nat.zero_le _, Nat.zero_le _⟩ dX9_overReceipts_58 rfl rfl (fun H locs hP hD hS => ?_)
                  refine lv_iload_n hx hb dX9_overReceipts_61 rfl (lv_at hl 1 rfl) ?_
                  refine lv_iconst (v := (4 : Int32)) hx hb dX9_overReceipts_62 (by decide) ?_
                  refine lv_isub hx hb dX9_overReceipts_63 ?_
                  refine lv_icmp_ne (tgt := 71) hx hb dX9_overReceipts_64 (by decide) (fun b34 => ?_) (fun b34 => ?_)
                  · have hs := ite_f hs b34
                    refine lv_iconst (v := (0 : Int32)) hx hb dX9_overReceipts_71 (by decide) ?_
                    refine lv_iadd hx hb dX9_overReceipts_72 ?_
                    refine lv_istore_n (lv' := [(2, .int (v2_28 + (0 : Int32))), (0, .ref (bd 0)), (1, .int x1), (3, .int v3_18), (4, .int v4_28)]) hx hb dX9_overReceipts_73 rfl hl (by decide) rfl (fun ls hl => ?_)
                    refine lv_iinc (v := v4_28 + (1 : Int32)) (lv' := [(4, .int (v4_28 + (1 : Int32))), (2, .int (v2_28 + (0 : Int32))), (0, .ref (bd 0)), (1, .int x1), (3, .int v3_18)]) hx hb dX9_overReceipts_74 hl (k := 4) rfl rfl (by decide) rfl (fun ls hl => ?_)
                    refine lv_goto (tgt := 17) hx hb dX9_overReceipts_77 (by decide) ?_
                    exact ih17 k17 (v2_28 + (0 : Int32)) (v4_28 + (1 : Int32)) _ _ _ (lv_sub hl [2, 3, 1, 4, 0] rfl) hP hS hs hk17
                  · have hs := ite_t hs b34
                    refine lv_iconst (v := (1 : Int32)) hx hb dX9_overReceipts_67 (by decide) ?_
                    refine lv_goto (tgt := 72) hx hb dX9_overReceipts_68 (by decide) ?_
                    refine lv_iadd hx hb dX9_overReceipts_72 ?_
                    refine lv_istore_n (lv' := [(2, .int (v2_28 + (1 : Int32))), (0, .ref (bd 0)), (1, .int x1), (3, .int v3_18), (4, .int v4_28)]) hx hb dX9_overReceipts_73 rfl hl (by decide) rfl (fun ls hl => ?_)
                    refine lv_iinc (v := v4_28 + (1 : Int32)) (lv' := [(4, .int (v4_28 + (1 : Int32))), (2, .int (v2_28 + (1 : Int32))), (0, .ref (bd 0)), (1, .int x1), (3, .int v3_18)]) hx hb dX9_overReceipts_74 hl (k := 4) rfl rfl (by decide) rfl (fun ls hl => ?_)
                    refine lv_goto (tgt := 17) hx hb dX9_overReceipts_77 (by decide) ?_
                    exact ih17 k17 (v2_28 + (1 : Int32)) (v4_28 + (1 : Int32)) _ _ _ (lv_sub hl [2, 3, 1, 4, 0] rfl) hP hS hs hk17
                · have hs := ite_t hs b32
                  refine lv_aload_n hx hb dX9_overReceipts_44 rfl (lv_at hl 0 rfl) ?_
                  refine lv_iload_n hx hb dX9_overReceipts_45 rfl (lv_at hl 3 rfl) ?_
                  refine lv_iload hx hb dX9_overReceipts_46 (lv_at hl 4 rfl) ?_
                  obtain ⟨q35, eq35, hs⟩ := ob hs
                  refine nd_callV (As := [.int v3_18, .int v4_28]) (rest := [.int v2_28]) (st1 := [.int q35, .int v2_28]) hx hb hml hown hts hl hP hK hD hS hA hN (mX9_alike eq35) iv_X9_alike wd_641 0 rfl rfl rfl rfl ⟨Nat.le_of_ble_eq_true rfl, Nat.le_of_ble_eq_true rfl⟩ (Nat.le_of_ble_eq_true rfl) ⟨Nat.zero_le _, Nat.zero_le _⟩ dX9_overReceipts_48 rfl rfl (fun H locs hP hD hS => ?_)
                  refine lv_goto (tgt := 72) hx hb dX9_overReceipts_51 (by decide) ?_
                  refine lv_iadd hx hb dX9_overReceipts_72 ?_
                  refine lv_istore_n (lv' := [(2, .int (v2_28 + q35)), (0, .ref (bd 0)), (1, .int x1), (3, .int v3_18), (4, .int v4_28)]) hx hb dX9_overReceipts_73 rfl hl (by decide) rfl (fun ls hl => ?_)
                  refine lv_iinc (v := v4_28 + (1 : Int32)) (lv' := [(4, .int (v4_28 + (1 : Int32))), (2, .int (v2_28 + q35)), (0, .ref (bd 0)), (1, .int x1), (3, .int v3_18)]) hx hb dX9_overReceipts_74 hl (k := 4) rfl rfl (by decide) rfl (fun ls hl => ?_)
                  refine lv_goto (tgt := 17) hx hb dX9_overReceipts_77 (by decide) ?_
                  exact ih17 k17 (v2_28 + q35) (v4_28 + (1 : Int32)) _ _ _ (lv_sub hl [2, 3, 1, 4, 0] rfl) hP hS hs hk17
              · have hs := ite_t hs b31
                refine lv_iconst (v := (1 : Int32)) hx hb dX9_overReceipts_34 (by decide) ?_
                refine lv_goto (tgt := 72) hx hb dX9_overReceipts_35 (by decide) ?_
                refine lv_iadd hx hb dX9_overReceipts_72 ?_
                refine lv_istore_n (lv' := [(2, .int (v2_28 + (1 : Int32))), (0, .ref (bd 0)), (1, .int x1), (3, .int v3_18), (4, .int v4_28)]) hx hb dX9_overReceipts_73 rfl hl (by decide) rfl (fun ls hl => ?_)
                refine lv_iinc (v := v4_28 + (1 : Int32)) (lv' := [(4, .int (v4_28 + (1 : Int32))), (2, .int (v2_28 + (1 : Int32))), (0, .ref (bd 0)), (1, .int x1), (3, .int v3_18)]) hx hb dX9_overReceipts_74 hl (k := 4) rfl rfl (by decide) rfl (fun ls hl => ?_)
                refine lv_goto (tgt := 17) hx hb dX9_overReceipts_77 (by decide) ?_
                exact ih17 k17 (v2_28 + (1 : Int32)) (v4_28 + (1 : Int32)) _ _ _ (lv_sub hl [2, 3, 1, 4, 0] rfl) hP hS hs hk17
        refine L17 LF _ v2_18 (0 : Int32) _ _ _ (lv_sub hl [1, 2, 3, 4, 0] rfl) hP hS hs (fun u2_28 H locs ls hl hP hS hs => ?_)
        refine lv_iinc (v := v3_18 + (1 : Int32)) (lv' := [(3, .int (v3_18 + (1 : Int32))), (0, .ref (bd 0)), (1, .int x1), (2, .int u2_28)]) hx hb dX9_overReceipts_80 hl (k := 3) rfl rfl (by decide) rfl (fun ls hl => ?_)
        refine lv_goto (tgt := 4) hx hb dX9_overReceipts_83 (by decide) ?_
        exact ih4 k4 u2_28 (v3_18 + (1 : Int32)) _ _ _ (lv_sub hl [1, 2, 3, 0] rfl) hP hS hs hk4
  refine L4 LF _ (0 : Int32) (0 : Int32) _ _ _ (lv_sub hl [2, 3, 1, 0] rfl) hP hS hs (fun u2_18 H locs ls hl hP hS hs => ?_)
  refine lv_iload_n hx hb dX9_overReceipts_86 rfl (lv_at hl 0 rfl) ?_
  exact hret _ hs hP hS dX9_overReceipts_87
def tX9_pages_0 : List (Nat × Instr × Nat) := [(0, .iconst 0, 1), (1, .istore_n 1, 1), (2, .iconst 0, 1), (3, .istore_n 2, 1), (4, .iload_n 2, 1), (5, .bipush 8, 2), (7, .if_icmp .ge 26, 3), (10, .iload_n 1, 1), (11, .aload_n 0, 1), (12, .iload_n 2, 1), (13, .iconst 0, 1), (14, .invokevirtual 174, 3), (17, .ifCond .le 7, 3), (20, .iconst 1, 1), (21, .goto 4, 3), (24, .iconst 0, 1), (25, .iadd, 1), (26, .istore_n 1, 1), (27, .iinc 2 1, 3), (30, .goto (-26), 3), (33, .iload_n 1, 1), (34, .ireturn, 1)]
theorem tX9_pages_0_ok : tX9_pages_0.all (fun q => decide (decode cX9_pages q.1 = .ok q.2)) = true := by decide +kernel
theorem dX9_pages_0 : decode cX9_pages 0 = .ok (.iconst 0, 1) := td tX9_pages_0_ok 0 (q := (0, .iconst 0, 1)) rfl
theorem dX9_pages_1 : decode cX9_pages 1 = .ok (.istore_n 1, 1) := td tX9_pages_0_ok 1 (q := (1, .istore_n 1, 1)) rfl
theorem dX9_pages_2 : decode cX9_pages 2 = .ok (.iconst 0, 1) := td tX9_pages_0_ok 2 (q := (2, .iconst 0, 1)) rfl
theorem dX9_pages_3 : decode cX9_pages 3 = .ok (.istore_n 2, 1) := td tX9_pages_0_ok 3 (q := (3, .istore_n 2, 1)) rfl
theorem dX9_pages_4 : decode cX9_pages 4 = .ok (.iload_n 2, 1) := td tX9_pages_0_ok 4 (q := (4, .iload_n 2, 1)) rfl
theorem dX9_pages_5 : decode cX9_pages 5 = .ok (.bipush 8, 2) := td tX9_pages_0_ok 5 (q := (5, .bipush 8, 2)) rfl
theorem dX9_pages_7 : decode cX9_pages 7 = .ok (.if_icmp .ge 26, 3) := td tX9_pages_0_ok 6 (q := (7, .if_icmp .ge 26, 3)) rfl
theorem dX9_pages_10 : decode cX9_pages 10 = .ok (.iload_n 1, 1) := td tX9_pages_0_ok 7 (q := (10, .iload_n 1, 1)) rfl
theorem dX9_pages_11 : decode cX9_pages 11 = .ok (.aload_n 0, 1) := td tX9_pages_0_ok 8 (q := (11, .aload_n 0, 1)) rfl
theorem dX9_pages_12 : decode cX9_pages 12 = .ok (.iload_n 2, 1) := td tX9_pages_0_ok 9 (q := (12, .iload_n 2, 1)) rfl
theorem dX9_pages_13 : decode cX9_pages 13 = .ok (.iconst 0, 1) := td tX9_pages_0_ok 10 (q := (13, .iconst 0, 1)) rfl
theorem dX9_pages_14 : decode cX9_pages 14 = .ok (.invokevirtual 174, 3) := td tX9_pages_0_ok 11 (q := (14, .invokevirtual 174, 3)) rfl
theorem dX9_pages_17 : decode cX9_pages 17 = .ok (.ifCond .le 7, 3) := td tX9_pages_0_ok 12 (q := (17, .ifCond .le 7, 3)) rfl
theorem dX9_pages_20 : decode cX9_pages 20 = .ok (.iconst 1, 1) := td tX9_pages_0_ok 13 (q := (20, .iconst 1, 1)) rfl
theorem dX9_pages_21 : decode cX9_pages 21 = .ok (.goto 4, 3) := td tX9_pages_0_ok 14 (q := (21, .goto 4, 3)) rfl
theorem dX9_pages_24 : decode cX9_pages 24 = .ok (.iconst 0, 1) := td tX9_pages_0_ok 15 (q := (24, .iconst 0, 1)) rfl
theorem dX9_pages_25 : decode cX9_pages 25 = .ok (.iadd, 1) := td tX9_pages_0_ok 16 (q := (25, .iadd, 1)) rfl
theorem dX9_pages_26 : decode cX9_pages 26 = .ok (.istore_n 1, 1) := td tX9_pages_0_ok 17 (q := (26, .istore_n 1, 1)) rfl
theorem dX9_pages_27 : decode cX9_pages 27 = .ok (.iinc 2 1, 3) := td tX9_pages_0_ok 18 (q := (27, .iinc 2 1, 3)) rfl
theorem dX9_pages_30 : decode cX9_pages 30 = .ok (.goto (-26), 3) := td tX9_pages_0_ok 19 (q := (30, .goto (-26), 3)) rfl
theorem dX9_pages_33 : decode cX9_pages 33 = .ok (.iload_n 1, 1) := td tX9_pages_0_ok 20 (q := (33, .iload_n 1, 1)) rfl
theorem dX9_pages_34 : decode cX9_pages 34 = .ok (.ireturn, 1) := td tX9_pages_0_ok 21 (q := (34, .ireturn, 1)) rfl
def fX9_pages_4 (k4 : Int32 → Option (Int32)) (ms : (Nat → Int32)) : Nat → Int32 → Int32 → Option (Int32)
  | 0, _, _ => none
  | n4 + 1, x1, x2 => (if (8 : Int32) ≤ x2 then (k4 x1) else (Option.bind (fX9_tellsPage ms x2 (0 : Int32)) (fun q2 => (if q2 ≤ 0 then (fX9_pages_4 k4 ms n4 (x1 + (0 : Int32)) (x2 + (1 : Int32))) else (fX9_pages_4 k4 ms n4 (x1 + (1 : Int32)) (x2 + (1 : Int32)))))))
def fX9_pages (ms : (Nat → Int32)) : Option (Int32) :=
  (fX9_pages_4 (fun (u1_4 : Int32) => (some u1_4)) ms LF (0 : Int32) (0 : Int32))
set_option maxHeartbeats 4000000 in
set_option maxRecDepth 100000 in
theorem mX9_pages {l : Launch} {D : va_G} {bd : Nat → Nat} {cI : ClassId} {ms : (Nat → Int32)} {msv : (Nat → Int32)} {mb : (Nat → Int32)} {mf : (Nat → Int32)} {mr : (Nat → Int32)} {mt : Int32} {mn : Int32} {ml : Int32} {mat : Int32} {mw : Int32} {mm : Int32} {mh : Int64} {r : Int32} (hs : fX9_pages ms = some r) : nd_C l yX9_pages cX9_pages 3 (some .int) 4 100 D [(cI, .int)] [.ref (bd 0)] (MW bd cI ms msv mb mf mr mt mn ml mat mw mm mh) (MW bd cI ms msv mb mf mr mt mn ml mat mw mm mh) (some (.int r)) := by
  refine nd_ofCi (by decide) (Nat.le_of_ble_eq_true rfl) (fun p e s m args below meth c_ ls A Q hx hb hml hown hts hl hP hK hD hS hA hN hret => ?_)
  have hown : s.vm.findClass RX9 = some m.cls := hown
  have hl : lv_has ls 3 [(0, .ref (bd 0))] := hl
  have hret : ∀ (z0 : Int32) {H : Heap} {locs : List Loc} {pc : Nat} {ls : Array Slot}, some z0 = some r → va_P D vwCl (MW bd cI ms msv mb mf mr mt mn ml mat mw mm mh) H → va_S A s.heap H locs → decode cX9_pages pc = .ok (.ireturn, 1) → W p l e ⟨4, 0, 0, 100⟩ s m args below meth c_ H locs 0 0 Q (F0 m pc ls [.int z0]) := by
    intro z0 H locs pc ls h hP hS hd
    cases h
    exact hret hP hS hd
  rw [fX9_pages] at hs
  refine lv_iconst (v := (0 : Int32)) hx hb dX9_pages_0 (by decide) ?_
  refine lv_istore_n (lv' := [(1, .int (0 : Int32)), (0, .ref (bd 0))]) hx hb dX9_pages_1 rfl hl (by decide) rfl (fun ls hl => ?_)
  refine lv_iconst (v := (0 : Int32)) hx hb dX9_pages_2 (by decide) ?_
  refine lv_istore_n (lv' := [(2, .int (0 : Int32)), (1, .int (0 : Int32)), (0, .ref (bd 0))]) hx hb dX9_pages_3 rfl hl (by decide) rfl (fun ls hl => ?_)
  have L4 : ∀ (n4 : Nat) (k4 : Int32 → Option (Int32)) (v1_4 : Int32) (v2_4 : Int32) (H : Heap) (locs : List Loc) (ls : Array Slot), lv_has ls 3 [(0, .ref (bd 0)), (1, .int v1_4), (2, .int v2_4)] → va_P D vwCl (MW bd cI ms msv mb mf mr mt mn ml mat mw mm mh) H → va_S A s.heap H locs → fX9_pages_4 k4 ms n4 v1_4 v2_4 = some r → (∀ (u1_4 : Int32) (H : Heap) (locs : List Loc) (ls : Array Slot), lv_has ls 3 [(1, .int u1_4)] → va_P D vwCl (MW bd cI ms msv mb mf mr mt mn ml mat mw mm mh) H → va_S A s.heap H locs → k4 u1_4 = some r → W p l e ⟨4, 0, 0, 100⟩ s m args below meth c_ H locs 0 0 Q (F0 m 33 ls [])) → W p l e ⟨4, 0, 0, 100⟩ s m args below meth c_ H locs 0 0 Q (F0 m 4 ls []) := by
    intro n4
    induction n4 with
    | zero =>
      intro k4 v1_4 v2_4 H locs ls hl hP hS hs hk4
      rw [fX9_pages_4] at hs
      cases hs
    | succ n4 ih4 =>
      intro k4 v1_4 v2_4 H locs ls hl hP hS hs hk4
      rw [fX9_pages_4] at hs
      refine lv_iload_n hx hb dX9_pages_4 rfl (lv_at hl 2 rfl) ?_
      refine lv_bipush (v := (8 : Int32)) hx hb dX9_pages_5 (by decide) ?_
      refine lv_icmp_ge (tgt := 33) hx hb dX9_pages_7 (by decide) (fun b5 => ?_) (fun b5 => ?_)
      · have hs := ite_t hs b5
        exact hk4 v1_4 _ _ _ (lv_sub hl [1] rfl) hP hS hs
      · have hs := ite_f hs b5
        refine lv_iload_n hx hb dX9_pages_10 rfl (lv_at hl 1 rfl) ?_
        refine lv_aload_n hx hb dX9_pages_11 rfl (lv_at hl 0 rfl) ?_
        refine lv_iload_n hx hb dX9_pages_12 rfl (lv_at hl 2 rfl) ?_
        refine lv_iconst (v := (0 : Int32)) hx hb dX9_pages_13 (by decide) ?_
        obtain ⟨q6, eq6, hs⟩ := ob hs
        refine nd_callV (As := [.int v2_4, .int (0 : Int32)]) (rest := [.int v1_4]) (st1 := [.int q6, .int v1_4]) hx hb hml hown hts hl hP hK hD hS hA hN (mX9_tellsPage eq6) iv_X9_tellsPage wd_671 0 rfl rfl rfl rfl ⟨Nat.le_of_ble_eq_true rfl, Nat.le_of_ble_eq_true rfl⟩ (Nat.le_of_ble_eq_true rfl) ⟨Nat.zero_le _, Nat.zero_le _⟩ dX9_pages_14 rfl rfl (fun H locs hP hD hS => ?_)
        refine lv_if_le (tgt := 24) hx hb dX9_pages_17 (by decide) (fun b7 => ?_) (fun b7 => ?_)
        · have hs := ite_t hs b7
          refine lv_iconst (v := (0 : Int32)) hx hb dX9_pages_24 (by decide) ?_
          refine lv_iadd hx hb dX9_pages_25 ?_
          refine lv_istore_n (lv' := [(1, .int (v1_4 + (0 : Int32))), (0, .ref (bd 0)), (2, .int v2_4)]) hx hb dX9_pages_26 rfl hl (by decide) rfl (fun ls hl => ?_)
          refine lv_iinc (v := v2_4 + (1 : Int32)) (lv' := [(2, .int (v2_4 + (1 : Int32))), (1, .int (v1_4 + (0 : Int32))), (0, .ref (bd 0))]) hx hb dX9_pages_27 hl (k := 2) rfl rfl (by decide) rfl (fun ls hl => ?_)
          refine lv_goto (tgt := 4) hx hb dX9_pages_30 (by decide) ?_
          exact ih4 k4 (v1_4 + (0 : Int32)) (v2_4 + (1 : Int32)) _ _ _ (lv_sub hl [2, 1, 0] rfl) hP hS hs hk4
        · have hs := ite_f hs b7
          refine lv_iconst (v := (1 : Int32)) hx hb dX9_pages_20 (by decide) ?_
          refine lv_goto (tgt := 25) hx hb dX9_pages_21 (by decide) ?_
          refine lv_iadd hx hb dX9_pages_25 ?_
          refine lv_istore_n (lv' := [(1, .int (v1_4 + (1 : Int32))), (0, .ref (bd 0)), (2, .int v2_4)]) hx hb dX9_pages_26 rfl hl (by decide) rfl (fun ls hl => ?_)
          refine lv_iinc (v := v2_4 + (1 : Int32)) (lv' := [(2, .int (v2_4 + (1 : Int32))), (1, .int (v1_4 + (1 : Int32))), (0, .ref (bd 0))]) hx hb dX9_pages_27 hl (k := 2) rfl rfl (by decide) rfl (fun ls hl => ?_)
          refine lv_goto (tgt := 4) hx hb dX9_pages_30 (by decide) ?_
          exact ih4 k4 (v1_4 + (1 : Int32)) (v2_4 + (1 : Int32)) _ _ _ (lv_sub hl [2, 1, 0] rfl) hP hS hs hk4
  refine L4 LF _ (0 : Int32) (0 : Int32) _ _ _ (lv_sub hl [2, 1, 0] rfl) hP hS hs (fun u1_4 H locs ls hl hP hS hs => ?_)
  refine lv_iload_n hx hb dX9_pages_33 rfl (lv_at hl 0 rfl) ?_
  exact hret _ hs hP hS dX9_pages_34
def tX9_counts_0 : List (Nat × Instr × Nat) := [(0, .iload_n 1, 1), (1, .tableswitch 117 0 12 #[67, 74, 117, 86, 117, 117, 117, 117, 117, 93, 98, 107, 112], 67), (68, .aload_n 0, 1), (69, .getfield 7, 3), (72, .iconst 0, 1), (73, .iaload, 1), (74, .ireturn, 1), (75, .aload_n 0, 1), (76, .getfield 7, 3), (79, .iconst 0, 1), (80, .iaload, 1), (81, .aload_n 0, 1), (82, .invokevirtual 186, 3), (85, .isub, 1), (86, .ireturn, 1), (87, .aload_n 0, 1), (88, .iconst (-1), 1), (89, .iconst (-1), 1), (90, .invokevirtual 183, 3), (93, .ireturn, 1), (94, .aload_n 0, 1), (95, .invokevirtual 186, 3), (98, .ireturn, 1), (99, .aload_n 0, 1), (100, .bipush 10, 2), (102, .invokevirtual 189, 3), (105, .iconst 2, 1), (106, .idiv, 1), (107, .ireturn, 1), (108, .aload_n 0, 1), (109, .invokevirtual 192, 3), (112, .ireturn, 1), (113, .aload_n 0, 1), (114, .getfield 40, 3), (117, .ireturn, 1), (118, .aload_n 0, 1), (119, .iload_n 1, 1), (120, .invokevirtual 189, 3), (123, .ireturn, 1)]
theorem tX9_counts_0_ok : tX9_counts_0.all (fun q => decide (decode cX9_counts q.1 = .ok q.2)) = true := by decide +kernel
theorem dX9_counts_0 : decode cX9_counts 0 = .ok (.iload_n 1, 1) := td tX9_counts_0_ok 0 (q := (0, .iload_n 1, 1)) rfl
theorem dX9_counts_1 : decode cX9_counts 1 = .ok (.tableswitch 117 0 12 #[67, 74, 117, 86, 117, 117, 117, 117, 117, 93, 98, 107, 112], 67) := td tX9_counts_0_ok 1 (q := (1, .tableswitch 117 0 12 #[67, 74, 117, 86, 117, 117, 117, 117, 117, 93, 98, 107, 112], 67)) rfl
theorem dX9_counts_68 : decode cX9_counts 68 = .ok (.aload_n 0, 1) := td tX9_counts_0_ok 2 (q := (68, .aload_n 0, 1)) rfl
theorem dX9_counts_69 : decode cX9_counts 69 = .ok (.getfield 7, 3) := td tX9_counts_0_ok 3 (q := (69, .getfield 7, 3)) rfl
theorem dX9_counts_72 : decode cX9_counts 72 = .ok (.iconst 0, 1) := td tX9_counts_0_ok 4 (q := (72, .iconst 0, 1)) rfl
theorem dX9_counts_73 : decode cX9_counts 73 = .ok (.iaload, 1) := td tX9_counts_0_ok 5 (q := (73, .iaload, 1)) rfl
theorem dX9_counts_74 : decode cX9_counts 74 = .ok (.ireturn, 1) := td tX9_counts_0_ok 6 (q := (74, .ireturn, 1)) rfl
theorem dX9_counts_75 : decode cX9_counts 75 = .ok (.aload_n 0, 1) := td tX9_counts_0_ok 7 (q := (75, .aload_n 0, 1)) rfl
theorem dX9_counts_76 : decode cX9_counts 76 = .ok (.getfield 7, 3) := td tX9_counts_0_ok 8 (q := (76, .getfield 7, 3)) rfl
theorem dX9_counts_79 : decode cX9_counts 79 = .ok (.iconst 0, 1) := td tX9_counts_0_ok 9 (q := (79, .iconst 0, 1)) rfl
theorem dX9_counts_80 : decode cX9_counts 80 = .ok (.iaload, 1) := td tX9_counts_0_ok 10 (q := (80, .iaload, 1)) rfl
theorem dX9_counts_81 : decode cX9_counts 81 = .ok (.aload_n 0, 1) := td tX9_counts_0_ok 11 (q := (81, .aload_n 0, 1)) rfl
theorem dX9_counts_82 : decode cX9_counts 82 = .ok (.invokevirtual 186, 3) := td tX9_counts_0_ok 12 (q := (82, .invokevirtual 186, 3)) rfl
theorem dX9_counts_85 : decode cX9_counts 85 = .ok (.isub, 1) := td tX9_counts_0_ok 13 (q := (85, .isub, 1)) rfl
theorem dX9_counts_86 : decode cX9_counts 86 = .ok (.ireturn, 1) := td tX9_counts_0_ok 14 (q := (86, .ireturn, 1)) rfl
theorem dX9_counts_87 : decode cX9_counts 87 = .ok (.aload_n 0, 1) := td tX9_counts_0_ok 15 (q := (87, .aload_n 0, 1)) rfl
theorem dX9_counts_88 : decode cX9_counts 88 = .ok (.iconst (-1), 1) := td tX9_counts_0_ok 16 (q := (88, .iconst (-1), 1)) rfl
theorem dX9_counts_89 : decode cX9_counts 89 = .ok (.iconst (-1), 1) := td tX9_counts_0_ok 17 (q := (89, .iconst (-1), 1)) rfl
theorem dX9_counts_90 : decode cX9_counts 90 = .ok (.invokevirtual 183, 3) := td tX9_counts_0_ok 18 (q := (90, .invokevirtual 183, 3)) rfl
theorem dX9_counts_93 : decode cX9_counts 93 = .ok (.ireturn, 1) := td tX9_counts_0_ok 19 (q := (93, .ireturn, 1)) rfl
theorem dX9_counts_94 : decode cX9_counts 94 = .ok (.aload_n 0, 1) := td tX9_counts_0_ok 20 (q := (94, .aload_n 0, 1)) rfl
theorem dX9_counts_95 : decode cX9_counts 95 = .ok (.invokevirtual 186, 3) := td tX9_counts_0_ok 21 (q := (95, .invokevirtual 186, 3)) rfl
theorem dX9_counts_98 : decode cX9_counts 98 = .ok (.ireturn, 1) := td tX9_counts_0_ok 22 (q := (98, .ireturn, 1)) rfl
theorem dX9_counts_99 : decode cX9_counts 99 = .ok (.aload_n 0, 1) := td tX9_counts_0_ok 23 (q := (99, .aload_n 0, 1)) rfl
theorem dX9_counts_100 : decode cX9_counts 100 = .ok (.bipush 10, 2) := td tX9_counts_0_ok 24 (q := (100, .bipush 10, 2)) rfl
theorem dX9_counts_102 : decode cX9_counts 102 = .ok (.invokevirtual 189, 3) := td tX9_counts_0_ok 25 (q := (102, .invokevirtual 189, 3)) rfl
theorem dX9_counts_105 : decode cX9_counts 105 = .ok (.iconst 2, 1) := td tX9_counts_0_ok 26 (q := (105, .iconst 2, 1)) rfl
theorem dX9_counts_106 : decode cX9_counts 106 = .ok (.idiv, 1) := td tX9_counts_0_ok 27 (q := (106, .idiv, 1)) rfl
theorem dX9_counts_107 : decode cX9_counts 107 = .ok (.ireturn, 1) := td tX9_counts_0_ok 28 (q := (107, .ireturn, 1)) rfl
theorem dX9_counts_108 : decode cX9_counts 108 = .ok (.aload_n 0, 1) := td tX9_counts_0_ok 29 (q := (108, .aload_n 0, 1)) rfl
theorem dX9_counts_109 : decode cX9_counts 109 = .ok (.invokevirtual 192, 3) := td tX9_counts_0_ok 30 (q := (109, .invokevirtual 192, 3)) rfl
theorem dX9_counts_112 : decode cX9_counts 112 = .ok (.ireturn, 1) := td tX9_counts_0_ok 31 (q := (112, .ireturn, 1)) rfl
theorem dX9_counts_113 : decode cX9_counts 113 = .ok (.aload_n 0, 1) := td tX9_counts_0_ok 32 (q := (113, .aload_n 0, 1)) rfl
theorem dX9_counts_114 : decode cX9_counts 114 = .ok (.getfield 40, 3) := td tX9_counts_0_ok 33 (q := (114, .getfield 40, 3)) rfl
theorem dX9_counts_117 : decode cX9_counts 117 = .ok (.ireturn, 1) := td tX9_counts_0_ok 34 (q := (117, .ireturn, 1)) rfl
theorem dX9_counts_118 : decode cX9_counts 118 = .ok (.aload_n 0, 1) := td tX9_counts_0_ok 35 (q := (118, .aload_n 0, 1)) rfl
theorem dX9_counts_119 : decode cX9_counts 119 = .ok (.iload_n 1, 1) := td tX9_counts_0_ok 36 (q := (119, .iload_n 1, 1)) rfl
theorem dX9_counts_120 : decode cX9_counts 120 = .ok (.invokevirtual 189, 3) := td tX9_counts_0_ok 37 (q := (120, .invokevirtual 189, 3)) rfl
theorem dX9_counts_123 : decode cX9_counts 123 = .ok (.ireturn, 1) := td tX9_counts_0_ok 38 (q := (123, .ireturn, 1)) rfl
def fX9_counts (ms : (Nat → Int32)) (mn : Int32) (x1 : Int32) : Option (Int32) :=
  (if x1 = (0 : Int32) then (Option.bind (aget ms 531 (0 : Int32)) (fun t2 => (some t2))) else (if x1 = (1 : Int32) then (Option.bind (aget ms 531 (0 : Int32)) (fun t4 => (Option.bind (fX9_joined ms) (fun q5 => (some (t4 - q5)))))) else (if x1 = (2 : Int32) then (Option.bind (fX9_overReceipts ms x1) (fun q7 => (some q7))) else (if x1 = (3 : Int32) then (Option.bind (fX9_sumBy ms (-1 : Int32) (-1 : Int32)) (fun q9 => (some q9))) else (if x1 = (4 : Int32) then (Option.bind (fX9_overReceipts ms x1) (fun q11 => (some q11))) else (if x1 = (5 : Int32) then (Option.bind (fX9_overReceipts ms x1) (fun q13 => (some q13))) else (if x1 = (6 : Int32) then (Option.bind (fX9_overReceipts ms x1) (fun q15 => (some q15))) else (if x1 = (7 : Int32) then (Option.bind (fX9_overReceipts ms x1) (fun q17 => (some q17))) else (if x1 = (8 : Int32) then (Option.bind (fX9_overReceipts ms x1) (fun q19 => (some q19))) else (if x1 = (9 : Int32) then (Option.bind (fX9_joined ms) (fun q21 => (some q21))) else (if x1 = (10 : Int32) then (Option.bind (fX9_overReceipts ms (10 : Int32)) (fun q23 => (some (q23 / (2 : Int32))))) else (if x1 = (11 : Int32) then (Option.bind (fX9_pages ms) (fun q25 => (some q25))) else (if x1 = (12 : Int32) then (some mn) else (Option.bind (fX9_overReceipts ms x1) (fun q27 => (some q27))))))))))))))))
set_option maxHeartbeats 4000000 in
set_option maxRecDepth 100000 in
theorem mX9_counts {l : Launch} {D : va_G} {bd : Nat → Nat} {cI : ClassId} {ms : (Nat → Int32)} {msv : (Nat → Int32)} {mb : (Nat → Int32)} {mf : (Nat → Int32)} {mr : (Nat → Int32)} {mt : Int32} {mn : Int32} {ml : Int32} {mat : Int32} {mw : Int32} {mm : Int32} {mh : Int64} {x1 : Int32} {r : Int32} (hs : fX9_counts ms mn x1 = some r) : nd_C l yX9_counts cX9_counts 2 (some .int) 5 122 D [(cI, .int)] [.ref (bd 0), .int x1] (MW bd cI ms msv mb mf mr mt mn ml mat mw mm mh) (MW bd cI ms msv mb mf mr mt mn ml mat mw mm mh) (some (.int r)) := by
  refine nd_ofCi (by decide) (Nat.le_of_ble_eq_true rfl) (fun p e s m args below meth c_ ls A Q hx hb hml hown hts hl hP hK hD hS hA hN hret => ?_)
  have hown : s.vm.findClass RX9 = some m.cls := hown
  have hl : lv_has ls 2 [(0, .ref (bd 0)), (1, .int x1)] := hl
  have hret : ∀ (z0 : Int32) {H : Heap} {locs : List Loc} {pc : Nat} {ls : Array Slot}, some z0 = some r → va_P D vwCl (MW bd cI ms msv mb mf mr mt mn ml mat mw mm mh) H → va_S A s.heap H locs → decode cX9_counts pc = .ok (.ireturn, 1) → W p l e ⟨5, 0, 0, 122⟩ s m args below meth c_ H locs 0 0 Q (F0 m pc ls [.int z0]) := by
    intro z0 H locs pc ls h hP hS hd
    cases h
    exact hret hP hS hd
  rw [fX9_counts] at hs
  refine lv_iload_n hx hb dX9_counts_0 rfl (lv_at hl 1 rfl) ?_
  by_cases b1 : x1 = (0 : Int32)
  · have hs := ite_t hs b1
    rw [b1]
    refine lv_tableIn (off := (67)) (tgt := 68) hx hb dX9_counts_1 (by decide) (by decide) (by decide) (by decide) ?_
    refine lv_aload_n hx hb dX9_counts_68 rfl (lv_at hl 0 rfl) ?_
    refine gf_X9_7 hx hb hts hown hK hP 0 rfl rfl dX9_counts_69 ?_
    refine lv_iconst (v := (0 : Int32)) hx hb dX9_counts_72 (by decide) ?_
    obtain ⟨t2, et2, hs⟩ := ob hs
    refine nd_iald hx hb hK hP 1 0 rfl rfl et2 dX9_counts_73 ?_
    exact hret _ hs hP hS dX9_counts_74
  have hs := ite_f hs b1
  by_cases b3 : x1 = (1 : Int32)
  · have hs := ite_t hs b3
    rw [b3]
    refine lv_tableIn (off := (74)) (tgt := 75) hx hb dX9_counts_1 (by decide) (by decide) (by decide) (by decide) ?_
    refine lv_aload_n hx hb dX9_counts_75 rfl (lv_at hl 0 rfl) ?_
    refine gf_X9_7 hx hb hts hown hK hP 0 rfl rfl dX9_counts_76 ?_
    refine lv_iconst (v := (0 : Int32)) hx hb dX9_counts_79 (by decide) ?_
    obtain ⟨t4, et4, hs⟩ := ob hs
    refine nd_iald hx hb hK hP 1 0 rfl rfl et4 dX9_counts_80 ?_
    refine lv_aload_n hx hb dX9_counts_81 rfl (lv_at hl 0 rfl) ?_
    obtain ⟨q5, eq5, hs⟩ := ob hs
    refine nd_callV (As := []) (rest := [.int t4]) (st1 := [.int q5, .int t4]) hx hb hml hown hts hl hP hK hD hS hA hN (mX9_joined eq5) iv_X9_joined wd_779 0 rfl rfl rfl rfl ⟨Nat.le_of_ble_eq_true rfl, Nat.le_of_ble_eq_true rfl⟩ (Nat.le_of_ble_eq_true rfl) ⟨Nat.zero_le _, Nat.zero_le _⟩ dX9_counts_82 rfl rfl (fun H locs hP hD hS => ?_)
    refine lv_isub hx hb dX9_counts_85 ?_
    exact hret _ hs hP hS dX9_counts_86
  have hs := ite_f hs b3
  by_cases b6 : x1 = (2 : Int32)
  · have hs := ite_t hs b6
    rw [b6]
    refine lv_tableIn (off := (117)) (tgt := 118) hx hb dX9_counts_1 (by decide) (by decide) (by decide) (by decide) ?_
    refine lv_aload_n hx hb dX9_counts_118 rfl (lv_at hl 0 rfl) ?_
    refine lv_iload_n hx hb dX9_counts_119 rfl (lv_at hl 1 rfl) ?_
    obtain ⟨q7, eq7, hs⟩ := ob hs
    refine nd_callV (As := [.int x1]) (rest := []) (st1 := [.int q7]) hx hb hml hown hts hl hP hK hD hS hA hN (mX9_overReceipts eq7) iv_X9_overReceipts wd_783 0 rfl rfl rfl rfl ⟨Nat.le_of_ble_eq_true rfl, Nat.le_of_ble_eq_true rfl⟩ (Nat.le_of_ble_eq_true rfl) ⟨Nat.zero_le _, Nat.zero_le _⟩ dX9_counts_120 rfl rfl (fun H locs hP hD hS => ?_)
    exact hret _ hs hP hS dX9_counts_123
  have hs := ite_f hs b6
  by_cases b8 : x1 = (3 : Int32)
  · have hs := ite_t hs b8
    rw [b8]
    refine lv_tableIn (off := (86)) (tgt := 87) hx hb dX9_counts_1 (by decide) (by decide) (by decide) (by decide) ?_
    refine lv_aload_n hx hb dX9_counts_87 rfl (lv_at hl 0 rfl) ?_
    refine lv_iconst (v := (-1 : Int32)) hx hb dX9_counts_88 (by decide) ?_
    refine lv_iconst (v := (-1 : Int32)) hx hb dX9_counts_89 (by decide) ?_
    obtain ⟨q9, eq9, hs⟩ := ob hs
    refine nd_callV (As := [.int (-1 : Int32), .int (-1 : Int32)]) (rest := []) (st1 := [.int q9]) hx hb hml hown hts hl hP hK hD hS hA hN (mX9_sumBy eq9) iv_X9_sumBy wd_736 0 rfl rfl rfl rfl ⟨Nat.le_of_ble_eq_true rfl, Nat.le_of_ble_eq_true rfl⟩ (Nat.le_of_ble_eq_true rfl) ⟨Nat.zero_le _, Nat.zero_le _⟩ dX9_counts_90 rfl rfl (fun H locs hP hD hS => ?_)
    exact hret _ hs hP hS dX9_counts_93
  have hs := ite_f hs b8
  by_cases b10 : x1 = (4 : Int32)
  · have hs := ite_t hs b10
    rw [b10]
    refine lv_tableIn (off := (117)) (tgt := 118) hx hb dX9_counts_1 (by decide) (by decide) (by decide) (by decide) ?_
    refine lv_aload_n hx hb dX9_counts_118 rfl (lv_at hl 0 rfl) ?_
    refine lv_iload_n hx hb dX9_counts_119 rfl (lv_at hl 1 rfl) ?_
    obtain ⟨q11, eq11, hs⟩ := ob hs
    refine nd_callV (As := [.int x1]) (rest := []) (st1 := [.int q11]) hx hb hml hown hts hl hP hK hD hS hA hN (mX9_overReceipts eq11) iv_X9_overReceipts wd_783 0 rfl rfl rfl rfl ⟨Nat.le_of_ble_eq_true rfl, Nat.le_of_ble_eq_true rfl⟩ (Nat.le_of_ble_eq_true rfl) ⟨Nat.zero_le _, Nat.zero_le _⟩ dX9_counts_120 rfl rfl (fun H locs hP hD hS => ?_)
    exact hret _ hs hP hS dX9_counts_123
  have hs := ite_f hs b10
  by_cases b12 : x1 = (5 : Int32)
  · have hs := ite_t hs b12
    rw [b12]
    refine lv_tableIn (off := (117)) (tgt := 118) hx hb dX9_counts_1 (by decide) (by decide) (by decide) (by decide) ?_
    refine lv_aload_n hx hb dX9_counts_118 rfl (lv_at hl 0 rfl) ?_
    refine lv_iload_n hx hb dX9_counts_119 rfl (lv_at hl 1 rfl) ?_
    obtain ⟨q13, eq13, hs⟩ := ob hs
    refine nd_callV (As := [.int x1]) (rest := []) (st1 := [.int q13]) hx hb hml hown hts hl hP hK hD hS hA hN (mX9_overReceipts eq13) iv_X9_overReceipts wd_783 0 rfl rfl rfl rfl ⟨Nat.le_of_ble_eq_true rfl, Nat.le_of_ble_eq_true rfl⟩ (Nat.le_of_ble_eq_true rfl) ⟨Nat.zero_le _, Nat.zero_le _⟩ dX9_counts_120 rfl rfl (fun H locs hP hD hS => ?_)
    exact hret _ hs hP hS dX9_counts_123
  have hs := ite_f hs b12
  by_cases b14 : x1 = (6 : Int32)
  · have hs := ite_t hs b14
    rw [b14]
    refine lv_tableIn (off := (117)) (tgt := 118) hx hb dX9_counts_1 (by decide) (by decide) (by decide) (by decide) ?_
    refine lv_aload_n hx hb dX9_counts_118 rfl (lv_at hl 0 rfl) ?_
    refine lv_iload_n hx hb dX9_counts_119 rfl (lv_at hl 1 rfl) ?_
    obtain ⟨q15, eq15, hs⟩ := ob hs
    refine nd_callV (As := [.int x1]) (rest := []) (st1 := [.int q15]) hx hb hml hown hts hl hP hK hD hS hA hN (mX9_overReceipts eq15) iv_X9_overReceipts wd_783 0 rfl rfl rfl rfl ⟨Nat.le_of_ble_eq_true rfl, Nat.le_of_ble_eq_true rfl⟩ (Nat.le_of_ble_eq_true rfl) ⟨Nat.zero_le _, Nat.zero_le _⟩ dX9_counts_120 rfl rfl (fun H locs hP hD hS => ?_)
    exact hret _ hs hP hS dX9_counts_123
  have hs := ite_f hs b14
  by_cases b16 : x1 = (7 : Int32)
  · have hs := ite_t hs b16
    rw [b16]
    refine lv_tableIn (off := (117)) (tgt := 118) hx hb dX9_counts_1 (by decide) (by decide) (by decide) (by decide) ?_
    refine lv_aload_n hx hb dX9_counts_118 rfl (lv_at hl 0 rfl) ?_
    refine lv_iload_n hx hb dX9_counts_119 rfl (lv_at hl 1 rfl) ?_
    obtain ⟨q17, eq17, hs⟩ := ob hs
    refine nd_callV (As := [.int x1]) (rest := []) (st1 := [.int q17]) hx hb hml hown hts hl hP hK hD hS hA hN (mX9_overReceipts eq17) iv_X9_overReceipts wd_783 0 rfl rfl rfl rfl ⟨Nat.le_of_ble_eq_true rfl, Nat.le_of_ble_eq_true rfl⟩ (Nat.le_of_ble_eq_true rfl) ⟨Nat.zero_le _, Nat.zero_le _⟩ dX9_counts_120 rfl rfl (fun H locs hP hD hS => ?_)
    exact hret _ hs hP hS dX9_counts_123
  have hs := ite_f hs b16
  by_cases b18 : x1 = (8 : Int32)
  · have hs := ite_t hs b18
    rw [b18]
    refine lv_tableIn (off := (117)) (tgt := 118) hx hb dX9_counts_1 (by decide) (by decide) (by decide) (by decide) ?_
    refine lv_aload_n hx hb dX9_counts_118 rfl (lv_at hl 0 rfl) ?_
    refine lv_iload_n hx hb dX9_counts_119 rfl (lv_at hl 1 rfl) ?_
    obtain ⟨q19, eq19, hs⟩ := ob hs
    refine nd_callV (As := [.int x1]) (rest := []) (st1 := [.int q19]) hx hb hml hown hts hl hP hK hD hS hA hN (mX9_overReceipts eq19) iv_X9_overReceipts wd_783 0 rfl rfl rfl rfl ⟨Nat.le_of_ble_eq_true rfl, Nat.le_of_ble_eq_true rfl⟩ (Nat.le_of_ble_eq_true rfl) ⟨Nat.zero_le _, Nat.zero_le _⟩ dX9_counts_120 rfl rfl (fun H locs hP hD hS => ?_)
    exact hret _ hs hP hS dX9_counts_123
  have hs := ite_f hs b18
  by_cases b20 : x1 = (9 : Int32)
  · have hs := ite_t hs b20
    rw [b20]
    refine lv_tableIn (off := (93)) (tgt := 94) hx hb dX9_counts_1 (by decide) (by decide) (by decide) (by decide) ?_
    refine lv_aload_n hx hb dX9_counts_94 rfl (lv_at hl 0 rfl) ?_
    obtain ⟨q21, eq21, hs⟩ := ob hs
    refine nd_callV (As := []) (rest := []) (st1 := [.int q21]) hx hb hml hown hts hl hP hK hD hS hA hN (mX9_joined eq21) iv_X9_joined wd_779 0 rfl rfl rfl rfl ⟨Nat.le_of_ble_eq_true rfl, Nat.le_of_ble_eq_true rfl⟩ (Nat.le_of_ble_eq_true rfl) ⟨Nat.zero_le _, Nat.zero_le _⟩ dX9_counts_95 rfl rfl (fun H locs hP hD hS => ?_)
    exact hret _ hs hP hS dX9_counts_98
  have hs := ite_f hs b20
  by_cases b22 : x1 = (10 : Int32)
  · have hs := ite_t hs b22
    rw [b22]
    refine lv_tableIn (off := (98)) (tgt := 99) hx hb dX9_counts_1 (by decide) (by decide) (by decide) (by decide) ?_
    refine lv_aload_n hx hb dX9_counts_99 rfl (lv_at hl 0 rfl) ?_
    refine lv_bipush (v := (10 : Int32)) hx hb dX9_counts_100 (by decide) ?_
    obtain ⟨q23, eq23, hs⟩ := ob hs
    refine nd_callV (As := [.int (10 : Int32)]) (rest := []) (st1 := [.int q23]) hx hb hml hown hts hl hP hK hD hS hA hN (mX9_overReceipts eq23) iv_X9_overReceipts wd_783 0 rfl rfl rfl rfl ⟨Nat.le_of_ble_eq_true rfl, Nat.le_of_ble_eq_true rfl⟩ (Nat.le_of_ble_eq_true rfl) ⟨Nat.zero_le _, Nat.zero_le _⟩ dX9_counts_102 rfl rfl (fun H locs hP hD hS => ?_)
    refine lv_iconst (v := (2 : Int32)) hx hb dX9_counts_105 (by decide) ?_
    refine lv_idiv hx hb dX9_counts_106 (by decide) ?_
    exact hret _ hs hP hS dX9_counts_107
  have hs := ite_f hs b22
  by_cases b24 : x1 = (11 : Int32)
  · have hs := ite_t hs b24
    rw [b24]
    refine lv_tableIn (off := (107)) (tgt := 108) hx hb dX9_counts_1 (by decide) (by decide) (by decide) (by decide) ?_
    refine lv_aload_n hx hb dX9_counts_108 rfl (lv_at hl 0 rfl) ?_
    obtain ⟨q25, eq25, hs⟩ := ob hs
    refine nd_callV (As := []) (rest := []) (st1 := [.int q25]) hx hb hml hown hts hl hP hK hD hS hA hN (mX9_pages eq25) iv_X9_pages wd_787 0 rfl rfl rfl rfl ⟨Nat.le_of_ble_eq_true rfl, Nat.le_of_ble_eq_true rfl⟩ (Nat.le_of_ble_eq_true rfl) ⟨Nat.zero_le _, Nat.zero_le _⟩ dX9_counts_109 rfl rfl (fun H locs hP hD hS => ?_)
    exact hret _ hs hP hS dX9_counts_112
  have hs := ite_f hs b24
  by_cases b26 : x1 = (12 : Int32)
  · have hs := ite_t hs b26
    rw [b26]
    refine lv_tableIn (off := (112)) (tgt := 113) hx hb dX9_counts_1 (by decide) (by decide) (by decide) (by decide) ?_
    refine lv_aload_n hx hb dX9_counts_113 rfl (lv_at hl 0 rfl) ?_
    refine gf_X9_40 hx hb hts hown hK hP 0 rfl rfl dX9_counts_114 ?_
    exact hret _ hs hP hS dX9_counts_117
  have hs := ite_f hs b26
  have zb1 : x1.toInt ≠ (0) := sw_ne b1
  have zb3 : x1.toInt ≠ (1) := sw_ne b3
  have zb6 : x1.toInt ≠ (2) := sw_ne b6
  have zb8 : x1.toInt ≠ (3) := sw_ne b8
  have zb10 : x1.toInt ≠ (4) := sw_ne b10
  have zb12 : x1.toInt ≠ (5) := sw_ne b12
  have zb14 : x1.toInt ≠ (6) := sw_ne b14
  have zb16 : x1.toInt ≠ (7) := sw_ne b16
  have zb18 : x1.toInt ≠ (8) := sw_ne b18
  have zb20 : x1.toInt ≠ (9) := sw_ne b20
  have zb22 : x1.toInt ≠ (10) := sw_ne b22
  have zb24 : x1.toInt ≠ (11) := sw_ne b24
  have zb26 : x1.toInt ≠ (12) := sw_ne b26
  refine lv_tableOut (tgt := 118) hx hb dX9_counts_1 (by omega) (by decide) ?_
  refine lv_aload_n hx hb dX9_counts_118 rfl (lv_at hl 0 rfl) ?_
  refine lv_iload_n hx hb dX9_counts_119 rfl (lv_at hl 1 rfl) ?_
  obtain ⟨q27, eq27, hs⟩ := ob hs
  refine nd_callV (As := [.int x1]) (rest := []) (st1 := [.int q27]) hx hb hml hown hts hl hP hK hD hS hA hN (mX9_overReceipts eq27) iv_X9_overReceipts wd_783 0 rfl rfl rfl rfl ⟨Nat.le_of_ble_eq_true rfl, Nat.le_of_ble_eq_true rfl⟩ (Nat.le_of_ble_eq_true rfl) ⟨Nat.zero_le _, Nat.zero_le _⟩ dX9_counts_120 rfl rfl (fun H locs hP hD hS => ?_)
  exact hret _ hs hP hS dX9_counts_123
def tX9_count_0 : List (Nat × Instr × Nat) := [(0, .aload_n 0, 1), (1, .iconst 0, 1), (2, .putfield 25, 3), (5, .iload_n 1, 1), (6, .iconst 0, 1), (7, .bipush 12, 2), (9, .invokestatic 29, 3), (12, .ifCond .eq 11, 3), (15, .aload_n 0, 1), (16, .iload_n 1, 1), (17, .invokevirtual 195, 3), (20, .goto 8, 3), (23, .aload_n 0, 1), (24, .iconst 1, 1), (25, .invokevirtual 79, 3), (28, .ireturn, 1)]
theorem tX9_count_0_ok : tX9_count_0.all (fun q => decide (decode cX9_count q.1 = .ok q.2)) = true := by decide +kernel
theorem dX9_count_0 : decode cX9_count 0 = .ok (.aload_n 0, 1) := td tX9_count_0_ok 0 (q := (0, .aload_n 0, 1)) rfl
theorem dX9_count_1 : decode cX9_count 1 = .ok (.iconst 0, 1) := td tX9_count_0_ok 1 (q := (1, .iconst 0, 1)) rfl
theorem dX9_count_2 : decode cX9_count 2 = .ok (.putfield 25, 3) := td tX9_count_0_ok 2 (q := (2, .putfield 25, 3)) rfl
theorem dX9_count_5 : decode cX9_count 5 = .ok (.iload_n 1, 1) := td tX9_count_0_ok 3 (q := (5, .iload_n 1, 1)) rfl
theorem dX9_count_6 : decode cX9_count 6 = .ok (.iconst 0, 1) := td tX9_count_0_ok 4 (q := (6, .iconst 0, 1)) rfl
theorem dX9_count_7 : decode cX9_count 7 = .ok (.bipush 12, 2) := td tX9_count_0_ok 5 (q := (7, .bipush 12, 2)) rfl
theorem dX9_count_9 : decode cX9_count 9 = .ok (.invokestatic 29, 3) := td tX9_count_0_ok 6 (q := (9, .invokestatic 29, 3)) rfl
theorem dX9_count_12 : decode cX9_count 12 = .ok (.ifCond .eq 11, 3) := td tX9_count_0_ok 7 (q := (12, .ifCond .eq 11, 3)) rfl
theorem dX9_count_15 : decode cX9_count 15 = .ok (.aload_n 0, 1) := td tX9_count_0_ok 8 (q := (15, .aload_n 0, 1)) rfl
theorem dX9_count_16 : decode cX9_count 16 = .ok (.iload_n 1, 1) := td tX9_count_0_ok 9 (q := (16, .iload_n 1, 1)) rfl
theorem dX9_count_17 : decode cX9_count 17 = .ok (.invokevirtual 195, 3) := td tX9_count_0_ok 10 (q := (17, .invokevirtual 195, 3)) rfl
theorem dX9_count_20 : decode cX9_count 20 = .ok (.goto 8, 3) := td tX9_count_0_ok 11 (q := (20, .goto 8, 3)) rfl
theorem dX9_count_23 : decode cX9_count 23 = .ok (.aload_n 0, 1) := td tX9_count_0_ok 12 (q := (23, .aload_n 0, 1)) rfl
theorem dX9_count_24 : decode cX9_count 24 = .ok (.iconst 1, 1) := td tX9_count_0_ok 13 (q := (24, .iconst 1, 1)) rfl
theorem dX9_count_25 : decode cX9_count 25 = .ok (.invokevirtual 79, 3) := td tX9_count_0_ok 14 (q := (25, .invokevirtual 79, 3)) rfl
theorem dX9_count_28 : decode cX9_count 28 = .ok (.ireturn, 1) := td tX9_count_0_ok 15 (q := (28, .ireturn, 1)) rfl
def fX9_count (ms : (Nat → Int32)) (mt : Int32) (mn : Int32) (x1 : Int32) : Option (Int32 × Int32) :=
  (Option.bind (fX9_in x1 (0 : Int32) (12 : Int32)) (fun q1 => (if q1 = 0 then (Option.bind (fX9_fails (0 : Int32) (1 : Int32)) (fun q3 => (some (q3.1, q3.2)))) else (Option.bind (fX9_counts ms mn x1) (fun q4 => (some (q4, (0 : Int32))))))))
set_option maxHeartbeats 4000000 in
set_option maxRecDepth 100000 in
theorem mX9_count {l : Launch} {D : va_G} {bd : Nat → Nat} {cI : ClassId} {ms : (Nat → Int32)} {msv : (Nat → Int32)} {mb : (Nat → Int32)} {mf : (Nat → Int32)} {mr : (Nat → Int32)} {mt : Int32} {mn : Int32} {ml : Int32} {mat : Int32} {mw : Int32} {mm : Int32} {mh : Int64} {x1 : Int32} {r : Int32} {mt' : Int32} (hs : fX9_count ms mt mn x1 = some (r, mt')) : nd_C l yX9_count cX9_count 2 (some .int) 6 143 D [(cI, .int)] [.ref (bd 0), .int x1] (MW bd cI ms msv mb mf mr mt mn ml mat mw mm mh) (MW bd cI ms msv mb mf mr mt' mn ml mat mw mm mh) (some (.int r)) := by
  refine nd_ofCi (by decide) (Nat.le_of_ble_eq_true rfl) (fun p e s m args below meth c_ ls A Q hx hb hml hown hts hl hP hK hD hS hA hN hret => ?_)
  have hown : s.vm.findClass RX9 = some m.cls := hown
  have hl : lv_has ls 2 [(0, .ref (bd 0)), (1, .int x1)] := hl
  have hret : ∀ (z0 : Int32) (z1 : Int32) {H : Heap} {locs : List Loc} {pc : Nat} {ls : Array Slot}, some (z0, z1) = some (r, mt') → va_P D vwCl (MW bd cI ms msv mb mf mr z1 mn ml mat mw mm mh) H → va_S A s.heap H locs → decode cX9_count pc = .ok (.ireturn, 1) → W p l e ⟨6, 0, 0, 143⟩ s m args below meth c_ H locs 0 0 Q (F0 m pc ls [.int z0]) := by
    intro z0 z1 H locs pc ls h hP hS hd
    cases h
    exact hret hP hS hd
  rw [fX9_count] at hs
  refine lv_aload_n hx hb dX9_count_0 rfl (lv_at hl 0 rfl) ?_
  refine lv_iconst (v := (0 : Int32)) hx hb dX9_count_1 (by decide) ?_
  refine pf_X9_25 hx hb hts hown hK hP hD hS 0 rfl rfl dX9_count_2 (fun H locs hP hD hS => ?_)
  have hP : va_P D vwCl (MW bd cI ms msv mb mf mr (0 : Int32) mn ml mat mw mm mh) H := hP
  have hD : va_D A (MW bd cI ms msv mb mf mr (0 : Int32) mn ml mat mw mm mh) := hD
  refine lv_iload_n hx hb dX9_count_5 rfl (lv_at hl 1 rfl) ?_
  refine lv_iconst (v := (0 : Int32)) hx hb dX9_count_6 (by decide) ?_
  refine lv_bipush (v := (12 : Int32)) hx hb dX9_count_7 (by decide) ?_
  obtain ⟨q1, eq1, hs⟩ := ob hs
  refine nd_callS (As := [.int x1, .int (0 : Int32), .int (12 : Int32)]) (rest := []) (st1 := [.int q1]) hx hb hml hown hts hl hP hK hD hS hA hN (mX9_in eq1) is_X9_in wd_127 rfl rfl ⟨Nat.le_of_ble_eq_true rfl, Nat.le_of_ble_eq_true rfl⟩ (Nat.le_of_ble_eq_true rfl) ⟨Nat.zero_le _, Nat.zero_le _⟩ dX9_count_9 rfl rfl (fun H locs hP hD hS => ?_)
  refine lv_if_eq (tgt := 23) hx hb dX9_count_12 (by decide) (fun b2 => ?_) (fun b2 => ?_)
  · have hs := ite_t hs b2
    refine lv_aload_n hx hb dX9_count_23 rfl (lv_at hl 0 rfl) ?_
    refine lv_iconst (v := (1 : Int32)) hx hb dX9_count_24 (by decide) ?_
    obtain ⟨q3, eq3, hs⟩ := ob hs
    refine nd_callV (As := [.int (1 : Int32)]) (rest := []) (st1 := [.int q3.1]) hx hb hml hown hts hl hP hK hD hS hA hN (mX9_fails eq3) iv_X9_fails wd_130 0 rfl rfl rfl rfl ⟨Nat.le_of_ble_eq_true rfl, Nat.le_of_ble_eq_true rfl⟩ (Nat.le_of_ble_eq_true rfl) ⟨Nat.zero_le _, Nat.zero_le _⟩ dX9_count_25 rfl rfl (fun H locs hP hD hS => ?_)
    exact hret _ _ hs hP hS dX9_count_28
  · have hs := ite_f hs b2
    refine lv_aload_n hx hb dX9_count_15 rfl (lv_at hl 0 rfl) ?_
    refine lv_iload_n hx hb dX9_count_16 rfl (lv_at hl 1 rfl) ?_
    obtain ⟨q4, eq4, hs⟩ := ob hs
    refine nd_callV (As := [.int x1]) (rest := []) (st1 := [.int q4]) hx hb hml hown hts hl hP hK hD hS hA hN (mX9_counts eq4) iv_X9_counts wd_775 0 rfl rfl rfl rfl ⟨Nat.le_of_ble_eq_true rfl, Nat.le_of_ble_eq_true rfl⟩ (Nat.le_of_ble_eq_true rfl) ⟨Nat.zero_le _, Nat.zero_le _⟩ dX9_count_17 rfl rfl (fun H locs hP hD hS => ?_)
    refine lv_goto (tgt := 28) hx hb dX9_count_20 (by decide) ?_
    exact hret _ _ hs hP hS dX9_count_28
