def tX9_fits_0 : List (Nat × Instr × Nat) := [(0, .aload_n 0, 1), (1, .iconst 0, 1), (2, .putfield 25, 3), (5, .aload_n 0, 1), (6, .iload_n 1, 1), (7, .invokevirtual 85, 3), (10, .ifCond .eq 20, 3), (13, .aload_n 0, 1), (14, .iload_n 2, 1), (15, .invokevirtual 85, 3), (18, .ifCond .eq 12, 3), (21, .aload_n 0, 1), (22, .iload_n 1, 1), (23, .iload_n 2, 1), (24, .invokevirtual 72, 3), (27, .goto 8, 3), (30, .aload_n 0, 1), (31, .iconst 1, 1), (32, .invokevirtual 79, 3), (35, .ireturn, 1)]
theorem tX9_fits_0_ok : tX9_fits_0.all (fun q => decide (decode cX9_fits q.1 = .ok q.2)) = true := by decide +kernel
theorem dX9_fits_0 : decode cX9_fits 0 = .ok (.aload_n 0, 1) := td tX9_fits_0_ok 0 (q := (0, .aload_n 0, 1)) rfl
theorem dX9_fits_1 : decode cX9_fits 1 = .ok (.iconst 0, 1) := td tX9_fits_0_ok 1 (q := (1, .iconst 0, 1)) rfl
theorem dX9_fits_2 : decode cX9_fits 2 = .ok (.putfield 25, 3) := td tX9_fits_0_ok 2 (q := (2, .putfield 25, 3)) rfl
theorem dX9_fits_5 : decode cX9_fits 5 = .ok (.aload_n 0, 1) := td tX9_fits_0_ok 3 (q := (5, .aload_n 0, 1)) rfl
theorem dX9_fits_6 : decode cX9_fits 6 = .ok (.iload_n 1, 1) := td tX9_fits_0_ok 4 (q := (6, .iload_n 1, 1)) rfl
theorem dX9_fits_7 : decode cX9_fits 7 = .ok (.invokevirtual 85, 3) := td tX9_fits_0_ok 5 (q := (7, .invokevirtual 85, 3)) rfl
theorem dX9_fits_10 : decode cX9_fits 10 = .ok (.ifCond .eq 20, 3) := td tX9_fits_0_ok 6 (q := (10, .ifCond .eq 20, 3)) rfl
theorem dX9_fits_13 : decode cX9_fits 13 = .ok (.aload_n 0, 1) := td tX9_fits_0_ok 7 (q := (13, .aload_n 0, 1)) rfl
theorem dX9_fits_14 : decode cX9_fits 14 = .ok (.iload_n 2, 1) := td tX9_fits_0_ok 8 (q := (14, .iload_n 2, 1)) rfl
theorem dX9_fits_15 : decode cX9_fits 15 = .ok (.invokevirtual 85, 3) := td tX9_fits_0_ok 9 (q := (15, .invokevirtual 85, 3)) rfl
theorem dX9_fits_18 : decode cX9_fits 18 = .ok (.ifCond .eq 12, 3) := td tX9_fits_0_ok 10 (q := (18, .ifCond .eq 12, 3)) rfl
theorem dX9_fits_21 : decode cX9_fits 21 = .ok (.aload_n 0, 1) := td tX9_fits_0_ok 11 (q := (21, .aload_n 0, 1)) rfl
theorem dX9_fits_22 : decode cX9_fits 22 = .ok (.iload_n 1, 1) := td tX9_fits_0_ok 12 (q := (22, .iload_n 1, 1)) rfl
theorem dX9_fits_23 : decode cX9_fits 23 = .ok (.iload_n 2, 1) := td tX9_fits_0_ok 13 (q := (23, .iload_n 2, 1)) rfl
theorem dX9_fits_24 : decode cX9_fits 24 = .ok (.invokevirtual 72, 3) := td tX9_fits_0_ok 14 (q := (24, .invokevirtual 72, 3)) rfl
theorem dX9_fits_27 : decode cX9_fits 27 = .ok (.goto 8, 3) := td tX9_fits_0_ok 15 (q := (27, .goto 8, 3)) rfl
theorem dX9_fits_30 : decode cX9_fits 30 = .ok (.aload_n 0, 1) := td tX9_fits_0_ok 16 (q := (30, .aload_n 0, 1)) rfl
theorem dX9_fits_31 : decode cX9_fits 31 = .ok (.iconst 1, 1) := td tX9_fits_0_ok 17 (q := (31, .iconst 1, 1)) rfl
theorem dX9_fits_32 : decode cX9_fits 32 = .ok (.invokevirtual 79, 3) := td tX9_fits_0_ok 18 (q := (32, .invokevirtual 79, 3)) rfl
theorem dX9_fits_35 : decode cX9_fits 35 = .ok (.ireturn, 1) := td tX9_fits_0_ok 19 (q := (35, .ireturn, 1)) rfl
def fX9_fits (ms : (Nat → Int32)) (mt : Int32) (x1 : Int32) (x2 : Int32) : Option (Int32 × Int32) :=
  (Option.bind (fX9_isPiece ms x1) (fun q1 => (if q1 = 0 then (Option.bind (fX9_fails (0 : Int32) (1 : Int32)) (fun q3 => (some (q3.1, q3.2)))) else (Option.bind (fX9_isPiece ms x2) (fun q4 => (if q4 = 0 then (Option.bind (fX9_fails (0 : Int32) (1 : Int32)) (fun q6 => (some (q6.1, q6.2)))) else (Option.bind (fX9_fitting ms x1 x2) (fun q7 => (some (q7, (0 : Int32)))))))))))
set_option maxHeartbeats 4000000 in
set_option maxRecDepth 100000 in
theorem mX9_fits {l : Launch} {D : va_G} {bd : Nat → Nat} {cI : ClassId} {ms : (Nat → Int32)} {msv : (Nat → Int32)} {mb : (Nat → Int32)} {mf : (Nat → Int32)} {mr : (Nat → Int32)} {mt : Int32} {mn : Int32} {ml : Int32} {mat : Int32} {mw : Int32} {mm : Int32} {mh : Int64} {x1 : Int32} {x2 : Int32} {r : Int32} {mt' : Int32} (hs : fX9_fits ms mt x1 x2 = some (r, mt')) : nd_C l yX9_fits cX9_fits 3 (some .int) 4 88 D [(cI, .int)] [.ref (bd 0), .int x1, .int x2] (MW bd cI ms msv mb mf mr mt mn ml mat mw mm mh) (MW bd cI ms msv mb mf mr mt' mn ml mat mw mm mh) (some (.int r)) := by
  refine nd_ofCi (by decide) (Nat.le_of_ble_eq_true rfl) (fun p e s m args below meth c_ ls A Q hx hb hml hown hts hl hP hK hD hS hA hN hret => ?_)
  have hown : s.vm.findClass RX9 = some m.cls := hown
  have hl : lv_has ls 3 [(0, .ref (bd 0)), (1, .int x1), (2, .int x2)] := hl
  have hret : ∀ (z0 : Int32) (z1 : Int32) {H : Heap} {locs : List Loc} {pc : Nat} {ls : Array Slot}, some (z0, z1) = some (r, mt') → va_P D vwCl (MW bd cI ms msv mb mf mr z1 mn ml mat mw mm mh) H → va_S A s.heap H locs → decode cX9_fits pc = .ok (.ireturn, 1) → W p l e ⟨4, 0, 0, 88⟩ s m args below meth c_ H locs 0 0 Q (F0 m pc ls [.int z0]) := by
    intro z0 z1 H locs pc ls h hP hS hd
    cases h
    exact hret hP hS hd
  rw [fX9_fits] at hs
  refine lv_aload_n hx hb dX9_fits_0 rfl (lv_at hl 0 rfl) ?_
  refine lv_iconst (v := (0 : Int32)) hx hb dX9_fits_1 (by decide) ?_
  refine pf_X9_25 hx hb hts hown hK hP hD hS 0 rfl rfl dX9_fits_2 (fun H locs hP hD hS => ?_)
  have hP : va_P D vwCl (MW bd cI ms msv mb mf mr (0 : Int32) mn ml mat mw mm mh) H := hP
  have hD : va_D A (MW bd cI ms msv mb mf mr (0 : Int32) mn ml mat mw mm mh) := hD
  refine lv_aload_n hx hb dX9_fits_5 rfl (lv_at hl 0 rfl) ?_
  refine lv_iload_n hx hb dX9_fits_6 rfl (lv_at hl 1 rfl) ?_
  obtain ⟨q1, eq1, hs⟩ := ob hs
  refine nd_callV (As := [.int x1]) (rest := []) (st1 := [.int q1]) hx hb hml hown hts hl hP hK hD hS hA hN (mX9_isPiece eq1) iv_X9_isPiece wd_274 0 rfl rfl rfl rfl ⟨Nat.le_of_ble_eq_true rfl, Nat.le_of_ble_eq_true rfl⟩ (Nat.le_of_ble_eq_true rfl) ⟨Nat.zero_le _, Nat.zero_le _⟩ dX9_fits_7 rfl rfl (fun H locs hP hD hS => ?_)
  refine lv_if_eq (tgt := 30) hx hb dX9_fits_10 (by decide) (fun b2 => ?_) (fun b2 => ?_)
  · have hs := ite_t hs b2
    refine lv_aload_n hx hb dX9_fits_30 rfl (lv_at hl 0 rfl) ?_
    refine lv_iconst (v := (1 : Int32)) hx hb dX9_fits_31 (by decide) ?_
    obtain ⟨q3, eq3, hs⟩ := ob hs
    refine nd_callV (As := [.int (1 : Int32)]) (rest := []) (st1 := [.int q3.1]) hx hb hml hown hts hl hP hK hD hS hA hN (mX9_fails eq3) iv_X9_fails wd_130 0 rfl rfl rfl rfl ⟨Nat.le_of_ble_eq_true rfl, Nat.le_of_ble_eq_true rfl⟩ (Nat.le_of_ble_eq_true rfl) ⟨Nat.zero_le _, Nat.zero_le _⟩ dX9_fits_32 rfl rfl (fun H locs hP hD hS => ?_)
    exact hret _ _ hs hP hS dX9_fits_35
  · have hs := ite_f hs b2
    refine lv_aload_n hx hb dX9_fits_13 rfl (lv_at hl 0 rfl) ?_
    refine lv_iload_n hx hb dX9_fits_14 rfl (lv_at hl 2 rfl) ?_
    obtain ⟨q4, eq4, hs⟩ := ob hs
    refine nd_callV (As := [.int x2]) (rest := []) (st1 := [.int q4]) hx hb hml hown hts hl hP hK hD hS hA hN (mX9_isPiece eq4) iv_X9_isPiece wd_274 0 rfl rfl rfl rfl ⟨Nat.le_of_ble_eq_true rfl, Nat.le_of_ble_eq_true rfl⟩ (Nat.le_of_ble_eq_true rfl) ⟨Nat.zero_le _, Nat.zero_le _⟩ dX9_fits_15 rfl rfl (fun H locs hP hD hS => ?_)
    refine lv_if_eq (tgt := 30) hx hb dX9_fits_18 (by decide) (fun b5 => ?_) (fun b5 => ?_)
    · have hs := ite_t hs b5
      refine lv_aload_n hx hb dX9_fits_30 rfl (lv_at hl 0 rfl) ?_
      refine lv_iconst (v := (1 : Int32)) hx hb dX9_fits_31 (by decide) ?_
      obtain ⟨q6, eq6, hs⟩ := ob hs
      refine nd_callV (As := [.int (1 : Int32)]) (rest := []) (st1 := [.int q6.1]) hx hb hml hown hts hl hP hK hD hS hA hN (mX9_fails eq6) iv_X9_fails wd_130 0 rfl rfl rfl rfl ⟨Nat.le_of_ble_eq_true rfl, Nat.le_of_ble_eq_true rfl⟩ (Nat.le_of_ble_eq_true rfl) ⟨Nat.zero_le _, Nat.zero_le _⟩ dX9_fits_32 rfl rfl (fun H locs hP hD hS => ?_)
      exact hret _ _ hs hP hS dX9_fits_35
    · have hs := ite_f hs b5
      refine lv_aload_n hx hb dX9_fits_21 rfl (lv_at hl 0 rfl) ?_
      refine lv_iload_n hx hb dX9_fits_22 rfl (lv_at hl 1 rfl) ?_
      refine lv_iload_n hx hb dX9_fits_23 rfl (lv_at hl 2 rfl) ?_
      obtain ⟨q7, eq7, hs⟩ := ob hs
      refine nd_callV (As := [.int x1, .int x2]) (rest := []) (st1 := [.int q7]) hx hb hml hown hts hl hP hK hD hS hA hN (mX9_fitting eq7) iv_X9_fitting wd_403 0 rfl rfl rfl rfl ⟨Nat.le_of_ble_eq_true rfl, Nat.le_of_ble_eq_true rfl⟩ (Nat.le_of_ble_eq_true rfl) ⟨Nat.zero_le _, Nat.zero_le _⟩ dX9_fits_24 rfl rfl (fun H locs hP hD hS => ?_)
      refine lv_goto (tgt := 35) hx hb dX9_fits_27 (by decide) ?_
      exact hret _ _ hs hP hS dX9_fits_35
def tX9_goesOn_0 : List (Nat × Instr × Nat) := [(0, .iload_n 1, 1), (1, .iload_n 3, 1), (2, .ishr, 1), (3, .iconst 1, 1), (4, .iand, 1), (5, .ifCond .ne 25, 3), (8, .aload_n 0, 1), (9, .iload_n 2, 1), (10, .iconst 1, 1), (11, .invokevirtual 33, 3), (14, .aload_n 0, 1), (15, .iload_n 3, 1), (16, .iconst 0, 1), (17, .invokevirtual 33, 3), (20, .iadd, 1), (21, .bipush 99, 2), (23, .if_icmp .ne 7, 3), (26, .iconst 1, 1), (27, .goto 4, 3), (30, .iconst 0, 1), (31, .istore 4, 2), (33, .iconst 0, 1), (34, .istore 5, 2), (36, .iload 5, 2), (38, .aload_n 0, 1), (39, .getfield 7, 3), (42, .iconst 0, 1), (43, .iaload, 1), (44, .if_icmp .ge 86, 3), (47, .aload_n 0, 1), (48, .iload_n 3, 1), (49, .iconst 2, 1), (50, .invokevirtual 33, 3), (53, .ifCond .le 77, 3), (56, .iload_n 1, 1), (57, .iload 5, 2), (59, .ishr, 1), (60, .iconst 1, 1), (61, .iand, 1), (62, .iconst 1, 1), (63, .if_icmp .ne 17, 3), (66, .aload_n 0, 1), (67, .iload 5, 2), (69, .iconst 2, 1), (70, .invokevirtual 33, 3), (73, .ifCond .le 7, 3), (76, .iconst 1, 1), (77, .goto 4, 3), (80, .iconst 0, 1), (81, .istore 6, 2), (83, .iload 4, 2), (85, .ifCond .eq 36, 3), (88, .iload 6, 2), (90, .ifCond .eq 27, 3), (93, .aload_n 0, 1), (94, .iload 5, 2), (96, .aload_n 0, 1), (97, .iload 5, 2), (99, .iconst 2, 1), (100, .invokevirtual 33, 3)]
theorem tX9_goesOn_0_ok : tX9_goesOn_0.all (fun q => decide (decode cX9_goesOn q.1 = .ok q.2)) = true := by decide +kernel
theorem dX9_goesOn_0 : decode cX9_goesOn 0 = .ok (.iload_n 1, 1) := td tX9_goesOn_0_ok 0 (q := (0, .iload_n 1, 1)) rfl
theorem dX9_goesOn_1 : decode cX9_goesOn 1 = .ok (.iload_n 3, 1) := td tX9_goesOn_0_ok 1 (q := (1, .iload_n 3, 1)) rfl
theorem dX9_goesOn_2 : decode cX9_goesOn 2 = .ok (.ishr, 1) := td tX9_goesOn_0_ok 2 (q := (2, .ishr, 1)) rfl
theorem dX9_goesOn_3 : decode cX9_goesOn 3 = .ok (.iconst 1, 1) := td tX9_goesOn_0_ok 3 (q := (3, .iconst 1, 1)) rfl
theorem dX9_goesOn_4 : decode cX9_goesOn 4 = .ok (.iand, 1) := td tX9_goesOn_0_ok 4 (q := (4, .iand, 1)) rfl
theorem dX9_goesOn_5 : decode cX9_goesOn 5 = .ok (.ifCond .ne 25, 3) := td tX9_goesOn_0_ok 5 (q := (5, .ifCond .ne 25, 3)) rfl
theorem dX9_goesOn_8 : decode cX9_goesOn 8 = .ok (.aload_n 0, 1) := td tX9_goesOn_0_ok 6 (q := (8, .aload_n 0, 1)) rfl
theorem dX9_goesOn_9 : decode cX9_goesOn 9 = .ok (.iload_n 2, 1) := td tX9_goesOn_0_ok 7 (q := (9, .iload_n 2, 1)) rfl
theorem dX9_goesOn_10 : decode cX9_goesOn 10 = .ok (.iconst 1, 1) := td tX9_goesOn_0_ok 8 (q := (10, .iconst 1, 1)) rfl
theorem dX9_goesOn_11 : decode cX9_goesOn 11 = .ok (.invokevirtual 33, 3) := td tX9_goesOn_0_ok 9 (q := (11, .invokevirtual 33, 3)) rfl
theorem dX9_goesOn_14 : decode cX9_goesOn 14 = .ok (.aload_n 0, 1) := td tX9_goesOn_0_ok 10 (q := (14, .aload_n 0, 1)) rfl
theorem dX9_goesOn_15 : decode cX9_goesOn 15 = .ok (.iload_n 3, 1) := td tX9_goesOn_0_ok 11 (q := (15, .iload_n 3, 1)) rfl
theorem dX9_goesOn_16 : decode cX9_goesOn 16 = .ok (.iconst 0, 1) := td tX9_goesOn_0_ok 12 (q := (16, .iconst 0, 1)) rfl
theorem dX9_goesOn_17 : decode cX9_goesOn 17 = .ok (.invokevirtual 33, 3) := td tX9_goesOn_0_ok 13 (q := (17, .invokevirtual 33, 3)) rfl
theorem dX9_goesOn_20 : decode cX9_goesOn 20 = .ok (.iadd, 1) := td tX9_goesOn_0_ok 14 (q := (20, .iadd, 1)) rfl
theorem dX9_goesOn_21 : decode cX9_goesOn 21 = .ok (.bipush 99, 2) := td tX9_goesOn_0_ok 15 (q := (21, .bipush 99, 2)) rfl
theorem dX9_goesOn_23 : decode cX9_goesOn 23 = .ok (.if_icmp .ne 7, 3) := td tX9_goesOn_0_ok 16 (q := (23, .if_icmp .ne 7, 3)) rfl
theorem dX9_goesOn_26 : decode cX9_goesOn 26 = .ok (.iconst 1, 1) := td tX9_goesOn_0_ok 17 (q := (26, .iconst 1, 1)) rfl
theorem dX9_goesOn_27 : decode cX9_goesOn 27 = .ok (.goto 4, 3) := td tX9_goesOn_0_ok 18 (q := (27, .goto 4, 3)) rfl
theorem dX9_goesOn_30 : decode cX9_goesOn 30 = .ok (.iconst 0, 1) := td tX9_goesOn_0_ok 19 (q := (30, .iconst 0, 1)) rfl
theorem dX9_goesOn_31 : decode cX9_goesOn 31 = .ok (.istore 4, 2) := td tX9_goesOn_0_ok 20 (q := (31, .istore 4, 2)) rfl
theorem dX9_goesOn_33 : decode cX9_goesOn 33 = .ok (.iconst 0, 1) := td tX9_goesOn_0_ok 21 (q := (33, .iconst 0, 1)) rfl
theorem dX9_goesOn_34 : decode cX9_goesOn 34 = .ok (.istore 5, 2) := td tX9_goesOn_0_ok 22 (q := (34, .istore 5, 2)) rfl
theorem dX9_goesOn_36 : decode cX9_goesOn 36 = .ok (.iload 5, 2) := td tX9_goesOn_0_ok 23 (q := (36, .iload 5, 2)) rfl
theorem dX9_goesOn_38 : decode cX9_goesOn 38 = .ok (.aload_n 0, 1) := td tX9_goesOn_0_ok 24 (q := (38, .aload_n 0, 1)) rfl
theorem dX9_goesOn_39 : decode cX9_goesOn 39 = .ok (.getfield 7, 3) := td tX9_goesOn_0_ok 25 (q := (39, .getfield 7, 3)) rfl
theorem dX9_goesOn_42 : decode cX9_goesOn 42 = .ok (.iconst 0, 1) := td tX9_goesOn_0_ok 26 (q := (42, .iconst 0, 1)) rfl
theorem dX9_goesOn_43 : decode cX9_goesOn 43 = .ok (.iaload, 1) := td tX9_goesOn_0_ok 27 (q := (43, .iaload, 1)) rfl
theorem dX9_goesOn_44 : decode cX9_goesOn 44 = .ok (.if_icmp .ge 86, 3) := td tX9_goesOn_0_ok 28 (q := (44, .if_icmp .ge 86, 3)) rfl
theorem dX9_goesOn_47 : decode cX9_goesOn 47 = .ok (.aload_n 0, 1) := td tX9_goesOn_0_ok 29 (q := (47, .aload_n 0, 1)) rfl
theorem dX9_goesOn_48 : decode cX9_goesOn 48 = .ok (.iload_n 3, 1) := td tX9_goesOn_0_ok 30 (q := (48, .iload_n 3, 1)) rfl
theorem dX9_goesOn_49 : decode cX9_goesOn 49 = .ok (.iconst 2, 1) := td tX9_goesOn_0_ok 31 (q := (49, .iconst 2, 1)) rfl
theorem dX9_goesOn_50 : decode cX9_goesOn 50 = .ok (.invokevirtual 33, 3) := td tX9_goesOn_0_ok 32 (q := (50, .invokevirtual 33, 3)) rfl
theorem dX9_goesOn_53 : decode cX9_goesOn 53 = .ok (.ifCond .le 77, 3) := td tX9_goesOn_0_ok 33 (q := (53, .ifCond .le 77, 3)) rfl
theorem dX9_goesOn_56 : decode cX9_goesOn 56 = .ok (.iload_n 1, 1) := td tX9_goesOn_0_ok 34 (q := (56, .iload_n 1, 1)) rfl
theorem dX9_goesOn_57 : decode cX9_goesOn 57 = .ok (.iload 5, 2) := td tX9_goesOn_0_ok 35 (q := (57, .iload 5, 2)) rfl
theorem dX9_goesOn_59 : decode cX9_goesOn 59 = .ok (.ishr, 1) := td tX9_goesOn_0_ok 36 (q := (59, .ishr, 1)) rfl
theorem dX9_goesOn_60 : decode cX9_goesOn 60 = .ok (.iconst 1, 1) := td tX9_goesOn_0_ok 37 (q := (60, .iconst 1, 1)) rfl
theorem dX9_goesOn_61 : decode cX9_goesOn 61 = .ok (.iand, 1) := td tX9_goesOn_0_ok 38 (q := (61, .iand, 1)) rfl
theorem dX9_goesOn_62 : decode cX9_goesOn 62 = .ok (.iconst 1, 1) := td tX9_goesOn_0_ok 39 (q := (62, .iconst 1, 1)) rfl
theorem dX9_goesOn_63 : decode cX9_goesOn 63 = .ok (.if_icmp .ne 17, 3) := td tX9_goesOn_0_ok 40 (q := (63, .if_icmp .ne 17, 3)) rfl
theorem dX9_goesOn_66 : decode cX9_goesOn 66 = .ok (.aload_n 0, 1) := td tX9_goesOn_0_ok 41 (q := (66, .aload_n 0, 1)) rfl
theorem dX9_goesOn_67 : decode cX9_goesOn 67 = .ok (.iload 5, 2) := td tX9_goesOn_0_ok 42 (q := (67, .iload 5, 2)) rfl
theorem dX9_goesOn_69 : decode cX9_goesOn 69 = .ok (.iconst 2, 1) := td tX9_goesOn_0_ok 43 (q := (69, .iconst 2, 1)) rfl
theorem dX9_goesOn_70 : decode cX9_goesOn 70 = .ok (.invokevirtual 33, 3) := td tX9_goesOn_0_ok 44 (q := (70, .invokevirtual 33, 3)) rfl
theorem dX9_goesOn_73 : decode cX9_goesOn 73 = .ok (.ifCond .le 7, 3) := td tX9_goesOn_0_ok 45 (q := (73, .ifCond .le 7, 3)) rfl
theorem dX9_goesOn_76 : decode cX9_goesOn 76 = .ok (.iconst 1, 1) := td tX9_goesOn_0_ok 46 (q := (76, .iconst 1, 1)) rfl
theorem dX9_goesOn_77 : decode cX9_goesOn 77 = .ok (.goto 4, 3) := td tX9_goesOn_0_ok 47 (q := (77, .goto 4, 3)) rfl
theorem dX9_goesOn_80 : decode cX9_goesOn 80 = .ok (.iconst 0, 1) := td tX9_goesOn_0_ok 48 (q := (80, .iconst 0, 1)) rfl
theorem dX9_goesOn_81 : decode cX9_goesOn 81 = .ok (.istore 6, 2) := td tX9_goesOn_0_ok 49 (q := (81, .istore 6, 2)) rfl
theorem dX9_goesOn_83 : decode cX9_goesOn 83 = .ok (.iload 4, 2) := td tX9_goesOn_0_ok 50 (q := (83, .iload 4, 2)) rfl
theorem dX9_goesOn_85 : decode cX9_goesOn 85 = .ok (.ifCond .eq 36, 3) := td tX9_goesOn_0_ok 51 (q := (85, .ifCond .eq 36, 3)) rfl
theorem dX9_goesOn_88 : decode cX9_goesOn 88 = .ok (.iload 6, 2) := td tX9_goesOn_0_ok 52 (q := (88, .iload 6, 2)) rfl
theorem dX9_goesOn_90 : decode cX9_goesOn 90 = .ok (.ifCond .eq 27, 3) := td tX9_goesOn_0_ok 53 (q := (90, .ifCond .eq 27, 3)) rfl
theorem dX9_goesOn_93 : decode cX9_goesOn 93 = .ok (.aload_n 0, 1) := td tX9_goesOn_0_ok 54 (q := (93, .aload_n 0, 1)) rfl
theorem dX9_goesOn_94 : decode cX9_goesOn 94 = .ok (.iload 5, 2) := td tX9_goesOn_0_ok 55 (q := (94, .iload 5, 2)) rfl
theorem dX9_goesOn_96 : decode cX9_goesOn 96 = .ok (.aload_n 0, 1) := td tX9_goesOn_0_ok 56 (q := (96, .aload_n 0, 1)) rfl
theorem dX9_goesOn_97 : decode cX9_goesOn 97 = .ok (.iload 5, 2) := td tX9_goesOn_0_ok 57 (q := (97, .iload 5, 2)) rfl
theorem dX9_goesOn_99 : decode cX9_goesOn 99 = .ok (.iconst 2, 1) := td tX9_goesOn_0_ok 58 (q := (99, .iconst 2, 1)) rfl
theorem dX9_goesOn_100 : decode cX9_goesOn 100 = .ok (.invokevirtual 33, 3) := td tX9_goesOn_0_ok 59 (q := (100, .invokevirtual 33, 3)) rfl
def tX9_goesOn_1 : List (Nat × Instr × Nat) := [(103, .iconst 1, 1), (104, .isub, 1), (105, .invokevirtual 57, 3), (108, .aload_n 0, 1), (109, .iload_n 3, 1), (110, .iconst 0, 1), (111, .invokevirtual 57, 3), (114, .if_icmp .gt 7, 3), (117, .iconst 1, 1), (118, .goto 4, 3), (121, .iconst 0, 1), (122, .istore 4, 2), (124, .iinc 5 1, 3), (127, .goto (-91), 3), (130, .iload 4, 2), (132, .ireturn, 1)]
theorem tX9_goesOn_1_ok : tX9_goesOn_1.all (fun q => decide (decode cX9_goesOn q.1 = .ok q.2)) = true := by decide +kernel
theorem dX9_goesOn_103 : decode cX9_goesOn 103 = .ok (.iconst 1, 1) := td tX9_goesOn_1_ok 0 (q := (103, .iconst 1, 1)) rfl
theorem dX9_goesOn_104 : decode cX9_goesOn 104 = .ok (.isub, 1) := td tX9_goesOn_1_ok 1 (q := (104, .isub, 1)) rfl
theorem dX9_goesOn_105 : decode cX9_goesOn 105 = .ok (.invokevirtual 57, 3) := td tX9_goesOn_1_ok 2 (q := (105, .invokevirtual 57, 3)) rfl
theorem dX9_goesOn_108 : decode cX9_goesOn 108 = .ok (.aload_n 0, 1) := td tX9_goesOn_1_ok 3 (q := (108, .aload_n 0, 1)) rfl
theorem dX9_goesOn_109 : decode cX9_goesOn 109 = .ok (.iload_n 3, 1) := td tX9_goesOn_1_ok 4 (q := (109, .iload_n 3, 1)) rfl
theorem dX9_goesOn_110 : decode cX9_goesOn 110 = .ok (.iconst 0, 1) := td tX9_goesOn_1_ok 5 (q := (110, .iconst 0, 1)) rfl
theorem dX9_goesOn_111 : decode cX9_goesOn 111 = .ok (.invokevirtual 57, 3) := td tX9_goesOn_1_ok 6 (q := (111, .invokevirtual 57, 3)) rfl
theorem dX9_goesOn_114 : decode cX9_goesOn 114 = .ok (.if_icmp .gt 7, 3) := td tX9_goesOn_1_ok 7 (q := (114, .if_icmp .gt 7, 3)) rfl
theorem dX9_goesOn_117 : decode cX9_goesOn 117 = .ok (.iconst 1, 1) := td tX9_goesOn_1_ok 8 (q := (117, .iconst 1, 1)) rfl
theorem dX9_goesOn_118 : decode cX9_goesOn 118 = .ok (.goto 4, 3) := td tX9_goesOn_1_ok 9 (q := (118, .goto 4, 3)) rfl
theorem dX9_goesOn_121 : decode cX9_goesOn 121 = .ok (.iconst 0, 1) := td tX9_goesOn_1_ok 10 (q := (121, .iconst 0, 1)) rfl
theorem dX9_goesOn_122 : decode cX9_goesOn 122 = .ok (.istore 4, 2) := td tX9_goesOn_1_ok 11 (q := (122, .istore 4, 2)) rfl
theorem dX9_goesOn_124 : decode cX9_goesOn 124 = .ok (.iinc 5 1, 3) := td tX9_goesOn_1_ok 12 (q := (124, .iinc 5 1, 3)) rfl
theorem dX9_goesOn_127 : decode cX9_goesOn 127 = .ok (.goto (-91), 3) := td tX9_goesOn_1_ok 13 (q := (127, .goto (-91), 3)) rfl
theorem dX9_goesOn_130 : decode cX9_goesOn 130 = .ok (.iload 4, 2) := td tX9_goesOn_1_ok 14 (q := (130, .iload 4, 2)) rfl
theorem dX9_goesOn_132 : decode cX9_goesOn 132 = .ok (.ireturn, 1) := td tX9_goesOn_1_ok 15 (q := (132, .ireturn, 1)) rfl
def fX9_goesOn_36 (k36 : Int32 → Option (Int32)) (ms : (Nat → Int32)) (x1 : Int32) (x3 : Int32) : Nat → Int32 → Int32 → Option (Int32)
  | 0, _, _ => none
  | n36 + 1, x4, x5 => (Option.bind (aget ms 531 (0 : Int32)) (fun t2 => (if t2 ≤ x5 then (k36 x4) else (Option.bind (fX9_of ms x3 (2 : Int32)) (fun q4 => (if q4 ≤ 0 then (k36 x4) else (if ((x1 >>> (x5 &&& 31)) &&& (1 : Int32)) = (1 : Int32) then (Option.bind (fX9_of ms x5 (2 : Int32)) (fun q8 => (if q8 ≤ 0 then (if x4 = 0 then (fX9_goesOn_36 k36 ms x1 x3 n36 (0 : Int32) (x5 + (1 : Int32))) else (fX9_goesOn_36 k36 ms x1 x3 n36 (1 : Int32) (x5 + (1 : Int32)))) else (if x4 = 0 then (fX9_goesOn_36 k36 ms x1 x3 n36 (0 : Int32) (x5 + (1 : Int32))) else (Option.bind (fX9_of ms x5 (2 : Int32)) (fun q12 => (Option.bind (fX9_timeOf ms x5 (q12 - (1 : Int32))) (fun q13 => (Option.bind (fX9_timeOf ms x3 (0 : Int32)) (fun q14 => (if q14 < q13 then (fX9_goesOn_36 k36 ms x1 x3 n36 (0 : Int32) (x5 + (1 : Int32))) else (fX9_goesOn_36 k36 ms x1 x3 n36 (1 : Int32) (x5 + (1 : Int32)))))))))))))) else (if x4 = 0 then (fX9_goesOn_36 k36 ms x1 x3 n36 (0 : Int32) (x5 + (1 : Int32))) else (fX9_goesOn_36 k36 ms x1 x3 n36 (1 : Int32) (x5 + (1 : Int32)))))))))))
def fX9_goesOn (ms : (Nat → Int32)) (x1 : Int32) (x2 : Int32) (x3 : Int32) : Option (Int32) :=
  (if ((x1 >>> (x3 &&& 31)) &&& (1 : Int32)) = 0 then (Option.bind (fX9_of ms x2 (1 : Int32)) (fun q32 => (Option.bind (fX9_of ms x3 (0 : Int32)) (fun q33 => (if (q32 + q33) = (99 : Int32) then (fX9_goesOn_36 (fun (u4_79 : Int32) => (Option.bind (bz u4_79) (fun t94 => (some u4_79)))) ms x1 x3 LF (1 : Int32) (0 : Int32)) else (fX9_goesOn_36 (fun (u4_49 : Int32) => (Option.bind (bz u4_49) (fun t64 => (some u4_49)))) ms x1 x3 LF (0 : Int32) (0 : Int32))))))) else (fX9_goesOn_36 (fun (u4_16 : Int32) => (Option.bind (bz u4_16) (fun t31 => (some u4_16)))) ms x1 x3 LF (0 : Int32) (0 : Int32)))
set_option maxHeartbeats 4000000 in
set_option maxRecDepth 100000 in
theorem mX9_goesOn {l : Launch} {D : va_G} {bd : Nat → Nat} {cI : ClassId} {ms : (Nat → Int32)} {msv : (Nat → Int32)} {mb : (Nat → Int32)} {mf : (Nat → Int32)} {mr : (Nat → Int32)} {mt : Int32} {mn : Int32} {ml : Int32} {mat : Int32} {mw : Int32} {mm : Int32} {mh : Int64} {x1 : Int32} {x2 : Int32} {x3 : Int32} {r : Int32} (hs : fX9_goesOn ms x1 x2 x3 = some r) : nd_C l yX9_goesOn cX9_goesOn 7 (some .boolean) 2 43 D [(cI, .int)] [.ref (bd 0), .int x1, .int x2, .int x3] (MW bd cI ms msv mb mf mr mt mn ml mat mw mm mh) (MW bd cI ms msv mb mf mr mt mn ml mat mw mm mh) (some (.int r)) := by
  refine nd_ofCz (by decide) (Nat.le_of_ble_eq_true rfl) (fun p e s m args below meth c_ ls A Q hx hb hml hown hts hl hP hK hD hS hA hN hret => ?_)
  have hown : s.vm.findClass RX9 = some m.cls := hown
  have hl : lv_has ls 7 [(0, .ref (bd 0)), (1, .int x1), (2, .int x2), (3, .int x3)] := hl
  have hret : ∀ (z0 : Int32) {H : Heap} {locs : List Loc} {pc : Nat} {ls : Array Slot}, some z0 = some r → (z0 = 0 ∨ z0 = 1) → va_P D vwCl (MW bd cI ms msv mb mf mr mt mn ml mat mw mm mh) H → va_S A s.heap H locs → decode cX9_goesOn pc = .ok (.ireturn, 1) → W p l e ⟨2, 0, 0, 43⟩ s m args below meth c_ H locs 0 0 Q (F0 m pc ls [.int z0]) := by
    intro z0 H locs pc ls h hz hP hS hd
    cases h
    exact hret hz hP hS hd
  rw [fX9_goesOn] at hs
  refine lv_iload_n hx hb dX9_goesOn_0 rfl (lv_at hl 1 rfl) ?_
  refine lv_iload_n hx hb dX9_goesOn_1 rfl (lv_at hl 3 rfl) ?_
  refine lv_ishr hx hb dX9_goesOn_2 ?_
  refine lv_iconst (v := (1 : Int32)) hx hb dX9_goesOn_3 (by decide) ?_
  refine lv_iand hx hb dX9_goesOn_4 ?_
  refine lv_if_ne (tgt := 30) hx hb dX9_goesOn_5 (by decide) (fun b1 => ?_) (fun b1 => ?_)
  · have hs := ite_f hs b1
    refine lv_iconst (v := (0 : Int32)) hx hb dX9_goesOn_30 (by decide) ?_
    refine lv_istore (lv' := [(4, .int (0 : Int32)), (0, .ref (bd 0)), (1, .int x1), (2, .int x2), (3, .int x3)]) hx hb dX9_goesOn_31 hl (by decide) rfl (fun ls hl => ?_)
    refine lv_iconst (v := (0 : Int32)) hx hb dX9_goesOn_33 (by decide) ?_
    refine lv_istore (lv' := [(5, .int (0 : Int32)), (4, .int (0 : Int32)), (0, .ref (bd 0)), (1, .int x1), (2, .int x2), (3, .int x3)]) hx hb dX9_goesOn_34 hl (by decide) rfl (fun ls hl => ?_)
    have L36 : ∀ (n36 : Nat) (k36 : Int32 → Option (Int32)) (v4_16 : Int32) (v5_16 : Int32) (H : Heap) (locs : List Loc) (ls : Array Slot), lv_has ls 7 [(0, .ref (bd 0)), (1, .int x1), (3, .int x3), (4, .int v4_16), (5, .int v5_16)] → va_P D vwCl (MW bd cI ms msv mb mf mr mt mn ml mat mw mm mh) H → va_S A s.heap H locs → fX9_goesOn_36 k36 ms x1 x3 n36 v4_16 v5_16 = some r → (∀ (u4_16 : Int32) (H : Heap) (locs : List Loc) (ls : Array Slot), lv_has ls 7 [(4, .int u4_16)] → va_P D vwCl (MW bd cI ms msv mb mf mr mt mn ml mat mw mm mh) H → va_S A s.heap H locs → k36 u4_16 = some r → W p l e ⟨2, 0, 0, 43⟩ s m args below meth c_ H locs 0 0 Q (F0 m 130 ls [])) → W p l e ⟨2, 0, 0, 43⟩ s m args below meth c_ H locs 0 0 Q (F0 m 36 ls []) := by
      intro n36
      induction n36 with
      | zero =>
        intro k36 v4_16 v5_16 H locs ls hl hP hS hs hk36
        rw [fX9_goesOn_36] at hs
        cases hs
      | succ n36 ih36 =>
        intro k36 v4_16 v5_16 H locs ls hl hP hS hs hk36
        rw [fX9_goesOn_36] at hs
        refine lv_iload hx hb dX9_goesOn_36 (lv_at hl 4 rfl) ?_
        refine lv_aload_n hx hb dX9_goesOn_38 rfl (lv_at hl 0 rfl) ?_
        refine gf_X9_7 hx hb hts hown hK hP 0 rfl rfl dX9_goesOn_39 ?_
        refine lv_iconst (v := (0 : Int32)) hx hb dX9_goesOn_42 (by decide) ?_
        obtain ⟨t17, et17, hs⟩ := ob hs
        refine nd_iald hx hb hK hP 1 0 rfl rfl et17 dX9_goesOn_43 ?_
        refine lv_icmp_ge (tgt := 130) hx hb dX9_goesOn_44 (by decide) (fun b18 => ?_) (fun b18 => ?_)
        · have hs := ite_t hs b18
          exact hk36 v4_16 _ _ _ (lv_sub hl [3] rfl) hP hS hs
        · have hs := ite_f hs b18
          refine lv_aload_n hx hb dX9_goesOn_47 rfl (lv_at hl 0 rfl) ?_
          refine lv_iload_n hx hb dX9_goesOn_48 rfl (lv_at hl 2 rfl) ?_
          refine lv_iconst (v := (2 : Int32)) hx hb dX9_goesOn_49 (by decide) ?_
          obtain ⟨q19, eq19, hs⟩ := ob hs
          refine nd_callV (As := [.int x3, .int (2 : Int32)]) (rest := []) (st1 := [.int q19]) hx hb hml hown hts hl hP hK hD hS hA hN (mX9_of eq19) iv_X9_of wd_307 0 rfl rfl rfl rfl ⟨Nat.le_of_ble_eq_true rfl, Nat.le_of_ble_eq_true rfl⟩ (Nat.le_of_ble_eq_true rfl) ⟨Nat.zero_le _, Nat.zero_le _⟩ dX9_goesOn_50 rfl rfl (fun H locs hP hD hS => ?_)
          refine lv_if_le (tgt := 130) hx hb dX9_goesOn_53 (by decide) (fun b20 => ?_) (fun b20 => ?_)
          · have hs := ite_t hs b20
            exact hk36 v4_16 _ _ _ (lv_sub hl [3] rfl) hP hS hs
          · have hs := ite_f hs b20
            refine lv_iload_n hx hb dX9_goesOn_56 rfl (lv_at hl 1 rfl) ?_
            refine lv_iload hx hb dX9_goesOn_57 (lv_at hl 4 rfl) ?_
            refine lv_ishr hx hb dX9_goesOn_59 ?_
            refine lv_iconst (v := (1 : Int32)) hx hb dX9_goesOn_60 (by decide) ?_
            refine lv_iand hx hb dX9_goesOn_61 ?_
            refine lv_iconst (v := (1 : Int32)) hx hb dX9_goesOn_62 (by decide) ?_
            refine lv_icmp_ne (tgt := 80) hx hb dX9_goesOn_63 (by decide) (fun b21 => ?_) (fun b21 => ?_)
            · have hs := ite_f hs b21
              refine lv_iconst (v := (0 : Int32)) hx hb dX9_goesOn_80 (by decide) ?_
              refine lv_istore (lv' := [(6, .int (0 : Int32)), (0, .ref (bd 0)), (1, .int x1), (3, .int x3), (4, .int v4_16), (5, .int v5_16)]) hx hb dX9_goesOn_81 hl (by decide) rfl (fun ls hl => ?_)
              refine lv_iload hx hb dX9_goesOn_83 (lv_at hl 4 rfl) ?_
              refine lv_if_eq (tgt := 121) hx hb dX9_goesOn_85 (by decide) (fun b22 => ?_) (fun b22 => ?_)
              · have hs := ite_t hs b22
                refine lv_iconst (v := (0 : Int32)) hx hb dX9_goesOn_121 (by decide) ?_
                refine lv_istore (lv' := [(4, .int (0 : Int32)), (6, .int (0 : Int32)), (0, .ref (bd 0)), (1, .int x1), (3, .int x3), (5, .int v5_16)]) hx hb dX9_goesOn_122 hl (by decide) rfl (fun ls hl => ?_)
                refine lv_iinc (v := v5_16 + (1 : Int32)) (lv' := [(5, .int (v5_16 + (1 : Int32))), (4, .int (0 : Int32)), (6, .int (0 : Int32)), (0, .ref (bd 0)), (1, .int x1), (3, .int x3)]) hx hb dX9_goesOn_124 hl (k := 5) rfl rfl (by decide) rfl (fun ls hl => ?_)
                refine lv_goto (tgt := 36) hx hb dX9_goesOn_127 (by decide) ?_
                exact ih36 k36 (0 : Int32) (v5_16 + (1 : Int32)) _ _ _ (lv_sub hl [3, 4, 5, 1, 0] rfl) hP hS hs hk36
              · have hs := ite_f hs b22
                refine lv_iload hx hb dX9_goesOn_88 (lv_at hl 0 rfl) ?_
                refine lv_if_eq (tgt := 117) hx hb dX9_goesOn_90 (by decide) (fun _ => ?_) (fun h => absurd (by decide) h)
                refine lv_iconst (v := (1 : Int32)) hx hb dX9_goesOn_117 (by decide) ?_
                refine lv_goto (tgt := 122) hx hb dX9_goesOn_118 (by decide) ?_
                refine lv_istore (lv' := [(4, .int (1 : Int32)), (6, .int (0 : Int32)), (0, .ref (bd 0)), (1, .int x1), (3, .int x3), (5, .int v5_16)]) hx hb dX9_goesOn_122 hl (by decide) rfl (fun ls hl => ?_)
                refine lv_iinc (v := v5_16 + (1 : Int32)) (lv' := [(5, .int (v5_16 + (1 : Int32))), (4, .int (1 : Int32)), (6, .int (0 : Int32)), (0, .ref (bd 0)), (1, .int x1), (3, .int x3)]) hx hb dX9_goesOn_124 hl (k := 5) rfl rfl (by decide) rfl (fun ls hl => ?_)
                refine lv_goto (tgt := 36) hx hb dX9_goesOn_127 (by decide) ?_
                exact ih36 k36 (1 : Int32) (v5_16 + (1 : Int32)) _ _ _ (lv_sub hl [3, 4, 5, 1, 0] rfl) hP hS hs hk36
            · have hs := ite_t hs b21
              refine lv_aload_n hx hb dX9_goesOn_66 rfl (lv_at hl 0 rfl) ?_
              refine lv_iload hx hb dX9_goesOn_67 (lv_at hl 4 rfl) ?_
              refine lv_iconst (v := (2 : Int32)) hx hb dX9_goesOn_69 (by decide) ?_
              obtain ⟨q23, eq23, hs⟩ := ob hs
              refine nd_callV (As := [.int v5_16, .int (2 : Int32)]) (rest := []) (st1 := [.int q23]) hx hb hml hown hts hl hP hK hD hS hA hN (mX9_of eq23) iv_X9_of wd_307 0 rfl rfl rfl rfl ⟨Nat.le_of_ble_eq_true rfl, Nat.le_of_ble_eq_true rfl⟩ (Nat.le_of_ble_eq_true rfl) ⟨Nat.zero_le _, Nat.zero_le _⟩ dX9_goesOn_70 rfl rfl (fun H locs hP hD hS => ?_)
              refine lv_if_le (tgt := 80) hx hb dX9_goesOn_73 (by decide) (fun b24 => ?_) (fun b24 => ?_)
              · have hs := ite_t hs b24
                refine lv_iconst (v := (0 : Int32)) hx hb dX9_goesOn_80 (by decide) ?_
                refine lv_istore (lv' := [(6, .int (0 : Int32)), (0, .ref (bd 0)), (1, .int x1), (3, .int x3), (4, .int v4_16), (5, .int v5_16)]) hx hb dX9_goesOn_81 hl (by decide) rfl (fun ls hl => ?_)
                refine lv_iload hx hb dX9_goesOn_83 (lv_at hl 4 rfl) ?_
                refine lv_if_eq (tgt := 121) hx hb dX9_goesOn_85 (by decide) (fun b25 => ?_) (fun b25 => ?_)
                · have hs := ite_t hs b25
                  refine lv_iconst (v := (0 : Int32)) hx hb dX9_goesOn_121 (by decide) ?_
                  refine lv_istore (lv' := [(4, .int (0 : Int32)), (6, .int (0 : Int32)), (0, .ref (bd 0)), (1, .int x1), (3, .int x3), (5, .int v5_16)]) hx hb dX9_goesOn_122 hl (by decide) rfl (fun ls hl => ?_)
                  refine lv_iinc (v := v5_16 + (1 : Int32)) (lv' := [(5, .int (v5_16 + (1 : Int32))), (4, .int (0 : Int32)), (6, .int (0 : Int32)), (0, .ref (bd 0)), (1, .int x1), (3, .int x3)]) hx hb dX9_goesOn_124 hl (k := 5) rfl rfl (by decide) rfl (fun ls hl => ?_)
                  refine lv_goto (tgt := 36) hx hb dX9_goesOn_127 (by decide) ?_
                  exact ih36 k36 (0 : Int32) (v5_16 + (1 : Int32)) _ _ _ (lv_sub hl [3, 4, 5, 1, 0] rfl) hP hS hs hk36
                · have hs := ite_f hs b25
                  refine lv_iload hx hb dX9_goesOn_88 (lv_at hl 0 rfl) ?_
                  refine lv_if_eq (tgt := 117) hx hb dX9_goesOn_90 (by decide) (fun _ => ?_) (fun h => absurd (by decide) h)
                  refine lv_iconst (v := (1 : Int32)) hx hb dX9_goesOn_117 (by decide) ?_
                  refine lv_goto (tgt := 122) hx hb dX9_goesOn_118 (by decide) ?_
                  refine lv_istore (lv' := [(4, .int (1 : Int32)), (6, .int (0 : Int32)), (0, .ref (bd 0)), (1, .int x1), (3, .int x3), (5, .int v5_16)]) hx hb dX9_goesOn_122 hl (by decide) rfl (fun ls hl => ?_)
                  refine lv_iinc (v := v5_16 + (1 : Int32)) (lv' := [(5, .int (v5_16 + (1 : Int32))), (4, .int (1 : Int32)), (6, .int (0 : Int32)), (0, .ref (bd 0)), (1, .int x1), (3, .int x3)]) hx hb dX9_goesOn_124 hl (k := 5) rfl rfl (by decide) rfl (fun ls hl => ?_)
                  refine lv_goto (tgt := 36) hx hb dX9_goesOn_127 (by decide) ?_
                  exact ih36 k36 (1 : Int32) (v5_16 + (1 : Int32)) _ _ _ (lv_sub hl [3, 4, 5, 1, 0] rfl) hP hS hs hk36
              · have hs := ite_f hs b24
                refine lv_iconst (v := (1 : Int32)) hx hb dX9_goesOn_76 (by decide) ?_
                refine lv_goto (tgt := 81) hx hb dX9_goesOn_77 (by decide) ?_
                refine lv_istore (lv' := [(6, .int (1 : Int32)), (0, .ref (bd 0)), (1, .int x1), (3, .int x3), (4, .int v4_16), (5, .int v5_16)]) hx hb dX9_goesOn_81 hl (by decide) rfl (fun ls hl => ?_)
                refine lv_iload hx hb dX9_goesOn_83 (lv_at hl 4 rfl) ?_
                refine lv_if_eq (tgt := 121) hx hb dX9_goesOn_85 (by decide) (fun b26 => ?_) (fun b26 => ?_)
                · have hs := ite_t hs b26
                  refine lv_iconst (v := (0 : Int32)) hx hb dX9_goesOn_121 (by decide) ?_
                  refine lv_istore (lv' := [(4, .int (0 : Int32)), (6, .int (1 : Int32)), (0, .ref (bd 0)), (1, .int x1), (3, .int x3), (5, .int v5_16)]) hx hb dX9_goesOn_122 hl (by decide) rfl (fun ls hl => ?_)
                  refine lv_iinc (v := v5_16 + (1 : Int32)) (lv' := [(5, .int (v5_16 + (1 : Int32))), (4, .int (0 : Int32)), (6, .int (1 : Int32)), (0, .ref (bd 0)), (1, .int x1), (3, .int x3)]) hx hb dX9_goesOn_124 hl (k := 5) rfl rfl (by decide) rfl (fun ls hl => ?_)
                  refine lv_goto (tgt := 36) hx hb dX9_goesOn_127 (by decide) ?_
                  exact ih36 k36 (0 : Int32) (v5_16 + (1 : Int32)) _ _ _ (lv_sub hl [3, 4, 5, 1, 0] rfl) hP hS hs hk36
                · have hs := ite_f hs b26
                  refine lv_iload hx hb dX9_goesOn_88 (lv_at hl 0 rfl) ?_
                  refine lv_if_eq (tgt := 117) hx hb dX9_goesOn_90 (by decide) (fun h => absurd h (by decide)) (fun _ => ?_)
                  refine lv_aload_n hx hb dX9_goesOn_93 rfl (lv_at hl 1 rfl) ?_
                  refine lv_iload hx hb dX9_goesOn_94 (lv_at hl 5 rfl) ?_
                  refine lv_aload_n hx hb dX9_goesOn_96 rfl (lv_at hl 1 rfl) ?_
                  refine lv_iload hx hb dX9_goesOn_97 (lv_at hl 5 rfl) ?_
                  refine lv_iconst (v := (2 : Int32)) hx hb dX9_goesOn_99 (by decide) ?_
                  obtain ⟨q27, eq27, hs⟩ := ob hs
                  refine nd_callV (As := [.int v5_16, .int (2 : Int32)]) (rest := [.int v5_16, .ref (bd 0)]) (st1 := [.int q27, .int v5_16, .ref (bd 0)]) hx hb hml hown hts hl hP hK hD hS hA hN (mX9_of eq27) iv_X9_of wd_307 0 rfl rfl rfl rfl ⟨Nat.le_of_ble_eq_true rfl, Nat.le_of_ble_eq_true rfl⟩ (Nat.le_of_ble_eq_true rfl) ⟨Nat.zero_le _, Nat.zero_le _⟩ dX9_goesOn_100 rfl rfl (fun H locs hP hD hS => ?_)
                  refine lv_iconst (v := (1 : Int32)) hx hb dX9_goesOn_103 (by decide) ?_
                  refine lv_isub hx hb dX9_goesOn_104 ?_
                  obtain ⟨q28, eq28, hs⟩ := ob hs
                  refine nd_callV (As := [.int v5_16, .int (q27 - (1 : Int32))]) (rest := []) (st1 := [.int q28]) hx hb hml hown hts hl hP hK hD hS hA hN (mX9_timeOf eq28) iv_X9_timeOf wd_315 0 rfl rfl rfl rfl ⟨Nat.le_of_ble_eq_true rfl, Nat.le_of_ble_eq_true rfl⟩ (Nat.le_of_ble_eq_true rfl) ⟨Nat.zero_le _, Nat.zero_le _⟩ dX9_goesOn_105 rfl rfl (fun H locs hP hD hS => ?_)
                  refine lv_aload_n hx hb dX9_goesOn_108 rfl (lv_at hl 1 rfl) ?_
                  refine lv_iload_n hx hb dX9_goesOn_109 rfl (lv_at hl 3 rfl) ?_
                  refine lv_iconst (v := (0 : Int32)) hx hb dX9_goesOn_110 (by decide) ?_
                  obtain ⟨q29, eq29, hs⟩ := ob hs
                  refine nd_callV (As := [.int x3, .int (0 : Int32)]) (rest := [.int q28]) (st1 := [.int q29, .int q28]) hx hb hml hown hts hl hP hK hD hS hA hN (mX9_timeOf eq29) iv_X9_timeOf wd_315 0 rfl rfl rfl rfl ⟨Nat.le_of_ble_eq_true rfl, Nat.le_of_ble_eq_true rfl⟩ (Nat.le_of_ble_eq_true rfl) ⟨Nat.zero_le _, Nat.zero_le _⟩ dX9_goesOn_111 rfl rfl (fun H locs hP hD hS => ?_)
                  refine lv_icmp_gt (tgt := 121) hx hb dX9_goesOn_114 (by decide) (fun b30 => ?_) (fun b30 => ?_)
                  · have hs := ite_t hs b30
                    refine lv_iconst (v := (0 : Int32)) hx hb dX9_goesOn_121 (by decide) ?_
                    refine lv_istore (lv' := [(4, .int (0 : Int32)), (6, .int (1 : Int32)), (0, .ref (bd 0)), (1, .int x1), (3, .int x3), (5, .int v5_16)]) hx hb dX9_goesOn_122 hl (by decide) rfl (fun ls hl => ?_)
                    refine lv_iinc (v := v5_16 + (1 : Int32)) (lv' := [(5, .int (v5_16 + (1 : Int32))), (4, .int (0 : Int32)), (6, .int (1 : Int32)), (0, .ref (bd 0)), (1, .int x1), (3, .int x3)]) hx hb dX9_goesOn_124 hl (k := 5) rfl rfl (by decide) rfl (fun ls hl => ?_)
                    refine lv_goto (tgt := 36) hx hb dX9_goesOn_127 (by decide) ?_
                    exact ih36 k36 (0 : Int32) (v5_16 + (1 : Int32)) _ _ _ (lv_sub hl [3, 4, 5, 1, 0] rfl) hP hS hs hk36
                  · have hs := ite_f hs b30
                    refine lv_iconst (v := (1 : Int32)) hx hb dX9_goesOn_117 (by decide) ?_
                    refine lv_goto (tgt := 122) hx hb dX9_goesOn_118 (by decide) ?_
                    refine lv_istore (lv' := [(4, .int (1 : Int32)), (6, .int (1 : Int32)), (0, .ref (bd 0)), (1, .int x1), (3, .int x3), (5, .int v5_16)]) hx hb dX9_goesOn_122 hl (by decide) rfl (fun ls hl => ?_)
                    refine lv_iinc (v := v5_16 + (1 : Int32)) (lv' := [(5, .int (v5_16 + (1 : Int32))), (4, .int (1 : Int32)), (6, .int (1 : Int32)), (0, .ref (bd 0)), (1, .int x1), (3, .int x3)]) hx hb dX9_goesOn_124 hl (k := 5) rfl rfl (by decide) rfl (fun ls hl => ?_)
                    refine lv_goto (tgt := 36) hx hb dX9_goesOn_127 (by decide) ?_
                    exact ih36 k36 (1 : Int32) (v5_16 + (1 : Int32)) _ _ _ (lv_sub hl [3, 4, 5, 1, 0] rfl) hP hS hs hk36
    refine L36 LF _ (0 : Int32) (0 : Int32) _ _ _ (lv_sub hl [2, 3, 5, 1, 0] rfl) hP hS hs (fun u4_16 H locs ls hl hP hS hs => ?_)
    refine lv_iload hx hb dX9_goesOn_130 (lv_at hl 0 rfl) ?_
    obtain ⟨t31, et31, hs⟩ := ob hs
    exact hret _ hs (bz_e et31) hP hS dX9_goesOn_132
  · have hs := ite_t hs b1
    refine lv_aload_n hx hb dX9_goesOn_8 rfl (lv_at hl 0 rfl) ?_
    refine lv_iload_n hx hb dX9_goesOn_9 rfl (lv_at hl 2 rfl) ?_
    refine lv_iconst (v := (1 : Int32)) hx hb dX9_goesOn_10 (by decide) ?_
    obtain ⟨q32, eq32, hs⟩ := ob hs
    refine nd_callV (As := [.int x2, .int (1 : Int32)]) (rest := []) (st1 := [.int q32]) hx hb hml hown hts hl hP hK hD hS hA hN (mX9_of eq32) iv_X9_of wd_307 0 rfl rfl rfl rfl ⟨Nat.le_of_ble_eq_true rfl, Nat.le_of_ble_eq_true rfl⟩ (Nat.le_of_ble_eq_true rfl) ⟨Nat.zero_le _, Nat.zero_le _⟩ dX9_goesOn_11 rfl rfl (fun H locs hP hD hS => ?_)
    refine lv_aload_n hx hb dX9_goesOn_14 rfl (lv_at hl 0 rfl) ?_
    refine lv_iload_n hx hb dX9_goesOn_15 rfl (lv_at hl 3 rfl) ?_
    refine lv_iconst (v := (0 : Int32)) hx hb dX9_goesOn_16 (by decide) ?_
    obtain ⟨q33, eq33, hs⟩ := ob hs
    refine nd_callV (As := [.int x3, .int (0 : Int32)]) (rest := [.int q32]) (st1 := [.int q33, .int q32]) hx hb hml hown hts hl hP hK hD hS hA hN (mX9_of eq33) iv_X9_of wd_307 0 rfl rfl rfl rfl ⟨Nat.le_of_ble_eq_true rfl, Nat.le_of_ble_eq_true rfl⟩ (Nat.le_of_ble_eq_true rfl) ⟨Nat.zero_le _, Nat.zero_le _⟩ dX9_goesOn_17 rfl rfl (fun H locs hP hD hS => ?_)
    refine lv_iadd hx hb dX9_goesOn_20 ?_
    refine lv_bipush (v := (99 : Int32)) hx hb dX9_goesOn_21 (by decide) ?_
    refine lv_icmp_ne (tgt := 30) hx hb dX9_goesOn_23 (by decide) (fun b34 => ?_) (fun b34 => ?_)
    · have hs := ite_f hs b34
      refine lv_iconst (v := (0 : Int32)) hx hb dX9_goesOn_30 (by decide) ?_
      refine lv_istore (lv' := [(4, .int (0 : Int32)), (0, .ref (bd 0)), (1, .int x1), (2, .int x2), (3, .int x3)]) hx hb dX9_goesOn_31 hl (by decide) rfl (fun ls hl => ?_)
      refine lv_iconst (v := (0 : Int32)) hx hb dX9_goesOn_33 (by decide) ?_
      refine lv_istore (lv' := [(5, .int (0 : Int32)), (4, .int (0 : Int32)), (0, .ref (bd 0)), (1, .int x1), (2, .int x2), (3, .int x3)]) hx hb dX9_goesOn_34 hl (by decide) rfl (fun ls hl => ?_)
      have L36 : ∀ (n36 : Nat) (k36 : Int32 → Option (Int32)) (v4_49 : Int32) (v5_49 : Int32) (H : Heap) (locs : List Loc) (ls : Array Slot), lv_has ls 7 [(0, .ref (bd 0)), (1, .int x1), (3, .int x3), (4, .int v4_49), (5, .int v5_49)] → va_P D vwCl (MW bd cI ms msv mb mf mr mt mn ml mat mw mm mh) H → va_S A s.heap H locs → fX9_goesOn_36 k36 ms x1 x3 n36 v4_49 v5_49 = some r → (∀ (u4_49 : Int32) (H : Heap) (locs : List Loc) (ls : Array Slot), lv_has ls 7 [(4, .int u4_49)] → va_P D vwCl (MW bd cI ms msv mb mf mr mt mn ml mat mw mm mh) H → va_S A s.heap H locs → k36 u4_49 = some r → W p l e ⟨2, 0, 0, 43⟩ s m args below meth c_ H locs 0 0 Q (F0 m 130 ls [])) → W p l e ⟨2, 0, 0, 43⟩ s m args below meth c_ H locs 0 0 Q (F0 m 36 ls []) := by
        intro n36
        induction n36 with
        | zero =>
          intro k36 v4_49 v5_49 H locs ls hl hP hS hs hk36
          rw [fX9_goesOn_36] at hs
          cases hs
        | succ n36 ih36 =>
          intro k36 v4_49 v5_49 H locs ls hl hP hS hs hk36
          rw [fX9_goesOn_36] at hs
          refine lv_iload hx hb dX9_goesOn_36 (lv_at hl 4 rfl) ?_
          refine lv_aload_n hx hb dX9_goesOn_38 rfl (lv_at hl 0 rfl) ?_
          refine gf_X9_7 hx hb hts hown hK hP 0 rfl rfl dX9_goesOn_39 ?_
          refine lv_iconst (v := (0 : Int32)) hx hb dX9_goesOn_42 (by decide) ?_
          obtain ⟨t50, et50, hs⟩ := ob hs
          refine nd_iald hx hb hK hP 1 0 rfl rfl et50 dX9_goesOn_43 ?_
          refine lv_icmp_ge (tgt := 130) hx hb dX9_goesOn_44 (by decide) (fun b51 => ?_) (fun b51 => ?_)
          · have hs := ite_t hs b51
            exact hk36 v4_49 _ _ _ (lv_sub hl [3] rfl) hP hS hs
          · have hs := ite_f hs b51
            refine lv_aload_n hx hb dX9_goesOn_47 rfl (lv_at hl 0 rfl) ?_
            refine lv_iload_n hx hb dX9_goesOn_48 rfl (lv_at hl 2 rfl) ?_
            refine lv_iconst (v := (2 : Int32)) hx hb dX9_goesOn_49 (by decide) ?_
            obtain ⟨q52, eq52, hs⟩ := ob hs
            refine nd_callV (As := [.int x3, .int (2 : Int32)]) (rest := []) (st1 := [.int q52]) hx hb hml hown hts hl hP hK hD hS hA hN (mX9_of eq52) iv_X9_of wd_307 0 rfl rfl rfl rfl ⟨Nat.le_of_ble_eq_true rfl, Nat.le_of_ble_eq_true rfl⟩ (Nat.le_of_ble_eq_true rfl) ⟨Nat.zero_le _, Nat.zero_le _⟩ dX9_goesOn_50 rfl rfl (fun H locs hP hD hS => ?_)
            refine lv_if_le (tgt := 130) hx hb dX9_goesOn_53 (by decide) (fun b53 => ?_) (fun b53 => ?_)
            · have hs := ite_t hs b53
              exact hk36 v4_49 _ _ _ (lv_sub hl [3] rfl) hP hS hs
            · have hs := ite_f hs b53
              refine lv_iload_n hx hb dX9_goesOn_56 rfl (lv_at hl 1 rfl) ?_
              refine lv_iload hx hb dX9_goesOn_57 (lv_at hl 4 rfl) ?_
              refine lv_ishr hx hb dX9_goesOn_59 ?_
              refine lv_iconst (v := (1 : Int32)) hx hb dX9_goesOn_60 (by decide) ?_
              refine lv_iand hx hb dX9_goesOn_61 ?_
              refine lv_iconst (v := (1 : Int32)) hx hb dX9_goesOn_62 (by decide) ?_
              refine lv_icmp_ne (tgt := 80) hx hb dX9_goesOn_63 (by decide) (fun b54 => ?_) (fun b54 => ?_)
              · have hs := ite_f hs b54
                refine lv_iconst (v := (0 : Int32)) hx hb dX9_goesOn_80 (by decide) ?_
                refine lv_istore (lv' := [(6, .int (0 : Int32)), (0, .ref (bd 0)), (1, .int x1), (3, .int x3), (4, .int v4_49), (5, .int v5_49)]) hx hb dX9_goesOn_81 hl (by decide) rfl (fun ls hl => ?_)
                refine lv_iload hx hb dX9_goesOn_83 (lv_at hl 4 rfl) ?_
                refine lv_if_eq (tgt := 121) hx hb dX9_goesOn_85 (by decide) (fun b55 => ?_) (fun b55 => ?_)
                · have hs := ite_t hs b55
                  refine lv_iconst (v := (0 : Int32)) hx hb dX9_goesOn_121 (by decide) ?_
                  refine lv_istore (lv' := [(4, .int (0 : Int32)), (6, .int (0 : Int32)), (0, .ref (bd 0)), (1, .int x1), (3, .int x3), (5, .int v5_49)]) hx hb dX9_goesOn_122 hl (by decide) rfl (fun ls hl => ?_)
                  refine lv_iinc (v := v5_49 + (1 : Int32)) (lv' := [(5, .int (v5_49 + (1 : Int32))), (4, .int (0 : Int32)), (6, .int (0 : Int32)), (0, .ref (bd 0)), (1, .int x1), (3, .int x3)]) hx hb dX9_goesOn_124 hl (k := 5) rfl rfl (by decide) rfl (fun ls hl => ?_)
                  refine lv_goto (tgt := 36) hx hb dX9_goesOn_127 (by decide) ?_
                  exact ih36 k36 (0 : Int32) (v5_49 + (1 : Int32)) _ _ _ (lv_sub hl [3, 4, 5, 1, 0] rfl) hP hS hs hk36
                · have hs := ite_f hs b55
                  refine lv_iload hx hb dX9_goesOn_88 (lv_at hl 0 rfl) ?_
                  refine lv_if_eq (tgt := 117) hx hb dX9_goesOn_90 (by decide) (fun _ => ?_) (fun h => absurd (by decide) h)
                  refine lv_iconst (v := (1 : Int32)) hx hb dX9_goesOn_117 (by decide) ?_
                  refine lv_goto (tgt := 122) hx hb dX9_goesOn_118 (by decide) ?_
                  refine lv_istore (lv' := [(4, .int (1 : Int32)), (6, .int (0 : Int32)), (0, .ref (bd 0)), (1, .int x1), (3, .int x3), (5, .int v5_49)]) hx hb dX9_goesOn_122 hl (by decide) rfl (fun ls hl => ?_)
                  refine lv_iinc (v := v5_49 + (1 : Int32)) (lv' := [(5, .int (v5_49 + (1 : Int32))), (4, .int (1 : Int32)), (6, .int (0 : Int32)), (0, .ref (bd 0)), (1, .int x1), (3, .int x3)]) hx hb dX9_goesOn_124 hl (k := 5) rfl rfl (by decide) rfl (fun ls hl => ?_)
                  refine lv_goto (tgt := 36) hx hb dX9_goesOn_127 (by decide) ?_
                  exact ih36 k36 (1 : Int32) (v5_49 + (1 : Int32)) _ _ _ (lv_sub hl [3, 4, 5, 1, 0] rfl) hP hS hs hk36
              · have hs := ite_t hs b54
                refine lv_aload_n hx hb dX9_goesOn_66 rfl (lv_at hl 0 rfl) ?_
                refine lv_iload hx hb dX9_goesOn_67 (lv_at hl 4 rfl) ?_
                refine lv_iconst (v := (2 : Int32)) hx hb dX9_goesOn_69 (by decide) ?_
                obtain ⟨q56, eq56, hs⟩ := ob hs
                refine nd_callV (As := [.int v5_49, .int (2 : Int32)]) (rest := []) (st1 := [.int q56]) hx hb hml hown hts hl hP hK hD hS hA hN (mX9_of eq56) iv_X9_of wd_307 0 rfl rfl rfl rfl ⟨Nat.le_of_ble_eq_true rfl, Nat.le_of_ble_eq_true rfl⟩ (Nat.le_of_ble_eq_true rfl) ⟨Nat.zero_le _, Nat.zero_le _⟩ dX9_goesOn_70 rfl rfl (fun H locs hP hD hS => ?_)
                refine lv_if_le (tgt := 80) hx hb dX9_goesOn_73 (by decide) (fun b57 => ?_) (fun b57 => ?_)
                · have hs := ite_t hs b57
                  refine lv_iconst (v := (0 : Int32)) hx hb dX9_goesOn_80 (by decide) ?_
                  refine lv_istore (lv' := [(6, .int (0 : Int32)), (0, .ref (bd 0)), (1, .int x1), (3, .int x3), (4, .int v4_49), (5, .int v5_49)]) hx hb dX9_goesOn_81 hl (by decide) rfl (fun ls hl => ?_)
                  refine lv_iload hx hb dX9_goesOn_83 (lv_at hl 4 rfl) ?_
                  refine lv_if_eq (tgt := 121) hx hb dX9_goesOn_85 (by decide) (fun b58 => ?_) (fun b58 => ?_)
                  · have hs := ite_t hs b58
                    refine lv_iconst (v := (0 : Int32)) hx hb dX9_goesOn_121 (by decide) ?_
                    refine lv_istore (lv' := [(4, .int (0 : Int32)), (6, .int (0 : Int32)), (0, .ref (bd 0)), (1, .int x1), (3, .int x3), (5, .int v5_49)]) hx hb dX9_goesOn_122 hl (by decide) rfl (fun ls hl => ?_)
                    refine lv_iinc (v := v5_49 + (1 : Int32)) (lv' := [(5, .int (v5_49 + (1 : Int32))), (4, .int (0 : Int32)), (6, .int (0 : Int32)), (0, .ref (bd 0)), (1, .int x1), (3, .int x3)]) hx hb dX9_goesOn_124 hl (k := 5) rfl rfl (by decide) rfl (fun ls hl => ?_)
                    refine lv_goto (tgt := 36) hx hb dX9_goesOn_127 (by decide) ?_
                    exact ih36 k36 (0 : Int32) (v5_49 + (1 : Int32)) _ _ _ (lv_sub hl [3, 4, 5, 1, 0] rfl) hP hS hs hk36
                  · have hs := ite_f hs b58
                    refine lv_iload hx hb dX9_goesOn_88 (lv_at hl 0 rfl) ?_
                    refine lv_if_eq (tgt := 117) hx hb dX9_goesOn_90 (by decide) (fun _ => ?_) (fun h => absurd (by decide) h)
                    refine lv_iconst (v := (1 : Int32)) hx hb dX9_goesOn_117 (by decide) ?_
                    refine lv_goto (tgt := 122) hx hb dX9_goesOn_118 (by decide) ?_
                    refine lv_istore (lv' := [(4, .int (1 : Int32)), (6, .int (0 : Int32)), (0, .ref (bd 0)), (1, .int x1), (3, .int x3), (5, .int v5_49)]) hx hb dX9_goesOn_122 hl (by decide) rfl (fun ls hl => ?_)
                    refine lv_iinc (v := v5_49 + (1 : Int32)) (lv' := [(5, .int (v5_49 + (1 : Int32))), (4, .int (1 : Int32)), (6, .int (0 : Int32)), (0, .ref (bd 0)), (1, .int x1), (3, .int x3)]) hx hb dX9_goesOn_124 hl (k := 5) rfl rfl (by decide) rfl (fun ls hl => ?_)
                    refine lv_goto (tgt := 36) hx hb dX9_goesOn_127 (by decide) ?_
                    exact ih36 k36 (1 : Int32) (v5_49 + (1 : Int32)) _ _ _ (lv_sub hl [3, 4, 5, 1, 0] rfl) hP hS hs hk36
                · have hs := ite_f hs b57
                  refine lv_iconst (v := (1 : Int32)) hx hb dX9_goesOn_76 (by decide) ?_
                  refine lv_goto (tgt := 81) hx hb dX9_goesOn_77 (by decide) ?_
                  refine lv_istore (lv' := [(6, .int (1 : Int32)), (0, .ref (bd 0)), (1, .int x1), (3, .int x3), (4, .int v4_49), (5, .int v5_49)]) hx hb dX9_goesOn_81 hl (by decide) rfl (fun ls hl => ?_)
                  refine lv_iload hx hb dX9_goesOn_83 (lv_at hl 4 rfl) ?_
                  refine lv_if_eq (tgt := 121) hx hb dX9_goesOn_85 (by decide) (fun b59 => ?_) (fun b59 => ?_)
                  · have hs := ite_t hs b59
                    refine lv_iconst (v := (0 : Int32)) hx hb dX9_goesOn_121 (by decide) ?_
                    refine lv_istore (lv' := [(4, .int (0 : Int32)), (6, .int (1 : Int32)), (0, .ref (bd 0)), (1, .int x1), (3, .int x3), (5, .int v5_49)]) hx hb dX9_goesOn_122 hl (by decide) rfl (fun ls hl => ?_)
                    refine lv_iinc (v := v5_49 + (1 : Int32)) (lv' := [(5, .int (v5_49 + (1 : Int32))), (4, .int (0 : Int32)), (6, .int (1 : Int32)), (0, .ref (bd 0)), (1, .int x1), (3, .int x3)]) hx hb dX9_goesOn_124 hl (k := 5) rfl rfl (by decide) rfl (fun ls hl => ?_)
                    refine lv_goto (tgt := 36) hx hb dX9_goesOn_127 (by decide) ?_
                    exact ih36 k36 (0 : Int32) (v5_49 + (1 : Int32)) _ _ _ (lv_sub hl [3, 4, 5, 1, 0] rfl) hP hS hs hk36
                  · have hs := ite_f hs b59
                    refine lv_iload hx hb dX9_goesOn_88 (lv_at hl 0 rfl) ?_
                    refine lv_if_eq (tgt := 117) hx hb dX9_goesOn_90 (by decide) (fun h => absurd h (by decide)) (fun _ => ?_)
                    refine lv_aload_n hx hb dX9_goesOn_93 rfl (lv_at hl 1 rfl) ?_
                    refine lv_iload hx hb dX9_goesOn_94 (lv_at hl 5 rfl) ?_
                    refine lv_aload_n hx hb dX9_goesOn_96 rfl (lv_at hl 1 rfl) ?_
                    refine lv_iload hx hb dX9_goesOn_97 (lv_at hl 5 rfl) ?_
                    refine lv_iconst (v := (2 : Int32)) hx hb dX9_goesOn_99 (by decide) ?_
                    obtain ⟨q60, eq60, hs⟩ := ob hs
                    refine nd_callV (As := [.int v5_49, .int (2 : Int32)]) (rest := [.int v5_49, .ref (bd 0)]) (st1 := [.int q60, .int v5_49, .ref (bd 0)]) hx hb hml hown hts hl hP hK hD hS hA hN (mX9_of eq60) iv_X9_of wd_307 0 rfl rfl rfl rfl ⟨Nat.le_of_ble_eq_true rfl, Nat.le_of_ble_eq_true rfl⟩ (Nat.le_of_ble_eq_true rfl) ⟨Nat.zero_le _, Nat.zero_le _⟩ dX9_goesOn_100 rfl rfl (fun H locs hP hD hS => ?_)
                    refine lv_iconst (v := (1 : Int32)) hx hb dX9_goesOn_103 (by decide) ?_
                    refine lv_isub hx hb dX9_goesOn_104 ?_
                    obtain ⟨q61, eq61, hs⟩ := ob hs
                    refine nd_callV (As := [.int v5_49, .int (q60 - (1 : Int32))]) (rest := []) (st1 := [.int q61]) hx hb hml hown hts hl hP hK hD hS hA hN (mX9_timeOf eq61) iv_X9_timeOf wd_315 0 rfl rfl rfl rfl ⟨Nat.le_of_ble_eq_true rfl, Nat.le_of_ble_eq_true rfl⟩ (Nat.le_of_ble_eq_true rfl) ⟨Nat.zero_le _, Nat.zero_le _⟩ dX9_goesOn_105 rfl rfl (fun H locs hP hD hS => ?_)
                    refine lv_aload_n hx hb dX9_goesOn_108 rfl (lv_at hl 1 rfl) ?_
                    refine lv_iload_n hx hb dX9_goesOn_109 rfl (lv_at hl 3 rfl) ?_
                    refine lv_iconst (v := (0 : Int32)) hx hb dX9_goesOn_110 (by decide) ?_
                    obtain ⟨q62, eq62, hs⟩ := ob hs
                    refine nd_callV (As := [.int x3, .int (0 : Int32)]) (rest := [.int q61]) (st1 := [.int q62, .int q61]) hx hb hml hown hts hl hP hK hD hS hA hN (mX9_timeOf eq62) iv_X9_timeOf wd_315 0 rfl rfl rfl rfl ⟨Nat.le_of_ble_eq_true rfl, Nat.le_of_ble_eq_true rfl⟩ (Nat.le_of_ble_eq_true rfl) ⟨Nat.zero_le _, Nat.zero_le _⟩ dX9_goesOn_111 rfl rfl (fun H locs hP hD hS => ?_)
                    refine lv_icmp_gt (tgt := 121) hx hb dX9_goesOn_114 (by decide) (fun b63 => ?_) (fun b63 => ?_)
                    · have hs := ite_t hs b63
                      refine lv_iconst (v := (0 : Int32)) hx hb dX9_goesOn_121 (by decide) ?_
                      refine lv_istore (lv' := [(4, .int (0 : Int32)), (6, .int (1 : Int32)), (0, .ref (bd 0)), (1, .int x1), (3, .int x3), (5, .int v5_49)]) hx hb dX9_goesOn_122 hl (by decide) rfl (fun ls hl => ?_)
                      refine lv_iinc (v := v5_49 + (1 : Int32)) (lv' := [(5, .int (v5_49 + (1 : Int32))), (4, .int (0 : Int32)), (6, .int (1 : Int32)), (0, .ref (bd 0)), (1, .int x1), (3, .int x3)]) hx hb dX9_goesOn_124 hl (k := 5) rfl rfl (by decide) rfl (fun ls hl => ?_)
                      refine lv_goto (tgt := 36) hx hb dX9_goesOn_127 (by decide) ?_
                      exact ih36 k36 (0 : Int32) (v5_49 + (1 : Int32)) _ _ _ (lv_sub hl [3, 4, 5, 1, 0] rfl) hP hS hs hk36
                    · have hs := ite_f hs b63
                      refine lv_iconst (v := (1 : Int32)) hx hb dX9_goesOn_117 (by decide) ?_
                      refine lv_goto (tgt := 122) hx hb dX9_goesOn_118 (by decide) ?_
                      refine lv_istore (lv' := [(4, .int (1 : Int32)), (6, .int (1 : Int32)), (0, .ref (bd 0)), (1, .int x1), (3, .int x3), (5, .int v5_49)]) hx hb dX9_goesOn_122 hl (by decide) rfl (fun ls hl => ?_)
                      refine lv_iinc (v := v5_49 + (1 : Int32)) (lv' := [(5, .int (v5_49 + (1 : Int32))), (4, .int (1 : Int32)), (6, .int (1 : Int32)), (0, .ref (bd 0)), (1, .int x1), (3, .int x3)]) hx hb dX9_goesOn_124 hl (k := 5) rfl rfl (by decide) rfl (fun ls hl => ?_)
                      refine lv_goto (tgt := 36) hx hb dX9_goesOn_127 (by decide) ?_
                      exact ih36 k36 (1 : Int32) (v5_49 + (1 : Int32)) _ _ _ (lv_sub hl [3, 4, 5, 1, 0] rfl) hP hS hs hk36
      refine L36 LF _ (0 : Int32) (0 : Int32) _ _ _ (lv_sub hl [2, 3, 5, 1, 0] rfl) hP hS hs (fun u4_49 H locs ls hl hP hS hs => ?_)
      refine lv_iload hx hb dX9_goesOn_130 (lv_at hl 0 rfl) ?_
      obtain ⟨t64, et64, hs⟩ := ob hs
      exact hret _ hs (bz_e et64) hP hS dX9_goesOn_132
    · have hs := ite_t hs b34
      refine lv_iconst (v := (1 : Int32)) hx hb dX9_goesOn_26 (by decide) ?_
      refine lv_goto (tgt := 31) hx hb dX9_goesOn_27 (by decide) ?_
      refine lv_istore (lv' := [(4, .int (1 : Int32)), (0, .ref (bd 0)), (1, .int x1), (2, .int x2), (3, .int x3)]) hx hb dX9_goesOn_31 hl (by decide) rfl (fun ls hl => ?_)
      refine lv_iconst (v := (0 : Int32)) hx hb dX9_goesOn_33 (by decide) ?_
      refine lv_istore (lv' := [(5, .int (0 : Int32)), (4, .int (1 : Int32)), (0, .ref (bd 0)), (1, .int x1), (2, .int x2), (3, .int x3)]) hx hb dX9_goesOn_34 hl (by decide) rfl (fun ls hl => ?_)
      have L36 : ∀ (n36 : Nat) (k36 : Int32 → Option (Int32)) (v4_79 : Int32) (v5_79 : Int32) (H : Heap) (locs : List Loc) (ls : Array Slot), lv_has ls 7 [(0, .ref (bd 0)), (1, .int x1), (3, .int x3), (4, .int v4_79), (5, .int v5_79)] → va_P D vwCl (MW bd cI ms msv mb mf mr mt mn ml mat mw mm mh) H → va_S A s.heap H locs → fX9_goesOn_36 k36 ms x1 x3 n36 v4_79 v5_79 = some r → (∀ (u4_79 : Int32) (H : Heap) (locs : List Loc) (ls : Array Slot), lv_has ls 7 [(4, .int u4_79)] → va_P D vwCl (MW bd cI ms msv mb mf mr mt mn ml mat mw mm mh) H → va_S A s.heap H locs → k36 u4_79 = some r → W p l e ⟨2, 0, 0, 43⟩ s m args below meth c_ H locs 0 0 Q (F0 m 130 ls [])) → W p l e ⟨2, 0, 0, 43⟩ s m args below meth c_ H locs 0 0 Q (F0 m 36 ls []) := by
        intro n36
        induction n36 with
        | zero =>
          intro k36 v4_79 v5_79 H locs ls hl hP hS hs hk36
          rw [fX9_goesOn_36] at hs
          cases hs
        | succ n36 ih36 =>
          intro k36 v4_79 v5_79 H locs ls hl hP hS hs hk36
          rw [fX9_goesOn_36] at hs
          refine lv_iload hx hb dX9_goesOn_36 (lv_at hl 4 rfl) ?_
          refine lv_aload_n hx hb dX9_goesOn_38 rfl (lv_at hl 0 rfl) ?_
          refine gf_X9_7 hx hb hts hown hK hP 0 rfl rfl dX9_goesOn_39 ?_
          refine lv_iconst (v := (0 : Int32)) hx hb dX9_goesOn_42 (by decide) ?_
          obtain ⟨t80, et80, hs⟩ := ob hs
          refine nd_iald hx hb hK hP 1 0 rfl rfl et80 dX9_goesOn_43 ?_
          refine lv_icmp_ge (tgt := 130) hx hb dX9_goesOn_44 (by decide) (fun b81 => ?_) (fun b81 => ?_)
          · have hs := ite_t hs b81
            exact hk36 v4_79 _ _ _ (lv_sub hl [3] rfl) hP hS hs
          · have hs := ite_f hs b81
            refine lv_aload_n hx hb dX9_goesOn_47 rfl (lv_at hl 0 rfl) ?_
            refine lv_iload_n hx hb dX9_goesOn_48 rfl (lv_at hl 2 rfl) ?_
            refine lv_iconst (v := (2 : Int32)) hx hb dX9_goesOn_49 (by decide) ?_
            obtain ⟨q82, eq82, hs⟩ := ob hs
            refine nd_callV (As := [.int x3, .int (2 : Int32)]) (rest := []) (st1 := [.int q82]) hx hb hml hown hts hl hP hK hD hS hA hN (mX9_of eq82) iv_X9_of wd_307 0 rfl rfl rfl rfl ⟨Nat.le_of_ble_eq_true rfl, Nat.le_of_ble_eq_true rfl⟩ (Nat.le_of_ble_eq_true rfl) ⟨Nat.zero_le _, Nat.zero_le _⟩ dX9_goesOn_50 rfl rfl (fun H locs hP hD hS => ?_)
            refine lv_if_le (tgt := 130) hx hb dX9_goesOn_53 (by decide) (fun b83 => ?_) (fun b83 => ?_)
            · have hs := ite_t hs b83
              exact hk36 v4_79 _ _ _ (lv_sub hl [3] rfl) hP hS hs
            · have hs := ite_f hs b83
              refine lv_iload_n hx hb dX9_goesOn_56 rfl (lv_at hl 1 rfl) ?_
              refine lv_iload hx hb dX9_goesOn_57 (lv_at hl 4 rfl) ?_
              refine lv_ishr hx hb dX9_goesOn_59 ?_
              refine lv_iconst (v := (1 : Int32)) hx hb dX9_goesOn_60 (by decide) ?_
              refine lv_iand hx hb dX9_goesOn_61 ?_
              refine lv_iconst (v := (1 : Int32)) hx hb dX9_goesOn_62 (by decide) ?_
              refine lv_icmp_ne (tgt := 80) hx hb dX9_goesOn_63 (by decide) (fun b84 => ?_) (fun b84 => ?_)
              · have hs := ite_f hs b84
                refine lv_iconst (v := (0 : Int32)) hx hb dX9_goesOn_80 (by decide) ?_
                refine lv_istore (lv' := [(6, .int (0 : Int32)), (0, .ref (bd 0)), (1, .int x1), (3, .int x3), (4, .int v4_79), (5, .int v5_79)]) hx hb dX9_goesOn_81 hl (by decide) rfl (fun ls hl => ?_)
                refine lv_iload hx hb dX9_goesOn_83 (lv_at hl 4 rfl) ?_
                refine lv_if_eq (tgt := 121) hx hb dX9_goesOn_85 (by decide) (fun b85 => ?_) (fun b85 => ?_)
                · have hs := ite_t hs b85
                  refine lv_iconst (v := (0 : Int32)) hx hb dX9_goesOn_121 (by decide) ?_
                  refine lv_istore (lv' := [(4, .int (0 : Int32)), (6, .int (0 : Int32)), (0, .ref (bd 0)), (1, .int x1), (3, .int x3), (5, .int v5_79)]) hx hb dX9_goesOn_122 hl (by decide) rfl (fun ls hl => ?_)
                  refine lv_iinc (v := v5_79 + (1 : Int32)) (lv' := [(5, .int (v5_79 + (1 : Int32))), (4, .int (0 : Int32)), (6, .int (0 : Int32)), (0, .ref (bd 0)), (1, .int x1), (3, .int x3)]) hx hb dX9_goesOn_124 hl (k := 5) rfl rfl (by decide) rfl (fun ls hl => ?_)
                  refine lv_goto (tgt := 36) hx hb dX9_goesOn_127 (by decide) ?_
                  exact ih36 k36 (0 : Int32) (v5_79 + (1 : Int32)) _ _ _ (lv_sub hl [3, 4, 5, 1, 0] rfl) hP hS hs hk36
                · have hs := ite_f hs b85
                  refine lv_iload hx hb dX9_goesOn_88 (lv_at hl 0 rfl) ?_
                  refine lv_if_eq (tgt := 117) hx hb dX9_goesOn_90 (by decide) (fun _ => ?_) (fun h => absurd (by decide) h)
                  refine lv_iconst (v := (1 : Int32)) hx hb dX9_goesOn_117 (by decide) ?_
                  refine lv_goto (tgt := 122) hx hb dX9_goesOn_118 (by decide) ?_
                  refine lv_istore (lv' := [(4, .int (1 : Int32)), (6, .int (0 : Int32)), (0, .ref (bd 0)), (1, .int x1), (3, .int x3), (5, .int v5_79)]) hx hb dX9_goesOn_122 hl (by decide) rfl (fun ls hl => ?_)
                  refine lv_iinc (v := v5_79 + (1 : Int32)) (lv' := [(5, .int (v5_79 + (1 : Int32))), (4, .int (1 : Int32)), (6, .int (0 : Int32)), (0, .ref (bd 0)), (1, .int x1), (3, .int x3)]) hx hb dX9_goesOn_124 hl (k := 5) rfl rfl (by decide) rfl (fun ls hl => ?_)
                  refine lv_goto (tgt := 36) hx hb dX9_goesOn_127 (by decide) ?_
                  exact ih36 k36 (1 : Int32) (v5_79 + (1 : Int32)) _ _ _ (lv_sub hl [3, 4, 5, 1, 0] rfl) hP hS hs hk36
              · have hs := ite_t hs b84
                refine lv_aload_n hx hb dX9_goesOn_66 rfl (lv_at hl 0 rfl) ?_
                refine lv_iload hx hb dX9_goesOn_67 (lv_at hl 4 rfl) ?_
                refine lv_iconst (v := (2 : Int32)) hx hb dX9_goesOn_69 (by decide) ?_
                obtain ⟨q86, eq86, hs⟩ := ob hs
                refine nd_callV (As := [.int v5_79, .int (2 : Int32)]) (rest := []) (st1 := [.int q86]) hx hb hml hown hts hl hP hK hD hS hA hN (mX9_of eq86) iv_X9_of wd_307 0 rfl rfl rfl rfl ⟨Nat.le_of_ble_eq_true rfl, Nat.le_of_ble_eq_true rfl⟩ (Nat.le_of_ble_eq_true rfl) ⟨Nat.zero_le _, Nat.zero_le _⟩ dX9_goesOn_70 rfl rfl (fun H locs hP hD hS => ?_)
                refine lv_if_le (tgt := 80) hx hb dX9_goesOn_73 (by decide) (fun b87 => ?_) (fun b87 => ?_)
                · have hs := ite_t hs b87
                  refine lv_iconst (v := (0 : Int32)) hx hb dX9_goesOn_80 (by decide) ?_
                  refine lv_istore (lv' := [(6, .int (0 : Int32)), (0, .ref (bd 0)), (1, .int x1), (3, .int x3), (4, .int v4_79), (5, .int v5_79)]) hx hb dX9_goesOn_81 hl (by decide) rfl (fun ls hl => ?_)
                  refine lv_iload hx hb dX9_goesOn_83 (lv_at hl 4 rfl) ?_
                  refine lv_if_eq (tgt := 121) hx hb dX9_goesOn_85 (by decide) (fun b88 => ?_) (fun b88 => ?_)
                  · have hs := ite_t hs b88
                    refine lv_iconst (v := (0 : Int32)) hx hb dX9_goesOn_121 (by decide) ?_
                    refine lv_istore (lv' := [(4, .int (0 : Int32)), (6, .int (0 : Int32)), (0, .ref (bd 0)), (1, .int x1), (3, .int x3), (5, .int v5_79)]) hx hb dX9_goesOn_122 hl (by decide) rfl (fun ls hl => ?_)
                    refine lv_iinc (v := v5_79 + (1 : Int32)) (lv' := [(5, .int (v5_79 + (1 : Int32))), (4, .int (0 : Int32)), (6, .int (0 : Int32)), (0, .ref (bd 0)), (1, .int x1), (3, .int x3)]) hx hb dX9_goesOn_124 hl (k := 5) rfl rfl (by decide) rfl (fun ls hl => ?_)
                    refine lv_goto (tgt := 36) hx hb dX9_goesOn_127 (by decide) ?_
                    exact ih36 k36 (0 : Int32) (v5_79 + (1 : Int32)) _ _ _ (lv_sub hl [3, 4, 5, 1, 0] rfl) hP hS hs hk36
                  · have hs := ite_f hs b88
                    refine lv_iload hx hb dX9_goesOn_88 (lv_at hl 0 rfl) ?_
                    refine lv_if_eq (tgt := 117) hx hb dX9_goesOn_90 (by decide) (fun _ => ?_) (fun h => absurd (by decide) h)
                    refine lv_iconst (v := (1 : Int32)) hx hb dX9_goesOn_117 (by decide) ?_
                    refine lv_goto (tgt := 122) hx hb dX9_goesOn_118 (by decide) ?_
                    refine lv_istore (lv' := [(4, .int (1 : Int32)), (6, .int (0 : Int32)), (0, .ref (bd 0)), (1, .int x1), (3, .int x3), (5, .int v5_79)]) hx hb dX9_goesOn_122 hl (by decide) rfl (fun ls hl => ?_)
                    refine lv_iinc (v := v5_79 + (1 : Int32)) (lv' := [(5, .int (v5_79 + (1 : Int32))), (4, .int (1 : Int32)), (6, .int (0 : Int32)), (0, .ref (bd 0)), (1, .int x1), (3, .int x3)]) hx hb dX9_goesOn_124 hl (k := 5) rfl rfl (by decide) rfl (fun ls hl => ?_)
                    refine lv_goto (tgt := 36) hx hb dX9_goesOn_127 (by decide) ?_
                    exact ih36 k36 (1 : Int32) (v5_79 + (1 : Int32)) _ _ _ (lv_sub hl [3, 4, 5, 1, 0] rfl) hP hS hs hk36
                · have hs := ite_f hs b87
                  refine lv_iconst (v := (1 : Int32)) hx hb dX9_goesOn_76 (by decide) ?_
                  refine lv_goto (tgt := 81) hx hb dX9_goesOn_77 (by decide) ?_
                  refine lv_istore (lv' := [(6, .int (1 : Int32)), (0, .ref (bd 0)), (1, .int x1), (3, .int x3), (4, .int v4_79), (5, .int v5_79)]) hx hb dX9_goesOn_81 hl (by decide) rfl (fun ls hl => ?_)
                  refine lv_iload hx hb dX9_goesOn_83 (lv_at hl 4 rfl) ?_
                  refine lv_if_eq (tgt := 121) hx hb dX9_goesOn_85 (by decide) (fun b89 => ?_) (fun b89 => ?_)
                  · have hs := ite_t hs b89
                    refine lv_iconst (v := (0 : Int32)) hx hb dX9_goesOn_121 (by decide) ?_
                    refine lv_istore (lv' := [(4, .int (0 : Int32)), (6, .int (1 : Int32)), (0, .ref (bd 0)), (1, .int x1), (3, .int x3), (5, .int v5_79)]) hx hb dX9_goesOn_122 hl (by decide) rfl (fun ls hl => ?_)
                    refine lv_iinc (v := v5_79 + (1 : Int32)) (lv' := [(5, .int (v5_79 + (1 : Int32))), (4, .int (0 : Int32)), (6, .int (1 : Int32)), (0, .ref (bd 0)), (1, .int x1), (3, .int x3)]) hx hb dX9_goesOn_124 hl (k := 5) rfl rfl (by decide) rfl (fun ls hl => ?_)
                    refine lv_goto (tgt := 36) hx hb dX9_goesOn_127 (by decide) ?_
                    exact ih36 k36 (0 : Int32) (v5_79 + (1 : Int32)) _ _ _ (lv_sub hl [3, 4, 5, 1, 0] rfl) hP hS hs hk36
                  · have hs := ite_f hs b89
                    refine lv_iload hx hb dX9_goesOn_88 (lv_at hl 0 rfl) ?_
                    refine lv_if_eq (tgt := 117) hx hb dX9_goesOn_90 (by decide) (fun h => absurd h (by decide)) (fun _ => ?_)
                    refine lv_aload_n hx hb dX9_goesOn_93 rfl (lv_at hl 1 rfl) ?_
                    refine lv_iload hx hb dX9_goesOn_94 (lv_at hl 5 rfl) ?_
                    refine lv_aload_n hx hb dX9_goesOn_96 rfl (lv_at hl 1 rfl) ?_
                    refine lv_iload hx hb dX9_goesOn_97 (lv_at hl 5 rfl) ?_
                    refine lv_iconst (v := (2 : Int32)) hx hb dX9_goesOn_99 (by decide) ?_
                    obtain ⟨q90, eq90, hs⟩ := ob hs
                    refine nd_callV (As := [.int v5_79, .int (2 : Int32)]) (rest := [.int v5_79, .ref (bd 0)]) (st1 := [.int q90, .int v5_79, .ref (bd 0)]) hx hb hml hown hts hl hP hK hD hS hA hN (mX9_of eq90) iv_X9_of wd_307 0 rfl rfl rfl rfl ⟨Nat.le_of_ble_eq_true rfl, Nat.le_of_ble_eq_true rfl⟩ (Nat.le_of_ble_eq_true rfl) ⟨Nat.zero_le _, Nat.zero_le _⟩ dX9_goesOn_100 rfl rfl (fun H locs hP hD hS => ?_)
                    refine lv_iconst (v := (1 : Int32)) hx hb dX9_goesOn_103 (by decide) ?_
                    refine lv_isub hx hb dX9_goesOn_104 ?_
                    obtain ⟨q91, eq91, hs⟩ := ob hs
                    refine nd_callV (As := [.int v5_79, .int (q90 - (1 : Int32))]) (rest := []) (st1 := [.int q91]) hx hb hml hown hts hl hP hK hD hS hA hN (mX9_timeOf eq91) iv_X9_timeOf wd_315 0 rfl rfl rfl rfl ⟨Nat.le_of_ble_eq_true rfl, Nat.le_of_ble_eq_true rfl⟩ (Nat.le_of_ble_eq_true rfl) ⟨Nat.zero_le _, Nat.zero_le _⟩ dX9_goesOn_105 rfl rfl (fun H locs hP hD hS => ?_)
                    refine lv_aload_n hx hb dX9_goesOn_108 rfl (lv_at hl 1 rfl) ?_
                    refine lv_iload_n hx hb dX9_goesOn_109 rfl (lv_at hl 3 rfl) ?_
                    refine lv_iconst (v := (0 : Int32)) hx hb dX9_goesOn_110 (by decide) ?_
                    obtain ⟨q92, eq92, hs⟩ := ob hs
                    refine nd_callV (As := [.int x3, .int (0 : Int32)]) (rest := [.int q91]) (st1 := [.int q92, .int q91]) hx hb hml hown hts hl hP hK hD hS hA hN (mX9_timeOf eq92) iv_X9_timeOf wd_315 0 rfl rfl rfl rfl ⟨Nat.le_of_ble_eq_true rfl, Nat.le_of_ble_eq_true rfl⟩ (Nat.le_of_ble_eq_true rfl) ⟨Nat.zero_le _, Nat.zero_le _⟩ dX9_goesOn_111 rfl rfl (fun H locs hP hD hS => ?_)
                    refine lv_icmp_gt (tgt := 121) hx hb dX9_goesOn_114 (by decide) (fun b93 => ?_) (fun b93 => ?_)
                    · have hs := ite_t hs b93
                      refine lv_iconst (v := (0 : Int32)) hx hb dX9_goesOn_121 (by decide) ?_
                      refine lv_istore (lv' := [(4, .int (0 : Int32)), (6, .int (1 : Int32)), (0, .ref (bd 0)), (1, .int x1), (3, .int x3), (5, .int v5_79)]) hx hb dX9_goesOn_122 hl (by decide) rfl (fun ls hl => ?_)
                      refine lv_iinc (v := v5_79 + (1 : Int32)) (lv' := [(5, .int (v5_79 + (1 : Int32))), (4, .int (0 : Int32)), (6, .int (1 : Int32)), (0, .ref (bd 0)), (1, .int x1), (3, .int x3)]) hx hb dX9_goesOn_124 hl (k := 5) rfl rfl (by decide) rfl (fun ls hl => ?_)
                      refine lv_goto (tgt := 36) hx hb dX9_goesOn_127 (by decide) ?_
                      exact ih36 k36 (0 : Int32) (v5_79 + (1 : Int32)) _ _ _ (lv_sub hl [3, 4, 5, 1, 0] rfl) hP hS hs hk36
                    · have hs := ite_f hs b93
                      refine lv_iconst (v := (1 : Int32)) hx hb dX9_goesOn_117 (by decide) ?_
                      refine lv_goto (tgt := 122) hx hb dX9_goesOn_118 (by decide) ?_
                      refine lv_istore (lv' := [(4, .int (1 : Int32)), (6, .int (1 : Int32)), (0, .ref (bd 0)), (1, .int x1), (3, .int x3), (5, .int v5_79)]) hx hb dX9_goesOn_122 hl (by decide) rfl (fun ls hl => ?_)
                      refine lv_iinc (v := v5_79 + (1 : Int32)) (lv' := [(5, .int (v5_79 + (1 : Int32))), (4, .int (1 : Int32)), (6, .int (1 : Int32)), (0, .ref (bd 0)), (1, .int x1), (3, .int x3)]) hx hb dX9_goesOn_124 hl (k := 5) rfl rfl (by decide) rfl (fun ls hl => ?_)
                      refine lv_goto (tgt := 36) hx hb dX9_goesOn_127 (by decide) ?_
                      exact ih36 k36 (1 : Int32) (v5_79 + (1 : Int32)) _ _ _ (lv_sub hl [3, 4, 5, 1, 0] rfl) hP hS hs hk36
      refine L36 LF _ (1 : Int32) (0 : Int32) _ _ _ (lv_sub hl [2, 3, 5, 1, 0] rfl) hP hS hs (fun u4_79 H locs ls hl hP hS hs => ?_)
      refine lv_iload hx hb dX9_goesOn_130 (lv_at hl 0 rfl) ?_
      obtain ⟨t94, et94, hs⟩ := ob hs
      exact hret _ hs (bz_e et94) hP hS dX9_goesOn_132
def tX9_laysRows_0 : List (Nat × Instr × Nat) := [(0, .iconst 0, 1), (1, .istore_n 1, 1), (2, .iload_n 1, 1), (3, .bipush 10, 2), (5, .aload_n 0, 1), (6, .getfield 7, 3), (9, .iconst 0, 1), (10, .iaload, 1), (11, .ishl, 1), (12, .if_icmp .ge 16, 3), (15, .aload_n 0, 1), (16, .getfield 19, 3), (19, .iload_n 1, 1), (20, .iconst 0, 1), (21, .iastore, 1), (22, .iinc 1 1, 3), (25, .goto (-23), 3), (28, .iconst 0, 1), (29, .istore_n 1, 1), (30, .iload_n 1, 1), (31, .aload_n 0, 1), (32, .getfield 7, 3), (35, .iconst 0, 1), (36, .iaload, 1), (37, .if_icmp .ge 25, 3), (40, .aload_n 0, 1), (41, .getfield 19, 3), (44, .bipush 10, 2), (46, .iconst 1, 1), (47, .iload_n 1, 1), (48, .ishl, 1), (49, .imul, 1), (50, .iload_n 1, 1), (51, .iadd, 1), (52, .iconst 1, 1), (53, .iload_n 1, 1), (54, .ishl, 1), (55, .iastore, 1), (56, .iinc 1 1, 3), (59, .goto (-29), 3), (62, .iconst 0, 1), (63, .istore_n 1, 1), (64, .iload_n 1, 1), (65, .bipush 10, 2), (67, .aload_n 0, 1), (68, .getfield 7, 3), (71, .iconst 0, 1), (72, .iaload, 1), (73, .ishl, 1), (74, .if_icmp .ge 78, 3), (77, .iload_n 1, 1), (78, .bipush 10, 2), (80, .idiv, 1), (81, .istore_n 2, 1), (82, .iconst 0, 1), (83, .istore_n 3, 1), (84, .iload_n 3, 1), (85, .aload_n 0, 1), (86, .getfield 7, 3), (89, .iconst 0, 1)]
theorem tX9_laysRows_0_ok : tX9_laysRows_0.all (fun q => decide (decode cX9_laysRows q.1 = .ok q.2)) = true := by decide +kernel
theorem dX9_laysRows_0 : decode cX9_laysRows 0 = .ok (.iconst 0, 1) := td tX9_laysRows_0_ok 0 (q := (0, .iconst 0, 1)) rfl
theorem dX9_laysRows_1 : decode cX9_laysRows 1 = .ok (.istore_n 1, 1) := td tX9_laysRows_0_ok 1 (q := (1, .istore_n 1, 1)) rfl
theorem dX9_laysRows_2 : decode cX9_laysRows 2 = .ok (.iload_n 1, 1) := td tX9_laysRows_0_ok 2 (q := (2, .iload_n 1, 1)) rfl
theorem dX9_laysRows_3 : decode cX9_laysRows 3 = .ok (.bipush 10, 2) := td tX9_laysRows_0_ok 3 (q := (3, .bipush 10, 2)) rfl
theorem dX9_laysRows_5 : decode cX9_laysRows 5 = .ok (.aload_n 0, 1) := td tX9_laysRows_0_ok 4 (q := (5, .aload_n 0, 1)) rfl
theorem dX9_laysRows_6 : decode cX9_laysRows 6 = .ok (.getfield 7, 3) := td tX9_laysRows_0_ok 5 (q := (6, .getfield 7, 3)) rfl
theorem dX9_laysRows_9 : decode cX9_laysRows 9 = .ok (.iconst 0, 1) := td tX9_laysRows_0_ok 6 (q := (9, .iconst 0, 1)) rfl
theorem dX9_laysRows_10 : decode cX9_laysRows 10 = .ok (.iaload, 1) := td tX9_laysRows_0_ok 7 (q := (10, .iaload, 1)) rfl
theorem dX9_laysRows_11 : decode cX9_laysRows 11 = .ok (.ishl, 1) := td tX9_laysRows_0_ok 8 (q := (11, .ishl, 1)) rfl
theorem dX9_laysRows_12 : decode cX9_laysRows 12 = .ok (.if_icmp .ge 16, 3) := td tX9_laysRows_0_ok 9 (q := (12, .if_icmp .ge 16, 3)) rfl
theorem dX9_laysRows_15 : decode cX9_laysRows 15 = .ok (.aload_n 0, 1) := td tX9_laysRows_0_ok 10 (q := (15, .aload_n 0, 1)) rfl
theorem dX9_laysRows_16 : decode cX9_laysRows 16 = .ok (.getfield 19, 3) := td tX9_laysRows_0_ok 11 (q := (16, .getfield 19, 3)) rfl
theorem dX9_laysRows_19 : decode cX9_laysRows 19 = .ok (.iload_n 1, 1) := td tX9_laysRows_0_ok 12 (q := (19, .iload_n 1, 1)) rfl
theorem dX9_laysRows_20 : decode cX9_laysRows 20 = .ok (.iconst 0, 1) := td tX9_laysRows_0_ok 13 (q := (20, .iconst 0, 1)) rfl
theorem dX9_laysRows_21 : decode cX9_laysRows 21 = .ok (.iastore, 1) := td tX9_laysRows_0_ok 14 (q := (21, .iastore, 1)) rfl
theorem dX9_laysRows_22 : decode cX9_laysRows 22 = .ok (.iinc 1 1, 3) := td tX9_laysRows_0_ok 15 (q := (22, .iinc 1 1, 3)) rfl
theorem dX9_laysRows_25 : decode cX9_laysRows 25 = .ok (.goto (-23), 3) := td tX9_laysRows_0_ok 16 (q := (25, .goto (-23), 3)) rfl
theorem dX9_laysRows_28 : decode cX9_laysRows 28 = .ok (.iconst 0, 1) := td tX9_laysRows_0_ok 17 (q := (28, .iconst 0, 1)) rfl
theorem dX9_laysRows_29 : decode cX9_laysRows 29 = .ok (.istore_n 1, 1) := td tX9_laysRows_0_ok 18 (q := (29, .istore_n 1, 1)) rfl
theorem dX9_laysRows_30 : decode cX9_laysRows 30 = .ok (.iload_n 1, 1) := td tX9_laysRows_0_ok 19 (q := (30, .iload_n 1, 1)) rfl
theorem dX9_laysRows_31 : decode cX9_laysRows 31 = .ok (.aload_n 0, 1) := td tX9_laysRows_0_ok 20 (q := (31, .aload_n 0, 1)) rfl
theorem dX9_laysRows_32 : decode cX9_laysRows 32 = .ok (.getfield 7, 3) := td tX9_laysRows_0_ok 21 (q := (32, .getfield 7, 3)) rfl
theorem dX9_laysRows_35 : decode cX9_laysRows 35 = .ok (.iconst 0, 1) := td tX9_laysRows_0_ok 22 (q := (35, .iconst 0, 1)) rfl
theorem dX9_laysRows_36 : decode cX9_laysRows 36 = .ok (.iaload, 1) := td tX9_laysRows_0_ok 23 (q := (36, .iaload, 1)) rfl
theorem dX9_laysRows_37 : decode cX9_laysRows 37 = .ok (.if_icmp .ge 25, 3) := td tX9_laysRows_0_ok 24 (q := (37, .if_icmp .ge 25, 3)) rfl
theorem dX9_laysRows_40 : decode cX9_laysRows 40 = .ok (.aload_n 0, 1) := td tX9_laysRows_0_ok 25 (q := (40, .aload_n 0, 1)) rfl
theorem dX9_laysRows_41 : decode cX9_laysRows 41 = .ok (.getfield 19, 3) := td tX9_laysRows_0_ok 26 (q := (41, .getfield 19, 3)) rfl
theorem dX9_laysRows_44 : decode cX9_laysRows 44 = .ok (.bipush 10, 2) := td tX9_laysRows_0_ok 27 (q := (44, .bipush 10, 2)) rfl
theorem dX9_laysRows_46 : decode cX9_laysRows 46 = .ok (.iconst 1, 1) := td tX9_laysRows_0_ok 28 (q := (46, .iconst 1, 1)) rfl
theorem dX9_laysRows_47 : decode cX9_laysRows 47 = .ok (.iload_n 1, 1) := td tX9_laysRows_0_ok 29 (q := (47, .iload_n 1, 1)) rfl
theorem dX9_laysRows_48 : decode cX9_laysRows 48 = .ok (.ishl, 1) := td tX9_laysRows_0_ok 30 (q := (48, .ishl, 1)) rfl
theorem dX9_laysRows_49 : decode cX9_laysRows 49 = .ok (.imul, 1) := td tX9_laysRows_0_ok 31 (q := (49, .imul, 1)) rfl
theorem dX9_laysRows_50 : decode cX9_laysRows 50 = .ok (.iload_n 1, 1) := td tX9_laysRows_0_ok 32 (q := (50, .iload_n 1, 1)) rfl
theorem dX9_laysRows_51 : decode cX9_laysRows 51 = .ok (.iadd, 1) := td tX9_laysRows_0_ok 33 (q := (51, .iadd, 1)) rfl
theorem dX9_laysRows_52 : decode cX9_laysRows 52 = .ok (.iconst 1, 1) := td tX9_laysRows_0_ok 34 (q := (52, .iconst 1, 1)) rfl
theorem dX9_laysRows_53 : decode cX9_laysRows 53 = .ok (.iload_n 1, 1) := td tX9_laysRows_0_ok 35 (q := (53, .iload_n 1, 1)) rfl
theorem dX9_laysRows_54 : decode cX9_laysRows 54 = .ok (.ishl, 1) := td tX9_laysRows_0_ok 36 (q := (54, .ishl, 1)) rfl
theorem dX9_laysRows_55 : decode cX9_laysRows 55 = .ok (.iastore, 1) := td tX9_laysRows_0_ok 37 (q := (55, .iastore, 1)) rfl
theorem dX9_laysRows_56 : decode cX9_laysRows 56 = .ok (.iinc 1 1, 3) := td tX9_laysRows_0_ok 38 (q := (56, .iinc 1 1, 3)) rfl
theorem dX9_laysRows_59 : decode cX9_laysRows 59 = .ok (.goto (-29), 3) := td tX9_laysRows_0_ok 39 (q := (59, .goto (-29), 3)) rfl
theorem dX9_laysRows_62 : decode cX9_laysRows 62 = .ok (.iconst 0, 1) := td tX9_laysRows_0_ok 40 (q := (62, .iconst 0, 1)) rfl
theorem dX9_laysRows_63 : decode cX9_laysRows 63 = .ok (.istore_n 1, 1) := td tX9_laysRows_0_ok 41 (q := (63, .istore_n 1, 1)) rfl
theorem dX9_laysRows_64 : decode cX9_laysRows 64 = .ok (.iload_n 1, 1) := td tX9_laysRows_0_ok 42 (q := (64, .iload_n 1, 1)) rfl
theorem dX9_laysRows_65 : decode cX9_laysRows 65 = .ok (.bipush 10, 2) := td tX9_laysRows_0_ok 43 (q := (65, .bipush 10, 2)) rfl
theorem dX9_laysRows_67 : decode cX9_laysRows 67 = .ok (.aload_n 0, 1) := td tX9_laysRows_0_ok 44 (q := (67, .aload_n 0, 1)) rfl
theorem dX9_laysRows_68 : decode cX9_laysRows 68 = .ok (.getfield 7, 3) := td tX9_laysRows_0_ok 45 (q := (68, .getfield 7, 3)) rfl
theorem dX9_laysRows_71 : decode cX9_laysRows 71 = .ok (.iconst 0, 1) := td tX9_laysRows_0_ok 46 (q := (71, .iconst 0, 1)) rfl
theorem dX9_laysRows_72 : decode cX9_laysRows 72 = .ok (.iaload, 1) := td tX9_laysRows_0_ok 47 (q := (72, .iaload, 1)) rfl
theorem dX9_laysRows_73 : decode cX9_laysRows 73 = .ok (.ishl, 1) := td tX9_laysRows_0_ok 48 (q := (73, .ishl, 1)) rfl
theorem dX9_laysRows_74 : decode cX9_laysRows 74 = .ok (.if_icmp .ge 78, 3) := td tX9_laysRows_0_ok 49 (q := (74, .if_icmp .ge 78, 3)) rfl
theorem dX9_laysRows_77 : decode cX9_laysRows 77 = .ok (.iload_n 1, 1) := td tX9_laysRows_0_ok 50 (q := (77, .iload_n 1, 1)) rfl
theorem dX9_laysRows_78 : decode cX9_laysRows 78 = .ok (.bipush 10, 2) := td tX9_laysRows_0_ok 51 (q := (78, .bipush 10, 2)) rfl
theorem dX9_laysRows_80 : decode cX9_laysRows 80 = .ok (.idiv, 1) := td tX9_laysRows_0_ok 52 (q := (80, .idiv, 1)) rfl
theorem dX9_laysRows_81 : decode cX9_laysRows 81 = .ok (.istore_n 2, 1) := td tX9_laysRows_0_ok 53 (q := (81, .istore_n 2, 1)) rfl
theorem dX9_laysRows_82 : decode cX9_laysRows 82 = .ok (.iconst 0, 1) := td tX9_laysRows_0_ok 54 (q := (82, .iconst 0, 1)) rfl
theorem dX9_laysRows_83 : decode cX9_laysRows 83 = .ok (.istore_n 3, 1) := td tX9_laysRows_0_ok 55 (q := (83, .istore_n 3, 1)) rfl
theorem dX9_laysRows_84 : decode cX9_laysRows 84 = .ok (.iload_n 3, 1) := td tX9_laysRows_0_ok 56 (q := (84, .iload_n 3, 1)) rfl
theorem dX9_laysRows_85 : decode cX9_laysRows 85 = .ok (.aload_n 0, 1) := td tX9_laysRows_0_ok 57 (q := (85, .aload_n 0, 1)) rfl
theorem dX9_laysRows_86 : decode cX9_laysRows 86 = .ok (.getfield 7, 3) := td tX9_laysRows_0_ok 58 (q := (86, .getfield 7, 3)) rfl
theorem dX9_laysRows_89 : decode cX9_laysRows 89 = .ok (.iconst 0, 1) := td tX9_laysRows_0_ok 59 (q := (89, .iconst 0, 1)) rfl
def tX9_laysRows_1 : List (Nat × Instr × Nat) := [(90, .iaload, 1), (91, .if_icmp .ge 55, 3), (94, .aload_n 0, 1), (95, .getfield 19, 3), (98, .iload_n 1, 1), (99, .iaload, 1), (100, .ifCond .eq 46, 3), (103, .aload_n 0, 1), (104, .iload_n 2, 1), (105, .iload_n 1, 1), (106, .bipush 10, 2), (108, .irem, 1), (109, .iload_n 3, 1), (110, .invokevirtual 198, 3), (113, .ifCond .eq 27, 3), (116, .aload_n 0, 1), (117, .getfield 19, 3), (120, .bipush 10, 2), (122, .iload_n 2, 1), (123, .iconst 1, 1), (124, .iload_n 3, 1), (125, .ishl, 1), (126, .ior, 1), (127, .imul, 1), (128, .iload_n 3, 1), (129, .iadd, 1), (130, .dup2, 1), (131, .iaload, 1), (132, .aload_n 0, 1), (133, .getfield 19, 3), (136, .iload_n 1, 1), (137, .iaload, 1), (138, .ior, 1), (139, .iastore, 1), (140, .iinc 3 1, 3), (143, .goto (-59), 3), (146, .iinc 1 1, 3), (149, .goto (-85), 3), (152, .return_, 1)]
theorem tX9_laysRows_1_ok : tX9_laysRows_1.all (fun q => decide (decode cX9_laysRows q.1 = .ok q.2)) = true := by decide +kernel
theorem dX9_laysRows_90 : decode cX9_laysRows 90 = .ok (.iaload, 1) := td tX9_laysRows_1_ok 0 (q := (90, .iaload, 1)) rfl
theorem dX9_laysRows_91 : decode cX9_laysRows 91 = .ok (.if_icmp .ge 55, 3) := td tX9_laysRows_1_ok 1 (q := (91, .if_icmp .ge 55, 3)) rfl
theorem dX9_laysRows_94 : decode cX9_laysRows 94 = .ok (.aload_n 0, 1) := td tX9_laysRows_1_ok 2 (q := (94, .aload_n 0, 1)) rfl
theorem dX9_laysRows_95 : decode cX9_laysRows 95 = .ok (.getfield 19, 3) := td tX9_laysRows_1_ok 3 (q := (95, .getfield 19, 3)) rfl
theorem dX9_laysRows_98 : decode cX9_laysRows 98 = .ok (.iload_n 1, 1) := td tX9_laysRows_1_ok 4 (q := (98, .iload_n 1, 1)) rfl
theorem dX9_laysRows_99 : decode cX9_laysRows 99 = .ok (.iaload, 1) := td tX9_laysRows_1_ok 5 (q := (99, .iaload, 1)) rfl
theorem dX9_laysRows_100 : decode cX9_laysRows 100 = .ok (.ifCond .eq 46, 3) := td tX9_laysRows_1_ok 6 (q := (100, .ifCond .eq 46, 3)) rfl
theorem dX9_laysRows_103 : decode cX9_laysRows 103 = .ok (.aload_n 0, 1) := td tX9_laysRows_1_ok 7 (q := (103, .aload_n 0, 1)) rfl
theorem dX9_laysRows_104 : decode cX9_laysRows 104 = .ok (.iload_n 2, 1) := td tX9_laysRows_1_ok 8 (q := (104, .iload_n 2, 1)) rfl
theorem dX9_laysRows_105 : decode cX9_laysRows 105 = .ok (.iload_n 1, 1) := td tX9_laysRows_1_ok 9 (q := (105, .iload_n 1, 1)) rfl
theorem dX9_laysRows_106 : decode cX9_laysRows 106 = .ok (.bipush 10, 2) := td tX9_laysRows_1_ok 10 (q := (106, .bipush 10, 2)) rfl
theorem dX9_laysRows_108 : decode cX9_laysRows 108 = .ok (.irem, 1) := td tX9_laysRows_1_ok 11 (q := (108, .irem, 1)) rfl
theorem dX9_laysRows_109 : decode cX9_laysRows 109 = .ok (.iload_n 3, 1) := td tX9_laysRows_1_ok 12 (q := (109, .iload_n 3, 1)) rfl
theorem dX9_laysRows_110 : decode cX9_laysRows 110 = .ok (.invokevirtual 198, 3) := td tX9_laysRows_1_ok 13 (q := (110, .invokevirtual 198, 3)) rfl
theorem dX9_laysRows_113 : decode cX9_laysRows 113 = .ok (.ifCond .eq 27, 3) := td tX9_laysRows_1_ok 14 (q := (113, .ifCond .eq 27, 3)) rfl
theorem dX9_laysRows_116 : decode cX9_laysRows 116 = .ok (.aload_n 0, 1) := td tX9_laysRows_1_ok 15 (q := (116, .aload_n 0, 1)) rfl
theorem dX9_laysRows_117 : decode cX9_laysRows 117 = .ok (.getfield 19, 3) := td tX9_laysRows_1_ok 16 (q := (117, .getfield 19, 3)) rfl
theorem dX9_laysRows_120 : decode cX9_laysRows 120 = .ok (.bipush 10, 2) := td tX9_laysRows_1_ok 17 (q := (120, .bipush 10, 2)) rfl
theorem dX9_laysRows_122 : decode cX9_laysRows 122 = .ok (.iload_n 2, 1) := td tX9_laysRows_1_ok 18 (q := (122, .iload_n 2, 1)) rfl
theorem dX9_laysRows_123 : decode cX9_laysRows 123 = .ok (.iconst 1, 1) := td tX9_laysRows_1_ok 19 (q := (123, .iconst 1, 1)) rfl
theorem dX9_laysRows_124 : decode cX9_laysRows 124 = .ok (.iload_n 3, 1) := td tX9_laysRows_1_ok 20 (q := (124, .iload_n 3, 1)) rfl
theorem dX9_laysRows_125 : decode cX9_laysRows 125 = .ok (.ishl, 1) := td tX9_laysRows_1_ok 21 (q := (125, .ishl, 1)) rfl
theorem dX9_laysRows_126 : decode cX9_laysRows 126 = .ok (.ior, 1) := td tX9_laysRows_1_ok 22 (q := (126, .ior, 1)) rfl
theorem dX9_laysRows_127 : decode cX9_laysRows 127 = .ok (.imul, 1) := td tX9_laysRows_1_ok 23 (q := (127, .imul, 1)) rfl
theorem dX9_laysRows_128 : decode cX9_laysRows 128 = .ok (.iload_n 3, 1) := td tX9_laysRows_1_ok 24 (q := (128, .iload_n 3, 1)) rfl
theorem dX9_laysRows_129 : decode cX9_laysRows 129 = .ok (.iadd, 1) := td tX9_laysRows_1_ok 25 (q := (129, .iadd, 1)) rfl
theorem dX9_laysRows_130 : decode cX9_laysRows 130 = .ok (.dup2, 1) := td tX9_laysRows_1_ok 26 (q := (130, .dup2, 1)) rfl
theorem dX9_laysRows_131 : decode cX9_laysRows 131 = .ok (.iaload, 1) := td tX9_laysRows_1_ok 27 (q := (131, .iaload, 1)) rfl
theorem dX9_laysRows_132 : decode cX9_laysRows 132 = .ok (.aload_n 0, 1) := td tX9_laysRows_1_ok 28 (q := (132, .aload_n 0, 1)) rfl
theorem dX9_laysRows_133 : decode cX9_laysRows 133 = .ok (.getfield 19, 3) := td tX9_laysRows_1_ok 29 (q := (133, .getfield 19, 3)) rfl
theorem dX9_laysRows_136 : decode cX9_laysRows 136 = .ok (.iload_n 1, 1) := td tX9_laysRows_1_ok 30 (q := (136, .iload_n 1, 1)) rfl
theorem dX9_laysRows_137 : decode cX9_laysRows 137 = .ok (.iaload, 1) := td tX9_laysRows_1_ok 31 (q := (137, .iaload, 1)) rfl
theorem dX9_laysRows_138 : decode cX9_laysRows 138 = .ok (.ior, 1) := td tX9_laysRows_1_ok 32 (q := (138, .ior, 1)) rfl
theorem dX9_laysRows_139 : decode cX9_laysRows 139 = .ok (.iastore, 1) := td tX9_laysRows_1_ok 33 (q := (139, .iastore, 1)) rfl
theorem dX9_laysRows_140 : decode cX9_laysRows 140 = .ok (.iinc 3 1, 3) := td tX9_laysRows_1_ok 34 (q := (140, .iinc 3 1, 3)) rfl
theorem dX9_laysRows_143 : decode cX9_laysRows 143 = .ok (.goto (-59), 3) := td tX9_laysRows_1_ok 35 (q := (143, .goto (-59), 3)) rfl
theorem dX9_laysRows_146 : decode cX9_laysRows 146 = .ok (.iinc 1 1, 3) := td tX9_laysRows_1_ok 36 (q := (146, .iinc 1 1, 3)) rfl
theorem dX9_laysRows_149 : decode cX9_laysRows 149 = .ok (.goto (-85), 3) := td tX9_laysRows_1_ok 37 (q := (149, .goto (-85), 3)) rfl
theorem dX9_laysRows_152 : decode cX9_laysRows 152 = .ok (.return_, 1) := td tX9_laysRows_1_ok 38 (q := (152, .return_, 1)) rfl
def fX9_laysRows_2 (k2 : (Nat → Int32) → Option ((Nat → Int32))) (ms : (Nat → Int32)) : Nat → Int32 → (Nat → Int32) → Option ((Nat → Int32))
  | 0, _, _ => none
  | n2 + 1, x1, mf => (Option.bind (aget ms 531 (0 : Int32)) (fun t1 => (if ((10 : Int32) <<< (t1 &&& 31)) ≤ x1 then (k2 mf) else (Option.bind (aput mf 10240 x1 (0 : Int32)) (fun c3 => (fX9_laysRows_2 k2 ms n2 (x1 + (1 : Int32)) c3))))))
def fX9_laysRows_30 (k30 : (Nat → Int32) → Option ((Nat → Int32))) (ms : (Nat → Int32)) : Nat → Int32 → (Nat → Int32) → Option ((Nat → Int32))
  | 0, _, _ => none
  | n30 + 1, x1, mf => (Option.bind (aget ms 531 (0 : Int32)) (fun t8 => (if t8 ≤ x1 then (k30 mf) else (Option.bind (aput mf 10240 (((10 : Int32) * ((1 : Int32) <<< (x1 &&& 31))) + x1) ((1 : Int32) <<< (x1 &&& 31))) (fun c10 => (fX9_laysRows_30 k30 ms n30 (x1 + (1 : Int32)) c10))))))
def fX9_laysRows_84 (k84 : (Nat → Int32) → Option ((Nat → Int32))) (ms : (Nat → Int32)) (x1 : Int32) (x2 : Int32) : Nat → Int32 → (Nat → Int32) → Option ((Nat → Int32))
  | 0, _, _ => none
  | n84 + 1, x3, mf => (Option.bind (aget ms 531 (0 : Int32)) (fun t17 => (if t17 ≤ x3 then (k84 mf) else (Option.bind (aget mf 10240 x1) (fun t19 => (if t19 = 0 then (k84 mf) else (Option.bind (fX9_goesOn ms x2 (x1 - x1 / (10 : Int32) * (10 : Int32)) x3) (fun q21 => (if q21 = 0 then (fX9_laysRows_84 k84 ms x1 x2 n84 (x3 + (1 : Int32)) mf) else (Option.bind (aget mf 10240 (((10 : Int32) * (x2 ||| ((1 : Int32) <<< (x3 &&& 31)))) + x3)) (fun t23 => (Option.bind (aget mf 10240 x1) (fun t24 => (Option.bind (aput mf 10240 (((10 : Int32) * (x2 ||| ((1 : Int32) <<< (x3 &&& 31)))) + x3) (t23 ||| t24)) (fun c25 => (fX9_laysRows_84 k84 ms x1 x2 n84 (x3 + (1 : Int32)) c25))))))))))))))))
def fX9_laysRows_64 (k64 : (Nat → Int32) → Option ((Nat → Int32))) (ms : (Nat → Int32)) : Nat → Int32 → (Nat → Int32) → Option ((Nat → Int32))
  | 0, _, _ => none
  | n64 + 1, x1, mf => (Option.bind (aget ms 531 (0 : Int32)) (fun t15 => (if ((10 : Int32) <<< (t15 &&& 31)) ≤ x1 then (k64 mf) else (fX9_laysRows_84 (fun (mf_u26 : (Nat → Int32)) => (fX9_laysRows_64 k64 ms n64 (x1 + (1 : Int32)) mf_u26)) ms x1 (x1 / (10 : Int32)) LF (0 : Int32) mf))))
def fX9_laysRows (ms : (Nat → Int32)) (mf : (Nat → Int32)) : Option ((Nat → Int32)) :=
  (fX9_laysRows_2 (fun (mf_u4 : (Nat → Int32)) => (fX9_laysRows_30 (fun (mf_u11 : (Nat → Int32)) => (fX9_laysRows_64 (fun (mf_u36 : (Nat → Int32)) => (some mf_u36)) ms LF (0 : Int32) mf_u11)) ms LF (0 : Int32) mf_u4)) ms LF (0 : Int32) mf)
set_option maxHeartbeats 4000000 in
set_option maxRecDepth 100000 in
theorem mX9_laysRows {l : Launch} {D : va_G} {bd : Nat → Nat} {cI : ClassId} {ms : (Nat → Int32)} {msv : (Nat → Int32)} {mb : (Nat → Int32)} {mf : (Nat → Int32)} {mr : (Nat → Int32)} {mt : Int32} {mn : Int32} {ml : Int32} {mat : Int32} {mw : Int32} {mm : Int32} {mh : Int64} {mf' : (Nat → Int32)} (hs : fX9_laysRows ms mf = some mf') : nd_C l yX9_laysRows cX9_laysRows 4 none 3 69 D [(cI, .int)] [.ref (bd 0)] (MW bd cI ms msv mb mf mr mt mn ml mat mw mm mh) (MW bd cI ms msv mb mf' mr mt mn ml mat mw mm mh) none := by
  refine nd_ofCv (by decide) (Nat.le_of_ble_eq_true rfl) (fun p e s m args below meth c_ ls A Q hx hb hml hown hts hl hP hK hD hS hA hN hret => ?_)
  have hown : s.vm.findClass RX9 = some m.cls := hown
  have hl : lv_has ls 4 [(0, .ref (bd 0))] := hl
  have hret : ∀ (z0 : (Nat → Int32)) {H : Heap} {locs : List Loc} {pc : Nat} {ls : Array Slot}, some z0 = some mf' → va_P D vwCl (MW bd cI ms msv mb z0 mr mt mn ml mat mw mm mh) H → va_S A s.heap H locs → decode cX9_laysRows pc = .ok (.return_, 1) → W p l e ⟨3, 0, 0, 69⟩ s m args below meth c_ H locs 0 0 Q (F0 m pc ls []) := by
    intro z0 H locs pc ls h hP hS hd
    cases h
    exact hret hP hS hd
  rw [fX9_laysRows] at hs
  refine lv_iconst (v := (0 : Int32)) hx hb dX9_laysRows_0 (by decide) ?_
  refine lv_istore_n (lv' := [(1, .int (0 : Int32)), (0, .ref (bd 0))]) hx hb dX9_laysRows_1 rfl hl (by decide) rfl (fun ls hl => ?_)
  have L2 : ∀ (n2 : Nat) (k2 : (Nat → Int32) → Option ((Nat → Int32))) (v1_4 : Int32) (mf_4 : (Nat → Int32)) (H : Heap) (locs : List Loc) (ls : Array Slot), lv_has ls 4 [(0, .ref (bd 0)), (1, .int v1_4)] → va_P D vwCl (MW bd cI ms msv mb mf_4 mr mt mn ml mat mw mm mh) H → va_S A s.heap H locs → fX9_laysRows_2 k2 ms n2 v1_4 mf_4 = some mf' → (∀ (mf_u4 : (Nat → Int32)) (H : Heap) (locs : List Loc) (ls : Array Slot), lv_has ls 4 [(0, .ref (bd 0))] → va_P D vwCl (MW bd cI ms msv mb mf_u4 mr mt mn ml mat mw mm mh) H → va_S A s.heap H locs → k2 mf_u4 = some mf' → W p l e ⟨3, 0, 0, 69⟩ s m args below meth c_ H locs 0 0 Q (F0 m 28 ls [])) → W p l e ⟨3, 0, 0, 69⟩ s m args below meth c_ H locs 0 0 Q (F0 m 2 ls []) := by
    intro n2
    induction n2 with
    | zero =>
      intro k2 v1_4 mf_4 H locs ls hl hP hS hs hk2
      rw [fX9_laysRows_2] at hs
      cases hs
    | succ n2 ih2 =>
      intro k2 v1_4 mf_4 H locs ls hl hP hS hs hk2
      rw [fX9_laysRows_2] at hs
      have hD : va_D A (MW bd cI ms msv mb mf_4 mr mt mn ml mat mw mm mh) := nd_DD hD rfl
      refine lv_iload_n hx hb dX9_laysRows_2 rfl (lv_at hl 1 rfl) ?_
      refine lv_bipush (v := (10 : Int32)) hx hb dX9_laysRows_3 (by decide) ?_
      refine lv_aload_n hx hb dX9_laysRows_5 rfl (lv_at hl 0 rfl) ?_
      refine gf_X9_7 hx hb hts hown hK hP 0 rfl rfl dX9_laysRows_6 ?_
      refine lv_iconst (v := (0 : Int32)) hx hb dX9_laysRows_9 (by decide) ?_
      obtain ⟨t5, et5, hs⟩ := ob hs
      refine nd_iald hx hb hK hP 1 0 rfl rfl et5 dX9_laysRows_10 ?_
      refine lv_ishl hx hb dX9_laysRows_11 ?_
      refine lv_icmp_ge (tgt := 28) hx hb dX9_laysRows_12 (by decide) (fun b6 => ?_) (fun b6 => ?_)
      · have hs := ite_t hs b6
        exact hk2 mf_4 _ _ _ (lv_sub hl [0] rfl) hP hS hs
      · have hs := ite_f hs b6
        refine lv_aload_n hx hb dX9_laysRows_15 rfl (lv_at hl 0 rfl) ?_
        refine gf_X9_19 hx hb hts hown hK hP 0 rfl rfl dX9_laysRows_16 ?_
        refine lv_iload_n hx hb dX9_laysRows_19 rfl (lv_at hl 1 rfl) ?_
        refine lv_iconst (v := (0 : Int32)) hx hb dX9_laysRows_20 (by decide) ?_
        obtain ⟨c7, ec7, hs⟩ := ob hs
        refine nd_iast hx hb hK hP hD hS 4 0 rfl rfl ec7 dX9_laysRows_21 (fun H locs hP hD hS => ?_)
        have hP : va_P D vwCl (MW bd cI ms msv mb c7 mr mt mn ml mat mw mm mh) H := hP
        have hD : va_D A (MW bd cI ms msv mb c7 mr mt mn ml mat mw mm mh) := hD
        refine lv_iinc (v := v1_4 + (1 : Int32)) (lv' := [(1, .int (v1_4 + (1 : Int32))), (0, .ref (bd 0))]) hx hb dX9_laysRows_22 hl (k := 1) rfl rfl (by decide) rfl (fun ls hl => ?_)
        refine lv_goto (tgt := 2) hx hb dX9_laysRows_25 (by decide) ?_
        exact ih2 k2 (v1_4 + (1 : Int32)) c7 _ _ _ (lv_sub hl [1, 0] rfl) hP hS hs hk2
  refine L2 LF _ (0 : Int32) mf _ _ _ (lv_sub hl [1, 0] rfl) hP hS hs (fun mf_u4 H locs ls hl hP hS hs => ?_)
  have hD : va_D A (MW bd cI ms msv mb mf_u4 mr mt mn ml mat mw mm mh) := nd_DD hD rfl
  refine lv_iconst (v := (0 : Int32)) hx hb dX9_laysRows_28 (by decide) ?_
  refine lv_istore_n (lv' := [(1, .int (0 : Int32)), (0, .ref (bd 0))]) hx hb dX9_laysRows_29 rfl hl (by decide) rfl (fun ls hl => ?_)
  have L30 : ∀ (n30 : Nat) (k30 : (Nat → Int32) → Option ((Nat → Int32))) (v1_11 : Int32) (mf_11 : (Nat → Int32)) (H : Heap) (locs : List Loc) (ls : Array Slot), lv_has ls 4 [(0, .ref (bd 0)), (1, .int v1_11)] → va_P D vwCl (MW bd cI ms msv mb mf_11 mr mt mn ml mat mw mm mh) H → va_S A s.heap H locs → fX9_laysRows_30 k30 ms n30 v1_11 mf_11 = some mf' → (∀ (mf_u11 : (Nat → Int32)) (H : Heap) (locs : List Loc) (ls : Array Slot), lv_has ls 4 [(0, .ref (bd 0))] → va_P D vwCl (MW bd cI ms msv mb mf_u11 mr mt mn ml mat mw mm mh) H → va_S A s.heap H locs → k30 mf_u11 = some mf' → W p l e ⟨3, 0, 0, 69⟩ s m args below meth c_ H locs 0 0 Q (F0 m 62 ls [])) → W p l e ⟨3, 0, 0, 69⟩ s m args below meth c_ H locs 0 0 Q (F0 m 30 ls []) := by
    intro n30
    induction n30 with
    | zero =>
      intro k30 v1_11 mf_11 H locs ls hl hP hS hs hk30
      rw [fX9_laysRows_30] at hs
      cases hs
    | succ n30 ih30 =>
      intro k30 v1_11 mf_11 H locs ls hl hP hS hs hk30
      rw [fX9_laysRows_30] at hs
      have hD : va_D A (MW bd cI ms msv mb mf_11 mr mt mn ml mat mw mm mh) := nd_DD hD rfl
      refine lv_iload_n hx hb dX9_laysRows_30 rfl (lv_at hl 1 rfl) ?_
      refine lv_aload_n hx hb dX9_laysRows_31 rfl (lv_at hl 0 rfl) ?_
      refine gf_X9_7 hx hb hts hown hK hP 0 rfl rfl dX9_laysRows_32 ?_
      refine lv_iconst (v := (0 : Int32)) hx hb dX9_laysRows_35 (by decide) ?_
      obtain ⟨t12, et12, hs⟩ := ob hs
      refine nd_iald hx hb hK hP 1 0 rfl rfl et12 dX9_laysRows_36 ?_
      refine lv_icmp_ge (tgt := 62) hx hb dX9_laysRows_37 (by decide) (fun b13 => ?_) (fun b13 => ?_)
      · have hs := ite_t hs b13
        exact hk30 mf_11 _ _ _ (lv_sub hl [0] rfl) hP hS hs
      · have hs := ite_f hs b13
        refine lv_aload_n hx hb dX9_laysRows_40 rfl (lv_at hl 0 rfl) ?_
        refine gf_X9_19 hx hb hts hown hK hP 0 rfl rfl dX9_laysRows_41 ?_
        refine lv_bipush (v := (10 : Int32)) hx hb dX9_laysRows_44 (by decide) ?_
        refine lv_iconst (v := (1 : Int32)) hx hb dX9_laysRows_46 (by decide) ?_
        refine lv_iload_n hx hb dX9_laysRows_47 rfl (lv_at hl 1 rfl) ?_
        refine lv_ishl hx hb dX9_laysRows_48 ?_
        refine lv_imul hx hb dX9_laysRows_49 ?_
        refine lv_iload_n hx hb dX9_laysRows_50 rfl (lv_at hl 1 rfl) ?_
        refine lv_iadd hx hb dX9_laysRows_51 ?_
        refine lv_iconst (v := (1 : Int32)) hx hb dX9_laysRows_52 (by decide) ?_
        refine lv_iload_n hx hb dX9_laysRows_53 rfl (lv_at hl 1 rfl) ?_
        refine lv_ishl hx hb dX9_laysRows_54 ?_
        obtain ⟨c14, ec14, hs⟩ := ob hs
        refine nd_iast hx hb hK hP hD hS 4 0 rfl rfl ec14 dX9_laysRows_55 (fun H locs hP hD hS => ?_)
        have hP : va_P D vwCl (MW bd cI ms msv mb c14 mr mt mn ml mat mw mm mh) H := hP
        have hD : va_D A (MW bd cI ms msv mb c14 mr mt mn ml mat mw mm mh) := hD
        refine lv_iinc (v := v1_11 + (1 : Int32)) (lv' := [(1, .int (v1_11 + (1 : Int32))), (0, .ref (bd 0))]) hx hb dX9_laysRows_56 hl (k := 1) rfl rfl (by decide) rfl (fun ls hl => ?_)
        refine lv_goto (tgt := 30) hx hb dX9_laysRows_59 (by decide) ?_
        exact ih30 k30 (v1_11 + (1 : Int32)) c14 _ _ _ (lv_sub hl [1, 0] rfl) hP hS hs hk30
  refine L30 LF _ (0 : Int32) mf_u4 _ _ _ (lv_sub hl [1, 0] rfl) hP hS hs (fun mf_u11 H locs ls hl hP hS hs => ?_)
  have hD : va_D A (MW bd cI ms msv mb mf_u11 mr mt mn ml mat mw mm mh) := nd_DD hD rfl
  refine lv_iconst (v := (0 : Int32)) hx hb dX9_laysRows_62 (by decide) ?_
  refine lv_istore_n (lv' := [(1, .int (0 : Int32)), (0, .ref (bd 0))]) hx hb dX9_laysRows_63 rfl hl (by decide) rfl (fun ls hl => ?_)
  have L64 : ∀ (n64 : Nat) (k64 : (Nat → Int32) → Option ((Nat → Int32))) (v1_36 : Int32) (mf_36 : (Nat → Int32)) (H : Heap) (locs : List Loc) (ls : Array Slot), lv_has ls 4 [(0, .ref (bd 0)), (1, .int v1_36)] → va_P D vwCl (MW bd cI ms msv mb mf_36 mr mt mn ml mat mw mm mh) H → va_S A s.heap H locs → fX9_laysRows_64 k64 ms n64 v1_36 mf_36 = some mf' → (∀ (mf_u36 : (Nat → Int32)) (H : Heap) (locs : List Loc) (ls : Array Slot), lv_has ls 4 [] → va_P D vwCl (MW bd cI ms msv mb mf_u36 mr mt mn ml mat mw mm mh) H → va_S A s.heap H locs → k64 mf_u36 = some mf' → W p l e ⟨3, 0, 0, 69⟩ s m args below meth c_ H locs 0 0 Q (F0 m 152 ls [])) → W p l e ⟨3, 0, 0, 69⟩ s m args below meth c_ H locs 0 0 Q (F0 m 64 ls []) := by
    intro n64
    induction n64 with
    | zero =>
      intro k64 v1_36 mf_36 H locs ls hl hP hS hs hk64
      rw [fX9_laysRows_64] at hs
      cases hs
    | succ n64 ih64 =>
      intro k64 v1_36 mf_36 H locs ls hl hP hS hs hk64
      rw [fX9_laysRows_64] at hs
      have hD : va_D A (MW bd cI ms msv mb mf_36 mr mt mn ml mat mw mm mh) := nd_DD hD rfl
      refine lv_iload_n hx hb dX9_laysRows_64 rfl (lv_at hl 1 rfl) ?_
      refine lv_bipush (v := (10 : Int32)) hx hb dX9_laysRows_65 (by decide) ?_
      refine lv_aload_n hx hb dX9_laysRows_67 rfl (lv_at hl 0 rfl) ?_
      refine gf_X9_7 hx hb hts hown hK hP 0 rfl rfl dX9_laysRows_68 ?_
      refine lv_iconst (v := (0 : Int32)) hx hb dX9_laysRows_71 (by decide) ?_
      obtain ⟨t37, et37, hs⟩ := ob hs
      refine nd_iald hx hb hK hP 1 0 rfl rfl et37 dX9_laysRows_72 ?_
      refine lv_ishl hx hb dX9_laysRows_73 ?_
      refine lv_icmp_ge (tgt := 152) hx hb dX9_laysRows_74 (by decide) (fun b38 => ?_) (fun b38 => ?_)
      · have hs := ite_t hs b38
        exact hk64 mf_36 _ _ _ (lv_sub hl [] rfl) hP hS hs
      · have hs := ite_f hs b38
        refine lv_iload_n hx hb dX9_laysRows_77 rfl (lv_at hl 1 rfl) ?_
        refine lv_bipush (v := (10 : Int32)) hx hb dX9_laysRows_78 (by decide) ?_
        refine lv_idiv hx hb dX9_laysRows_80 (by decide) ?_
        refine lv_istore_n (lv' := [(2, .int (v1_36 / (10 : Int32))), (0, .ref (bd 0)), (1, .int v1_36)]) hx hb dX9_laysRows_81 rfl hl (by decide) rfl (fun ls hl => ?_)
        refine lv_iconst (v := (0 : Int32)) hx hb dX9_laysRows_82 (by decide) ?_
        refine lv_istore_n (lv' := [(3, .int (0 : Int32)), (2, .int (v1_36 / (10 : Int32))), (0, .ref (bd 0)), (1, .int v1_36)]) hx hb dX9_laysRows_83 rfl hl (by decide) rfl (fun ls hl => ?_)
        have L84 : ∀ (n84 : Nat) (k84 : (Nat → Int32) → Option ((Nat → Int32))) (v3_48 : Int32) (mf_48 : (Nat → Int32)) (H : Heap) (locs : List Loc) (ls : Array Slot), lv_has ls 4 [(0, .ref (bd 0)), (1, .int v1_36), (2, .int (v1_36 / (10 : Int32))), (3, .int v3_48)] → va_P D vwCl (MW bd cI ms msv mb mf_48 mr mt mn ml mat mw mm mh) H → va_S A s.heap H locs → fX9_laysRows_84 k84 ms v1_36 (v1_36 / (10 : Int32)) n84 v3_48 mf_48 = some mf' → (∀ (mf_u48 : (Nat → Int32)) (H : Heap) (locs : List Loc) (ls : Array Slot), lv_has ls 4 [(0, .ref (bd 0)), (1, .int v1_36)] → va_P D vwCl (MW bd cI ms msv mb mf_u48 mr mt mn ml mat mw mm mh) H → va_S A s.heap H locs → k84 mf_u48 = some mf' → W p l e ⟨3, 0, 0, 69⟩ s m args below meth c_ H locs 0 0 Q (F0 m 146 ls [])) → W p l e ⟨3, 0, 0, 69⟩ s m args below meth c_ H locs 0 0 Q (F0 m 84 ls []) := by
          intro n84
          induction n84 with
          | zero =>
            intro k84 v3_48 mf_48 H locs ls hl hP hS hs hk84
            rw [fX9_laysRows_84] at hs
            cases hs
          | succ n84 ih84 =>
            intro k84 v3_48 mf_48 H locs ls hl hP hS hs hk84
            rw [fX9_laysRows_84] at hs
            have hD : va_D A (MW bd cI ms msv mb mf_48 mr mt mn ml mat mw mm mh) := nd_DD hD rfl
            refine lv_iload_n hx hb dX9_laysRows_84 rfl (lv_at hl 3 rfl) ?_
            refine lv_aload_n hx hb dX9_laysRows_85 rfl (lv_at hl 0 rfl) ?_
            refine gf_X9_7 hx hb hts hown hK hP 0 rfl rfl dX9_laysRows_86 ?_
            refine lv_iconst (v := (0 : Int32)) hx hb dX9_laysRows_89 (by decide) ?_
            obtain ⟨t49, et49, hs⟩ := ob hs
            refine nd_iald hx hb hK hP 1 0 rfl rfl et49 dX9_laysRows_90 ?_
            refine lv_icmp_ge (tgt := 146) hx hb dX9_laysRows_91 (by decide) (fun b50 => ?_) (fun b50 => ?_)
            · have hs := ite_t hs b50
              exact hk84 mf_48 _ _ _ (lv_sub hl [0, 1] rfl) hP hS hs
            · have hs := ite_f hs b50
              refine lv_aload_n hx hb dX9_laysRows_94 rfl (lv_at hl 0 rfl) ?_
              refine gf_X9_19 hx hb hts hown hK hP 0 rfl rfl dX9_laysRows_95 ?_
              refine lv_iload_n hx hb dX9_laysRows_98 rfl (lv_at hl 1 rfl) ?_
              obtain ⟨t51, et51, hs⟩ := ob hs
              refine nd_iald hx hb hK hP 4 0 rfl rfl et51 dX9_laysRows_99 ?_
              refine lv_if_eq (tgt := 146) hx hb dX9_laysRows_100 (by decide) (fun b52 => ?_) (fun b52 => ?_)
              · have hs := ite_t hs b52
                exact hk84 mf_48 _ _ _ (lv_sub hl [0, 1] rfl) hP hS hs
              · have hs := ite_f hs b52
                refine lv_aload_n hx hb dX9_laysRows_103 rfl (lv_at hl 0 rfl) ?_
                refine lv_iload_n hx hb dX9_laysRows_104 rfl (lv_at hl 2 rfl) ?_
                refine lv_iload_n hx hb dX9_laysRows_105 rfl (lv_at hl 1 rfl) ?_
                refine lv_bipush (v := (10 : Int32)) hx hb dX9_laysRows_106 (by decide) ?_
                refine lv_irem hx hb dX9_laysRows_108 (by decide) ?_
                refine lv_iload_n hx hb dX9_laysRows_109 rfl (lv_at hl 3 rfl) ?_
                obtain ⟨q53, eq53, hs⟩ := ob hs
                refine nd_callV (As := [.int (v1_36 / (10 : Int32)), .int (v1_36 - v1_36 / (10 : Int32) * (10 : Int32)), .int v3_48]) (rest := []) (st1 := [.int q53]) hx hb hml hown hts hl hP hK hD hS hA hN (mX9_goesOn eq53) iv_X9_goesOn wd_868 0 rfl rfl rfl rfl ⟨Nat.le_of_ble_eq_true rfl, Nat.le_of_ble_eq_true rfl⟩ (Nat.le_of_ble_eq_true rfl) ⟨Nat.zero_le _, Nat.zero_le _⟩ dX9_laysRows_110 rfl rfl (fun H locs hP hD hS => ?_)
                refine lv_if_eq (tgt := 140) hx hb dX9_laysRows_113 (by decide) (fun b54 => ?_) (fun b54 => ?_)
                · have hs := ite_t hs b54
                  refine lv_iinc (v := v3_48 + (1 : Int32)) (lv' := [(3, .int (v3_48 + (1 : Int32))), (0, .ref (bd 0)), (1, .int v1_36), (2, .int (v1_36 / (10 : Int32)))]) hx hb dX9_laysRows_140 hl (k := 3) rfl rfl (by decide) rfl (fun ls hl => ?_)
                  refine lv_goto (tgt := 84) hx hb dX9_laysRows_143 (by decide) ?_
                  exact ih84 k84 (v3_48 + (1 : Int32)) mf_48 _ _ _ (lv_sub hl [1, 2, 3, 0] rfl) hP hS hs hk84
                · have hs := ite_f hs b54
                  refine lv_aload_n hx hb dX9_laysRows_116 rfl (lv_at hl 0 rfl) ?_
                  refine gf_X9_19 hx hb hts hown hK hP 0 rfl rfl dX9_laysRows_117 ?_
                  refine lv_bipush (v := (10 : Int32)) hx hb dX9_laysRows_120 (by decide) ?_
                  refine lv_iload_n hx hb dX9_laysRows_122 rfl (lv_at hl 2 rfl) ?_
                  refine lv_iconst (v := (1 : Int32)) hx hb dX9_laysRows_123 (by decide) ?_
                  refine lv_iload_n hx hb dX9_laysRows_124 rfl (lv_at hl 3 rfl) ?_
                  refine lv_ishl hx hb dX9_laysRows_125 ?_
                  refine lv_ior hx hb dX9_laysRows_126 ?_
                  refine lv_imul hx hb dX9_laysRows_127 ?_
                  refine lv_iload_n hx hb dX9_laysRows_128 rfl (lv_at hl 3 rfl) ?_
                  refine lv_iadd hx hb dX9_laysRows_129 ?_
                  refine lv_dup2_11 hx hb dX9_laysRows_130 rfl rfl ?_
                  obtain ⟨t55, et55, hs⟩ := ob hs
                  refine nd_iald hx hb hK hP 4 0 rfl rfl et55 dX9_laysRows_131 ?_
                  refine lv_aload_n hx hb dX9_laysRows_132 rfl (lv_at hl 0 rfl) ?_
                  refine gf_X9_19 hx hb hts hown hK hP 0 rfl rfl dX9_laysRows_133 ?_
                  refine lv_iload_n hx hb dX9_laysRows_136 rfl (lv_at hl 1 rfl) ?_
                  obtain ⟨t56, et56, hs⟩ := ob hs
                  refine nd_iald hx hb hK hP 4 0 rfl rfl et56 dX9_laysRows_137 ?_
                  refine lv_ior hx hb dX9_laysRows_138 ?_
                  obtain ⟨c57, ec57, hs⟩ := ob hs
                  refine nd_iast hx hb hK hP hD hS 4 0 rfl rfl ec57 dX9_laysRows_139 (fun H locs hP hD hS => ?_)
                  have hP : va_P D vwCl (MW bd cI ms msv mb c57 mr mt mn ml mat mw mm mh) H := hP
                  have hD : va_D A (MW bd cI ms msv mb c57 mr mt mn ml mat mw mm mh) := hD
                  refine lv_iinc (v := v3_48 + (1 : Int32)) (lv' := [(3, .int (v3_48 + (1 : Int32))), (0, .ref (bd 0)), (1, .int v1_36), (2, .int (v1_36 / (10 : Int32)))]) hx hb dX9_laysRows_140 hl (k := 3) rfl rfl (by decide) rfl (fun ls hl => ?_)
                  refine lv_goto (tgt := 84) hx hb dX9_laysRows_143 (by decide) ?_
                  exact ih84 k84 (v3_48 + (1 : Int32)) c57 _ _ _ (lv_sub hl [1, 2, 3, 0] rfl) hP hS hs hk84
        refine L84 LF _ (0 : Int32) mf_36 _ _ _ (lv_sub hl [2, 3, 1, 0] rfl) hP hS hs (fun mf_u48 H locs ls hl hP hS hs => ?_)
        have hD : va_D A (MW bd cI ms msv mb mf_u48 mr mt mn ml mat mw mm mh) := nd_DD hD rfl
        refine lv_iinc (v := v1_36 + (1 : Int32)) (lv' := [(1, .int (v1_36 + (1 : Int32))), (0, .ref (bd 0))]) hx hb dX9_laysRows_146 hl (k := 1) rfl rfl (by decide) rfl (fun ls hl => ?_)
        refine lv_goto (tgt := 64) hx hb dX9_laysRows_149 (by decide) ?_
        exact ih64 k64 (v1_36 + (1 : Int32)) mf_u48 _ _ _ (lv_sub hl [1, 0] rfl) hP hS hs hk64
  refine L64 LF _ (0 : Int32) mf_u11 _ _ _ (lv_sub hl [1, 0] rfl) hP hS hs (fun mf_u36 H locs ls hl hP hS hs => ?_)
  have hD : va_D A (MW bd cI ms msv mb mf_u36 mr mt mn ml mat mw mm mh) := nd_DD hD rfl
  exact hret _ hs hP hS dX9_laysRows_152
def tX9_tellsLongest_0 : List (Nat × Instr × Nat) := [(0, .aload_n 0, 1), (1, .invokevirtual 201, 3), (4, .iconst 0, 1), (5, .istore_n 2, 1), (6, .iconst (-1), 1), (7, .istore_n 3, 1), (8, .iconst (-1), 1), (9, .istore 4, 2), (11, .iconst 0, 1), (12, .istore 5, 2), (14, .iload 5, 2), (16, .bipush 10, 2), (18, .aload_n 0, 1), (19, .getfield 7, 3), (22, .iconst 0, 1), (23, .iaload, 1), (24, .ishl, 1), (25, .if_icmp .ge 123, 3), (28, .aload_n 0, 1), (29, .getfield 19, 3), (32, .iload 5, 2), (34, .iaload, 1), (35, .ifCond .eq 107, 3), (38, .iload 5, 2), (40, .bipush 10, 2), (42, .idiv, 1), (43, .invokestatic 121, 3), (46, .istore 6, 2), (48, .aload_n 0, 1), (49, .getfield 19, 3), (52, .iload 5, 2), (54, .iaload, 1), (55, .invokestatic 124, 3), (58, .istore 7, 2), (60, .iload 6, 2), (62, .iload_n 2, 1), (63, .if_icmp .gt 31, 3), (66, .iload 6, 2), (68, .iload_n 2, 1), (69, .if_icmp .ne 29, 3), (72, .iload 7, 2), (74, .iload_n 3, 1), (75, .if_icmp .lt 19, 3), (78, .iload 7, 2), (80, .iload_n 3, 1), (81, .if_icmp .ne 17, 3), (84, .iload 5, 2), (86, .bipush 10, 2), (88, .irem, 1), (89, .iload 4, 2), (91, .if_icmp .ge 7, 3), (94, .iconst 1, 1), (95, .goto 4, 3), (98, .iconst 0, 1), (99, .istore 8, 2), (101, .iload 8, 2), (103, .ifCond .eq 8, 3), (106, .iload 6, 2), (108, .goto 4, 3), (111, .iload_n 2, 1)]
theorem tX9_tellsLongest_0_ok : tX9_tellsLongest_0.all (fun q => decide (decode cX9_tellsLongest q.1 = .ok q.2)) = true := by decide +kernel
theorem dX9_tellsLongest_0 : decode cX9_tellsLongest 0 = .ok (.aload_n 0, 1) := td tX9_tellsLongest_0_ok 0 (q := (0, .aload_n 0, 1)) rfl
theorem dX9_tellsLongest_1 : decode cX9_tellsLongest 1 = .ok (.invokevirtual 201, 3) := td tX9_tellsLongest_0_ok 1 (q := (1, .invokevirtual 201, 3)) rfl
theorem dX9_tellsLongest_4 : decode cX9_tellsLongest 4 = .ok (.iconst 0, 1) := td tX9_tellsLongest_0_ok 2 (q := (4, .iconst 0, 1)) rfl
theorem dX9_tellsLongest_5 : decode cX9_tellsLongest 5 = .ok (.istore_n 2, 1) := td tX9_tellsLongest_0_ok 3 (q := (5, .istore_n 2, 1)) rfl
theorem dX9_tellsLongest_6 : decode cX9_tellsLongest 6 = .ok (.iconst (-1), 1) := td tX9_tellsLongest_0_ok 4 (q := (6, .iconst (-1), 1)) rfl
theorem dX9_tellsLongest_7 : decode cX9_tellsLongest 7 = .ok (.istore_n 3, 1) := td tX9_tellsLongest_0_ok 5 (q := (7, .istore_n 3, 1)) rfl
theorem dX9_tellsLongest_8 : decode cX9_tellsLongest 8 = .ok (.iconst (-1), 1) := td tX9_tellsLongest_0_ok 6 (q := (8, .iconst (-1), 1)) rfl
theorem dX9_tellsLongest_9 : decode cX9_tellsLongest 9 = .ok (.istore 4, 2) := td tX9_tellsLongest_0_ok 7 (q := (9, .istore 4, 2)) rfl
theorem dX9_tellsLongest_11 : decode cX9_tellsLongest 11 = .ok (.iconst 0, 1) := td tX9_tellsLongest_0_ok 8 (q := (11, .iconst 0, 1)) rfl
theorem dX9_tellsLongest_12 : decode cX9_tellsLongest 12 = .ok (.istore 5, 2) := td tX9_tellsLongest_0_ok 9 (q := (12, .istore 5, 2)) rfl
theorem dX9_tellsLongest_14 : decode cX9_tellsLongest 14 = .ok (.iload 5, 2) := td tX9_tellsLongest_0_ok 10 (q := (14, .iload 5, 2)) rfl
theorem dX9_tellsLongest_16 : decode cX9_tellsLongest 16 = .ok (.bipush 10, 2) := td tX9_tellsLongest_0_ok 11 (q := (16, .bipush 10, 2)) rfl
theorem dX9_tellsLongest_18 : decode cX9_tellsLongest 18 = .ok (.aload_n 0, 1) := td tX9_tellsLongest_0_ok 12 (q := (18, .aload_n 0, 1)) rfl
theorem dX9_tellsLongest_19 : decode cX9_tellsLongest 19 = .ok (.getfield 7, 3) := td tX9_tellsLongest_0_ok 13 (q := (19, .getfield 7, 3)) rfl
theorem dX9_tellsLongest_22 : decode cX9_tellsLongest 22 = .ok (.iconst 0, 1) := td tX9_tellsLongest_0_ok 14 (q := (22, .iconst 0, 1)) rfl
theorem dX9_tellsLongest_23 : decode cX9_tellsLongest 23 = .ok (.iaload, 1) := td tX9_tellsLongest_0_ok 15 (q := (23, .iaload, 1)) rfl
theorem dX9_tellsLongest_24 : decode cX9_tellsLongest 24 = .ok (.ishl, 1) := td tX9_tellsLongest_0_ok 16 (q := (24, .ishl, 1)) rfl
theorem dX9_tellsLongest_25 : decode cX9_tellsLongest 25 = .ok (.if_icmp .ge 123, 3) := td tX9_tellsLongest_0_ok 17 (q := (25, .if_icmp .ge 123, 3)) rfl
theorem dX9_tellsLongest_28 : decode cX9_tellsLongest 28 = .ok (.aload_n 0, 1) := td tX9_tellsLongest_0_ok 18 (q := (28, .aload_n 0, 1)) rfl
theorem dX9_tellsLongest_29 : decode cX9_tellsLongest 29 = .ok (.getfield 19, 3) := td tX9_tellsLongest_0_ok 19 (q := (29, .getfield 19, 3)) rfl
theorem dX9_tellsLongest_32 : decode cX9_tellsLongest 32 = .ok (.iload 5, 2) := td tX9_tellsLongest_0_ok 20 (q := (32, .iload 5, 2)) rfl
theorem dX9_tellsLongest_34 : decode cX9_tellsLongest 34 = .ok (.iaload, 1) := td tX9_tellsLongest_0_ok 21 (q := (34, .iaload, 1)) rfl
theorem dX9_tellsLongest_35 : decode cX9_tellsLongest 35 = .ok (.ifCond .eq 107, 3) := td tX9_tellsLongest_0_ok 22 (q := (35, .ifCond .eq 107, 3)) rfl
theorem dX9_tellsLongest_38 : decode cX9_tellsLongest 38 = .ok (.iload 5, 2) := td tX9_tellsLongest_0_ok 23 (q := (38, .iload 5, 2)) rfl
theorem dX9_tellsLongest_40 : decode cX9_tellsLongest 40 = .ok (.bipush 10, 2) := td tX9_tellsLongest_0_ok 24 (q := (40, .bipush 10, 2)) rfl
theorem dX9_tellsLongest_42 : decode cX9_tellsLongest 42 = .ok (.idiv, 1) := td tX9_tellsLongest_0_ok 25 (q := (42, .idiv, 1)) rfl
theorem dX9_tellsLongest_43 : decode cX9_tellsLongest 43 = .ok (.invokestatic 121, 3) := td tX9_tellsLongest_0_ok 26 (q := (43, .invokestatic 121, 3)) rfl
theorem dX9_tellsLongest_46 : decode cX9_tellsLongest 46 = .ok (.istore 6, 2) := td tX9_tellsLongest_0_ok 27 (q := (46, .istore 6, 2)) rfl
theorem dX9_tellsLongest_48 : decode cX9_tellsLongest 48 = .ok (.aload_n 0, 1) := td tX9_tellsLongest_0_ok 28 (q := (48, .aload_n 0, 1)) rfl
theorem dX9_tellsLongest_49 : decode cX9_tellsLongest 49 = .ok (.getfield 19, 3) := td tX9_tellsLongest_0_ok 29 (q := (49, .getfield 19, 3)) rfl
theorem dX9_tellsLongest_52 : decode cX9_tellsLongest 52 = .ok (.iload 5, 2) := td tX9_tellsLongest_0_ok 30 (q := (52, .iload 5, 2)) rfl
theorem dX9_tellsLongest_54 : decode cX9_tellsLongest 54 = .ok (.iaload, 1) := td tX9_tellsLongest_0_ok 31 (q := (54, .iaload, 1)) rfl
theorem dX9_tellsLongest_55 : decode cX9_tellsLongest 55 = .ok (.invokestatic 124, 3) := td tX9_tellsLongest_0_ok 32 (q := (55, .invokestatic 124, 3)) rfl
theorem dX9_tellsLongest_58 : decode cX9_tellsLongest 58 = .ok (.istore 7, 2) := td tX9_tellsLongest_0_ok 33 (q := (58, .istore 7, 2)) rfl
theorem dX9_tellsLongest_60 : decode cX9_tellsLongest 60 = .ok (.iload 6, 2) := td tX9_tellsLongest_0_ok 34 (q := (60, .iload 6, 2)) rfl
theorem dX9_tellsLongest_62 : decode cX9_tellsLongest 62 = .ok (.iload_n 2, 1) := td tX9_tellsLongest_0_ok 35 (q := (62, .iload_n 2, 1)) rfl
theorem dX9_tellsLongest_63 : decode cX9_tellsLongest 63 = .ok (.if_icmp .gt 31, 3) := td tX9_tellsLongest_0_ok 36 (q := (63, .if_icmp .gt 31, 3)) rfl
theorem dX9_tellsLongest_66 : decode cX9_tellsLongest 66 = .ok (.iload 6, 2) := td tX9_tellsLongest_0_ok 37 (q := (66, .iload 6, 2)) rfl
theorem dX9_tellsLongest_68 : decode cX9_tellsLongest 68 = .ok (.iload_n 2, 1) := td tX9_tellsLongest_0_ok 38 (q := (68, .iload_n 2, 1)) rfl
theorem dX9_tellsLongest_69 : decode cX9_tellsLongest 69 = .ok (.if_icmp .ne 29, 3) := td tX9_tellsLongest_0_ok 39 (q := (69, .if_icmp .ne 29, 3)) rfl
theorem dX9_tellsLongest_72 : decode cX9_tellsLongest 72 = .ok (.iload 7, 2) := td tX9_tellsLongest_0_ok 40 (q := (72, .iload 7, 2)) rfl
theorem dX9_tellsLongest_74 : decode cX9_tellsLongest 74 = .ok (.iload_n 3, 1) := td tX9_tellsLongest_0_ok 41 (q := (74, .iload_n 3, 1)) rfl
theorem dX9_tellsLongest_75 : decode cX9_tellsLongest 75 = .ok (.if_icmp .lt 19, 3) := td tX9_tellsLongest_0_ok 42 (q := (75, .if_icmp .lt 19, 3)) rfl
theorem dX9_tellsLongest_78 : decode cX9_tellsLongest 78 = .ok (.iload 7, 2) := td tX9_tellsLongest_0_ok 43 (q := (78, .iload 7, 2)) rfl
theorem dX9_tellsLongest_80 : decode cX9_tellsLongest 80 = .ok (.iload_n 3, 1) := td tX9_tellsLongest_0_ok 44 (q := (80, .iload_n 3, 1)) rfl
theorem dX9_tellsLongest_81 : decode cX9_tellsLongest 81 = .ok (.if_icmp .ne 17, 3) := td tX9_tellsLongest_0_ok 45 (q := (81, .if_icmp .ne 17, 3)) rfl
theorem dX9_tellsLongest_84 : decode cX9_tellsLongest 84 = .ok (.iload 5, 2) := td tX9_tellsLongest_0_ok 46 (q := (84, .iload 5, 2)) rfl
theorem dX9_tellsLongest_86 : decode cX9_tellsLongest 86 = .ok (.bipush 10, 2) := td tX9_tellsLongest_0_ok 47 (q := (86, .bipush 10, 2)) rfl
theorem dX9_tellsLongest_88 : decode cX9_tellsLongest 88 = .ok (.irem, 1) := td tX9_tellsLongest_0_ok 48 (q := (88, .irem, 1)) rfl
theorem dX9_tellsLongest_89 : decode cX9_tellsLongest 89 = .ok (.iload 4, 2) := td tX9_tellsLongest_0_ok 49 (q := (89, .iload 4, 2)) rfl
theorem dX9_tellsLongest_91 : decode cX9_tellsLongest 91 = .ok (.if_icmp .ge 7, 3) := td tX9_tellsLongest_0_ok 50 (q := (91, .if_icmp .ge 7, 3)) rfl
theorem dX9_tellsLongest_94 : decode cX9_tellsLongest 94 = .ok (.iconst 1, 1) := td tX9_tellsLongest_0_ok 51 (q := (94, .iconst 1, 1)) rfl
theorem dX9_tellsLongest_95 : decode cX9_tellsLongest 95 = .ok (.goto 4, 3) := td tX9_tellsLongest_0_ok 52 (q := (95, .goto 4, 3)) rfl
theorem dX9_tellsLongest_98 : decode cX9_tellsLongest 98 = .ok (.iconst 0, 1) := td tX9_tellsLongest_0_ok 53 (q := (98, .iconst 0, 1)) rfl
theorem dX9_tellsLongest_99 : decode cX9_tellsLongest 99 = .ok (.istore 8, 2) := td tX9_tellsLongest_0_ok 54 (q := (99, .istore 8, 2)) rfl
theorem dX9_tellsLongest_101 : decode cX9_tellsLongest 101 = .ok (.iload 8, 2) := td tX9_tellsLongest_0_ok 55 (q := (101, .iload 8, 2)) rfl
theorem dX9_tellsLongest_103 : decode cX9_tellsLongest 103 = .ok (.ifCond .eq 8, 3) := td tX9_tellsLongest_0_ok 56 (q := (103, .ifCond .eq 8, 3)) rfl
theorem dX9_tellsLongest_106 : decode cX9_tellsLongest 106 = .ok (.iload 6, 2) := td tX9_tellsLongest_0_ok 57 (q := (106, .iload 6, 2)) rfl
theorem dX9_tellsLongest_108 : decode cX9_tellsLongest 108 = .ok (.goto 4, 3) := td tX9_tellsLongest_0_ok 58 (q := (108, .goto 4, 3)) rfl
theorem dX9_tellsLongest_111 : decode cX9_tellsLongest 111 = .ok (.iload_n 2, 1) := td tX9_tellsLongest_0_ok 59 (q := (111, .iload_n 2, 1)) rfl
def tX9_tellsLongest_1 : List (Nat × Instr × Nat) := [(112, .istore_n 2, 1), (113, .iload 8, 2), (115, .ifCond .eq 8, 3), (118, .iload 7, 2), (120, .goto 4, 3), (123, .iload_n 3, 1), (124, .istore_n 3, 1), (125, .iload 8, 2), (127, .ifCond .eq 11, 3), (130, .iload 5, 2), (132, .bipush 10, 2), (134, .irem, 1), (135, .goto 5, 3), (138, .iload 4, 2), (140, .istore 4, 2), (142, .iinc 5 1, 3), (145, .goto (-131), 3), (148, .iload_n 1, 1), (149, .ifCond .ne 7, 3), (152, .iload_n 2, 1), (153, .goto 14, 3), (156, .iload_n 1, 1), (157, .iconst 1, 1), (158, .if_icmp .ne 7, 3), (161, .iload_n 3, 1), (162, .goto 5, 3), (165, .iload 4, 2), (167, .ireturn, 1)]
theorem tX9_tellsLongest_1_ok : tX9_tellsLongest_1.all (fun q => decide (decode cX9_tellsLongest q.1 = .ok q.2)) = true := by decide +kernel
theorem dX9_tellsLongest_112 : decode cX9_tellsLongest 112 = .ok (.istore_n 2, 1) := td tX9_tellsLongest_1_ok 0 (q := (112, .istore_n 2, 1)) rfl
theorem dX9_tellsLongest_113 : decode cX9_tellsLongest 113 = .ok (.iload 8, 2) := td tX9_tellsLongest_1_ok 1 (q := (113, .iload 8, 2)) rfl
theorem dX9_tellsLongest_115 : decode cX9_tellsLongest 115 = .ok (.ifCond .eq 8, 3) := td tX9_tellsLongest_1_ok 2 (q := (115, .ifCond .eq 8, 3)) rfl
theorem dX9_tellsLongest_118 : decode cX9_tellsLongest 118 = .ok (.iload 7, 2) := td tX9_tellsLongest_1_ok 3 (q := (118, .iload 7, 2)) rfl
theorem dX9_tellsLongest_120 : decode cX9_tellsLongest 120 = .ok (.goto 4, 3) := td tX9_tellsLongest_1_ok 4 (q := (120, .goto 4, 3)) rfl
theorem dX9_tellsLongest_123 : decode cX9_tellsLongest 123 = .ok (.iload_n 3, 1) := td tX9_tellsLongest_1_ok 5 (q := (123, .iload_n 3, 1)) rfl
theorem dX9_tellsLongest_124 : decode cX9_tellsLongest 124 = .ok (.istore_n 3, 1) := td tX9_tellsLongest_1_ok 6 (q := (124, .istore_n 3, 1)) rfl
theorem dX9_tellsLongest_125 : decode cX9_tellsLongest 125 = .ok (.iload 8, 2) := td tX9_tellsLongest_1_ok 7 (q := (125, .iload 8, 2)) rfl
theorem dX9_tellsLongest_127 : decode cX9_tellsLongest 127 = .ok (.ifCond .eq 11, 3) := td tX9_tellsLongest_1_ok 8 (q := (127, .ifCond .eq 11, 3)) rfl
theorem dX9_tellsLongest_130 : decode cX9_tellsLongest 130 = .ok (.iload 5, 2) := td tX9_tellsLongest_1_ok 9 (q := (130, .iload 5, 2)) rfl
theorem dX9_tellsLongest_132 : decode cX9_tellsLongest 132 = .ok (.bipush 10, 2) := td tX9_tellsLongest_1_ok 10 (q := (132, .bipush 10, 2)) rfl
theorem dX9_tellsLongest_134 : decode cX9_tellsLongest 134 = .ok (.irem, 1) := td tX9_tellsLongest_1_ok 11 (q := (134, .irem, 1)) rfl
theorem dX9_tellsLongest_135 : decode cX9_tellsLongest 135 = .ok (.goto 5, 3) := td tX9_tellsLongest_1_ok 12 (q := (135, .goto 5, 3)) rfl
theorem dX9_tellsLongest_138 : decode cX9_tellsLongest 138 = .ok (.iload 4, 2) := td tX9_tellsLongest_1_ok 13 (q := (138, .iload 4, 2)) rfl
theorem dX9_tellsLongest_140 : decode cX9_tellsLongest 140 = .ok (.istore 4, 2) := td tX9_tellsLongest_1_ok 14 (q := (140, .istore 4, 2)) rfl
theorem dX9_tellsLongest_142 : decode cX9_tellsLongest 142 = .ok (.iinc 5 1, 3) := td tX9_tellsLongest_1_ok 15 (q := (142, .iinc 5 1, 3)) rfl
theorem dX9_tellsLongest_145 : decode cX9_tellsLongest 145 = .ok (.goto (-131), 3) := td tX9_tellsLongest_1_ok 16 (q := (145, .goto (-131), 3)) rfl
theorem dX9_tellsLongest_148 : decode cX9_tellsLongest 148 = .ok (.iload_n 1, 1) := td tX9_tellsLongest_1_ok 17 (q := (148, .iload_n 1, 1)) rfl
theorem dX9_tellsLongest_149 : decode cX9_tellsLongest 149 = .ok (.ifCond .ne 7, 3) := td tX9_tellsLongest_1_ok 18 (q := (149, .ifCond .ne 7, 3)) rfl
theorem dX9_tellsLongest_152 : decode cX9_tellsLongest 152 = .ok (.iload_n 2, 1) := td tX9_tellsLongest_1_ok 19 (q := (152, .iload_n 2, 1)) rfl
theorem dX9_tellsLongest_153 : decode cX9_tellsLongest 153 = .ok (.goto 14, 3) := td tX9_tellsLongest_1_ok 20 (q := (153, .goto 14, 3)) rfl
theorem dX9_tellsLongest_156 : decode cX9_tellsLongest 156 = .ok (.iload_n 1, 1) := td tX9_tellsLongest_1_ok 21 (q := (156, .iload_n 1, 1)) rfl
theorem dX9_tellsLongest_157 : decode cX9_tellsLongest 157 = .ok (.iconst 1, 1) := td tX9_tellsLongest_1_ok 22 (q := (157, .iconst 1, 1)) rfl
theorem dX9_tellsLongest_158 : decode cX9_tellsLongest 158 = .ok (.if_icmp .ne 7, 3) := td tX9_tellsLongest_1_ok 23 (q := (158, .if_icmp .ne 7, 3)) rfl
theorem dX9_tellsLongest_161 : decode cX9_tellsLongest 161 = .ok (.iload_n 3, 1) := td tX9_tellsLongest_1_ok 24 (q := (161, .iload_n 3, 1)) rfl
theorem dX9_tellsLongest_162 : decode cX9_tellsLongest 162 = .ok (.goto 5, 3) := td tX9_tellsLongest_1_ok 25 (q := (162, .goto 5, 3)) rfl
theorem dX9_tellsLongest_165 : decode cX9_tellsLongest 165 = .ok (.iload 4, 2) := td tX9_tellsLongest_1_ok 26 (q := (165, .iload 4, 2)) rfl
theorem dX9_tellsLongest_167 : decode cX9_tellsLongest 167 = .ok (.ireturn, 1) := td tX9_tellsLongest_1_ok 27 (q := (167, .ireturn, 1)) rfl
def fX9_tellsLongest_14 (k14 : Int32 → Int32 → Int32 → Option (Int32 × (Nat → Int32))) (ms : (Nat → Int32)) (mf : (Nat → Int32)) (x1 : Int32) : Nat → Int32 → Int32 → Int32 → Int32 → Option (Int32 × (Nat → Int32))
  | 0, _, _, _, _ => none
  | n14 + 1, x2, x3, x4, x5 => (Option.bind (aget ms 531 (0 : Int32)) (fun t2 => (if ((10 : Int32) <<< (t2 &&& 31)) ≤ x5 then (k14 x2 x3 x4) else (Option.bind (aget mf 10240 x5) (fun t4 => (if t4 = 0 then (fX9_tellsLongest_14 k14 ms mf x1 n14 x2 x3 x4 (x5 + (1 : Int32))) else (Option.bind (fX9_ones (x5 / (10 : Int32))) (fun q6 => (Option.bind (aget mf 10240 x5) (fun t7 => (Option.bind (fX9_lowest t7) (fun q8 => (if x2 < q6 then (fX9_tellsLongest_14 k14 ms mf x1 n14 q6 q8 (x5 - x5 / (10 : Int32) * (10 : Int32)) (x5 + (1 : Int32))) else (if q6 = x2 then (if q8 < x3 then (fX9_tellsLongest_14 k14 ms mf x1 n14 q6 q8 (x5 - x5 / (10 : Int32) * (10 : Int32)) (x5 + (1 : Int32))) else (if q8 = x3 then (if x4 ≤ (x5 - x5 / (10 : Int32) * (10 : Int32)) then (fX9_tellsLongest_14 k14 ms mf x1 n14 x2 x3 x4 (x5 + (1 : Int32))) else (fX9_tellsLongest_14 k14 ms mf x1 n14 q6 q8 (x5 - x5 / (10 : Int32) * (10 : Int32)) (x5 + (1 : Int32)))) else (fX9_tellsLongest_14 k14 ms mf x1 n14 x2 x3 x4 (x5 + (1 : Int32))))) else (fX9_tellsLongest_14 k14 ms mf x1 n14 x2 x3 x4 (x5 + (1 : Int32)))))))))))))))))
def fX9_tellsLongest (ms : (Nat → Int32)) (mf : (Nat → Int32)) (x1 : Int32) : Option (Int32 × (Nat → Int32)) :=
  (Option.bind (fX9_laysRows ms mf) (fun q1 => (fX9_tellsLongest_14 (fun (u2_14 : Int32) (u3_14 : Int32) (u4_14 : Int32) => (if x1 = 0 then (some (u2_14, q1)) else (if x1 = (1 : Int32) then (some (u3_14, q1)) else (some (u4_14, q1))))) ms q1 x1 LF (0 : Int32) (-1 : Int32) (-1 : Int32) (0 : Int32))))
set_option maxHeartbeats 4000000 in
set_option maxRecDepth 100000 in
theorem mX9_tellsLongest {l : Launch} {D : va_G} {bd : Nat → Nat} {cI : ClassId} {ms : (Nat → Int32)} {msv : (Nat → Int32)} {mb : (Nat → Int32)} {mf : (Nat → Int32)} {mr : (Nat → Int32)} {mt : Int32} {mn : Int32} {ml : Int32} {mat : Int32} {mw : Int32} {mm : Int32} {mh : Int64} {x1 : Int32} {r : Int32} {mf' : (Nat → Int32)} (hs : fX9_tellsLongest ms mf x1 = some (r, mf')) : nd_C l yX9_tellsLongest cX9_tellsLongest 9 (some .int) 4 92 D [(cI, .int)] [.ref (bd 0), .int x1] (MW bd cI ms msv mb mf mr mt mn ml mat mw mm mh) (MW bd cI ms msv mb mf' mr mt mn ml mat mw mm mh) (some (.int r)) := by
  refine nd_ofCi (by decide) (Nat.le_of_ble_eq_true rfl) (fun p e s m args below meth c_ ls A Q hx hb hml hown hts hl hP hK hD hS hA hN hret => ?_)
  have hown : s.vm.findClass RX9 = some m.cls := hown
  have hl : lv_has ls 9 [(0, .ref (bd 0)), (1, .int x1)] := hl
  have hret : ∀ (z0 : Int32) (z1 : (Nat → Int32)) {H : Heap} {locs : List Loc} {pc : Nat} {ls : Array Slot}, some (z0, z1) = some (r, mf') → va_P D vwCl (MW bd cI ms msv mb z1 mr mt mn ml mat mw mm mh) H → va_S A s.heap H locs → decode cX9_tellsLongest pc = .ok (.ireturn, 1) → W p l e ⟨4, 0, 0, 92⟩ s m args below meth c_ H locs 0 0 Q (F0 m pc ls [.int z0]) := by
    intro z0 z1 H locs pc ls h hP hS hd
    cases h
    exact hret hP hS hd
  rw [fX9_tellsLongest] at hs
  refine lv_aload_n hx hb dX9_tellsLongest_0 rfl (lv_at hl 0 rfl) ?_
  obtain ⟨q1, eq1, hs⟩ := ob hs
  refine nd_callV (As := []) (rest := []) (st1 := []) hx hb hml hown hts hl hP hK hD hS hA hN (mX9_laysRows eq1) iv_X9_laysRows wd_864 0 rfl rfl rfl rfl ⟨Nat.le_of_ble_eq_true rfl, Nat.le_of_ble_eq_true rfl⟩ (Nat.le_of_ble_eq_true rfl) ⟨Nat.zero_le _, Nat.zero_le _⟩ dX9_tellsLongest_1 rfl rfl (fun H locs hP hD hS => ?_)
  refine lv_iconst (v := (0 : Int32)) hx hb dX9_tellsLongest_4 (by decide) ?_
  refine lv_istore_n (lv' := [(2, .int (0 : Int32)), (0, .ref (bd 0)), (1, .int x1)]) hx hb dX9_tellsLongest_5 rfl hl (by decide) rfl (fun ls hl => ?_)
  refine lv_iconst (v := (-1 : Int32)) hx hb dX9_tellsLongest_6 (by decide) ?_
  refine lv_istore_n (lv' := [(3, .int (-1 : Int32)), (2, .int (0 : Int32)), (0, .ref (bd 0)), (1, .int x1)]) hx hb dX9_tellsLongest_7 rfl hl (by decide) rfl (fun ls hl => ?_)
  refine lv_iconst (v := (-1 : Int32)) hx hb dX9_tellsLongest_8 (by decide) ?_
  refine lv_istore (lv' := [(4, .int (-1 : Int32)), (3, .int (-1 : Int32)), (2, .int (0 : Int32)), (0, .ref (bd 0)), (1, .int x1)]) hx hb dX9_tellsLongest_9 hl (by decide) rfl (fun ls hl => ?_)
  refine lv_iconst (v := (0 : Int32)) hx hb dX9_tellsLongest_11 (by decide) ?_
  refine lv_istore (lv' := [(5, .int (0 : Int32)), (4, .int (-1 : Int32)), (3, .int (-1 : Int32)), (2, .int (0 : Int32)), (0, .ref (bd 0)), (1, .int x1)]) hx hb dX9_tellsLongest_12 hl (by decide) rfl (fun ls hl => ?_)
  have L14 : ∀ (n14 : Nat) (k14 : Int32 → Int32 → Int32 → Option (Int32 × (Nat → Int32))) (v2_14 : Int32) (v3_14 : Int32) (v4_14 : Int32) (v5_14 : Int32) (H : Heap) (locs : List Loc) (ls : Array Slot), lv_has ls 9 [(0, .ref (bd 0)), (1, .int x1), (2, .int v2_14), (3, .int v3_14), (4, .int v4_14), (5, .int v5_14)] → va_P D vwCl (MW bd cI ms msv mb q1 mr mt mn ml mat mw mm mh) H → va_S A s.heap H locs → fX9_tellsLongest_14 k14 ms q1 x1 n14 v2_14 v3_14 v4_14 v5_14 = some (r, mf') → (∀ (u2_14 : Int32) (u3_14 : Int32) (u4_14 : Int32) (H : Heap) (locs : List Loc) (ls : Array Slot), lv_has ls 9 [(1, .int x1), (2, .int u2_14), (3, .int u3_14), (4, .int u4_14)] → va_P D vwCl (MW bd cI ms msv mb q1 mr mt mn ml mat mw mm mh) H → va_S A s.heap H locs → k14 u2_14 u3_14 u4_14 = some (r, mf') → W p l e ⟨4, 0, 0, 92⟩ s m args below meth c_ H locs 0 0 Q (F0 m 148 ls [])) → W p l e ⟨4, 0, 0, 92⟩ s m args below meth c_ H locs 0 0 Q (F0 m 14 ls []) := by
    intro n14
    induction n14 with
    | zero =>
      intro k14 v2_14 v3_14 v4_14 v5_14 H locs ls hl hP hS hs hk14
      rw [fX9_tellsLongest_14] at hs
      cases hs
    | succ n14 ih14 =>
      intro k14 v2_14 v3_14 v4_14 v5_14 H locs ls hl hP hS hs hk14
      rw [fX9_tellsLongest_14] at hs
      refine lv_iload hx hb dX9_tellsLongest_14 (lv_at hl 5 rfl) ?_
      refine lv_bipush (v := (10 : Int32)) hx hb dX9_tellsLongest_16 (by decide) ?_
      refine lv_aload_n hx hb dX9_tellsLongest_18 rfl (lv_at hl 0 rfl) ?_
      refine gf_X9_7 hx hb hts hown hK hP 0 rfl rfl dX9_tellsLongest_19 ?_
      refine lv_iconst (v := (0 : Int32)) hx hb dX9_tellsLongest_22 (by decide) ?_
      obtain ⟨t15, et15, hs⟩ := ob hs
      refine nd_iald hx hb hK hP 1 0 rfl rfl et15 dX9_tellsLongest_23 ?_
      refine lv_ishl hx hb dX9_tellsLongest_24 ?_
      refine lv_icmp_ge (tgt := 148) hx hb dX9_tellsLongest_25 (by decide) (fun b16 => ?_) (fun b16 => ?_)
      · have hs := ite_t hs b16
        exact hk14 v2_14 v3_14 v4_14 _ _ _ (lv_sub hl [1, 2, 3, 4] rfl) hP hS hs
      · have hs := ite_f hs b16
        refine lv_aload_n hx hb dX9_tellsLongest_28 rfl (lv_at hl 0 rfl) ?_
        refine gf_X9_19 hx hb hts hown hK hP 0 rfl rfl dX9_tellsLongest_29 ?_
        refine lv_iload hx hb dX9_tellsLongest_32 (lv_at hl 5 rfl) ?_
        obtain ⟨t17, et17, hs⟩ := ob hs
        refine nd_iald hx hb hK hP 4 0 rfl rfl et17 dX9_tellsLongest_34 ?_
        refine lv_if_eq (tgt := 142) hx hb dX9_tellsLongest_35 (by decide) (fun b18 => ?_) (fun b18 => ?_)
        · have hs := ite_t hs b18
          refine lv_iinc (v := v5_14 + (1 : Int32)) (lv' := [(5, .int (v5_14 + (1 : Int32))), (0, .ref (bd 0)), (1, .int x1), (2, .int v2_14), (3, .int v3_14), (4, .int v4_14)]) hx hb dX9_tellsLongest_142 hl (k := 5) rfl rfl (by decide) rfl (fun ls hl => ?_)
          refine lv_goto (tgt := 14) hx hb dX9_tellsLongest_145 (by decide) ?_
          exact ih14 k14 v2_14 v3_14 v4_14 (v5_14 + (1 : Int32)) _ _ _ (lv_sub hl [1, 2, 3, 4, 5, 0] rfl) hP hS hs hk14
        · have hs := ite_f hs b18
          refine lv_iload hx hb dX9_tellsLongest_38 (lv_at hl 5 rfl) ?_
          refine lv_bipush (v := (10 : Int32)) hx hb dX9_tellsLongest_40 (by decide) ?_
          refine lv_idiv hx hb dX9_tellsLongest_42 (by decide) ?_
          obtain ⟨q19, eq19, hs⟩ := ob hs
          refine nd_callS (As := [.int (v5_14 / (10 : Int32))]) (rest := []) (st1 := [.int q19]) hx hb hml hown hts hl hP hK hD hS hA hN (mX9_ones eq19) is_X9_ones wd_475 rfl rfl ⟨Nat.le_of_ble_eq_true rfl, Nat.le_of_ble_eq_true rfl⟩ (Nat.le_of_ble_eq_true rfl) ⟨Nat.zero_le _, Nat.zero_le _⟩ dX9_tellsLongest_43 rfl rfl (fun H locs hP hD hS => ?_)
          refine lv_istore (lv' := [(6, .int q19), (0, .ref (bd 0)), (1, .int x1), (2, .int v2_14), (3, .int v3_14), (4, .int v4_14), (5, .int v5_14)]) hx hb dX9_tellsLongest_46 hl (by decide) rfl (fun ls hl => ?_)
          refine lv_aload_n hx hb dX9_tellsLongest_48 rfl (lv_at hl 1 rfl) ?_
          refine gf_X9_19 hx hb hts hown hK hP 0 rfl rfl dX9_tellsLongest_49 ?_
          refine lv_iload hx hb dX9_tellsLongest_52 (lv_at hl 6 rfl) ?_
          obtain ⟨t20, et20, hs⟩ := ob hs
          refine nd_iald hx hb hK hP 4 0 rfl rfl et20 dX9_tellsLongest_54 ?_
          obtain ⟨q21, eq21, hs⟩ := ob hs
          refine nd_callS (As := [.int t20]) (rest := []) (st1 := [.int q21]) hx hb hml hown hts hl hP hK hD hS hA hN (mX9_lowest eq21) is_X9_lowest wd_478 rfl rfl ⟨Nat.le_of_ble_eq_true rfl, Nat.le_of_ble_eq_true rfl⟩ (Nat.le_of_ble_eq_true rfl) ⟨Nat.zero_le _, Nat.zero_le _⟩ dX9_tellsLongest_55 rfl rfl (fun H locs hP hD hS => ?_)
          refine lv_istore (lv' := [(7, .int q21), (6, .int q19), (0, .ref (bd 0)), (1, .int x1), (2, .int v2_14), (3, .int v3_14), (4, .int v4_14), (5, .int v5_14)]) hx hb dX9_tellsLongest_58 hl (by decide) rfl (fun ls hl => ?_)
          refine lv_iload hx hb dX9_tellsLongest_60 (lv_at hl 1 rfl) ?_
          refine lv_iload_n hx hb dX9_tellsLongest_62 rfl (lv_at hl 4 rfl) ?_
          refine lv_icmp_gt (tgt := 94) hx hb dX9_tellsLongest_63 (by decide) (fun b22 => ?_) (fun b22 => ?_)
          · have hs := ite_t hs b22
            refine lv_iconst (v := (1 : Int32)) hx hb dX9_tellsLongest_94 (by decide) ?_
            refine lv_goto (tgt := 99) hx hb dX9_tellsLongest_95 (by decide) ?_
            refine lv_istore (lv' := [(8, .int (1 : Int32)), (7, .int q21), (6, .int q19), (0, .ref (bd 0)), (1, .int x1), (2, .int v2_14), (3, .int v3_14), (4, .int v4_14), (5, .int v5_14)]) hx hb dX9_tellsLongest_99 hl (by decide) rfl (fun ls hl => ?_)
            refine lv_iload hx hb dX9_tellsLongest_101 (lv_at hl 0 rfl) ?_
            refine lv_if_eq (tgt := 111) hx hb dX9_tellsLongest_103 (by decide) (fun h => absurd h (by decide)) (fun _ => ?_)
            refine lv_iload hx hb dX9_tellsLongest_106 (lv_at hl 2 rfl) ?_
            refine lv_goto (tgt := 112) hx hb dX9_tellsLongest_108 (by decide) ?_
            refine lv_istore_n (lv' := [(2, .int q19), (8, .int (1 : Int32)), (7, .int q21), (6, .int q19), (0, .ref (bd 0)), (1, .int x1), (3, .int v3_14), (4, .int v4_14), (5, .int v5_14)]) hx hb dX9_tellsLongest_112 rfl hl (by decide) rfl (fun ls hl => ?_)
            refine lv_iload hx hb dX9_tellsLongest_113 (lv_at hl 1 rfl) ?_
            refine lv_if_eq (tgt := 123) hx hb dX9_tellsLongest_115 (by decide) (fun h => absurd h (by decide)) (fun _ => ?_)
            refine lv_iload hx hb dX9_tellsLongest_118 (lv_at hl 2 rfl) ?_
            refine lv_goto (tgt := 124) hx hb dX9_tellsLongest_120 (by decide) ?_
            refine lv_istore_n (lv' := [(3, .int q21), (2, .int q19), (8, .int (1 : Int32)), (7, .int q21), (6, .int q19), (0, .ref (bd 0)), (1, .int x1), (4, .int v4_14), (5, .int v5_14)]) hx hb dX9_tellsLongest_124 rfl hl (by decide) rfl (fun ls hl => ?_)
            refine lv_iload hx hb dX9_tellsLongest_125 (lv_at hl 2 rfl) ?_
            refine lv_if_eq (tgt := 138) hx hb dX9_tellsLongest_127 (by decide) (fun h => absurd h (by decide)) (fun _ => ?_)
            refine lv_iload hx hb dX9_tellsLongest_130 (lv_at hl 8 rfl) ?_
            refine lv_bipush (v := (10 : Int32)) hx hb dX9_tellsLongest_132 (by decide) ?_
            refine lv_irem hx hb dX9_tellsLongest_134 (by decide) ?_
            refine lv_goto (tgt := 140) hx hb dX9_tellsLongest_135 (by decide) ?_
            refine lv_istore (lv' := [(4, .int (v5_14 - v5_14 / (10 : Int32) * (10 : Int32))), (3, .int q21), (2, .int q19), (8, .int (1 : Int32)), (7, .int q21), (6, .int q19), (0, .ref (bd 0)), (1, .int x1), (5, .int v5_14)]) hx hb dX9_tellsLongest_140 hl (by decide) rfl (fun ls hl => ?_)
            refine lv_iinc (v := v5_14 + (1 : Int32)) (lv' := [(5, .int (v5_14 + (1 : Int32))), (4, .int (v5_14 - v5_14 / (10 : Int32) * (10 : Int32))), (3, .int q21), (2, .int q19), (8, .int (1 : Int32)), (7, .int q21), (6, .int q19), (0, .ref (bd 0)), (1, .int x1)]) hx hb dX9_tellsLongest_142 hl (k := 8) rfl rfl (by decide) rfl (fun ls hl => ?_)
            refine lv_goto (tgt := 14) hx hb dX9_tellsLongest_145 (by decide) ?_
            exact ih14 k14 q19 q21 (v5_14 - v5_14 / (10 : Int32) * (10 : Int32)) (v5_14 + (1 : Int32)) _ _ _ (lv_sub hl [7, 8, 3, 2, 1, 0] rfl) hP hS hs hk14
          · have hs := ite_f hs b22
            refine lv_iload hx hb dX9_tellsLongest_66 (lv_at hl 1 rfl) ?_
            refine lv_iload_n hx hb dX9_tellsLongest_68 rfl (lv_at hl 4 rfl) ?_
            refine lv_icmp_ne (tgt := 98) hx hb dX9_tellsLongest_69 (by decide) (fun b23 => ?_) (fun b23 => ?_)
            · have hs := ite_f hs b23
              refine lv_iconst (v := (0 : Int32)) hx hb dX9_tellsLongest_98 (by decide) ?_
              refine lv_istore (lv' := [(8, .int (0 : Int32)), (7, .int q21), (6, .int q19), (0, .ref (bd 0)), (1, .int x1), (2, .int v2_14), (3, .int v3_14), (4, .int v4_14), (5, .int v5_14)]) hx hb dX9_tellsLongest_99 hl (by decide) rfl (fun ls hl => ?_)
              refine lv_iload hx hb dX9_tellsLongest_101 (lv_at hl 0 rfl) ?_
              refine lv_if_eq (tgt := 111) hx hb dX9_tellsLongest_103 (by decide) (fun _ => ?_) (fun h => absurd (by decide) h)
              refine lv_iload_n hx hb dX9_tellsLongest_111 rfl (lv_at hl 5 rfl) ?_
              refine lv_istore_n (lv' := [(2, .int v2_14), (8, .int (0 : Int32)), (7, .int q21), (6, .int q19), (0, .ref (bd 0)), (1, .int x1), (3, .int v3_14), (4, .int v4_14), (5, .int v5_14)]) hx hb dX9_tellsLongest_112 rfl hl (by decide) rfl (fun ls hl => ?_)
              refine lv_iload hx hb dX9_tellsLongest_113 (lv_at hl 1 rfl) ?_
              refine lv_if_eq (tgt := 123) hx hb dX9_tellsLongest_115 (by decide) (fun _ => ?_) (fun h => absurd (by decide) h)
              refine lv_iload_n hx hb dX9_tellsLongest_123 rfl (lv_at hl 6 rfl) ?_
              refine lv_istore_n (lv' := [(3, .int v3_14), (2, .int v2_14), (8, .int (0 : Int32)), (7, .int q21), (6, .int q19), (0, .ref (bd 0)), (1, .int x1), (4, .int v4_14), (5, .int v5_14)]) hx hb dX9_tellsLongest_124 rfl hl (by decide) rfl (fun ls hl => ?_)
              refine lv_iload hx hb dX9_tellsLongest_125 (lv_at hl 2 rfl) ?_
              refine lv_if_eq (tgt := 138) hx hb dX9_tellsLongest_127 (by decide) (fun _ => ?_) (fun h => absurd (by decide) h)
              refine lv_iload hx hb dX9_tellsLongest_138 (lv_at hl 7 rfl) ?_
              refine lv_istore (lv' := [(4, .int v4_14), (3, .int v3_14), (2, .int v2_14), (8, .int (0 : Int32)), (7, .int q21), (6, .int q19), (0, .ref (bd 0)), (1, .int x1), (5, .int v5_14)]) hx hb dX9_tellsLongest_140 hl (by decide) rfl (fun ls hl => ?_)
              refine lv_iinc (v := v5_14 + (1 : Int32)) (lv' := [(5, .int (v5_14 + (1 : Int32))), (4, .int v4_14), (3, .int v3_14), (2, .int v2_14), (8, .int (0 : Int32)), (7, .int q21), (6, .int q19), (0, .ref (bd 0)), (1, .int x1)]) hx hb dX9_tellsLongest_142 hl (k := 8) rfl rfl (by decide) rfl (fun ls hl => ?_)
              refine lv_goto (tgt := 14) hx hb dX9_tellsLongest_145 (by decide) ?_
              exact ih14 k14 v2_14 v3_14 v4_14 (v5_14 + (1 : Int32)) _ _ _ (lv_sub hl [7, 8, 3, 2, 1, 0] rfl) hP hS hs hk14
            · have hs := ite_t hs b23
              refine lv_iload hx hb dX9_tellsLongest_72 (lv_at hl 0 rfl) ?_
              refine lv_iload_n hx hb dX9_tellsLongest_74 rfl (lv_at hl 5 rfl) ?_
              refine lv_icmp_lt (tgt := 94) hx hb dX9_tellsLongest_75 (by decide) (fun b24 => ?_) (fun b24 => ?_)
              · have hs := ite_t hs b24
                refine lv_iconst (v := (1 : Int32)) hx hb dX9_tellsLongest_94 (by decide) ?_
                refine lv_goto (tgt := 99) hx hb dX9_tellsLongest_95 (by decide) ?_
                refine lv_istore (lv' := [(8, .int (1 : Int32)), (7, .int q21), (6, .int q19), (0, .ref (bd 0)), (1, .int x1), (2, .int v2_14), (3, .int v3_14), (4, .int v4_14), (5, .int v5_14)]) hx hb dX9_tellsLongest_99 hl (by decide) rfl (fun ls hl => ?_)
                refine lv_iload hx hb dX9_tellsLongest_101 (lv_at hl 0 rfl) ?_
                refine lv_if_eq (tgt := 111) hx hb dX9_tellsLongest_103 (by decide) (fun h => absurd h (by decide)) (fun _ => ?_)
                refine lv_iload hx hb dX9_tellsLongest_106 (lv_at hl 2 rfl) ?_
                refine lv_goto (tgt := 112) hx hb dX9_tellsLongest_108 (by decide) ?_
                refine lv_istore_n (lv' := [(2, .int q19), (8, .int (1 : Int32)), (7, .int q21), (6, .int q19), (0, .ref (bd 0)), (1, .int x1), (3, .int v3_14), (4, .int v4_14), (5, .int v5_14)]) hx hb dX9_tellsLongest_112 rfl hl (by decide) rfl (fun ls hl => ?_)
                refine lv_iload hx hb dX9_tellsLongest_113 (lv_at hl 1 rfl) ?_
                refine lv_if_eq (tgt := 123) hx hb dX9_tellsLongest_115 (by decide) (fun h => absurd h (by decide)) (fun _ => ?_)
                refine lv_iload hx hb dX9_tellsLongest_118 (lv_at hl 2 rfl) ?_
                refine lv_goto (tgt := 124) hx hb dX9_tellsLongest_120 (by decide) ?_
                refine lv_istore_n (lv' := [(3, .int q21), (2, .int q19), (8, .int (1 : Int32)), (7, .int q21), (6, .int q19), (0, .ref (bd 0)), (1, .int x1), (4, .int v4_14), (5, .int v5_14)]) hx hb dX9_tellsLongest_124 rfl hl (by decide) rfl (fun ls hl => ?_)
                refine lv_iload hx hb dX9_tellsLongest_125 (lv_at hl 2 rfl) ?_
                refine lv_if_eq (tgt := 138) hx hb dX9_tellsLongest_127 (by decide) (fun h => absurd h (by decide)) (fun _ => ?_)
                refine lv_iload hx hb dX9_tellsLongest_130 (lv_at hl 8 rfl) ?_
                refine lv_bipush (v := (10 : Int32)) hx hb dX9_tellsLongest_132 (by decide) ?_
                refine lv_irem hx hb dX9_tellsLongest_134 (by decide) ?_
                refine lv_goto (tgt := 140) hx hb dX9_tellsLongest_135 (by decide) ?_
                refine lv_istore (lv' := [(4, .int (v5_14 - v5_14 / (10 : Int32) * (10 : Int32))), (3, .int q21), (2, .int q19), (8, .int (1 : Int32)), (7, .int q21), (6, .int q19), (0, .ref (bd 0)), (1, .int x1), (5, .int v5_14)]) hx hb dX9_tellsLongest_140 hl (by decide) rfl (fun ls hl => ?_)
                refine lv_iinc (v := v5_14 + (1 : Int32)) (lv' := [(5, .int (v5_14 + (1 : Int32))), (4, .int (v5_14 - v5_14 / (10 : Int32) * (10 : Int32))), (3, .int q21), (2, .int q19), (8, .int (1 : Int32)), (7, .int q21), (6, .int q19), (0, .ref (bd 0)), (1, .int x1)]) hx hb dX9_tellsLongest_142 hl (k := 8) rfl rfl (by decide) rfl (fun ls hl => ?_)
                refine lv_goto (tgt := 14) hx hb dX9_tellsLongest_145 (by decide) ?_
                exact ih14 k14 q19 q21 (v5_14 - v5_14 / (10 : Int32) * (10 : Int32)) (v5_14 + (1 : Int32)) _ _ _ (lv_sub hl [7, 8, 3, 2, 1, 0] rfl) hP hS hs hk14
              · have hs := ite_f hs b24
                refine lv_iload hx hb dX9_tellsLongest_78 (lv_at hl 0 rfl) ?_
                refine lv_iload_n hx hb dX9_tellsLongest_80 rfl (lv_at hl 5 rfl) ?_
                refine lv_icmp_ne (tgt := 98) hx hb dX9_tellsLongest_81 (by decide) (fun b25 => ?_) (fun b25 => ?_)
                · have hs := ite_f hs b25
                  refine lv_iconst (v := (0 : Int32)) hx hb dX9_tellsLongest_98 (by decide) ?_
                  refine lv_istore (lv' := [(8, .int (0 : Int32)), (7, .int q21), (6, .int q19), (0, .ref (bd 0)), (1, .int x1), (2, .int v2_14), (3, .int v3_14), (4, .int v4_14), (5, .int v5_14)]) hx hb dX9_tellsLongest_99 hl (by decide) rfl (fun ls hl => ?_)
                  refine lv_iload hx hb dX9_tellsLongest_101 (lv_at hl 0 rfl) ?_
                  refine lv_if_eq (tgt := 111) hx hb dX9_tellsLongest_103 (by decide) (fun _ => ?_) (fun h => absurd (by decide) h)
                  refine lv_iload_n hx hb dX9_tellsLongest_111 rfl (lv_at hl 5 rfl) ?_
                  refine lv_istore_n (lv' := [(2, .int v2_14), (8, .int (0 : Int32)), (7, .int q21), (6, .int q19), (0, .ref (bd 0)), (1, .int x1), (3, .int v3_14), (4, .int v4_14), (5, .int v5_14)]) hx hb dX9_tellsLongest_112 rfl hl (by decide) rfl (fun ls hl => ?_)
                  refine lv_iload hx hb dX9_tellsLongest_113 (lv_at hl 1 rfl) ?_
                  refine lv_if_eq (tgt := 123) hx hb dX9_tellsLongest_115 (by decide) (fun _ => ?_) (fun h => absurd (by decide) h)
                  refine lv_iload_n hx hb dX9_tellsLongest_123 rfl (lv_at hl 6 rfl) ?_
                  refine lv_istore_n (lv' := [(3, .int v3_14), (2, .int v2_14), (8, .int (0 : Int32)), (7, .int q21), (6, .int q19), (0, .ref (bd 0)), (1, .int x1), (4, .int v4_14), (5, .int v5_14)]) hx hb dX9_tellsLongest_124 rfl hl (by decide) rfl (fun ls hl => ?_)
                  refine lv_iload hx hb dX9_tellsLongest_125 (lv_at hl 2 rfl) ?_
                  refine lv_if_eq (tgt := 138) hx hb dX9_tellsLongest_127 (by decide) (fun _ => ?_) (fun h => absurd (by decide) h)
                  refine lv_iload hx hb dX9_tellsLongest_138 (lv_at hl 7 rfl) ?_
                  refine lv_istore (lv' := [(4, .int v4_14), (3, .int v3_14), (2, .int v2_14), (8, .int (0 : Int32)), (7, .int q21), (6, .int q19), (0, .ref (bd 0)), (1, .int x1), (5, .int v5_14)]) hx hb dX9_tellsLongest_140 hl (by decide) rfl (fun ls hl => ?_)
                  refine lv_iinc (v := v5_14 + (1 : Int32)) (lv' := [(5, .int (v5_14 + (1 : Int32))), (4, .int v4_14), (3, .int v3_14), (2, .int v2_14), (8, .int (0 : Int32)), (7, .int q21), (6, .int q19), (0, .ref (bd 0)), (1, .int x1)]) hx hb dX9_tellsLongest_142 hl (k := 8) rfl rfl (by decide) rfl (fun ls hl => ?_)
                  refine lv_goto (tgt := 14) hx hb dX9_tellsLongest_145 (by decide) ?_
                  exact ih14 k14 v2_14 v3_14 v4_14 (v5_14 + (1 : Int32)) _ _ _ (lv_sub hl [7, 8, 3, 2, 1, 0] rfl) hP hS hs hk14
                · have hs := ite_t hs b25
                  refine lv_iload hx hb dX9_tellsLongest_84 (lv_at hl 7 rfl) ?_
                  refine lv_bipush (v := (10 : Int32)) hx hb dX9_tellsLongest_86 (by decide) ?_
                  refine lv_irem hx hb dX9_tellsLongest_88 (by decide) ?_
                  refine lv_iload hx hb dX9_tellsLongest_89 (lv_at hl 6 rfl) ?_
                  refine lv_icmp_ge (tgt := 98) hx hb dX9_tellsLongest_91 (by decide) (fun b26 => ?_) (fun b26 => ?_)
                  · have hs := ite_t hs b26
                    refine lv_iconst (v := (0 : Int32)) hx hb dX9_tellsLongest_98 (by decide) ?_
                    refine lv_istore (lv' := [(8, .int (0 : Int32)), (7, .int q21), (6, .int q19), (0, .ref (bd 0)), (1, .int x1), (2, .int v2_14), (3, .int v3_14), (4, .int v4_14), (5, .int v5_14)]) hx hb dX9_tellsLongest_99 hl (by decide) rfl (fun ls hl => ?_)
                    refine lv_iload hx hb dX9_tellsLongest_101 (lv_at hl 0 rfl) ?_
                    refine lv_if_eq (tgt := 111) hx hb dX9_tellsLongest_103 (by decide) (fun _ => ?_) (fun h => absurd (by decide) h)
                    refine lv_iload_n hx hb dX9_tellsLongest_111 rfl (lv_at hl 5 rfl) ?_
                    refine lv_istore_n (lv' := [(2, .int v2_14), (8, .int (0 : Int32)), (7, .int q21), (6, .int q19), (0, .ref (bd 0)), (1, .int x1), (3, .int v3_14), (4, .int v4_14), (5, .int v5_14)]) hx hb dX9_tellsLongest_112 rfl hl (by decide) rfl (fun ls hl => ?_)
                    refine lv_iload hx hb dX9_tellsLongest_113 (lv_at hl 1 rfl) ?_
                    refine lv_if_eq (tgt := 123) hx hb dX9_tellsLongest_115 (by decide) (fun _ => ?_) (fun h => absurd (by decide) h)
                    refine lv_iload_n hx hb dX9_tellsLongest_123 rfl (lv_at hl 6 rfl) ?_
                    refine lv_istore_n (lv' := [(3, .int v3_14), (2, .int v2_14), (8, .int (0 : Int32)), (7, .int q21), (6, .int q19), (0, .ref (bd 0)), (1, .int x1), (4, .int v4_14), (5, .int v5_14)]) hx hb dX9_tellsLongest_124 rfl hl (by decide) rfl (fun ls hl => ?_)
                    refine lv_iload hx hb dX9_tellsLongest_125 (lv_at hl 2 rfl) ?_
                    refine lv_if_eq (tgt := 138) hx hb dX9_tellsLongest_127 (by decide) (fun _ => ?_) (fun h => absurd (by decide) h)
                    refine lv_iload hx hb dX9_tellsLongest_138 (lv_at hl 7 rfl) ?_
                    refine lv_istore (lv' := [(4, .int v4_14), (3, .int v3_14), (2, .int v2_14), (8, .int (0 : Int32)), (7, .int q21), (6, .int q19), (0, .ref (bd 0)), (1, .int x1), (5, .int v5_14)]) hx hb dX9_tellsLongest_140 hl (by decide) rfl (fun ls hl => ?_)
                    refine lv_iinc (v := v5_14 + (1 : Int32)) (lv' := [(5, .int (v5_14 + (1 : Int32))), (4, .int v4_14), (3, .int v3_14), (2, .int v2_14), (8, .int (0 : Int32)), (7, .int q21), (6, .int q19), (0, .ref (bd 0)), (1, .int x1)]) hx hb dX9_tellsLongest_142 hl (k := 8) rfl rfl (by decide) rfl (fun ls hl => ?_)
                    refine lv_goto (tgt := 14) hx hb dX9_tellsLongest_145 (by decide) ?_
                    exact ih14 k14 v2_14 v3_14 v4_14 (v5_14 + (1 : Int32)) _ _ _ (lv_sub hl [7, 8, 3, 2, 1, 0] rfl) hP hS hs hk14
                  · have hs := ite_f hs b26
                    refine lv_iconst (v := (1 : Int32)) hx hb dX9_tellsLongest_94 (by decide) ?_
                    refine lv_goto (tgt := 99) hx hb dX9_tellsLongest_95 (by decide) ?_
                    refine lv_istore (lv' := [(8, .int (1 : Int32)), (7, .int q21), (6, .int q19), (0, .ref (bd 0)), (1, .int x1), (2, .int v2_14), (3, .int v3_14), (4, .int v4_14), (5, .int v5_14)]) hx hb dX9_tellsLongest_99 hl (by decide) rfl (fun ls hl => ?_)
                    refine lv_iload hx hb dX9_tellsLongest_101 (lv_at hl 0 rfl) ?_
                    refine lv_if_eq (tgt := 111) hx hb dX9_tellsLongest_103 (by decide) (fun h => absurd h (by decide)) (fun _ => ?_)
                    refine lv_iload hx hb dX9_tellsLongest_106 (lv_at hl 2 rfl) ?_
                    refine lv_goto (tgt := 112) hx hb dX9_tellsLongest_108 (by decide) ?_
                    refine lv_istore_n (lv' := [(2, .int q19), (8, .int (1 : Int32)), (7, .int q21), (6, .int q19), (0, .ref (bd 0)), (1, .int x1), (3, .int v3_14), (4, .int v4_14), (5, .int v5_14)]) hx hb dX9_tellsLongest_112 rfl hl (by decide) rfl (fun ls hl => ?_)
                    refine lv_iload hx hb dX9_tellsLongest_113 (lv_at hl 1 rfl) ?_
                    refine lv_if_eq (tgt := 123) hx hb dX9_tellsLongest_115 (by decide) (fun h => absurd h (by decide)) (fun _ => ?_)
                    refine lv_iload hx hb dX9_tellsLongest_118 (lv_at hl 2 rfl) ?_
                    refine lv_goto (tgt := 124) hx hb dX9_tellsLongest_120 (by decide) ?_
                    refine lv_istore_n (lv' := [(3, .int q21), (2, .int q19), (8, .int (1 : Int32)), (7, .int q21), (6, .int q19), (0, .ref (bd 0)), (1, .int x1), (4, .int v4_14), (5, .int v5_14)]) hx hb dX9_tellsLongest_124 rfl hl (by decide) rfl (fun ls hl => ?_)
                    refine lv_iload hx hb dX9_tellsLongest_125 (lv_at hl 2 rfl) ?_
                    refine lv_if_eq (tgt := 138) hx hb dX9_tellsLongest_127 (by decide) (fun h => absurd h (by decide)) (fun _ => ?_)
                    refine lv_iload hx hb dX9_tellsLongest_130 (lv_at hl 8 rfl) ?_
                    refine lv_bipush (v := (10 : Int32)) hx hb dX9_tellsLongest_132 (by decide) ?_
                    refine lv_irem hx hb dX9_tellsLongest_134 (by decide) ?_
                    refine lv_goto (tgt := 140) hx hb dX9_tellsLongest_135 (by decide) ?_
                    refine lv_istore (lv' := [(4, .int (v5_14 - v5_14 / (10 : Int32) * (10 : Int32))), (3, .int q21), (2, .int q19), (8, .int (1 : Int32)), (7, .int q21), (6, .int q19), (0, .ref (bd 0)), (1, .int x1), (5, .int v5_14)]) hx hb dX9_tellsLongest_140 hl (by decide) rfl (fun ls hl => ?_)
                    refine lv_iinc (v := v5_14 + (1 : Int32)) (lv' := [(5, .int (v5_14 + (1 : Int32))), (4, .int (v5_14 - v5_14 / (10 : Int32) * (10 : Int32))), (3, .int q21), (2, .int q19), (8, .int (1 : Int32)), (7, .int q21), (6, .int q19), (0, .ref (bd 0)), (1, .int x1)]) hx hb dX9_tellsLongest_142 hl (k := 8) rfl rfl (by decide) rfl (fun ls hl => ?_)
                    refine lv_goto (tgt := 14) hx hb dX9_tellsLongest_145 (by decide) ?_
                    exact ih14 k14 q19 q21 (v5_14 - v5_14 / (10 : Int32) * (10 : Int32)) (v5_14 + (1 : Int32)) _ _ _ (lv_sub hl [7, 8, 3, 2, 1, 0] rfl) hP hS hs hk14
  refine L14 LF _ (0 : Int32) (-1 : Int32) (-1 : Int32) (0 : Int32) _ _ _ (lv_sub hl [4, 5, 3, 2, 1, 0] rfl) hP hS hs (fun u2_14 u3_14 u4_14 H locs ls hl hP hS hs => ?_)
  refine lv_iload_n hx hb dX9_tellsLongest_148 rfl (lv_at hl 0 rfl) ?_
  refine lv_if_ne (tgt := 156) hx hb dX9_tellsLongest_149 (by decide) (fun b27 => ?_) (fun b27 => ?_)
  · have hs := ite_f hs b27
    refine lv_iload_n hx hb dX9_tellsLongest_156 rfl (lv_at hl 0 rfl) ?_
    refine lv_iconst (v := (1 : Int32)) hx hb dX9_tellsLongest_157 (by decide) ?_
    refine lv_icmp_ne (tgt := 165) hx hb dX9_tellsLongest_158 (by decide) (fun b28 => ?_) (fun b28 => ?_)
    · have hs := ite_f hs b28
      refine lv_iload hx hb dX9_tellsLongest_165 (lv_at hl 3 rfl) ?_
      exact hret _ _ hs hP hS dX9_tellsLongest_167
    · have hs := ite_t hs b28
      refine lv_iload_n hx hb dX9_tellsLongest_161 rfl (lv_at hl 2 rfl) ?_
      refine lv_goto (tgt := 167) hx hb dX9_tellsLongest_162 (by decide) ?_
      exact hret _ _ hs hP hS dX9_tellsLongest_167
  · have hs := ite_t hs b27
    refine lv_iload_n hx hb dX9_tellsLongest_152 rfl (lv_at hl 1 rfl) ?_
    refine lv_goto (tgt := 167) hx hb dX9_tellsLongest_153 (by decide) ?_
    exact hret _ _ hs hP hS dX9_tellsLongest_167
def tX9_longest_0 : List (Nat × Instr × Nat) := [(0, .aload_n 0, 1), (1, .iconst 0, 1), (2, .putfield 25, 3), (5, .iload_n 1, 1), (6, .iconst 0, 1), (7, .iconst 2, 1), (8, .invokestatic 29, 3), (11, .ifCond .eq 11, 3), (14, .aload_n 0, 1), (15, .iload_n 1, 1), (16, .invokevirtual 204, 3), (19, .goto 8, 3), (22, .aload_n 0, 1), (23, .iconst 1, 1), (24, .invokevirtual 79, 3), (27, .ireturn, 1)]
theorem tX9_longest_0_ok : tX9_longest_0.all (fun q => decide (decode cX9_longest q.1 = .ok q.2)) = true := by decide +kernel
theorem dX9_longest_0 : decode cX9_longest 0 = .ok (.aload_n 0, 1) := td tX9_longest_0_ok 0 (q := (0, .aload_n 0, 1)) rfl
theorem dX9_longest_1 : decode cX9_longest 1 = .ok (.iconst 0, 1) := td tX9_longest_0_ok 1 (q := (1, .iconst 0, 1)) rfl
theorem dX9_longest_2 : decode cX9_longest 2 = .ok (.putfield 25, 3) := td tX9_longest_0_ok 2 (q := (2, .putfield 25, 3)) rfl
theorem dX9_longest_5 : decode cX9_longest 5 = .ok (.iload_n 1, 1) := td tX9_longest_0_ok 3 (q := (5, .iload_n 1, 1)) rfl
theorem dX9_longest_6 : decode cX9_longest 6 = .ok (.iconst 0, 1) := td tX9_longest_0_ok 4 (q := (6, .iconst 0, 1)) rfl
theorem dX9_longest_7 : decode cX9_longest 7 = .ok (.iconst 2, 1) := td tX9_longest_0_ok 5 (q := (7, .iconst 2, 1)) rfl
theorem dX9_longest_8 : decode cX9_longest 8 = .ok (.invokestatic 29, 3) := td tX9_longest_0_ok 6 (q := (8, .invokestatic 29, 3)) rfl
theorem dX9_longest_11 : decode cX9_longest 11 = .ok (.ifCond .eq 11, 3) := td tX9_longest_0_ok 7 (q := (11, .ifCond .eq 11, 3)) rfl
theorem dX9_longest_14 : decode cX9_longest 14 = .ok (.aload_n 0, 1) := td tX9_longest_0_ok 8 (q := (14, .aload_n 0, 1)) rfl
theorem dX9_longest_15 : decode cX9_longest 15 = .ok (.iload_n 1, 1) := td tX9_longest_0_ok 9 (q := (15, .iload_n 1, 1)) rfl
theorem dX9_longest_16 : decode cX9_longest 16 = .ok (.invokevirtual 204, 3) := td tX9_longest_0_ok 10 (q := (16, .invokevirtual 204, 3)) rfl
theorem dX9_longest_19 : decode cX9_longest 19 = .ok (.goto 8, 3) := td tX9_longest_0_ok 11 (q := (19, .goto 8, 3)) rfl
theorem dX9_longest_22 : decode cX9_longest 22 = .ok (.aload_n 0, 1) := td tX9_longest_0_ok 12 (q := (22, .aload_n 0, 1)) rfl
theorem dX9_longest_23 : decode cX9_longest 23 = .ok (.iconst 1, 1) := td tX9_longest_0_ok 13 (q := (23, .iconst 1, 1)) rfl
theorem dX9_longest_24 : decode cX9_longest 24 = .ok (.invokevirtual 79, 3) := td tX9_longest_0_ok 14 (q := (24, .invokevirtual 79, 3)) rfl
theorem dX9_longest_27 : decode cX9_longest 27 = .ok (.ireturn, 1) := td tX9_longest_0_ok 15 (q := (27, .ireturn, 1)) rfl
def fX9_longest (ms : (Nat → Int32)) (mf : (Nat → Int32)) (mt : Int32) (x1 : Int32) : Option (Int32 × (Nat → Int32) × Int32) :=
  (Option.bind (fX9_in x1 (0 : Int32) (2 : Int32)) (fun q1 => (if q1 = 0 then (Option.bind (fX9_fails (0 : Int32) (1 : Int32)) (fun q3 => (some (q3.1, mf, q3.2)))) else (Option.bind (fX9_tellsLongest ms mf x1) (fun q4 => (some (q4.1, q4.2, (0 : Int32))))))))
set_option maxHeartbeats 4000000 in
set_option maxRecDepth 100000 in
theorem mX9_longest {l : Launch} {D : va_G} {bd : Nat → Nat} {cI : ClassId} {ms : (Nat → Int32)} {msv : (Nat → Int32)} {mb : (Nat → Int32)} {mf : (Nat → Int32)} {mr : (Nat → Int32)} {mt : Int32} {mn : Int32} {ml : Int32} {mat : Int32} {mw : Int32} {mm : Int32} {mh : Int64} {x1 : Int32} {r : Int32} {mf' : (Nat → Int32)} {mt' : Int32} (hs : fX9_longest ms mf mt x1 = some (r, mf', mt')) : nd_C l yX9_longest cX9_longest 2 (some .int) 5 120 D [(cI, .int)] [.ref (bd 0), .int x1] (MW bd cI ms msv mb mf mr mt mn ml mat mw mm mh) (MW bd cI ms msv mb mf' mr mt' mn ml mat mw mm mh) (some (.int r)) := by
  refine nd_ofCi (by decide) (Nat.le_of_ble_eq_true rfl) (fun p e s m args below meth c_ ls A Q hx hb hml hown hts hl hP hK hD hS hA hN hret => ?_)
  have hown : s.vm.findClass RX9 = some m.cls := hown
  have hl : lv_has ls 2 [(0, .ref (bd 0)), (1, .int x1)] := hl
  have hret : ∀ (z0 : Int32) (z1 : (Nat → Int32)) (z2 : Int32) {H : Heap} {locs : List Loc} {pc : Nat} {ls : Array Slot}, some (z0, z1, z2) = some (r, mf', mt') → va_P D vwCl (MW bd cI ms msv mb z1 mr z2 mn ml mat mw mm mh) H → va_S A s.heap H locs → decode cX9_longest pc = .ok (.ireturn, 1) → W p l e ⟨5, 0, 0, 120⟩ s m args below meth c_ H locs 0 0 Q (F0 m pc ls [.int z0]) := by
    intro z0 z1 z2 H locs pc ls h hP hS hd
    cases h
    exact hret hP hS hd
  rw [fX9_longest] at hs
  refine lv_aload_n hx hb dX9_longest_0 rfl (lv_at hl 0 rfl) ?_
  refine lv_iconst (v := (0 : Int32)) hx hb dX9_longest_1 (by decide) ?_
  refine pf_X9_25 hx hb hts hown hK hP hD hS 0 rfl rfl dX9_longest_2 (fun H locs hP hD hS => ?_)
  have hP : va_P D vwCl (MW bd cI ms msv mb mf mr (0 : Int32) mn ml mat mw mm mh) H := hP
  have hD : va_D A (MW bd cI ms msv mb mf mr (0 : Int32) mn ml mat mw mm mh) := hD
  refine lv_iload_n hx hb dX9_longest_5 rfl (lv_at hl 1 rfl) ?_
  refine lv_iconst (v := (0 : Int32)) hx hb dX9_longest_6 (by decide) ?_
  refine lv_iconst (v := (2 : Int32)) hx hb dX9_longest_7 (by decide) ?_
  obtain ⟨q1, eq1, hs⟩ := ob hs
  refine nd_callS (As := [.int x1, .int (0 : Int32), .int (2 : Int32)]) (rest := []) (st1 := [.int q1]) hx hb hml hown hts hl hP hK hD hS hA hN (mX9_in eq1) is_X9_in wd_127 rfl rfl ⟨Nat.le_of_ble_eq_true rfl, Nat.le_of_ble_eq_true rfl⟩ (Nat.le_of_ble_eq_true rfl) ⟨Nat.zero_le _, Nat.zero_le _⟩ dX9_longest_8 rfl rfl (fun H locs hP hD hS => ?_)
  refine lv_if_eq (tgt := 22) hx hb dX9_longest_11 (by decide) (fun b2 => ?_) (fun b2 => ?_)
  · have hs := ite_t hs b2
    refine lv_aload_n hx hb dX9_longest_22 rfl (lv_at hl 0 rfl) ?_
    refine lv_iconst (v := (1 : Int32)) hx hb dX9_longest_23 (by decide) ?_
    obtain ⟨q3, eq3, hs⟩ := ob hs
    refine nd_callV (As := [.int (1 : Int32)]) (rest := []) (st1 := [.int q3.1]) hx hb hml hown hts hl hP hK hD hS hA hN (mX9_fails eq3) iv_X9_fails wd_130 0 rfl rfl rfl rfl ⟨Nat.le_of_ble_eq_true rfl, Nat.le_of_ble_eq_true rfl⟩ (Nat.le_of_ble_eq_true rfl) ⟨Nat.zero_le _, Nat.zero_le _⟩ dX9_longest_24 rfl rfl (fun H locs hP hD hS => ?_)
    exact hret _ _ _ hs hP hS dX9_longest_27
  · have hs := ite_f hs b2
    refine lv_aload_n hx hb dX9_longest_14 rfl (lv_at hl 0 rfl) ?_
    refine lv_iload_n hx hb dX9_longest_15 rfl (lv_at hl 1 rfl) ?_
    obtain ⟨q4, eq4, hs⟩ := ob hs
    refine nd_callV (As := [.int x1]) (rest := []) (st1 := [.int q4.1]) hx hb hml hown hts hl hP hK hD hS hA hN (mX9_tellsLongest eq4) iv_X9_tellsLongest wd_860 0 rfl rfl rfl rfl ⟨Nat.le_of_ble_eq_true rfl, Nat.le_of_ble_eq_true rfl⟩ (Nat.le_of_ble_eq_true rfl) ⟨Nat.zero_le _, Nat.zero_le _⟩ dX9_longest_16 rfl rfl (fun H locs hP hD hS => ?_)
    refine lv_goto (tgt := 27) hx hb dX9_longest_19 (by decide) ?_
    exact hret _ _ _ hs hP hS dX9_longest_27
def tX9_wrongOf_0 : List (Nat × Instr × Nat) := [(0, .iconst 0, 1), (1, .istore_n 3, 1), (2, .iconst 0, 1), (3, .istore 4, 2), (5, .iload 4, 2), (7, .aload_n 0, 1), (8, .getfield 7, 3), (11, .iconst 0, 1), (12, .iaload, 1), (13, .if_icmp .ge 101, 3), (16, .iconst 0, 1), (17, .istore 5, 2), (19, .iload 5, 2), (21, .aload_n 0, 1), (22, .iload 4, 2), (24, .iconst 2, 1), (25, .invokevirtual 33, 3), (28, .if_icmp .ge 80, 3), (31, .iload_n 2, 1), (32, .ifCond .eq 22, 3), (35, .aload_n 0, 1), (36, .iload 4, 2), (38, .iload 5, 2), (40, .invokevirtual 158, 3), (43, .ifCond .ne 7, 3), (46, .iconst 0, 1), (47, .goto 27, 3), (50, .iconst 1, 1), (51, .goto 23, 3), (54, .aload_n 0, 1), (55, .iload 4, 2), (57, .iload 5, 2), (59, .invokevirtual 47, 3), (62, .aload_n 0, 1), (63, .iload 4, 2), (65, .iload 5, 2), (67, .invokevirtual 108, 3), (70, .isub, 1), (71, .invokestatic 207, 3), (74, .istore 6, 2), (76, .iload_n 3, 1), (77, .iload_n 1, 1), (78, .iconst (-1), 1), (79, .if_icmp .eq 15, 3), (82, .aload_n 0, 1), (83, .iload 4, 2), (85, .iload 5, 2), (87, .invokevirtual 155, 3), (90, .iload_n 1, 1), (91, .if_icmp .ne 8, 3), (94, .iload 6, 2), (96, .goto 4, 3), (99, .iconst 0, 1), (100, .iadd, 1), (101, .istore_n 3, 1), (102, .iinc 5 1, 3), (105, .goto (-86), 3), (108, .iinc 4 1, 3), (111, .goto (-106), 3), (114, .iload_n 3, 1)]
theorem tX9_wrongOf_0_ok : tX9_wrongOf_0.all (fun q => decide (decode cX9_wrongOf q.1 = .ok q.2)) = true := by decide +kernel
theorem dX9_wrongOf_0 : decode cX9_wrongOf 0 = .ok (.iconst 0, 1) := td tX9_wrongOf_0_ok 0 (q := (0, .iconst 0, 1)) rfl
theorem dX9_wrongOf_1 : decode cX9_wrongOf 1 = .ok (.istore_n 3, 1) := td tX9_wrongOf_0_ok 1 (q := (1, .istore_n 3, 1)) rfl
theorem dX9_wrongOf_2 : decode cX9_wrongOf 2 = .ok (.iconst 0, 1) := td tX9_wrongOf_0_ok 2 (q := (2, .iconst 0, 1)) rfl
theorem dX9_wrongOf_3 : decode cX9_wrongOf 3 = .ok (.istore 4, 2) := td tX9_wrongOf_0_ok 3 (q := (3, .istore 4, 2)) rfl
theorem dX9_wrongOf_5 : decode cX9_wrongOf 5 = .ok (.iload 4, 2) := td tX9_wrongOf_0_ok 4 (q := (5, .iload 4, 2)) rfl
theorem dX9_wrongOf_7 : decode cX9_wrongOf 7 = .ok (.aload_n 0, 1) := td tX9_wrongOf_0_ok 5 (q := (7, .aload_n 0, 1)) rfl
theorem dX9_wrongOf_8 : decode cX9_wrongOf 8 = .ok (.getfield 7, 3) := td tX9_wrongOf_0_ok 6 (q := (8, .getfield 7, 3)) rfl
theorem dX9_wrongOf_11 : decode cX9_wrongOf 11 = .ok (.iconst 0, 1) := td tX9_wrongOf_0_ok 7 (q := (11, .iconst 0, 1)) rfl
theorem dX9_wrongOf_12 : decode cX9_wrongOf 12 = .ok (.iaload, 1) := td tX9_wrongOf_0_ok 8 (q := (12, .iaload, 1)) rfl
theorem dX9_wrongOf_13 : decode cX9_wrongOf 13 = .ok (.if_icmp .ge 101, 3) := td tX9_wrongOf_0_ok 9 (q := (13, .if_icmp .ge 101, 3)) rfl
theorem dX9_wrongOf_16 : decode cX9_wrongOf 16 = .ok (.iconst 0, 1) := td tX9_wrongOf_0_ok 10 (q := (16, .iconst 0, 1)) rfl
theorem dX9_wrongOf_17 : decode cX9_wrongOf 17 = .ok (.istore 5, 2) := td tX9_wrongOf_0_ok 11 (q := (17, .istore 5, 2)) rfl
theorem dX9_wrongOf_19 : decode cX9_wrongOf 19 = .ok (.iload 5, 2) := td tX9_wrongOf_0_ok 12 (q := (19, .iload 5, 2)) rfl
theorem dX9_wrongOf_21 : decode cX9_wrongOf 21 = .ok (.aload_n 0, 1) := td tX9_wrongOf_0_ok 13 (q := (21, .aload_n 0, 1)) rfl
theorem dX9_wrongOf_22 : decode cX9_wrongOf 22 = .ok (.iload 4, 2) := td tX9_wrongOf_0_ok 14 (q := (22, .iload 4, 2)) rfl
theorem dX9_wrongOf_24 : decode cX9_wrongOf 24 = .ok (.iconst 2, 1) := td tX9_wrongOf_0_ok 15 (q := (24, .iconst 2, 1)) rfl
theorem dX9_wrongOf_25 : decode cX9_wrongOf 25 = .ok (.invokevirtual 33, 3) := td tX9_wrongOf_0_ok 16 (q := (25, .invokevirtual 33, 3)) rfl
theorem dX9_wrongOf_28 : decode cX9_wrongOf 28 = .ok (.if_icmp .ge 80, 3) := td tX9_wrongOf_0_ok 17 (q := (28, .if_icmp .ge 80, 3)) rfl
theorem dX9_wrongOf_31 : decode cX9_wrongOf 31 = .ok (.iload_n 2, 1) := td tX9_wrongOf_0_ok 18 (q := (31, .iload_n 2, 1)) rfl
theorem dX9_wrongOf_32 : decode cX9_wrongOf 32 = .ok (.ifCond .eq 22, 3) := td tX9_wrongOf_0_ok 19 (q := (32, .ifCond .eq 22, 3)) rfl
theorem dX9_wrongOf_35 : decode cX9_wrongOf 35 = .ok (.aload_n 0, 1) := td tX9_wrongOf_0_ok 20 (q := (35, .aload_n 0, 1)) rfl
theorem dX9_wrongOf_36 : decode cX9_wrongOf 36 = .ok (.iload 4, 2) := td tX9_wrongOf_0_ok 21 (q := (36, .iload 4, 2)) rfl
theorem dX9_wrongOf_38 : decode cX9_wrongOf 38 = .ok (.iload 5, 2) := td tX9_wrongOf_0_ok 22 (q := (38, .iload 5, 2)) rfl
theorem dX9_wrongOf_40 : decode cX9_wrongOf 40 = .ok (.invokevirtual 158, 3) := td tX9_wrongOf_0_ok 23 (q := (40, .invokevirtual 158, 3)) rfl
theorem dX9_wrongOf_43 : decode cX9_wrongOf 43 = .ok (.ifCond .ne 7, 3) := td tX9_wrongOf_0_ok 24 (q := (43, .ifCond .ne 7, 3)) rfl
theorem dX9_wrongOf_46 : decode cX9_wrongOf 46 = .ok (.iconst 0, 1) := td tX9_wrongOf_0_ok 25 (q := (46, .iconst 0, 1)) rfl
theorem dX9_wrongOf_47 : decode cX9_wrongOf 47 = .ok (.goto 27, 3) := td tX9_wrongOf_0_ok 26 (q := (47, .goto 27, 3)) rfl
theorem dX9_wrongOf_50 : decode cX9_wrongOf 50 = .ok (.iconst 1, 1) := td tX9_wrongOf_0_ok 27 (q := (50, .iconst 1, 1)) rfl
theorem dX9_wrongOf_51 : decode cX9_wrongOf 51 = .ok (.goto 23, 3) := td tX9_wrongOf_0_ok 28 (q := (51, .goto 23, 3)) rfl
theorem dX9_wrongOf_54 : decode cX9_wrongOf 54 = .ok (.aload_n 0, 1) := td tX9_wrongOf_0_ok 29 (q := (54, .aload_n 0, 1)) rfl
theorem dX9_wrongOf_55 : decode cX9_wrongOf 55 = .ok (.iload 4, 2) := td tX9_wrongOf_0_ok 30 (q := (55, .iload 4, 2)) rfl
theorem dX9_wrongOf_57 : decode cX9_wrongOf 57 = .ok (.iload 5, 2) := td tX9_wrongOf_0_ok 31 (q := (57, .iload 5, 2)) rfl
theorem dX9_wrongOf_59 : decode cX9_wrongOf 59 = .ok (.invokevirtual 47, 3) := td tX9_wrongOf_0_ok 32 (q := (59, .invokevirtual 47, 3)) rfl
theorem dX9_wrongOf_62 : decode cX9_wrongOf 62 = .ok (.aload_n 0, 1) := td tX9_wrongOf_0_ok 33 (q := (62, .aload_n 0, 1)) rfl
theorem dX9_wrongOf_63 : decode cX9_wrongOf 63 = .ok (.iload 4, 2) := td tX9_wrongOf_0_ok 34 (q := (63, .iload 4, 2)) rfl
theorem dX9_wrongOf_65 : decode cX9_wrongOf 65 = .ok (.iload 5, 2) := td tX9_wrongOf_0_ok 35 (q := (65, .iload 5, 2)) rfl
theorem dX9_wrongOf_67 : decode cX9_wrongOf 67 = .ok (.invokevirtual 108, 3) := td tX9_wrongOf_0_ok 36 (q := (67, .invokevirtual 108, 3)) rfl
theorem dX9_wrongOf_70 : decode cX9_wrongOf 70 = .ok (.isub, 1) := td tX9_wrongOf_0_ok 37 (q := (70, .isub, 1)) rfl
theorem dX9_wrongOf_71 : decode cX9_wrongOf 71 = .ok (.invokestatic 207, 3) := td tX9_wrongOf_0_ok 38 (q := (71, .invokestatic 207, 3)) rfl
theorem dX9_wrongOf_74 : decode cX9_wrongOf 74 = .ok (.istore 6, 2) := td tX9_wrongOf_0_ok 39 (q := (74, .istore 6, 2)) rfl
theorem dX9_wrongOf_76 : decode cX9_wrongOf 76 = .ok (.iload_n 3, 1) := td tX9_wrongOf_0_ok 40 (q := (76, .iload_n 3, 1)) rfl
theorem dX9_wrongOf_77 : decode cX9_wrongOf 77 = .ok (.iload_n 1, 1) := td tX9_wrongOf_0_ok 41 (q := (77, .iload_n 1, 1)) rfl
theorem dX9_wrongOf_78 : decode cX9_wrongOf 78 = .ok (.iconst (-1), 1) := td tX9_wrongOf_0_ok 42 (q := (78, .iconst (-1), 1)) rfl
theorem dX9_wrongOf_79 : decode cX9_wrongOf 79 = .ok (.if_icmp .eq 15, 3) := td tX9_wrongOf_0_ok 43 (q := (79, .if_icmp .eq 15, 3)) rfl
theorem dX9_wrongOf_82 : decode cX9_wrongOf 82 = .ok (.aload_n 0, 1) := td tX9_wrongOf_0_ok 44 (q := (82, .aload_n 0, 1)) rfl
theorem dX9_wrongOf_83 : decode cX9_wrongOf 83 = .ok (.iload 4, 2) := td tX9_wrongOf_0_ok 45 (q := (83, .iload 4, 2)) rfl
theorem dX9_wrongOf_85 : decode cX9_wrongOf 85 = .ok (.iload 5, 2) := td tX9_wrongOf_0_ok 46 (q := (85, .iload 5, 2)) rfl
theorem dX9_wrongOf_87 : decode cX9_wrongOf 87 = .ok (.invokevirtual 155, 3) := td tX9_wrongOf_0_ok 47 (q := (87, .invokevirtual 155, 3)) rfl
theorem dX9_wrongOf_90 : decode cX9_wrongOf 90 = .ok (.iload_n 1, 1) := td tX9_wrongOf_0_ok 48 (q := (90, .iload_n 1, 1)) rfl
theorem dX9_wrongOf_91 : decode cX9_wrongOf 91 = .ok (.if_icmp .ne 8, 3) := td tX9_wrongOf_0_ok 49 (q := (91, .if_icmp .ne 8, 3)) rfl
theorem dX9_wrongOf_94 : decode cX9_wrongOf 94 = .ok (.iload 6, 2) := td tX9_wrongOf_0_ok 50 (q := (94, .iload 6, 2)) rfl
theorem dX9_wrongOf_96 : decode cX9_wrongOf 96 = .ok (.goto 4, 3) := td tX9_wrongOf_0_ok 51 (q := (96, .goto 4, 3)) rfl
theorem dX9_wrongOf_99 : decode cX9_wrongOf 99 = .ok (.iconst 0, 1) := td tX9_wrongOf_0_ok 52 (q := (99, .iconst 0, 1)) rfl
theorem dX9_wrongOf_100 : decode cX9_wrongOf 100 = .ok (.iadd, 1) := td tX9_wrongOf_0_ok 53 (q := (100, .iadd, 1)) rfl
theorem dX9_wrongOf_101 : decode cX9_wrongOf 101 = .ok (.istore_n 3, 1) := td tX9_wrongOf_0_ok 54 (q := (101, .istore_n 3, 1)) rfl
theorem dX9_wrongOf_102 : decode cX9_wrongOf 102 = .ok (.iinc 5 1, 3) := td tX9_wrongOf_0_ok 55 (q := (102, .iinc 5 1, 3)) rfl
theorem dX9_wrongOf_105 : decode cX9_wrongOf 105 = .ok (.goto (-86), 3) := td tX9_wrongOf_0_ok 56 (q := (105, .goto (-86), 3)) rfl
theorem dX9_wrongOf_108 : decode cX9_wrongOf 108 = .ok (.iinc 4 1, 3) := td tX9_wrongOf_0_ok 57 (q := (108, .iinc 4 1, 3)) rfl
theorem dX9_wrongOf_111 : decode cX9_wrongOf 111 = .ok (.goto (-106), 3) := td tX9_wrongOf_0_ok 58 (q := (111, .goto (-106), 3)) rfl
theorem dX9_wrongOf_114 : decode cX9_wrongOf 114 = .ok (.iload_n 3, 1) := td tX9_wrongOf_0_ok 59 (q := (114, .iload_n 3, 1)) rfl
def tX9_wrongOf_1 : List (Nat × Instr × Nat) := [(115, .ireturn, 1)]
theorem tX9_wrongOf_1_ok : tX9_wrongOf_1.all (fun q => decide (decode cX9_wrongOf q.1 = .ok q.2)) = true := by decide +kernel
theorem dX9_wrongOf_115 : decode cX9_wrongOf 115 = .ok (.ireturn, 1) := td tX9_wrongOf_1_ok 0 (q := (115, .ireturn, 1)) rfl
def fX9_wrongOf_19 (k19 : Int32 → Option (Int32)) (ms : (Nat → Int32)) (x1 : Int32) (x2 : Int32) (x4 : Int32) : Nat → Int32 → Int32 → Option (Int32)
  | 0, _, _ => none
  | n19 + 1, x3, x5 => (Option.bind (fX9_of ms x4 (2 : Int32)) (fun q3 => (if q3 ≤ x5 then (k19 x3) else (if x2 = 0 then (Option.bind (fX9_sumOf ms x4 x5) (fun q6 => (Option.bind (fX9_totalOf ms x4 x5) (fun q7 => (Option.bind (fX9_size (q6 - q7)) (fun q8 => (if x1 = (-1 : Int32) then (fX9_wrongOf_19 k19 ms x1 x2 x4 n19 (x3 + q8) (x5 + (1 : Int32))) else (Option.bind (fX9_shopOf ms x4 x5) (fun q10 => (if q10 = x1 then (fX9_wrongOf_19 k19 ms x1 x2 x4 n19 (x3 + q8) (x5 + (1 : Int32))) else (fX9_wrongOf_19 k19 ms x1 x2 x4 n19 (x3 + (0 : Int32)) (x5 + (1 : Int32))))))))))))) else (Option.bind (fX9_stateOf ms x4 x5) (fun q12 => (if q12 = 0 then (if x1 = (-1 : Int32) then (fX9_wrongOf_19 k19 ms x1 x2 x4 n19 (x3 + (0 : Int32)) (x5 + (1 : Int32))) else (Option.bind (fX9_shopOf ms x4 x5) (fun q18 => (if q18 = x1 then (fX9_wrongOf_19 k19 ms x1 x2 x4 n19 (x3 + (0 : Int32)) (x5 + (1 : Int32))) else (fX9_wrongOf_19 k19 ms x1 x2 x4 n19 (x3 + (0 : Int32)) (x5 + (1 : Int32))))))) else (if x1 = (-1 : Int32) then (fX9_wrongOf_19 k19 ms x1 x2 x4 n19 (x3 + (1 : Int32)) (x5 + (1 : Int32))) else (Option.bind (fX9_shopOf ms x4 x5) (fun q15 => (if q15 = x1 then (fX9_wrongOf_19 k19 ms x1 x2 x4 n19 (x3 + (1 : Int32)) (x5 + (1 : Int32))) else (fX9_wrongOf_19 k19 ms x1 x2 x4 n19 (x3 + (0 : Int32)) (x5 + (1 : Int32))))))))))))))
def fX9_wrongOf_5 (k5 : Int32 → Option (Int32)) (ms : (Nat → Int32)) (x1 : Int32) (x2 : Int32) : Nat → Int32 → Int32 → Option (Int32)
  | 0, _, _ => none
  | n5 + 1, x3, x4 => (Option.bind (aget ms 531 (0 : Int32)) (fun t1 => (if t1 ≤ x4 then (k5 x3) else (fX9_wrongOf_19 (fun (u3_20 : Int32) => (fX9_wrongOf_5 k5 ms x1 x2 n5 u3_20 (x4 + (1 : Int32)))) ms x1 x2 x4 LF x3 (0 : Int32)))))
def fX9_wrongOf (ms : (Nat → Int32)) (x1 : Int32) (x2 : Int32) : Option (Int32) :=
  (fX9_wrongOf_5 (fun (u3_38 : Int32) => (some u3_38)) ms x1 x2 LF (0 : Int32) (0 : Int32))
set_option maxHeartbeats 4000000 in
set_option maxRecDepth 100000 in
theorem mX9_wrongOf {l : Launch} {D : va_G} {bd : Nat → Nat} {cI : ClassId} {ms : (Nat → Int32)} {msv : (Nat → Int32)} {mb : (Nat → Int32)} {mf : (Nat → Int32)} {mr : (Nat → Int32)} {mt : Int32} {mn : Int32} {ml : Int32} {mat : Int32} {mw : Int32} {mm : Int32} {mh : Int64} {x1 : Int32} {x2 : Int32} {r : Int32} (hs : fX9_wrongOf ms x1 x2 = some r) : nd_C l yX9_wrongOf cX9_wrongOf 7 (some .int) 3 74 D [(cI, .int)] [.ref (bd 0), .int x1, .int x2] (MW bd cI ms msv mb mf mr mt mn ml mat mw mm mh) (MW bd cI ms msv mb mf mr mt mn ml mat mw mm mh) (some (.int r)) := by
  refine nd_ofCi (by decide) (Nat.le_of_ble_eq_true rfl) (fun p e s m args below meth c_ ls A Q hx hb hml hown hts hl hP hK hD hS hA hN hret => ?_)
  have hown : s.vm.findClass RX9 = some m.cls := hown
  have hl : lv_has ls 7 [(0, .ref (bd 0)), (1, .int x1), (2, .int x2)] := hl
  have hret : ∀ (z0 : Int32) {H : Heap} {locs : List Loc} {pc : Nat} {ls : Array Slot}, some z0 = some r → va_P D vwCl (MW bd cI ms msv mb mf mr mt mn ml mat mw mm mh) H → va_S A s.heap H locs → decode cX9_wrongOf pc = .ok (.ireturn, 1) → W p l e ⟨3, 0, 0, 74⟩ s m args below meth c_ H locs 0 0 Q (F0 m pc ls [.int z0]) := by
    intro z0 H locs pc ls h hP hS hd
    cases h
    exact hret hP hS hd
  rw [fX9_wrongOf] at hs
  refine lv_iconst (v := (0 : Int32)) hx hb dX9_wrongOf_0 (by decide) ?_
  refine lv_istore_n (lv' := [(3, .int (0 : Int32)), (0, .ref (bd 0)), (1, .int x1), (2, .int x2)]) hx hb dX9_wrongOf_1 rfl hl (by decide) rfl (fun ls hl => ?_)
  refine lv_iconst (v := (0 : Int32)) hx hb dX9_wrongOf_2 (by decide) ?_
  refine lv_istore (lv' := [(4, .int (0 : Int32)), (3, .int (0 : Int32)), (0, .ref (bd 0)), (1, .int x1), (2, .int x2)]) hx hb dX9_wrongOf_3 hl (by decide) rfl (fun ls hl => ?_)
  have L5 : ∀ (n5 : Nat) (k5 : Int32 → Option (Int32)) (v3_38 : Int32) (v4_38 : Int32) (H : Heap) (locs : List Loc) (ls : Array Slot), lv_has ls 7 [(0, .ref (bd 0)), (1, .int x1), (2, .int x2), (3, .int v3_38), (4, .int v4_38)] → va_P D vwCl (MW bd cI ms msv mb mf mr mt mn ml mat mw mm mh) H → va_S A s.heap H locs → fX9_wrongOf_5 k5 ms x1 x2 n5 v3_38 v4_38 = some r → (∀ (u3_38 : Int32) (H : Heap) (locs : List Loc) (ls : Array Slot), lv_has ls 7 [(3, .int u3_38)] → va_P D vwCl (MW bd cI ms msv mb mf mr mt mn ml mat mw mm mh) H → va_S A s.heap H locs → k5 u3_38 = some r → W p l e ⟨3, 0, 0, 74⟩ s m args below meth c_ H locs 0 0 Q (F0 m 114 ls [])) → W p l e ⟨3, 0, 0, 74⟩ s m args below meth c_ H locs 0 0 Q (F0 m 5 ls []) := by
    intro n5
    induction n5 with
    | zero =>
      intro k5 v3_38 v4_38 H locs ls hl hP hS hs hk5
      rw [fX9_wrongOf_5] at hs
      cases hs
    | succ n5 ih5 =>
      intro k5 v3_38 v4_38 H locs ls hl hP hS hs hk5
      rw [fX9_wrongOf_5] at hs
      refine lv_iload hx hb dX9_wrongOf_5 (lv_at hl 4 rfl) ?_
      refine lv_aload_n hx hb dX9_wrongOf_7 rfl (lv_at hl 0 rfl) ?_
      refine gf_X9_7 hx hb hts hown hK hP 0 rfl rfl dX9_wrongOf_8 ?_
      refine lv_iconst (v := (0 : Int32)) hx hb dX9_wrongOf_11 (by decide) ?_
      obtain ⟨t39, et39, hs⟩ := ob hs
      refine nd_iald hx hb hK hP 1 0 rfl rfl et39 dX9_wrongOf_12 ?_
      refine lv_icmp_ge (tgt := 114) hx hb dX9_wrongOf_13 (by decide) (fun b40 => ?_) (fun b40 => ?_)
      · have hs := ite_t hs b40
        exact hk5 v3_38 _ _ _ (lv_sub hl [3] rfl) hP hS hs
      · have hs := ite_f hs b40
        refine lv_iconst (v := (0 : Int32)) hx hb dX9_wrongOf_16 (by decide) ?_
        refine lv_istore (lv' := [(5, .int (0 : Int32)), (0, .ref (bd 0)), (1, .int x1), (2, .int x2), (3, .int v3_38), (4, .int v4_38)]) hx hb dX9_wrongOf_17 hl (by decide) rfl (fun ls hl => ?_)
        have L19 : ∀ (n19 : Nat) (k19 : Int32 → Option (Int32)) (v3_58 : Int32) (v5_58 : Int32) (H : Heap) (locs : List Loc) (ls : Array Slot), lv_has ls 7 [(0, .ref (bd 0)), (1, .int x1), (2, .int x2), (3, .int v3_58), (4, .int v4_38), (5, .int v5_58)] → va_P D vwCl (MW bd cI ms msv mb mf mr mt mn ml mat mw mm mh) H → va_S A s.heap H locs → fX9_wrongOf_19 k19 ms x1 x2 v4_38 n19 v3_58 v5_58 = some r → (∀ (u3_58 : Int32) (H : Heap) (locs : List Loc) (ls : Array Slot), lv_has ls 7 [(0, .ref (bd 0)), (1, .int x1), (2, .int x2), (3, .int u3_58), (4, .int v4_38)] → va_P D vwCl (MW bd cI ms msv mb mf mr mt mn ml mat mw mm mh) H → va_S A s.heap H locs → k19 u3_58 = some r → W p l e ⟨3, 0, 0, 74⟩ s m args below meth c_ H locs 0 0 Q (F0 m 108 ls [])) → W p l e ⟨3, 0, 0, 74⟩ s m args below meth c_ H locs 0 0 Q (F0 m 19 ls []) := by
          intro n19
          induction n19 with
          | zero =>
            intro k19 v3_58 v5_58 H locs ls hl hP hS hs hk19
            rw [fX9_wrongOf_19] at hs
            cases hs
          | succ n19 ih19 =>
            intro k19 v3_58 v5_58 H locs ls hl hP hS hs hk19
            rw [fX9_wrongOf_19] at hs
            refine lv_iload hx hb dX9_wrongOf_19 (lv_at hl 5 rfl) ?_
            refine lv_aload_n hx hb dX9_wrongOf_21 rfl (lv_at hl 0 rfl) ?_
            refine lv_iload hx hb dX9_wrongOf_22 (lv_at hl 4 rfl) ?_
            refine lv_iconst (v := (2 : Int32)) hx hb dX9_wrongOf_24 (by decide) ?_
            obtain ⟨q59, eq59, hs⟩ := ob hs
            refine nd_callV (As := [.int v4_38, .int (2 : Int32)]) (rest := [.int v5_58]) (st1 := [.int q59, .int v5_58]) hx hb hml hown hts hl hP hK hD hS hA hN (mX9_of eq59) iv_X9_of wd_307 0 rfl rfl rfl rfl ⟨Nat.le_of_ble_eq_true rfl, Nat.le_of_ble_eq_true rfl⟩ (Nat.le_of_ble_eq_true rfl) ⟨Nat.zero_le _, Nat.zero_le _⟩ dX9_wrongOf_25 rfl rfl (fun H locs hP hD hS => ?_)
            refine lv_icmp_ge (tgt := 108) hx hb dX9_wrongOf_28 (by decide) (fun b60 => ?_) (fun b60 => ?_)
            · have hs := ite_t hs b60
              exact hk19 v3_58 _ _ _ (lv_sub hl [0, 1, 2, 3, 4] rfl) hP hS hs
            · have hs := ite_f hs b60
              refine lv_iload_n hx hb dX9_wrongOf_31 rfl (lv_at hl 2 rfl) ?_
              refine lv_if_eq (tgt := 54) hx hb dX9_wrongOf_32 (by decide) (fun b61 => ?_) (fun b61 => ?_)
              · have hs := ite_t hs b61
                refine lv_aload_n hx hb dX9_wrongOf_54 rfl (lv_at hl 0 rfl) ?_
                refine lv_iload hx hb dX9_wrongOf_55 (lv_at hl 4 rfl) ?_
                refine lv_iload hx hb dX9_wrongOf_57 (lv_at hl 5 rfl) ?_
                obtain ⟨q62, eq62, hs⟩ := ob hs
                refine nd_callV (As := [.int v4_38, .int v5_58]) (rest := []) (st1 := [.int q62]) hx hb hml hown hts hl hP hK hD hS hA hN (mX9_sumOf eq62) iv_X9_sumOf wd_345 0 rfl rfl rfl rfl ⟨Nat.le_of_ble_eq_true rfl, Nat.le_of_ble_eq_true rfl⟩ (Nat.le_of_ble_eq_true rfl) ⟨Nat.zero_le _, Nat.zero_le _⟩ dX9_wrongOf_59 rfl rfl (fun H locs hP hD hS => ?_)
                refine lv_aload_n hx hb dX9_wrongOf_62 rfl (lv_at hl 0 rfl) ?_
                refine lv_iload hx hb dX9_wrongOf_63 (lv_at hl 4 rfl) ?_
                refine lv_iload hx hb dX9_wrongOf_65 (lv_at hl 5 rfl) ?_
                obtain ⟨q63, eq63, hs⟩ := ob hs
                refine nd_callV (As := [.int v4_38, .int v5_58]) (rest := [.int q62]) (st1 := [.int q63, .int q62]) hx hb hml hown hts hl hP hK hD hS hA hN (mX9_totalOf eq63) iv_X9_totalOf wd_368 0 rfl rfl rfl rfl ⟨Nat.le_of_ble_eq_true rfl, Nat.le_of_ble_eq_true rfl⟩ (Nat.le_of_ble_eq_true rfl) ⟨Nat.zero_le _, Nat.zero_le _⟩ dX9_wrongOf_67 rfl rfl (fun H locs hP hD hS => ?_)
                refine lv_isub hx hb dX9_wrongOf_70 ?_
                obtain ⟨q64, eq64, hs⟩ := ob hs
                refine nd_callS (As := [.int (q62 - q63)]) (rest := []) (st1 := [.int q64]) hx hb hml hown hts hl hP hK hD hS hA hN (mX9_size eq64) is_X9_size wd_887 rfl rfl ⟨Nat.le_of_ble_eq_true rfl, Nat.le_of_ble_eq_true rfl⟩ (Nat.le_of_ble_eq_true rfl) ⟨Nat.zero_le _, Nat.zero_le _⟩ dX9_wrongOf_71 rfl rfl (fun H locs hP hD hS => ?_)
                refine lv_istore (lv' := [(6, .int q64), (0, .ref (bd 0)), (1, .int x1), (2, .int x2), (3, .int v3_58), (4, .int v4_38), (5, .int v5_58)]) hx hb dX9_wrongOf_74 hl (by decide) rfl (fun ls hl => ?_)
                refine lv_iload_n hx hb dX9_wrongOf_76 rfl (lv_at hl 4 rfl) ?_
                refine lv_iload_n hx hb dX9_wrongOf_77 rfl (lv_at hl 2 rfl) ?_
                refine lv_iconst (v := (-1 : Int32)) hx hb dX9_wrongOf_78 (by decide) ?_
                refine lv_icmp_eq (tgt := 94) hx hb dX9_wrongOf_79 (by decide) (fun b65 => ?_) (fun b65 => ?_)
                · have hs := ite_t hs b65
                  refine lv_iload hx hb dX9_wrongOf_94 (lv_at hl 0 rfl) ?_
                  refine lv_goto (tgt := 100) hx hb dX9_wrongOf_96 (by decide) ?_
                  refine lv_iadd hx hb dX9_wrongOf_100 ?_
                  refine lv_istore_n (lv' := [(3, .int (v3_58 + q64)), (6, .int q64), (0, .ref (bd 0)), (1, .int x1), (2, .int x2), (4, .int v4_38), (5, .int v5_58)]) hx hb dX9_wrongOf_101 rfl hl (by decide) rfl (fun ls hl => ?_)
                  refine lv_iinc (v := v5_58 + (1 : Int32)) (lv' := [(5, .int (v5_58 + (1 : Int32))), (3, .int (v3_58 + q64)), (6, .int q64), (0, .ref (bd 0)), (1, .int x1), (2, .int x2), (4, .int v4_38)]) hx hb dX9_wrongOf_102 hl (k := 6) rfl rfl (by decide) rfl (fun ls hl => ?_)
                  refine lv_goto (tgt := 19) hx hb dX9_wrongOf_105 (by decide) ?_
                  exact ih19 k19 (v3_58 + q64) (v5_58 + (1 : Int32)) _ _ _ (lv_sub hl [3, 4, 5, 1, 6, 0] rfl) hP hS hs hk19
                · have hs := ite_f hs b65
                  refine lv_aload_n hx hb dX9_wrongOf_82 rfl (lv_at hl 1 rfl) ?_
                  refine lv_iload hx hb dX9_wrongOf_83 (lv_at hl 5 rfl) ?_
                  refine lv_iload hx hb dX9_wrongOf_85 (lv_at hl 6 rfl) ?_
                  obtain ⟨q66, eq66, hs⟩ := ob hs
                  refine nd_callV (As := [.int v4_38, .int v5_58]) (rest := [.int v3_58]) (st1 := [.int q66, .int v3_58]) hx hb hml hown hts hl hP hK hD hS hA hN (mX9_shopOf eq66) iv_X9_shopOf wd_645 0 rfl rfl rfl rfl ⟨Nat.le_of_ble_eq_true rfl, Nat.le_of_ble_eq_true rfl⟩ (Nat.le_of_ble_eq_true rfl) ⟨Nat.zero_le _, Nat.zero_le _⟩ dX9_wrongOf_87 rfl rfl (fun H locs hP hD hS => ?_)
                  refine lv_iload_n hx hb dX9_wrongOf_90 rfl (lv_at hl 2 rfl) ?_
                  refine lv_icmp_ne (tgt := 99) hx hb dX9_wrongOf_91 (by decide) (fun b67 => ?_) (fun b67 => ?_)
                  · have hs := ite_f hs b67
                    refine lv_iconst (v := (0 : Int32)) hx hb dX9_wrongOf_99 (by decide) ?_
                    refine lv_iadd hx hb dX9_wrongOf_100 ?_
                    refine lv_istore_n (lv' := [(3, .int (v3_58 + (0 : Int32))), (6, .int q64), (0, .ref (bd 0)), (1, .int x1), (2, .int x2), (4, .int v4_38), (5, .int v5_58)]) hx hb dX9_wrongOf_101 rfl hl (by decide) rfl (fun ls hl => ?_)
                    refine lv_iinc (v := v5_58 + (1 : Int32)) (lv' := [(5, .int (v5_58 + (1 : Int32))), (3, .int (v3_58 + (0 : Int32))), (6, .int q64), (0, .ref (bd 0)), (1, .int x1), (2, .int x2), (4, .int v4_38)]) hx hb dX9_wrongOf_102 hl (k := 6) rfl rfl (by decide) rfl (fun ls hl => ?_)
                    refine lv_goto (tgt := 19) hx hb dX9_wrongOf_105 (by decide) ?_
                    exact ih19 k19 (v3_58 + (0 : Int32)) (v5_58 + (1 : Int32)) _ _ _ (lv_sub hl [3, 4, 5, 1, 6, 0] rfl) hP hS hs hk19
                  · have hs := ite_t hs b67
                    refine lv_iload hx hb dX9_wrongOf_94 (lv_at hl 0 rfl) ?_
                    refine lv_goto (tgt := 100) hx hb dX9_wrongOf_96 (by decide) ?_
                    refine lv_iadd hx hb dX9_wrongOf_100 ?_
                    refine lv_istore_n (lv' := [(3, .int (v3_58 + q64)), (6, .int q64), (0, .ref (bd 0)), (1, .int x1), (2, .int x2), (4, .int v4_38), (5, .int v5_58)]) hx hb dX9_wrongOf_101 rfl hl (by decide) rfl (fun ls hl => ?_)
                    refine lv_iinc (v := v5_58 + (1 : Int32)) (lv' := [(5, .int (v5_58 + (1 : Int32))), (3, .int (v3_58 + q64)), (6, .int q64), (0, .ref (bd 0)), (1, .int x1), (2, .int x2), (4, .int v4_38)]) hx hb dX9_wrongOf_102 hl (k := 6) rfl rfl (by decide) rfl (fun ls hl => ?_)
                    refine lv_goto (tgt := 19) hx hb dX9_wrongOf_105 (by decide) ?_
                    exact ih19 k19 (v3_58 + q64) (v5_58 + (1 : Int32)) _ _ _ (lv_sub hl [3, 4, 5, 1, 6, 0] rfl) hP hS hs hk19
              · have hs := ite_f hs b61
                refine lv_aload_n hx hb dX9_wrongOf_35 rfl (lv_at hl 0 rfl) ?_
                refine lv_iload hx hb dX9_wrongOf_36 (lv_at hl 4 rfl) ?_
                refine lv_iload hx hb dX9_wrongOf_38 (lv_at hl 5 rfl) ?_
                obtain ⟨q68, eq68, hs⟩ := ob hs
                refine nd_callV (As := [.int v4_38, .int v5_58]) (rest := []) (st1 := [.int q68]) hx hb hml hown hts hl hP hK hD hS hA hN (mX9_stateOf eq68) iv_X9_stateOf wd_623 0 rfl rfl rfl rfl ⟨Nat.le_of_ble_eq_true rfl, Nat.le_of_ble_eq_true rfl⟩ (Nat.le_of_ble_eq_true rfl) ⟨Nat.zero_le _, Nat.zero_le _⟩ dX9_wrongOf_40 rfl rfl (fun H locs hP hD hS => ?_)
                refine lv_if_ne (tgt := 50) hx hb dX9_wrongOf_43 (by decide) (fun b69 => ?_) (fun b69 => ?_)
                · have hs := ite_f hs b69
                  refine lv_iconst (v := (1 : Int32)) hx hb dX9_wrongOf_50 (by decide) ?_
                  refine lv_goto (tgt := 74) hx hb dX9_wrongOf_51 (by decide) ?_
                  refine lv_istore (lv' := [(6, .int (1 : Int32)), (0, .ref (bd 0)), (1, .int x1), (2, .int x2), (3, .int v3_58), (4, .int v4_38), (5, .int v5_58)]) hx hb dX9_wrongOf_74 hl (by decide) rfl (fun ls hl => ?_)
                  refine lv_iload_n hx hb dX9_wrongOf_76 rfl (lv_at hl 4 rfl) ?_
                  refine lv_iload_n hx hb dX9_wrongOf_77 rfl (lv_at hl 2 rfl) ?_
                  refine lv_iconst (v := (-1 : Int32)) hx hb dX9_wrongOf_78 (by decide) ?_
                  refine lv_icmp_eq (tgt := 94) hx hb dX9_wrongOf_79 (by decide) (fun b70 => ?_) (fun b70 => ?_)
                  · have hs := ite_t hs b70
                    refine lv_iload hx hb dX9_wrongOf_94 (lv_at hl 0 rfl) ?_
                    refine lv_goto (tgt := 100) hx hb dX9_wrongOf_96 (by decide) ?_
                    refine lv_iadd hx hb dX9_wrongOf_100 ?_
                    refine lv_istore_n (lv' := [(3, .int (v3_58 + (1 : Int32))), (6, .int (1 : Int32)), (0, .ref (bd 0)), (1, .int x1), (2, .int x2), (4, .int v4_38), (5, .int v5_58)]) hx hb dX9_wrongOf_101 rfl hl (by decide) rfl (fun ls hl => ?_)
                    refine lv_iinc (v := v5_58 + (1 : Int32)) (lv' := [(5, .int (v5_58 + (1 : Int32))), (3, .int (v3_58 + (1 : Int32))), (6, .int (1 : Int32)), (0, .ref (bd 0)), (1, .int x1), (2, .int x2), (4, .int v4_38)]) hx hb dX9_wrongOf_102 hl (k := 6) rfl rfl (by decide) rfl (fun ls hl => ?_)
                    refine lv_goto (tgt := 19) hx hb dX9_wrongOf_105 (by decide) ?_
                    exact ih19 k19 (v3_58 + (1 : Int32)) (v5_58 + (1 : Int32)) _ _ _ (lv_sub hl [3, 4, 5, 1, 6, 0] rfl) hP hS hs hk19
                  · have hs := ite_f hs b70
                    refine lv_aload_n hx hb dX9_wrongOf_82 rfl (lv_at hl 1 rfl) ?_
                    refine lv_iload hx hb dX9_wrongOf_83 (lv_at hl 5 rfl) ?_
                    refine lv_iload hx hb dX9_wrongOf_85 (lv_at hl 6 rfl) ?_
                    obtain ⟨q71, eq71, hs⟩ := ob hs
                    refine nd_callV (As := [.int v4_38, .int v5_58]) (rest := [.int v3_58]) (st1 := [.int q71, .int v3_58]) hx hb hml hown hts hl hP hK hD hS hA hN (mX9_shopOf eq71) iv_X9_shopOf wd_645 0 rfl rfl rfl rfl ⟨Nat.le_of_ble_eq_true rfl, Nat.le_of_ble_eq_true rfl⟩ (Nat.le_of_ble_eq_true rfl) ⟨Nat.zero_le _, Nat.zero_le _⟩ dX9_wrongOf_87 rfl rfl (fun H locs hP hD hS => ?_)
                    refine lv_iload_n hx hb dX9_wrongOf_90 rfl (lv_at hl 2 rfl) ?_
                    refine lv_icmp_ne (tgt := 99) hx hb dX9_wrongOf_91 (by decide) (fun b72 => ?_) (fun b72 => ?_)
                    · have hs := ite_f hs b72
                      refine lv_iconst (v := (0 : Int32)) hx hb dX9_wrongOf_99 (by decide) ?_
                      refine lv_iadd hx hb dX9_wrongOf_100 ?_
                      refine lv_istore_n (lv' := [(3, .int (v3_58 + (0 : Int32))), (6, .int (1 : Int32)), (0, .ref (bd 0)), (1, .int x1), (2, .int x2), (4, .int v4_38), (5, .int v5_58)]) hx hb dX9_wrongOf_101 rfl hl (by decide) rfl (fun ls hl => ?_)
                      refine lv_iinc (v := v5_58 + (1 : Int32)) (lv' := [(5, .int (v5_58 + (1 : Int32))), (3, .int (v3_58 + (0 : Int32))), (6, .int (1 : Int32)), (0, .ref (bd 0)), (1, .int x1), (2, .int x2), (4, .int v4_38)]) hx hb dX9_wrongOf_102 hl (k := 6) rfl rfl (by decide) rfl (fun ls hl => ?_)
                      refine lv_goto (tgt := 19) hx hb dX9_wrongOf_105 (by decide) ?_
                      exact ih19 k19 (v3_58 + (0 : Int32)) (v5_58 + (1 : Int32)) _ _ _ (lv_sub hl [3, 4, 5, 1, 6, 0] rfl) hP hS hs hk19
                    · have hs := ite_t hs b72
                      refine lv_iload hx hb dX9_wrongOf_94 (lv_at hl 0 rfl) ?_
                      refine lv_goto (tgt := 100) hx hb dX9_wrongOf_96 (by decide) ?_
                      refine lv_iadd hx hb dX9_wrongOf_100 ?_
                      refine lv_istore_n (lv' := [(3, .int (v3_58 + (1 : Int32))), (6, .int (1 : Int32)), (0, .ref (bd 0)), (1, .int x1), (2, .int x2), (4, .int v4_38), (5, .int v5_58)]) hx hb dX9_wrongOf_101 rfl hl (by decide) rfl (fun ls hl => ?_)
                      refine lv_iinc (v := v5_58 + (1 : Int32)) (lv' := [(5, .int (v5_58 + (1 : Int32))), (3, .int (v3_58 + (1 : Int32))), (6, .int (1 : Int32)), (0, .ref (bd 0)), (1, .int x1), (2, .int x2), (4, .int v4_38)]) hx hb dX9_wrongOf_102 hl (k := 6) rfl rfl (by decide) rfl (fun ls hl => ?_)
                      refine lv_goto (tgt := 19) hx hb dX9_wrongOf_105 (by decide) ?_
                      exact ih19 k19 (v3_58 + (1 : Int32)) (v5_58 + (1 : Int32)) _ _ _ (lv_sub hl [3, 4, 5, 1, 6, 0] rfl) hP hS hs hk19
                · have hs := ite_t hs b69
                  refine lv_iconst (v := (0 : Int32)) hx hb dX9_wrongOf_46 (by decide) ?_
                  refine lv_goto (tgt := 74) hx hb dX9_wrongOf_47 (by decide) ?_
                  refine lv_istore (lv' := [(6, .int (0 : Int32)), (0, .ref (bd 0)), (1, .int x1), (2, .int x2), (3, .int v3_58), (4, .int v4_38), (5, .int v5_58)]) hx hb dX9_wrongOf_74 hl (by decide) rfl (fun ls hl => ?_)
                  refine lv_iload_n hx hb dX9_wrongOf_76 rfl (lv_at hl 4 rfl) ?_
                  refine lv_iload_n hx hb dX9_wrongOf_77 rfl (lv_at hl 2 rfl) ?_
                  refine lv_iconst (v := (-1 : Int32)) hx hb dX9_wrongOf_78 (by decide) ?_
                  refine lv_icmp_eq (tgt := 94) hx hb dX9_wrongOf_79 (by decide) (fun b73 => ?_) (fun b73 => ?_)
                  · have hs := ite_t hs b73
                    refine lv_iload hx hb dX9_wrongOf_94 (lv_at hl 0 rfl) ?_
                    refine lv_goto (tgt := 100) hx hb dX9_wrongOf_96 (by decide) ?_
                    refine lv_iadd hx hb dX9_wrongOf_100 ?_
                    refine lv_istore_n (lv' := [(3, .int (v3_58 + (0 : Int32))), (6, .int (0 : Int32)), (0, .ref (bd 0)), (1, .int x1), (2, .int x2), (4, .int v4_38), (5, .int v5_58)]) hx hb dX9_wrongOf_101 rfl hl (by decide) rfl (fun ls hl => ?_)
                    refine lv_iinc (v := v5_58 + (1 : Int32)) (lv' := [(5, .int (v5_58 + (1 : Int32))), (3, .int (v3_58 + (0 : Int32))), (6, .int (0 : Int32)), (0, .ref (bd 0)), (1, .int x1), (2, .int x2), (4, .int v4_38)]) hx hb dX9_wrongOf_102 hl (k := 6) rfl rfl (by decide) rfl (fun ls hl => ?_)
                    refine lv_goto (tgt := 19) hx hb dX9_wrongOf_105 (by decide) ?_
                    exact ih19 k19 (v3_58 + (0 : Int32)) (v5_58 + (1 : Int32)) _ _ _ (lv_sub hl [3, 4, 5, 1, 6, 0] rfl) hP hS hs hk19
                  · have hs := ite_f hs b73
                    refine lv_aload_n hx hb dX9_wrongOf_82 rfl (lv_at hl 1 rfl) ?_
                    refine lv_iload hx hb dX9_wrongOf_83 (lv_at hl 5 rfl) ?_
                    refine lv_iload hx hb dX9_wrongOf_85 (lv_at hl 6 rfl) ?_
                    obtain ⟨q74, eq74, hs⟩ := ob hs
                    refine nd_callV (As := [.int v4_38, .int v5_58]) (rest := [.int v3_58]) (st1 := [.int q74, .int v3_58]) hx hb hml hown hts hl hP hK hD hS hA hN (mX9_shopOf eq74) iv_X9_shopOf wd_645 0 rfl rfl rfl rfl ⟨Nat.le_of_ble_eq_true rfl, Nat.le_of_ble_eq_true rfl⟩ (Nat.le_of_ble_eq_true rfl) ⟨Nat.zero_le _, Nat.zero_le _⟩ dX9_wrongOf_87 rfl rfl (fun H locs hP hD hS => ?_)
                    refine lv_iload_n hx hb dX9_wrongOf_90 rfl (lv_at hl 2 rfl) ?_
                    refine lv_icmp_ne (tgt := 99) hx hb dX9_wrongOf_91 (by decide) (fun b75 => ?_) (fun b75 => ?_)
                    · have hs := ite_f hs b75
                      refine lv_iconst (v := (0 : Int32)) hx hb dX9_wrongOf_99 (by decide) ?_
                      refine lv_iadd hx hb dX9_wrongOf_100 ?_
                      refine lv_istore_n (lv' := [(3, .int (v3_58 + (0 : Int32))), (6, .int (0 : Int32)), (0, .ref (bd 0)), (1, .int x1), (2, .int x2), (4, .int v4_38), (5, .int v5_58)]) hx hb dX9_wrongOf_101 rfl hl (by decide) rfl (fun ls hl => ?_)
                      refine lv_iinc (v := v5_58 + (1 : Int32)) (lv' := [(5, .int (v5_58 + (1 : Int32))), (3, .int (v3_58 + (0 : Int32))), (6, .int (0 : Int32)), (0, .ref (bd 0)), (1, .int x1), (2, .int x2), (4, .int v4_38)]) hx hb dX9_wrongOf_102 hl (k := 6) rfl rfl (by decide) rfl (fun ls hl => ?_)
                      refine lv_goto (tgt := 19) hx hb dX9_wrongOf_105 (by decide) ?_
                      exact ih19 k19 (v3_58 + (0 : Int32)) (v5_58 + (1 : Int32)) _ _ _ (lv_sub hl [3, 4, 5, 1, 6, 0] rfl) hP hS hs hk19
                    · have hs := ite_t hs b75
                      refine lv_iload hx hb dX9_wrongOf_94 (lv_at hl 0 rfl) ?_
                      refine lv_goto (tgt := 100) hx hb dX9_wrongOf_96 (by decide) ?_
                      refine lv_iadd hx hb dX9_wrongOf_100 ?_
                      refine lv_istore_n (lv' := [(3, .int (v3_58 + (0 : Int32))), (6, .int (0 : Int32)), (0, .ref (bd 0)), (1, .int x1), (2, .int x2), (4, .int v4_38), (5, .int v5_58)]) hx hb dX9_wrongOf_101 rfl hl (by decide) rfl (fun ls hl => ?_)
                      refine lv_iinc (v := v5_58 + (1 : Int32)) (lv' := [(5, .int (v5_58 + (1 : Int32))), (3, .int (v3_58 + (0 : Int32))), (6, .int (0 : Int32)), (0, .ref (bd 0)), (1, .int x1), (2, .int x2), (4, .int v4_38)]) hx hb dX9_wrongOf_102 hl (k := 6) rfl rfl (by decide) rfl (fun ls hl => ?_)
                      refine lv_goto (tgt := 19) hx hb dX9_wrongOf_105 (by decide) ?_
                      exact ih19 k19 (v3_58 + (0 : Int32)) (v5_58 + (1 : Int32)) _ _ _ (lv_sub hl [3, 4, 5, 1, 6, 0] rfl) hP hS hs hk19
        refine L19 LF _ v3_38 (0 : Int32) _ _ _ (lv_sub hl [1, 2, 3, 4, 5, 0] rfl) hP hS hs (fun u3_58 H locs ls hl hP hS hs => ?_)
        refine lv_iinc (v := v4_38 + (1 : Int32)) (lv' := [(4, .int (v4_38 + (1 : Int32))), (0, .ref (bd 0)), (1, .int x1), (2, .int x2), (3, .int u3_58)]) hx hb dX9_wrongOf_108 hl (k := 4) rfl rfl (by decide) rfl (fun ls hl => ?_)
        refine lv_goto (tgt := 5) hx hb dX9_wrongOf_111 (by decide) ?_
        exact ih5 k5 u3_58 (v4_38 + (1 : Int32)) _ _ _ (lv_sub hl [1, 2, 3, 4, 0] rfl) hP hS hs hk5
  refine L5 LF _ (0 : Int32) (0 : Int32) _ _ _ (lv_sub hl [2, 3, 4, 1, 0] rfl) hP hS hs (fun u3_38 H locs ls hl hP hS hs => ?_)
  refine lv_iload_n hx hb dX9_wrongOf_114 rfl (lv_at hl 0 rfl) ?_
  exact hret _ hs hP hS dX9_wrongOf_115
def tX9_hidden_0 : List (Nat × Instr × Nat) := [(0, .aload_n 0, 1), (1, .iconst 0, 1), (2, .putfield 25, 3), (5, .aload_n 0, 1), (6, .iconst (-1), 1), (7, .iconst 0, 1), (8, .invokevirtual 210, 3), (11, .ireturn, 1)]
theorem tX9_hidden_0_ok : tX9_hidden_0.all (fun q => decide (decode cX9_hidden q.1 = .ok q.2)) = true := by decide +kernel
theorem dX9_hidden_0 : decode cX9_hidden 0 = .ok (.aload_n 0, 1) := td tX9_hidden_0_ok 0 (q := (0, .aload_n 0, 1)) rfl
theorem dX9_hidden_1 : decode cX9_hidden 1 = .ok (.iconst 0, 1) := td tX9_hidden_0_ok 1 (q := (1, .iconst 0, 1)) rfl
theorem dX9_hidden_2 : decode cX9_hidden 2 = .ok (.putfield 25, 3) := td tX9_hidden_0_ok 2 (q := (2, .putfield 25, 3)) rfl
theorem dX9_hidden_5 : decode cX9_hidden 5 = .ok (.aload_n 0, 1) := td tX9_hidden_0_ok 3 (q := (5, .aload_n 0, 1)) rfl
theorem dX9_hidden_6 : decode cX9_hidden 6 = .ok (.iconst (-1), 1) := td tX9_hidden_0_ok 4 (q := (6, .iconst (-1), 1)) rfl
theorem dX9_hidden_7 : decode cX9_hidden 7 = .ok (.iconst 0, 1) := td tX9_hidden_0_ok 5 (q := (7, .iconst 0, 1)) rfl
theorem dX9_hidden_8 : decode cX9_hidden 8 = .ok (.invokevirtual 210, 3) := td tX9_hidden_0_ok 6 (q := (8, .invokevirtual 210, 3)) rfl
theorem dX9_hidden_11 : decode cX9_hidden 11 = .ok (.ireturn, 1) := td tX9_hidden_0_ok 7 (q := (11, .ireturn, 1)) rfl
def fX9_hidden (ms : (Nat → Int32)) (mt : Int32) : Option (Int32 × Int32) :=
  (Option.bind (fX9_wrongOf ms (-1 : Int32) (0 : Int32)) (fun q1 => (some (q1, (0 : Int32)))))
set_option maxHeartbeats 4000000 in
set_option maxRecDepth 100000 in
theorem mX9_hidden {l : Launch} {D : va_G} {bd : Nat → Nat} {cI : ClassId} {ms : (Nat → Int32)} {msv : (Nat → Int32)} {mb : (Nat → Int32)} {mf : (Nat → Int32)} {mr : (Nat → Int32)} {mt : Int32} {mn : Int32} {ml : Int32} {mat : Int32} {mw : Int32} {mm : Int32} {mh : Int64} {r : Int32} {mt' : Int32} (hs : fX9_hidden ms mt = some (r, mt')) : nd_C l yX9_hidden cX9_hidden 1 (some .int) 4 100 D [(cI, .int)] [.ref (bd 0)] (MW bd cI ms msv mb mf mr mt mn ml mat mw mm mh) (MW bd cI ms msv mb mf mr mt' mn ml mat mw mm mh) (some (.int r)) := by
  refine nd_ofCi (by decide) (Nat.le_of_ble_eq_true rfl) (fun p e s m args below meth c_ ls A Q hx hb hml hown hts hl hP hK hD hS hA hN hret => ?_)
  have hown : s.vm.findClass RX9 = some m.cls := hown
  have hl : lv_has ls 1 [(0, .ref (bd 0))] := hl
  have hret : ∀ (z0 : Int32) (z1 : Int32) {H : Heap} {locs : List Loc} {pc : Nat} {ls : Array Slot}, some (z0, z1) = some (r, mt') → va_P D vwCl (MW bd cI ms msv mb mf mr z1 mn ml mat mw mm mh) H → va_S A s.heap H locs → decode cX9_hidden pc = .ok (.ireturn, 1) → W p l e ⟨4, 0, 0, 100⟩ s m args below meth c_ H locs 0 0 Q (F0 m pc ls [.int z0]) := by
    intro z0 z1 H locs pc ls h hP hS hd
    cases h
    exact hret hP hS hd
  rw [fX9_hidden] at hs
  refine lv_aload_n hx hb dX9_hidden_0 rfl (lv_at hl 0 rfl) ?_
  refine lv_iconst (v := (0 : Int32)) hx hb dX9_hidden_1 (by decide) ?_
  refine pf_X9_25 hx hb hts hown hK hP hD hS 0 rfl rfl dX9_hidden_2 (fun H locs hP hD hS => ?_)
  have hP : va_P D vwCl (MW bd cI ms msv mb mf mr (0 : Int32) mn ml mat mw mm mh) H := hP
  have hD : va_D A (MW bd cI ms msv mb mf mr (0 : Int32) mn ml mat mw mm mh) := hD
  refine lv_aload_n hx hb dX9_hidden_5 rfl (lv_at hl 0 rfl) ?_
  refine lv_iconst (v := (-1 : Int32)) hx hb dX9_hidden_6 (by decide) ?_
  refine lv_iconst (v := (0 : Int32)) hx hb dX9_hidden_7 (by decide) ?_
  obtain ⟨q1, eq1, hs⟩ := ob hs
  refine nd_callV (As := [.int (-1 : Int32), .int (0 : Int32)]) (rest := []) (st1 := [.int q1]) hx hb hml hown hts hl hP hK hD hS hA hN (mX9_wrongOf eq1) iv_X9_wrongOf wd_883 0 rfl rfl rfl rfl ⟨Nat.le_of_ble_eq_true rfl, Nat.le_of_ble_eq_true rfl⟩ (Nat.le_of_ble_eq_true rfl) ⟨Nat.zero_le _, Nat.zero_le _⟩ dX9_hidden_8 rfl rfl (fun H locs hP hD hS => ?_)
  exact hret _ _ hs hP hS dX9_hidden_11
def tX9_suspected_0 : List (Nat × Instr × Nat) := [(0, .iconst (-1), 1), (1, .istore_n 1, 1), (2, .iconst 0, 1), (3, .istore_n 2, 1), (4, .iconst 0, 1), (5, .istore_n 3, 1), (6, .iconst 0, 1), (7, .istore 4, 2), (9, .iload 4, 2), (11, .bipush 10, 2), (13, .if_icmp .ge 59, 3), (16, .aload_n 0, 1), (17, .iload 4, 2), (19, .iconst 1, 1), (20, .invokevirtual 210, 3), (23, .istore 5, 2), (25, .aload_n 0, 1), (26, .iload 4, 2), (28, .iconst 0, 1), (29, .invokevirtual 210, 3), (32, .istore 6, 2), (34, .iload 5, 2), (36, .iload_n 2, 1), (37, .if_icmp .gt 20, 3), (40, .iload 5, 2), (42, .iload_n 2, 1), (43, .if_icmp .ne 23, 3), (46, .iload 5, 2), (48, .ifCond .le 18, 3), (51, .iload 6, 2), (53, .iload_n 3, 1), (54, .if_icmp .le 12, 3), (57, .iload 4, 2), (59, .istore_n 1, 1), (60, .iload 5, 2), (62, .istore_n 2, 1), (63, .iload 6, 2), (65, .istore_n 3, 1), (66, .iinc 4 1, 3), (69, .goto (-60), 3), (72, .iload_n 1, 1), (73, .ireturn, 1)]
theorem tX9_suspected_0_ok : tX9_suspected_0.all (fun q => decide (decode cX9_suspected q.1 = .ok q.2)) = true := by decide +kernel
theorem dX9_suspected_0 : decode cX9_suspected 0 = .ok (.iconst (-1), 1) := td tX9_suspected_0_ok 0 (q := (0, .iconst (-1), 1)) rfl
theorem dX9_suspected_1 : decode cX9_suspected 1 = .ok (.istore_n 1, 1) := td tX9_suspected_0_ok 1 (q := (1, .istore_n 1, 1)) rfl
theorem dX9_suspected_2 : decode cX9_suspected 2 = .ok (.iconst 0, 1) := td tX9_suspected_0_ok 2 (q := (2, .iconst 0, 1)) rfl
theorem dX9_suspected_3 : decode cX9_suspected 3 = .ok (.istore_n 2, 1) := td tX9_suspected_0_ok 3 (q := (3, .istore_n 2, 1)) rfl
theorem dX9_suspected_4 : decode cX9_suspected 4 = .ok (.iconst 0, 1) := td tX9_suspected_0_ok 4 (q := (4, .iconst 0, 1)) rfl
theorem dX9_suspected_5 : decode cX9_suspected 5 = .ok (.istore_n 3, 1) := td tX9_suspected_0_ok 5 (q := (5, .istore_n 3, 1)) rfl
theorem dX9_suspected_6 : decode cX9_suspected 6 = .ok (.iconst 0, 1) := td tX9_suspected_0_ok 6 (q := (6, .iconst 0, 1)) rfl
theorem dX9_suspected_7 : decode cX9_suspected 7 = .ok (.istore 4, 2) := td tX9_suspected_0_ok 7 (q := (7, .istore 4, 2)) rfl
theorem dX9_suspected_9 : decode cX9_suspected 9 = .ok (.iload 4, 2) := td tX9_suspected_0_ok 8 (q := (9, .iload 4, 2)) rfl
theorem dX9_suspected_11 : decode cX9_suspected 11 = .ok (.bipush 10, 2) := td tX9_suspected_0_ok 9 (q := (11, .bipush 10, 2)) rfl
theorem dX9_suspected_13 : decode cX9_suspected 13 = .ok (.if_icmp .ge 59, 3) := td tX9_suspected_0_ok 10 (q := (13, .if_icmp .ge 59, 3)) rfl
theorem dX9_suspected_16 : decode cX9_suspected 16 = .ok (.aload_n 0, 1) := td tX9_suspected_0_ok 11 (q := (16, .aload_n 0, 1)) rfl
theorem dX9_suspected_17 : decode cX9_suspected 17 = .ok (.iload 4, 2) := td tX9_suspected_0_ok 12 (q := (17, .iload 4, 2)) rfl
theorem dX9_suspected_19 : decode cX9_suspected 19 = .ok (.iconst 1, 1) := td tX9_suspected_0_ok 13 (q := (19, .iconst 1, 1)) rfl
theorem dX9_suspected_20 : decode cX9_suspected 20 = .ok (.invokevirtual 210, 3) := td tX9_suspected_0_ok 14 (q := (20, .invokevirtual 210, 3)) rfl
theorem dX9_suspected_23 : decode cX9_suspected 23 = .ok (.istore 5, 2) := td tX9_suspected_0_ok 15 (q := (23, .istore 5, 2)) rfl
theorem dX9_suspected_25 : decode cX9_suspected 25 = .ok (.aload_n 0, 1) := td tX9_suspected_0_ok 16 (q := (25, .aload_n 0, 1)) rfl
theorem dX9_suspected_26 : decode cX9_suspected 26 = .ok (.iload 4, 2) := td tX9_suspected_0_ok 17 (q := (26, .iload 4, 2)) rfl
theorem dX9_suspected_28 : decode cX9_suspected 28 = .ok (.iconst 0, 1) := td tX9_suspected_0_ok 18 (q := (28, .iconst 0, 1)) rfl
theorem dX9_suspected_29 : decode cX9_suspected 29 = .ok (.invokevirtual 210, 3) := td tX9_suspected_0_ok 19 (q := (29, .invokevirtual 210, 3)) rfl
theorem dX9_suspected_32 : decode cX9_suspected 32 = .ok (.istore 6, 2) := td tX9_suspected_0_ok 20 (q := (32, .istore 6, 2)) rfl
theorem dX9_suspected_34 : decode cX9_suspected 34 = .ok (.iload 5, 2) := td tX9_suspected_0_ok 21 (q := (34, .iload 5, 2)) rfl
theorem dX9_suspected_36 : decode cX9_suspected 36 = .ok (.iload_n 2, 1) := td tX9_suspected_0_ok 22 (q := (36, .iload_n 2, 1)) rfl
theorem dX9_suspected_37 : decode cX9_suspected 37 = .ok (.if_icmp .gt 20, 3) := td tX9_suspected_0_ok 23 (q := (37, .if_icmp .gt 20, 3)) rfl
theorem dX9_suspected_40 : decode cX9_suspected 40 = .ok (.iload 5, 2) := td tX9_suspected_0_ok 24 (q := (40, .iload 5, 2)) rfl
theorem dX9_suspected_42 : decode cX9_suspected 42 = .ok (.iload_n 2, 1) := td tX9_suspected_0_ok 25 (q := (42, .iload_n 2, 1)) rfl
theorem dX9_suspected_43 : decode cX9_suspected 43 = .ok (.if_icmp .ne 23, 3) := td tX9_suspected_0_ok 26 (q := (43, .if_icmp .ne 23, 3)) rfl
theorem dX9_suspected_46 : decode cX9_suspected 46 = .ok (.iload 5, 2) := td tX9_suspected_0_ok 27 (q := (46, .iload 5, 2)) rfl
theorem dX9_suspected_48 : decode cX9_suspected 48 = .ok (.ifCond .le 18, 3) := td tX9_suspected_0_ok 28 (q := (48, .ifCond .le 18, 3)) rfl
theorem dX9_suspected_51 : decode cX9_suspected 51 = .ok (.iload 6, 2) := td tX9_suspected_0_ok 29 (q := (51, .iload 6, 2)) rfl
theorem dX9_suspected_53 : decode cX9_suspected 53 = .ok (.iload_n 3, 1) := td tX9_suspected_0_ok 30 (q := (53, .iload_n 3, 1)) rfl
theorem dX9_suspected_54 : decode cX9_suspected 54 = .ok (.if_icmp .le 12, 3) := td tX9_suspected_0_ok 31 (q := (54, .if_icmp .le 12, 3)) rfl
theorem dX9_suspected_57 : decode cX9_suspected 57 = .ok (.iload 4, 2) := td tX9_suspected_0_ok 32 (q := (57, .iload 4, 2)) rfl
theorem dX9_suspected_59 : decode cX9_suspected 59 = .ok (.istore_n 1, 1) := td tX9_suspected_0_ok 33 (q := (59, .istore_n 1, 1)) rfl
theorem dX9_suspected_60 : decode cX9_suspected 60 = .ok (.iload 5, 2) := td tX9_suspected_0_ok 34 (q := (60, .iload 5, 2)) rfl
theorem dX9_suspected_62 : decode cX9_suspected 62 = .ok (.istore_n 2, 1) := td tX9_suspected_0_ok 35 (q := (62, .istore_n 2, 1)) rfl
theorem dX9_suspected_63 : decode cX9_suspected 63 = .ok (.iload 6, 2) := td tX9_suspected_0_ok 36 (q := (63, .iload 6, 2)) rfl
theorem dX9_suspected_65 : decode cX9_suspected 65 = .ok (.istore_n 3, 1) := td tX9_suspected_0_ok 37 (q := (65, .istore_n 3, 1)) rfl
theorem dX9_suspected_66 : decode cX9_suspected 66 = .ok (.iinc 4 1, 3) := td tX9_suspected_0_ok 38 (q := (66, .iinc 4 1, 3)) rfl
theorem dX9_suspected_69 : decode cX9_suspected 69 = .ok (.goto (-60), 3) := td tX9_suspected_0_ok 39 (q := (69, .goto (-60), 3)) rfl
theorem dX9_suspected_72 : decode cX9_suspected 72 = .ok (.iload_n 1, 1) := td tX9_suspected_0_ok 40 (q := (72, .iload_n 1, 1)) rfl
theorem dX9_suspected_73 : decode cX9_suspected 73 = .ok (.ireturn, 1) := td tX9_suspected_0_ok 41 (q := (73, .ireturn, 1)) rfl
def fX9_suspected_9 (k9 : Int32 → Option (Int32)) (ms : (Nat → Int32)) : Nat → Int32 → Int32 → Int32 → Int32 → Option (Int32)
  | 0, _, _, _, _ => none
  | n9 + 1, x1, x2, x3, x4 => (if (10 : Int32) ≤ x4 then (k9 x1) else (Option.bind (fX9_wrongOf ms x4 (1 : Int32)) (fun q2 => (Option.bind (fX9_wrongOf ms x4 (0 : Int32)) (fun q3 => (if x2 < q2 then (fX9_suspected_9 k9 ms n9 x4 q2 q3 (x4 + (1 : Int32))) else (if q2 = x2 then (if q2 ≤ 0 then (fX9_suspected_9 k9 ms n9 x1 x2 x3 (x4 + (1 : Int32))) else (if q3 ≤ x3 then (fX9_suspected_9 k9 ms n9 x1 x2 x3 (x4 + (1 : Int32))) else (fX9_suspected_9 k9 ms n9 x4 q2 q3 (x4 + (1 : Int32))))) else (fX9_suspected_9 k9 ms n9 x1 x2 x3 (x4 + (1 : Int32))))))))))
def fX9_suspected (ms : (Nat → Int32)) : Option (Int32) :=
  (fX9_suspected_9 (fun (u1_8 : Int32) => (some u1_8)) ms LF (-1 : Int32) (0 : Int32) (0 : Int32) (0 : Int32))
set_option maxHeartbeats 4000000 in
set_option maxRecDepth 100000 in
theorem mX9_suspected {l : Launch} {D : va_G} {bd : Nat → Nat} {cI : ClassId} {ms : (Nat → Int32)} {msv : (Nat → Int32)} {mb : (Nat → Int32)} {mf : (Nat → Int32)} {mr : (Nat → Int32)} {mt : Int32} {mn : Int32} {ml : Int32} {mat : Int32} {mw : Int32} {mm : Int32} {mh : Int64} {r : Int32} (hs : fX9_suspected ms = some r) : nd_C l yX9_suspected cX9_suspected 7 (some .int) 4 100 D [(cI, .int)] [.ref (bd 0)] (MW bd cI ms msv mb mf mr mt mn ml mat mw mm mh) (MW bd cI ms msv mb mf mr mt mn ml mat mw mm mh) (some (.int r)) := by
  refine nd_ofCi (by decide) (Nat.le_of_ble_eq_true rfl) (fun p e s m args below meth c_ ls A Q hx hb hml hown hts hl hP hK hD hS hA hN hret => ?_)
  have hown : s.vm.findClass RX9 = some m.cls := hown
  have hl : lv_has ls 7 [(0, .ref (bd 0))] := hl
  have hret : ∀ (z0 : Int32) {H : Heap} {locs : List Loc} {pc : Nat} {ls : Array Slot}, some z0 = some r → va_P D vwCl (MW bd cI ms msv mb mf mr mt mn ml mat mw mm mh) H → va_S A s.heap H locs → decode cX9_suspected pc = .ok (.ireturn, 1) → W p l e ⟨4, 0, 0, 100⟩ s m args below meth c_ H locs 0 0 Q (F0 m pc ls [.int z0]) := by
    intro z0 H locs pc ls h hP hS hd
    cases h
    exact hret hP hS hd
  rw [fX9_suspected] at hs
  refine lv_iconst (v := (-1 : Int32)) hx hb dX9_suspected_0 (by decide) ?_
  refine lv_istore_n (lv' := [(1, .int (-1 : Int32)), (0, .ref (bd 0))]) hx hb dX9_suspected_1 rfl hl (by decide) rfl (fun ls hl => ?_)
  refine lv_iconst (v := (0 : Int32)) hx hb dX9_suspected_2 (by decide) ?_
  refine lv_istore_n (lv' := [(2, .int (0 : Int32)), (1, .int (-1 : Int32)), (0, .ref (bd 0))]) hx hb dX9_suspected_3 rfl hl (by decide) rfl (fun ls hl => ?_)
  refine lv_iconst (v := (0 : Int32)) hx hb dX9_suspected_4 (by decide) ?_
  refine lv_istore_n (lv' := [(3, .int (0 : Int32)), (2, .int (0 : Int32)), (1, .int (-1 : Int32)), (0, .ref (bd 0))]) hx hb dX9_suspected_5 rfl hl (by decide) rfl (fun ls hl => ?_)
  refine lv_iconst (v := (0 : Int32)) hx hb dX9_suspected_6 (by decide) ?_
  refine lv_istore (lv' := [(4, .int (0 : Int32)), (3, .int (0 : Int32)), (2, .int (0 : Int32)), (1, .int (-1 : Int32)), (0, .ref (bd 0))]) hx hb dX9_suspected_7 hl (by decide) rfl (fun ls hl => ?_)
  have L9 : ∀ (n9 : Nat) (k9 : Int32 → Option (Int32)) (v1_8 : Int32) (v2_8 : Int32) (v3_8 : Int32) (v4_8 : Int32) (H : Heap) (locs : List Loc) (ls : Array Slot), lv_has ls 7 [(0, .ref (bd 0)), (1, .int v1_8), (2, .int v2_8), (3, .int v3_8), (4, .int v4_8)] → va_P D vwCl (MW bd cI ms msv mb mf mr mt mn ml mat mw mm mh) H → va_S A s.heap H locs → fX9_suspected_9 k9 ms n9 v1_8 v2_8 v3_8 v4_8 = some r → (∀ (u1_8 : Int32) (H : Heap) (locs : List Loc) (ls : Array Slot), lv_has ls 7 [(1, .int u1_8)] → va_P D vwCl (MW bd cI ms msv mb mf mr mt mn ml mat mw mm mh) H → va_S A s.heap H locs → k9 u1_8 = some r → W p l e ⟨4, 0, 0, 100⟩ s m args below meth c_ H locs 0 0 Q (F0 m 72 ls [])) → W p l e ⟨4, 0, 0, 100⟩ s m args below meth c_ H locs 0 0 Q (F0 m 9 ls []) := by
    intro n9
    induction n9 with
    | zero =>
      intro k9 v1_8 v2_8 v3_8 v4_8 H locs ls hl hP hS hs hk9
      rw [fX9_suspected_9] at hs
      cases hs
    | succ n9 ih9 =>
      intro k9 v1_8 v2_8 v3_8 v4_8 H locs ls hl hP hS hs hk9
      rw [fX9_suspected_9] at hs
      refine lv_iload hx hb dX9_suspected_9 (lv_at hl 4 rfl) ?_
      refine lv_bipush (v := (10 : Int32)) hx hb dX9_suspected_11 (by decide) ?_
      refine lv_icmp_ge (tgt := 72) hx hb dX9_suspected_13 (by decide) (fun b9 => ?_) (fun b9 => ?_)
      · have hs := ite_t hs b9
        exact hk9 v1_8 _ _ _ (lv_sub hl [1] rfl) hP hS hs
      · have hs := ite_f hs b9
        refine lv_aload_n hx hb dX9_suspected_16 rfl (lv_at hl 0 rfl) ?_
        refine lv_iload hx hb dX9_suspected_17 (lv_at hl 4 rfl) ?_
        refine lv_iconst (v := (1 : Int32)) hx hb dX9_suspected_19 (by decide) ?_
        obtain ⟨q10, eq10, hs⟩ := ob hs
        refine nd_callV (As := [.int v4_8, .int (1 : Int32)]) (rest := []) (st1 := [.int q10]) hx hb hml hown hts hl hP hK hD hS hA hN (mX9_wrongOf eq10) iv_X9_wrongOf wd_883 0 rfl rfl rfl rfl ⟨Nat.le_of_ble_eq_true rfl, Nat.le_of_ble_eq_true rfl⟩ (Nat.le_of_ble_eq_true rfl) ⟨Nat.zero_le _, Nat.zero_le _⟩ dX9_suspected_20 rfl rfl (fun H locs hP hD hS => ?_)
        refine lv_istore (lv' := [(5, .int q10), (0, .ref (bd 0)), (1, .int v1_8), (2, .int v2_8), (3, .int v3_8), (4, .int v4_8)]) hx hb dX9_suspected_23 hl (by decide) rfl (fun ls hl => ?_)
        refine lv_aload_n hx hb dX9_suspected_25 rfl (lv_at hl 1 rfl) ?_
        refine lv_iload hx hb dX9_suspected_26 (lv_at hl 5 rfl) ?_
        refine lv_iconst (v := (0 : Int32)) hx hb dX9_suspected_28 (by decide) ?_
        obtain ⟨q11, eq11, hs⟩ := ob hs
        refine nd_callV (As := [.int v4_8, .int (0 : Int32)]) (rest := []) (st1 := [.int q11]) hx hb hml hown hts hl hP hK hD hS hA hN (mX9_wrongOf eq11) iv_X9_wrongOf wd_883 0 rfl rfl rfl rfl ⟨Nat.le_of_ble_eq_true rfl, Nat.le_of_ble_eq_true rfl⟩ (Nat.le_of_ble_eq_true rfl) ⟨Nat.zero_le _, Nat.zero_le _⟩ dX9_suspected_29 rfl rfl (fun H locs hP hD hS => ?_)
        refine lv_istore (lv' := [(6, .int q11), (5, .int q10), (0, .ref (bd 0)), (1, .int v1_8), (2, .int v2_8), (3, .int v3_8), (4, .int v4_8)]) hx hb dX9_suspected_32 hl (by decide) rfl (fun ls hl => ?_)
        refine lv_iload hx hb dX9_suspected_34 (lv_at hl 1 rfl) ?_
        refine lv_iload_n hx hb dX9_suspected_36 rfl (lv_at hl 4 rfl) ?_
        refine lv_icmp_gt (tgt := 57) hx hb dX9_suspected_37 (by decide) (fun b12 => ?_) (fun b12 => ?_)
        · have hs := ite_t hs b12
          refine lv_iload hx hb dX9_suspected_57 (lv_at hl 6 rfl) ?_
          refine lv_istore_n (lv' := [(1, .int v4_8), (6, .int q11), (5, .int q10), (0, .ref (bd 0)), (2, .int v2_8), (3, .int v3_8), (4, .int v4_8)]) hx hb dX9_suspected_59 rfl hl (by decide) rfl (fun ls hl => ?_)
          refine lv_iload hx hb dX9_suspected_60 (lv_at hl 2 rfl) ?_
          refine lv_istore_n (lv' := [(2, .int q10), (1, .int v4_8), (6, .int q11), (5, .int q10), (0, .ref (bd 0)), (3, .int v3_8), (4, .int v4_8)]) hx hb dX9_suspected_62 rfl hl (by decide) rfl (fun ls hl => ?_)
          refine lv_iload hx hb dX9_suspected_63 (lv_at hl 2 rfl) ?_
          refine lv_istore_n (lv' := [(3, .int q11), (2, .int q10), (1, .int v4_8), (6, .int q11), (5, .int q10), (0, .ref (bd 0)), (4, .int v4_8)]) hx hb dX9_suspected_65 rfl hl (by decide) rfl (fun ls hl => ?_)
          refine lv_iinc (v := v4_8 + (1 : Int32)) (lv' := [(4, .int (v4_8 + (1 : Int32))), (3, .int q11), (2, .int q10), (1, .int v4_8), (6, .int q11), (5, .int q10), (0, .ref (bd 0))]) hx hb dX9_suspected_66 hl (k := 6) rfl rfl (by decide) rfl (fun ls hl => ?_)
          refine lv_goto (tgt := 9) hx hb dX9_suspected_69 (by decide) ?_
          exact ih9 k9 v4_8 q10 q11 (v4_8 + (1 : Int32)) _ _ _ (lv_sub hl [6, 3, 2, 1, 0] rfl) hP hS hs hk9
        · have hs := ite_f hs b12
          refine lv_iload hx hb dX9_suspected_40 (lv_at hl 1 rfl) ?_
          refine lv_iload_n hx hb dX9_suspected_42 rfl (lv_at hl 4 rfl) ?_
          refine lv_icmp_ne (tgt := 66) hx hb dX9_suspected_43 (by decide) (fun b13 => ?_) (fun b13 => ?_)
          · have hs := ite_f hs b13
            refine lv_iinc (v := v4_8 + (1 : Int32)) (lv' := [(4, .int (v4_8 + (1 : Int32))), (6, .int q11), (5, .int q10), (0, .ref (bd 0)), (1, .int v1_8), (2, .int v2_8), (3, .int v3_8)]) hx hb dX9_suspected_66 hl (k := 6) rfl rfl (by decide) rfl (fun ls hl => ?_)
            refine lv_goto (tgt := 9) hx hb dX9_suspected_69 (by decide) ?_
            exact ih9 k9 v1_8 v2_8 v3_8 (v4_8 + (1 : Int32)) _ _ _ (lv_sub hl [3, 4, 5, 6, 0] rfl) hP hS hs hk9
          · have hs := ite_t hs b13
            refine lv_iload hx hb dX9_suspected_46 (lv_at hl 1 rfl) ?_
            refine lv_if_le (tgt := 66) hx hb dX9_suspected_48 (by decide) (fun b14 => ?_) (fun b14 => ?_)
            · have hs := ite_t hs b14
              refine lv_iinc (v := v4_8 + (1 : Int32)) (lv' := [(4, .int (v4_8 + (1 : Int32))), (6, .int q11), (5, .int q10), (0, .ref (bd 0)), (1, .int v1_8), (2, .int v2_8), (3, .int v3_8)]) hx hb dX9_suspected_66 hl (k := 6) rfl rfl (by decide) rfl (fun ls hl => ?_)
              refine lv_goto (tgt := 9) hx hb dX9_suspected_69 (by decide) ?_
              exact ih9 k9 v1_8 v2_8 v3_8 (v4_8 + (1 : Int32)) _ _ _ (lv_sub hl [3, 4, 5, 6, 0] rfl) hP hS hs hk9
            · have hs := ite_f hs b14
              refine lv_iload hx hb dX9_suspected_51 (lv_at hl 0 rfl) ?_
              refine lv_iload_n hx hb dX9_suspected_53 rfl (lv_at hl 5 rfl) ?_
              refine lv_icmp_le (tgt := 66) hx hb dX9_suspected_54 (by decide) (fun b15 => ?_) (fun b15 => ?_)
              · have hs := ite_t hs b15
                refine lv_iinc (v := v4_8 + (1 : Int32)) (lv' := [(4, .int (v4_8 + (1 : Int32))), (6, .int q11), (5, .int q10), (0, .ref (bd 0)), (1, .int v1_8), (2, .int v2_8), (3, .int v3_8)]) hx hb dX9_suspected_66 hl (k := 6) rfl rfl (by decide) rfl (fun ls hl => ?_)
                refine lv_goto (tgt := 9) hx hb dX9_suspected_69 (by decide) ?_
                exact ih9 k9 v1_8 v2_8 v3_8 (v4_8 + (1 : Int32)) _ _ _ (lv_sub hl [3, 4, 5, 6, 0] rfl) hP hS hs hk9
              · have hs := ite_f hs b15
                refine lv_iload hx hb dX9_suspected_57 (lv_at hl 6 rfl) ?_
                refine lv_istore_n (lv' := [(1, .int v4_8), (6, .int q11), (5, .int q10), (0, .ref (bd 0)), (2, .int v2_8), (3, .int v3_8), (4, .int v4_8)]) hx hb dX9_suspected_59 rfl hl (by decide) rfl (fun ls hl => ?_)
                refine lv_iload hx hb dX9_suspected_60 (lv_at hl 2 rfl) ?_
                refine lv_istore_n (lv' := [(2, .int q10), (1, .int v4_8), (6, .int q11), (5, .int q10), (0, .ref (bd 0)), (3, .int v3_8), (4, .int v4_8)]) hx hb dX9_suspected_62 rfl hl (by decide) rfl (fun ls hl => ?_)
                refine lv_iload hx hb dX9_suspected_63 (lv_at hl 2 rfl) ?_
                refine lv_istore_n (lv' := [(3, .int q11), (2, .int q10), (1, .int v4_8), (6, .int q11), (5, .int q10), (0, .ref (bd 0)), (4, .int v4_8)]) hx hb dX9_suspected_65 rfl hl (by decide) rfl (fun ls hl => ?_)
                refine lv_iinc (v := v4_8 + (1 : Int32)) (lv' := [(4, .int (v4_8 + (1 : Int32))), (3, .int q11), (2, .int q10), (1, .int v4_8), (6, .int q11), (5, .int q10), (0, .ref (bd 0))]) hx hb dX9_suspected_66 hl (k := 6) rfl rfl (by decide) rfl (fun ls hl => ?_)
                refine lv_goto (tgt := 9) hx hb dX9_suspected_69 (by decide) ?_
                exact ih9 k9 v4_8 q10 q11 (v4_8 + (1 : Int32)) _ _ _ (lv_sub hl [6, 3, 2, 1, 0] rfl) hP hS hs hk9
  refine L9 LF _ (-1 : Int32) (0 : Int32) (0 : Int32) (0 : Int32) _ _ _ (lv_sub hl [4, 3, 2, 1, 0] rfl) hP hS hs (fun u1_8 H locs ls hl hP hS hs => ?_)
  refine lv_iload_n hx hb dX9_suspected_72 rfl (lv_at hl 0 rfl) ?_
  exact hret _ hs hP hS dX9_suspected_73
def tX9_suspect_0 : List (Nat × Instr × Nat) := [(0, .aload_n 0, 1), (1, .iconst 0, 1), (2, .putfield 25, 3), (5, .aload_n 0, 1), (6, .invokevirtual 214, 3), (9, .ireturn, 1)]
theorem tX9_suspect_0_ok : tX9_suspect_0.all (fun q => decide (decode cX9_suspect q.1 = .ok q.2)) = true := by decide +kernel
theorem dX9_suspect_0 : decode cX9_suspect 0 = .ok (.aload_n 0, 1) := td tX9_suspect_0_ok 0 (q := (0, .aload_n 0, 1)) rfl
theorem dX9_suspect_1 : decode cX9_suspect 1 = .ok (.iconst 0, 1) := td tX9_suspect_0_ok 1 (q := (1, .iconst 0, 1)) rfl
theorem dX9_suspect_2 : decode cX9_suspect 2 = .ok (.putfield 25, 3) := td tX9_suspect_0_ok 2 (q := (2, .putfield 25, 3)) rfl
theorem dX9_suspect_5 : decode cX9_suspect 5 = .ok (.aload_n 0, 1) := td tX9_suspect_0_ok 3 (q := (5, .aload_n 0, 1)) rfl
theorem dX9_suspect_6 : decode cX9_suspect 6 = .ok (.invokevirtual 214, 3) := td tX9_suspect_0_ok 4 (q := (6, .invokevirtual 214, 3)) rfl
theorem dX9_suspect_9 : decode cX9_suspect 9 = .ok (.ireturn, 1) := td tX9_suspect_0_ok 5 (q := (9, .ireturn, 1)) rfl
def fX9_suspect (ms : (Nat → Int32)) (mt : Int32) : Option (Int32 × Int32) :=
  (Option.bind (fX9_suspected ms) (fun q1 => (some (q1, (0 : Int32)))))
set_option maxHeartbeats 4000000 in
set_option maxRecDepth 100000 in
theorem mX9_suspect {l : Launch} {D : va_G} {bd : Nat → Nat} {cI : ClassId} {ms : (Nat → Int32)} {msv : (Nat → Int32)} {mb : (Nat → Int32)} {mf : (Nat → Int32)} {mr : (Nat → Int32)} {mt : Int32} {mn : Int32} {ml : Int32} {mat : Int32} {mw : Int32} {mm : Int32} {mh : Int64} {r : Int32} {mt' : Int32} (hs : fX9_suspect ms mt = some (r, mt')) : nd_C l yX9_suspect cX9_suspect 1 (some .int) 5 126 D [(cI, .int)] [.ref (bd 0)] (MW bd cI ms msv mb mf mr mt mn ml mat mw mm mh) (MW bd cI ms msv mb mf mr mt' mn ml mat mw mm mh) (some (.int r)) := by
  refine nd_ofCi (by decide) (Nat.le_of_ble_eq_true rfl) (fun p e s m args below meth c_ ls A Q hx hb hml hown hts hl hP hK hD hS hA hN hret => ?_)
  have hown : s.vm.findClass RX9 = some m.cls := hown
  have hl : lv_has ls 1 [(0, .ref (bd 0))] := hl
  have hret : ∀ (z0 : Int32) (z1 : Int32) {H : Heap} {locs : List Loc} {pc : Nat} {ls : Array Slot}, some (z0, z1) = some (r, mt') → va_P D vwCl (MW bd cI ms msv mb mf mr z1 mn ml mat mw mm mh) H → va_S A s.heap H locs → decode cX9_suspect pc = .ok (.ireturn, 1) → W p l e ⟨5, 0, 0, 126⟩ s m args below meth c_ H locs 0 0 Q (F0 m pc ls [.int z0]) := by
    intro z0 z1 H locs pc ls h hP hS hd
    cases h
    exact hret hP hS hd
  rw [fX9_suspect] at hs
  refine lv_aload_n hx hb dX9_suspect_0 rfl (lv_at hl 0 rfl) ?_
  refine lv_iconst (v := (0 : Int32)) hx hb dX9_suspect_1 (by decide) ?_
  refine pf_X9_25 hx hb hts hown hK hP hD hS 0 rfl rfl dX9_suspect_2 (fun H locs hP hD hS => ?_)
  have hP : va_P D vwCl (MW bd cI ms msv mb mf mr (0 : Int32) mn ml mat mw mm mh) H := hP
  have hD : va_D A (MW bd cI ms msv mb mf mr (0 : Int32) mn ml mat mw mm mh) := hD
  refine lv_aload_n hx hb dX9_suspect_5 rfl (lv_at hl 0 rfl) ?_
  obtain ⟨q1, eq1, hs⟩ := ob hs
  refine nd_callV (As := []) (rest := []) (st1 := [.int q1]) hx hb hml hown hts hl hP hK hD hS hA hN (mX9_suspected eq1) iv_X9_suspected wd_905 0 rfl rfl rfl rfl ⟨Nat.le_of_ble_eq_true rfl, Nat.le_of_ble_eq_true rfl⟩ (Nat.le_of_ble_eq_true rfl) ⟨Nat.zero_le _, Nat.zero_le _⟩ dX9_suspect_6 rfl rfl (fun H locs hP hD hS => ?_)
  exact hret _ _ hs hP hS dX9_suspect_9
def tX9_share_0 : List (Nat × Instr × Nat) := [(0, .aload_n 0, 1), (1, .iconst 2, 1), (2, .invokevirtual 189, 3), (5, .istore_n 1, 1), (6, .iload_n 1, 1), (7, .ifCond .ne 7, 3), (10, .dconst 1, 1), (11, .goto 12, 3), (14, .aload_n 0, 1), (15, .iconst 4, 1), (16, .invokevirtual 189, 3), (19, .i2d, 1), (20, .iload_n 1, 1), (21, .i2d, 1), (22, .ddiv, 1), (23, .dreturn, 1)]
theorem tX9_share_0_ok : tX9_share_0.all (fun q => decide (decode cX9_share q.1 = .ok q.2)) = true := by decide +kernel
theorem dX9_share_0 : decode cX9_share 0 = .ok (.aload_n 0, 1) := td tX9_share_0_ok 0 (q := (0, .aload_n 0, 1)) rfl
theorem dX9_share_1 : decode cX9_share 1 = .ok (.iconst 2, 1) := td tX9_share_0_ok 1 (q := (1, .iconst 2, 1)) rfl
theorem dX9_share_2 : decode cX9_share 2 = .ok (.invokevirtual 189, 3) := td tX9_share_0_ok 2 (q := (2, .invokevirtual 189, 3)) rfl
theorem dX9_share_5 : decode cX9_share 5 = .ok (.istore_n 1, 1) := td tX9_share_0_ok 3 (q := (5, .istore_n 1, 1)) rfl
theorem dX9_share_6 : decode cX9_share 6 = .ok (.iload_n 1, 1) := td tX9_share_0_ok 4 (q := (6, .iload_n 1, 1)) rfl
theorem dX9_share_7 : decode cX9_share 7 = .ok (.ifCond .ne 7, 3) := td tX9_share_0_ok 5 (q := (7, .ifCond .ne 7, 3)) rfl
theorem dX9_share_10 : decode cX9_share 10 = .ok (.dconst 1, 1) := td tX9_share_0_ok 6 (q := (10, .dconst 1, 1)) rfl
theorem dX9_share_11 : decode cX9_share 11 = .ok (.goto 12, 3) := td tX9_share_0_ok 7 (q := (11, .goto 12, 3)) rfl
theorem dX9_share_14 : decode cX9_share 14 = .ok (.aload_n 0, 1) := td tX9_share_0_ok 8 (q := (14, .aload_n 0, 1)) rfl
theorem dX9_share_15 : decode cX9_share 15 = .ok (.iconst 4, 1) := td tX9_share_0_ok 9 (q := (15, .iconst 4, 1)) rfl
theorem dX9_share_16 : decode cX9_share 16 = .ok (.invokevirtual 189, 3) := td tX9_share_0_ok 10 (q := (16, .invokevirtual 189, 3)) rfl
theorem dX9_share_19 : decode cX9_share 19 = .ok (.i2d, 1) := td tX9_share_0_ok 11 (q := (19, .i2d, 1)) rfl
theorem dX9_share_20 : decode cX9_share 20 = .ok (.iload_n 1, 1) := td tX9_share_0_ok 12 (q := (20, .iload_n 1, 1)) rfl
theorem dX9_share_21 : decode cX9_share 21 = .ok (.i2d, 1) := td tX9_share_0_ok 13 (q := (21, .i2d, 1)) rfl
theorem dX9_share_22 : decode cX9_share 22 = .ok (.ddiv, 1) := td tX9_share_0_ok 14 (q := (22, .ddiv, 1)) rfl
theorem dX9_share_23 : decode cX9_share 23 = .ok (.dreturn, 1) := td tX9_share_0_ok 15 (q := (23, .dreturn, 1)) rfl
def fX9_share (ms : (Nat → Int32)) : Option (UInt64) :=
  (Option.bind (fX9_overReceipts ms (2 : Int32)) (fun q1 => (if q1 = 0 then (some FP.dconst1) else (Option.bind (fX9_overReceipts ms (4 : Int32)) (fun q3 => (Option.bind (dok (FP.ddiv (FP.i2d q3) (FP.i2d q1))) (fun t4 => (some t4))))))))
set_option maxHeartbeats 4000000 in
set_option maxRecDepth 100000 in
theorem mX9_share {l : Launch} {D : va_G} {bd : Nat → Nat} {cI : ClassId} {ms : (Nat → Int32)} {msv : (Nat → Int32)} {mb : (Nat → Int32)} {mf : (Nat → Int32)} {mr : (Nat → Int32)} {mt : Int32} {mn : Int32} {ml : Int32} {mat : Int32} {mw : Int32} {mm : Int32} {mh : Int64} {r : UInt64} (hs : fX9_share ms = some r) : nd_C l yX9_share cX9_share 2 (some .double) 4 98 D [(cI, .int)] [.ref (bd 0)] (MW bd cI ms msv mb mf mr mt mn ml mat mw mm mh) (MW bd cI ms msv mb mf mr mt mn ml mat mw mm mh) (some (.double r)) := by
  refine nd_ofCd (by decide) (Nat.le_of_ble_eq_true rfl) (fun p e s m args below meth c_ ls A Q hx hb hml hown hts hl hP hK hD hS hA hN hret => ?_)
  have hown : s.vm.findClass RX9 = some m.cls := hown
  have hl : lv_has ls 2 [(0, .ref (bd 0))] := hl
  have hret : ∀ (z0 : UInt64) {H : Heap} {locs : List Loc} {pc : Nat} {ls : Array Slot}, some z0 = some r → va_P D vwCl (MW bd cI ms msv mb mf mr mt mn ml mat mw mm mh) H → va_S A s.heap H locs → decode cX9_share pc = .ok (.dreturn, 1) → W p l e ⟨4, 0, 0, 98⟩ s m args below meth c_ H locs 0 0 Q (F0 m pc ls [.double z0]) := by
    intro z0 H locs pc ls h hP hS hd
    cases h
    exact hret hP hS hd
  rw [fX9_share] at hs
  refine lv_aload_n hx hb dX9_share_0 rfl (lv_at hl 0 rfl) ?_
  refine lv_iconst (v := (2 : Int32)) hx hb dX9_share_1 (by decide) ?_
  obtain ⟨q1, eq1, hs⟩ := ob hs
  refine nd_callV (As := [.int (2 : Int32)]) (rest := []) (st1 := [.int q1]) hx hb hml hown hts hl hP hK hD hS hA hN (mX9_overReceipts eq1) iv_X9_overReceipts wd_783 0 rfl rfl rfl rfl ⟨Nat.le_of_ble_eq_true rfl, Nat.le_of_ble_eq_true rfl⟩ (Nat.le_of_ble_eq_true rfl) ⟨Nat.zero_le _, Nat.zero_le _⟩ dX9_share_2 rfl rfl (fun H locs hP hD hS => ?_)
  refine lv_istore_n (lv' := [(1, .int q1), (0, .ref (bd 0))]) hx hb dX9_share_5 rfl hl (by decide) rfl (fun ls hl => ?_)
  refine lv_iload_n hx hb dX9_share_6 rfl (lv_at hl 0 rfl) ?_
  refine lv_if_ne (tgt := 14) hx hb dX9_share_7 (by decide) (fun b2 => ?_) (fun b2 => ?_)
  · have hs := ite_f hs b2
    refine lv_aload_n hx hb dX9_share_14 rfl (lv_at hl 1 rfl) ?_
    refine lv_iconst (v := (4 : Int32)) hx hb dX9_share_15 (by decide) ?_
    obtain ⟨q3, eq3, hs⟩ := ob hs
    refine nd_callV (As := [.int (4 : Int32)]) (rest := []) (st1 := [.int q3]) hx hb hml hown hts hl hP hK hD hS hA hN (mX9_overReceipts eq3) iv_X9_overReceipts wd_783 0 rfl rfl rfl rfl ⟨Nat.le_of_ble_eq_true rfl, Nat.le_of_ble_eq_true rfl⟩ (Nat.le_of_ble_eq_true rfl) ⟨Nat.zero_le _, Nat.zero_le _⟩ dX9_share_16 rfl rfl (fun H locs hP hD hS => ?_)
    refine lv_i2d hx hb dX9_share_19 ?_
    refine lv_iload_n hx hb dX9_share_20 rfl (lv_at hl 0 rfl) ?_
    refine lv_i2d hx hb dX9_share_21 ?_
    obtain ⟨t4, et4, hs⟩ := ob hs
    refine nd_ddiv hx hb dX9_share_22 et4 ?_
    exact hret _ hs hP hS dX9_share_23
  · have hs := ite_t hs b2
    refine lv_dconst1 hx hb dX9_share_10 ?_
    refine lv_goto (tgt := 23) hx hb dX9_share_11 (by decide) ?_
    exact hret _ hs hP hS dX9_share_23
def tX9_rightShare_0 : List (Nat × Instr × Nat) := [(0, .aload_n 0, 1), (1, .iconst 0, 1), (2, .putfield 25, 3), (5, .aload_n 0, 1), (6, .invokevirtual 217, 3), (9, .dreturn, 1)]
theorem tX9_rightShare_0_ok : tX9_rightShare_0.all (fun q => decide (decode cX9_rightShare q.1 = .ok q.2)) = true := by decide +kernel
theorem dX9_rightShare_0 : decode cX9_rightShare 0 = .ok (.aload_n 0, 1) := td tX9_rightShare_0_ok 0 (q := (0, .aload_n 0, 1)) rfl
theorem dX9_rightShare_1 : decode cX9_rightShare 1 = .ok (.iconst 0, 1) := td tX9_rightShare_0_ok 1 (q := (1, .iconst 0, 1)) rfl
theorem dX9_rightShare_2 : decode cX9_rightShare 2 = .ok (.putfield 25, 3) := td tX9_rightShare_0_ok 2 (q := (2, .putfield 25, 3)) rfl
theorem dX9_rightShare_5 : decode cX9_rightShare 5 = .ok (.aload_n 0, 1) := td tX9_rightShare_0_ok 3 (q := (5, .aload_n 0, 1)) rfl
theorem dX9_rightShare_6 : decode cX9_rightShare 6 = .ok (.invokevirtual 217, 3) := td tX9_rightShare_0_ok 4 (q := (6, .invokevirtual 217, 3)) rfl
theorem dX9_rightShare_9 : decode cX9_rightShare 9 = .ok (.dreturn, 1) := td tX9_rightShare_0_ok 5 (q := (9, .dreturn, 1)) rfl
def fX9_rightShare (ms : (Nat → Int32)) (mt : Int32) : Option (UInt64 × Int32) :=
  (Option.bind (fX9_share ms) (fun q1 => (some (q1, (0 : Int32)))))
set_option maxHeartbeats 4000000 in
set_option maxRecDepth 100000 in
theorem mX9_rightShare {l : Launch} {D : va_G} {bd : Nat → Nat} {cI : ClassId} {ms : (Nat → Int32)} {msv : (Nat → Int32)} {mb : (Nat → Int32)} {mf : (Nat → Int32)} {mr : (Nat → Int32)} {mt : Int32} {mn : Int32} {ml : Int32} {mat : Int32} {mw : Int32} {mm : Int32} {mh : Int64} {r : UInt64} {mt' : Int32} (hs : fX9_rightShare ms mt = some (r, mt')) : nd_C l yX9_rightShare cX9_rightShare 1 (some .double) 5 119 D [(cI, .int)] [.ref (bd 0)] (MW bd cI ms msv mb mf mr mt mn ml mat mw mm mh) (MW bd cI ms msv mb mf mr mt' mn ml mat mw mm mh) (some (.double r)) := by
  refine nd_ofCd (by decide) (Nat.le_of_ble_eq_true rfl) (fun p e s m args below meth c_ ls A Q hx hb hml hown hts hl hP hK hD hS hA hN hret => ?_)
  have hown : s.vm.findClass RX9 = some m.cls := hown
  have hl : lv_has ls 1 [(0, .ref (bd 0))] := hl
  have hret : ∀ (z0 : UInt64) (z1 : Int32) {H : Heap} {locs : List Loc} {pc : Nat} {ls : Array Slot}, some (z0, z1) = some (r, mt') → va_P D vwCl (MW bd cI ms msv mb mf mr z1 mn ml mat mw mm mh) H → va_S A s.heap H locs → decode cX9_rightShare pc = .ok (.dreturn, 1) → W p l e ⟨5, 0, 0, 119⟩ s m args below meth c_ H locs 0 0 Q (F0 m pc ls [.double z0]) := by
    intro z0 z1 H locs pc ls h hP hS hd
    cases h
    exact hret hP hS hd
  rw [fX9_rightShare] at hs
  refine lv_aload_n hx hb dX9_rightShare_0 rfl (lv_at hl 0 rfl) ?_
  refine lv_iconst (v := (0 : Int32)) hx hb dX9_rightShare_1 (by decide) ?_
  refine pf_X9_25 hx hb hts hown hK hP hD hS 0 rfl rfl dX9_rightShare_2 (fun H locs hP hD hS => ?_)
  have hP : va_P D vwCl (MW bd cI ms msv mb mf mr (0 : Int32) mn ml mat mw mm mh) H := hP
  have hD : va_D A (MW bd cI ms msv mb mf mr (0 : Int32) mn ml mat mw mm mh) := hD
  refine lv_aload_n hx hb dX9_rightShare_5 rfl (lv_at hl 0 rfl) ?_
  obtain ⟨q1, eq1, hs⟩ := ob hs
  refine nd_callV (As := []) (rest := []) (st1 := [.double q1]) hx hb hml hown hts hl hP hK hD hS hA hN (mX9_share eq1) iv_X9_share wd_922 0 rfl rfl rfl rfl ⟨Nat.le_of_ble_eq_true rfl, Nat.le_of_ble_eq_true rfl⟩ (Nat.le_of_ble_eq_true rfl) ⟨Nat.zero_le _, Nat.zero_le _⟩ dX9_rightShare_6 rfl rfl (fun H locs hP hD hS => ?_)
  exact hret _ _ hs hP hS dX9_rightShare_9
def tX9_hashes_0 : List (Nat × Instr × Nat) := [(0, .aload_n 0, 1), (1, .ldc2_w 221, 3), (4, .aload_n 0, 1), (5, .getfield 223, 3), (8, .lmul, 1), (9, .lload_n 1, 1), (10, .ladd, 1), (11, .putfield 223, 3), (14, .return_, 1)]
theorem tX9_hashes_0_ok : tX9_hashes_0.all (fun q => decide (decode cX9_hashes q.1 = .ok q.2)) = true := by decide +kernel
theorem dX9_hashes_0 : decode cX9_hashes 0 = .ok (.aload_n 0, 1) := td tX9_hashes_0_ok 0 (q := (0, .aload_n 0, 1)) rfl
theorem dX9_hashes_1 : decode cX9_hashes 1 = .ok (.ldc2_w 221, 3) := td tX9_hashes_0_ok 1 (q := (1, .ldc2_w 221, 3)) rfl
theorem dX9_hashes_4 : decode cX9_hashes 4 = .ok (.aload_n 0, 1) := td tX9_hashes_0_ok 2 (q := (4, .aload_n 0, 1)) rfl
theorem dX9_hashes_5 : decode cX9_hashes 5 = .ok (.getfield 223, 3) := td tX9_hashes_0_ok 3 (q := (5, .getfield 223, 3)) rfl
theorem dX9_hashes_8 : decode cX9_hashes 8 = .ok (.lmul, 1) := td tX9_hashes_0_ok 4 (q := (8, .lmul, 1)) rfl
theorem dX9_hashes_9 : decode cX9_hashes 9 = .ok (.lload_n 1, 1) := td tX9_hashes_0_ok 5 (q := (9, .lload_n 1, 1)) rfl
theorem dX9_hashes_10 : decode cX9_hashes 10 = .ok (.ladd, 1) := td tX9_hashes_0_ok 6 (q := (10, .ladd, 1)) rfl
theorem dX9_hashes_11 : decode cX9_hashes 11 = .ok (.putfield 223, 3) := td tX9_hashes_0_ok 7 (q := (11, .putfield 223, 3)) rfl
theorem dX9_hashes_14 : decode cX9_hashes 14 = .ok (.return_, 1) := td tX9_hashes_0_ok 8 (q := (14, .return_, 1)) rfl
def fX9_hashes (mh : Int64) (x1 : Int64) : Option (Int64) :=
  (some (((31 : Int64) * mh) + x1))
set_option maxHeartbeats 4000000 in
set_option maxRecDepth 100000 in
theorem mX9_hashes {l : Launch} {D : va_G} {bd : Nat → Nat} {cI : ClassId} {ms : (Nat → Int32)} {msv : (Nat → Int32)} {mb : (Nat → Int32)} {mf : (Nat → Int32)} {mr : (Nat → Int32)} {mt : Int32} {mn : Int32} {ml : Int32} {mat : Int32} {mw : Int32} {mm : Int32} {mh : Int64} {x1 : Int64} {mh' : Int64} (hs : fX9_hashes mh x1 = some mh') : nd_C l yX9_hashes cX9_hashes 3 none 0 0 D [(cI, .int)] [.ref (bd 0), .long x1] (MW bd cI ms msv mb mf mr mt mn ml mat mw mm mh) (MW bd cI ms msv mb mf mr mt mn ml mat mw mm mh') none := by
  refine nd_ofCv (by decide) (Nat.le_of_ble_eq_true rfl) (fun p e s m args below meth c_ ls A Q hx hb hml hown hts hl hP hK hD hS hA hN hret => ?_)
  have hown : s.vm.findClass RX9 = some m.cls := hown
  have hl : lv_has ls 3 [(0, .ref (bd 0)), (1, .long x1)] := hl
  have hret : ∀ (z0 : Int64) {H : Heap} {locs : List Loc} {pc : Nat} {ls : Array Slot}, some z0 = some mh' → va_P D vwCl (MW bd cI ms msv mb mf mr mt mn ml mat mw mm z0) H → va_S A s.heap H locs → decode cX9_hashes pc = .ok (.return_, 1) → W p l e ⟨0, 0, 0, 0⟩ s m args below meth c_ H locs 0 0 Q (F0 m pc ls []) := by
    intro z0 H locs pc ls h hP hS hd
    cases h
    exact hret hP hS hd
  rw [fX9_hashes] at hs
  refine lv_aload_n hx hb dX9_hashes_0 rfl (lv_at hl 0 rfl) ?_
  refine lv_ldc2 hx hb hown (hts _ wd_984) dX9_hashes_1 ?_
  refine lv_aload_n hx hb dX9_hashes_4 rfl (lv_at hl 0 rfl) ?_
  refine gf_X9_223 hx hb hts hown hK hP 0 rfl rfl dX9_hashes_5 ?_
  refine lv_lmul hx hb dX9_hashes_8 ?_
  refine lv_lload_n hx hb dX9_hashes_9 rfl (lv_at hl 1 rfl) ?_
  refine lv_ladd hx hb dX9_hashes_10 ?_
  refine pf_X9_223 hx hb hts hown hK hP hD hS 0 rfl rfl dX9_hashes_11 (fun H locs hP hD hS => ?_)
  have hP : va_P D vwCl (MW bd cI ms msv mb mf mr mt mn ml mat mw mm (((31 : Int64) * mh) + x1)) H := hP
  have hD : va_D A (MW bd cI ms msv mb mf mr mt mn ml mat mw mm (((31 : Int64) * mh) + x1)) := hD
  exact hret _ hs hP hS dX9_hashes_14
def tX9_hashesPieces_0 : List (Nat × Instr × Nat) := [(0, .iconst 0, 1), (1, .istore_n 1, 1), (2, .iload_n 1, 1), (3, .aload_n 0, 1), (4, .getfield 7, 3), (7, .iconst 0, 1), (8, .iaload, 1), (9, .if_icmp .ge 73, 3), (12, .iconst 0, 1), (13, .istore_n 2, 1), (14, .iload_n 2, 1), (15, .bipush 8, 2), (17, .if_icmp .ge 20, 3), (20, .aload_n 0, 1), (21, .aload_n 0, 1), (22, .iload_n 1, 1), (23, .iload_n 2, 1), (24, .invokevirtual 152, 3), (27, .i2l, 1), (28, .invokevirtual 227, 3), (31, .iinc 2 1, 3), (34, .goto (-20), 3), (37, .iconst 0, 1), (38, .istore_n 2, 1), (39, .iload_n 2, 1), (40, .bipush 9, 2), (42, .aload_n 0, 1), (43, .iload_n 1, 1), (44, .iconst 2, 1), (45, .invokevirtual 33, 3), (48, .imul, 1), (49, .if_icmp .ge 27, 3), (52, .aload_n 0, 1), (53, .aload_n 0, 1), (54, .iload_n 1, 1), (55, .iload_n 2, 1), (56, .bipush 9, 2), (58, .idiv, 1), (59, .iload_n 2, 1), (60, .bipush 9, 2), (62, .irem, 1), (63, .invokevirtual 170, 3), (66, .i2l, 1), (67, .invokevirtual 227, 3), (70, .iinc 2 1, 3), (73, .goto (-34), 3), (76, .iinc 1 1, 3), (79, .goto (-77), 3), (82, .iconst 0, 1), (83, .istore_n 1, 1), (84, .iload_n 1, 1), (85, .aload_n 0, 1), (86, .getfield 7, 3), (89, .iconst 0, 1), (90, .iaload, 1), (91, .aload_n 0, 1), (92, .getfield 7, 3), (95, .iconst 0, 1), (96, .iaload, 1), (97, .imul, 1)]
theorem tX9_hashesPieces_0_ok : tX9_hashesPieces_0.all (fun q => decide (decode cX9_hashesPieces q.1 = .ok q.2)) = true := by decide +kernel
theorem dX9_hashesPieces_0 : decode cX9_hashesPieces 0 = .ok (.iconst 0, 1) := td tX9_hashesPieces_0_ok 0 (q := (0, .iconst 0, 1)) rfl
theorem dX9_hashesPieces_1 : decode cX9_hashesPieces 1 = .ok (.istore_n 1, 1) := td tX9_hashesPieces_0_ok 1 (q := (1, .istore_n 1, 1)) rfl
theorem dX9_hashesPieces_2 : decode cX9_hashesPieces 2 = .ok (.iload_n 1, 1) := td tX9_hashesPieces_0_ok 2 (q := (2, .iload_n 1, 1)) rfl
theorem dX9_hashesPieces_3 : decode cX9_hashesPieces 3 = .ok (.aload_n 0, 1) := td tX9_hashesPieces_0_ok 3 (q := (3, .aload_n 0, 1)) rfl
theorem dX9_hashesPieces_4 : decode cX9_hashesPieces 4 = .ok (.getfield 7, 3) := td tX9_hashesPieces_0_ok 4 (q := (4, .getfield 7, 3)) rfl
theorem dX9_hashesPieces_7 : decode cX9_hashesPieces 7 = .ok (.iconst 0, 1) := td tX9_hashesPieces_0_ok 5 (q := (7, .iconst 0, 1)) rfl
theorem dX9_hashesPieces_8 : decode cX9_hashesPieces 8 = .ok (.iaload, 1) := td tX9_hashesPieces_0_ok 6 (q := (8, .iaload, 1)) rfl
theorem dX9_hashesPieces_9 : decode cX9_hashesPieces 9 = .ok (.if_icmp .ge 73, 3) := td tX9_hashesPieces_0_ok 7 (q := (9, .if_icmp .ge 73, 3)) rfl
theorem dX9_hashesPieces_12 : decode cX9_hashesPieces 12 = .ok (.iconst 0, 1) := td tX9_hashesPieces_0_ok 8 (q := (12, .iconst 0, 1)) rfl
theorem dX9_hashesPieces_13 : decode cX9_hashesPieces 13 = .ok (.istore_n 2, 1) := td tX9_hashesPieces_0_ok 9 (q := (13, .istore_n 2, 1)) rfl
theorem dX9_hashesPieces_14 : decode cX9_hashesPieces 14 = .ok (.iload_n 2, 1) := td tX9_hashesPieces_0_ok 10 (q := (14, .iload_n 2, 1)) rfl
theorem dX9_hashesPieces_15 : decode cX9_hashesPieces 15 = .ok (.bipush 8, 2) := td tX9_hashesPieces_0_ok 11 (q := (15, .bipush 8, 2)) rfl
theorem dX9_hashesPieces_17 : decode cX9_hashesPieces 17 = .ok (.if_icmp .ge 20, 3) := td tX9_hashesPieces_0_ok 12 (q := (17, .if_icmp .ge 20, 3)) rfl
theorem dX9_hashesPieces_20 : decode cX9_hashesPieces 20 = .ok (.aload_n 0, 1) := td tX9_hashesPieces_0_ok 13 (q := (20, .aload_n 0, 1)) rfl
theorem dX9_hashesPieces_21 : decode cX9_hashesPieces 21 = .ok (.aload_n 0, 1) := td tX9_hashesPieces_0_ok 14 (q := (21, .aload_n 0, 1)) rfl
theorem dX9_hashesPieces_22 : decode cX9_hashesPieces 22 = .ok (.iload_n 1, 1) := td tX9_hashesPieces_0_ok 15 (q := (22, .iload_n 1, 1)) rfl
theorem dX9_hashesPieces_23 : decode cX9_hashesPieces 23 = .ok (.iload_n 2, 1) := td tX9_hashesPieces_0_ok 16 (q := (23, .iload_n 2, 1)) rfl
theorem dX9_hashesPieces_24 : decode cX9_hashesPieces 24 = .ok (.invokevirtual 152, 3) := td tX9_hashesPieces_0_ok 17 (q := (24, .invokevirtual 152, 3)) rfl
theorem dX9_hashesPieces_27 : decode cX9_hashesPieces 27 = .ok (.i2l, 1) := td tX9_hashesPieces_0_ok 18 (q := (27, .i2l, 1)) rfl
theorem dX9_hashesPieces_28 : decode cX9_hashesPieces 28 = .ok (.invokevirtual 227, 3) := td tX9_hashesPieces_0_ok 19 (q := (28, .invokevirtual 227, 3)) rfl
theorem dX9_hashesPieces_31 : decode cX9_hashesPieces 31 = .ok (.iinc 2 1, 3) := td tX9_hashesPieces_0_ok 20 (q := (31, .iinc 2 1, 3)) rfl
theorem dX9_hashesPieces_34 : decode cX9_hashesPieces 34 = .ok (.goto (-20), 3) := td tX9_hashesPieces_0_ok 21 (q := (34, .goto (-20), 3)) rfl
theorem dX9_hashesPieces_37 : decode cX9_hashesPieces 37 = .ok (.iconst 0, 1) := td tX9_hashesPieces_0_ok 22 (q := (37, .iconst 0, 1)) rfl
theorem dX9_hashesPieces_38 : decode cX9_hashesPieces 38 = .ok (.istore_n 2, 1) := td tX9_hashesPieces_0_ok 23 (q := (38, .istore_n 2, 1)) rfl
theorem dX9_hashesPieces_39 : decode cX9_hashesPieces 39 = .ok (.iload_n 2, 1) := td tX9_hashesPieces_0_ok 24 (q := (39, .iload_n 2, 1)) rfl
theorem dX9_hashesPieces_40 : decode cX9_hashesPieces 40 = .ok (.bipush 9, 2) := td tX9_hashesPieces_0_ok 25 (q := (40, .bipush 9, 2)) rfl
theorem dX9_hashesPieces_42 : decode cX9_hashesPieces 42 = .ok (.aload_n 0, 1) := td tX9_hashesPieces_0_ok 26 (q := (42, .aload_n 0, 1)) rfl
theorem dX9_hashesPieces_43 : decode cX9_hashesPieces 43 = .ok (.iload_n 1, 1) := td tX9_hashesPieces_0_ok 27 (q := (43, .iload_n 1, 1)) rfl
theorem dX9_hashesPieces_44 : decode cX9_hashesPieces 44 = .ok (.iconst 2, 1) := td tX9_hashesPieces_0_ok 28 (q := (44, .iconst 2, 1)) rfl
theorem dX9_hashesPieces_45 : decode cX9_hashesPieces 45 = .ok (.invokevirtual 33, 3) := td tX9_hashesPieces_0_ok 29 (q := (45, .invokevirtual 33, 3)) rfl
theorem dX9_hashesPieces_48 : decode cX9_hashesPieces 48 = .ok (.imul, 1) := td tX9_hashesPieces_0_ok 30 (q := (48, .imul, 1)) rfl
theorem dX9_hashesPieces_49 : decode cX9_hashesPieces 49 = .ok (.if_icmp .ge 27, 3) := td tX9_hashesPieces_0_ok 31 (q := (49, .if_icmp .ge 27, 3)) rfl
theorem dX9_hashesPieces_52 : decode cX9_hashesPieces 52 = .ok (.aload_n 0, 1) := td tX9_hashesPieces_0_ok 32 (q := (52, .aload_n 0, 1)) rfl
theorem dX9_hashesPieces_53 : decode cX9_hashesPieces 53 = .ok (.aload_n 0, 1) := td tX9_hashesPieces_0_ok 33 (q := (53, .aload_n 0, 1)) rfl
theorem dX9_hashesPieces_54 : decode cX9_hashesPieces 54 = .ok (.iload_n 1, 1) := td tX9_hashesPieces_0_ok 34 (q := (54, .iload_n 1, 1)) rfl
theorem dX9_hashesPieces_55 : decode cX9_hashesPieces 55 = .ok (.iload_n 2, 1) := td tX9_hashesPieces_0_ok 35 (q := (55, .iload_n 2, 1)) rfl
theorem dX9_hashesPieces_56 : decode cX9_hashesPieces 56 = .ok (.bipush 9, 2) := td tX9_hashesPieces_0_ok 36 (q := (56, .bipush 9, 2)) rfl
theorem dX9_hashesPieces_58 : decode cX9_hashesPieces 58 = .ok (.idiv, 1) := td tX9_hashesPieces_0_ok 37 (q := (58, .idiv, 1)) rfl
theorem dX9_hashesPieces_59 : decode cX9_hashesPieces 59 = .ok (.iload_n 2, 1) := td tX9_hashesPieces_0_ok 38 (q := (59, .iload_n 2, 1)) rfl
theorem dX9_hashesPieces_60 : decode cX9_hashesPieces 60 = .ok (.bipush 9, 2) := td tX9_hashesPieces_0_ok 39 (q := (60, .bipush 9, 2)) rfl
theorem dX9_hashesPieces_62 : decode cX9_hashesPieces 62 = .ok (.irem, 1) := td tX9_hashesPieces_0_ok 40 (q := (62, .irem, 1)) rfl
theorem dX9_hashesPieces_63 : decode cX9_hashesPieces 63 = .ok (.invokevirtual 170, 3) := td tX9_hashesPieces_0_ok 41 (q := (63, .invokevirtual 170, 3)) rfl
theorem dX9_hashesPieces_66 : decode cX9_hashesPieces 66 = .ok (.i2l, 1) := td tX9_hashesPieces_0_ok 42 (q := (66, .i2l, 1)) rfl
theorem dX9_hashesPieces_67 : decode cX9_hashesPieces 67 = .ok (.invokevirtual 227, 3) := td tX9_hashesPieces_0_ok 43 (q := (67, .invokevirtual 227, 3)) rfl
theorem dX9_hashesPieces_70 : decode cX9_hashesPieces 70 = .ok (.iinc 2 1, 3) := td tX9_hashesPieces_0_ok 44 (q := (70, .iinc 2 1, 3)) rfl
theorem dX9_hashesPieces_73 : decode cX9_hashesPieces 73 = .ok (.goto (-34), 3) := td tX9_hashesPieces_0_ok 45 (q := (73, .goto (-34), 3)) rfl
theorem dX9_hashesPieces_76 : decode cX9_hashesPieces 76 = .ok (.iinc 1 1, 3) := td tX9_hashesPieces_0_ok 46 (q := (76, .iinc 1 1, 3)) rfl
theorem dX9_hashesPieces_79 : decode cX9_hashesPieces 79 = .ok (.goto (-77), 3) := td tX9_hashesPieces_0_ok 47 (q := (79, .goto (-77), 3)) rfl
theorem dX9_hashesPieces_82 : decode cX9_hashesPieces 82 = .ok (.iconst 0, 1) := td tX9_hashesPieces_0_ok 48 (q := (82, .iconst 0, 1)) rfl
theorem dX9_hashesPieces_83 : decode cX9_hashesPieces 83 = .ok (.istore_n 1, 1) := td tX9_hashesPieces_0_ok 49 (q := (83, .istore_n 1, 1)) rfl
theorem dX9_hashesPieces_84 : decode cX9_hashesPieces 84 = .ok (.iload_n 1, 1) := td tX9_hashesPieces_0_ok 50 (q := (84, .iload_n 1, 1)) rfl
theorem dX9_hashesPieces_85 : decode cX9_hashesPieces 85 = .ok (.aload_n 0, 1) := td tX9_hashesPieces_0_ok 51 (q := (85, .aload_n 0, 1)) rfl
theorem dX9_hashesPieces_86 : decode cX9_hashesPieces 86 = .ok (.getfield 7, 3) := td tX9_hashesPieces_0_ok 52 (q := (86, .getfield 7, 3)) rfl
theorem dX9_hashesPieces_89 : decode cX9_hashesPieces 89 = .ok (.iconst 0, 1) := td tX9_hashesPieces_0_ok 53 (q := (89, .iconst 0, 1)) rfl
theorem dX9_hashesPieces_90 : decode cX9_hashesPieces 90 = .ok (.iaload, 1) := td tX9_hashesPieces_0_ok 54 (q := (90, .iaload, 1)) rfl
theorem dX9_hashesPieces_91 : decode cX9_hashesPieces 91 = .ok (.aload_n 0, 1) := td tX9_hashesPieces_0_ok 55 (q := (91, .aload_n 0, 1)) rfl
theorem dX9_hashesPieces_92 : decode cX9_hashesPieces 92 = .ok (.getfield 7, 3) := td tX9_hashesPieces_0_ok 56 (q := (92, .getfield 7, 3)) rfl
theorem dX9_hashesPieces_95 : decode cX9_hashesPieces 95 = .ok (.iconst 0, 1) := td tX9_hashesPieces_0_ok 57 (q := (95, .iconst 0, 1)) rfl
theorem dX9_hashesPieces_96 : decode cX9_hashesPieces 96 = .ok (.iaload, 1) := td tX9_hashesPieces_0_ok 58 (q := (96, .iaload, 1)) rfl
theorem dX9_hashesPieces_97 : decode cX9_hashesPieces 97 = .ok (.imul, 1) := td tX9_hashesPieces_0_ok 59 (q := (97, .imul, 1)) rfl
def tX9_hashesPieces_1 : List (Nat × Instr × Nat) := [(98, .if_icmp .ge 34, 3), (101, .aload_n 0, 1), (102, .aload_n 0, 1), (103, .iload_n 1, 1), (104, .aload_n 0, 1), (105, .getfield 7, 3), (108, .iconst 0, 1), (109, .iaload, 1), (110, .idiv, 1), (111, .iload_n 1, 1), (112, .aload_n 0, 1), (113, .getfield 7, 3), (116, .iconst 0, 1), (117, .iaload, 1), (118, .irem, 1), (119, .invokevirtual 72, 3), (122, .i2l, 1), (123, .invokevirtual 227, 3), (126, .iinc 1 1, 3), (129, .goto (-45), 3), (132, .return_, 1)]
theorem tX9_hashesPieces_1_ok : tX9_hashesPieces_1.all (fun q => decide (decode cX9_hashesPieces q.1 = .ok q.2)) = true := by decide +kernel
theorem dX9_hashesPieces_98 : decode cX9_hashesPieces 98 = .ok (.if_icmp .ge 34, 3) := td tX9_hashesPieces_1_ok 0 (q := (98, .if_icmp .ge 34, 3)) rfl
theorem dX9_hashesPieces_101 : decode cX9_hashesPieces 101 = .ok (.aload_n 0, 1) := td tX9_hashesPieces_1_ok 1 (q := (101, .aload_n 0, 1)) rfl
theorem dX9_hashesPieces_102 : decode cX9_hashesPieces 102 = .ok (.aload_n 0, 1) := td tX9_hashesPieces_1_ok 2 (q := (102, .aload_n 0, 1)) rfl
theorem dX9_hashesPieces_103 : decode cX9_hashesPieces 103 = .ok (.iload_n 1, 1) := td tX9_hashesPieces_1_ok 3 (q := (103, .iload_n 1, 1)) rfl
theorem dX9_hashesPieces_104 : decode cX9_hashesPieces 104 = .ok (.aload_n 0, 1) := td tX9_hashesPieces_1_ok 4 (q := (104, .aload_n 0, 1)) rfl
theorem dX9_hashesPieces_105 : decode cX9_hashesPieces 105 = .ok (.getfield 7, 3) := td tX9_hashesPieces_1_ok 5 (q := (105, .getfield 7, 3)) rfl
theorem dX9_hashesPieces_108 : decode cX9_hashesPieces 108 = .ok (.iconst 0, 1) := td tX9_hashesPieces_1_ok 6 (q := (108, .iconst 0, 1)) rfl
theorem dX9_hashesPieces_109 : decode cX9_hashesPieces 109 = .ok (.iaload, 1) := td tX9_hashesPieces_1_ok 7 (q := (109, .iaload, 1)) rfl
theorem dX9_hashesPieces_110 : decode cX9_hashesPieces 110 = .ok (.idiv, 1) := td tX9_hashesPieces_1_ok 8 (q := (110, .idiv, 1)) rfl
theorem dX9_hashesPieces_111 : decode cX9_hashesPieces 111 = .ok (.iload_n 1, 1) := td tX9_hashesPieces_1_ok 9 (q := (111, .iload_n 1, 1)) rfl
theorem dX9_hashesPieces_112 : decode cX9_hashesPieces 112 = .ok (.aload_n 0, 1) := td tX9_hashesPieces_1_ok 10 (q := (112, .aload_n 0, 1)) rfl
theorem dX9_hashesPieces_113 : decode cX9_hashesPieces 113 = .ok (.getfield 7, 3) := td tX9_hashesPieces_1_ok 11 (q := (113, .getfield 7, 3)) rfl
theorem dX9_hashesPieces_116 : decode cX9_hashesPieces 116 = .ok (.iconst 0, 1) := td tX9_hashesPieces_1_ok 12 (q := (116, .iconst 0, 1)) rfl
theorem dX9_hashesPieces_117 : decode cX9_hashesPieces 117 = .ok (.iaload, 1) := td tX9_hashesPieces_1_ok 13 (q := (117, .iaload, 1)) rfl
theorem dX9_hashesPieces_118 : decode cX9_hashesPieces 118 = .ok (.irem, 1) := td tX9_hashesPieces_1_ok 14 (q := (118, .irem, 1)) rfl
theorem dX9_hashesPieces_119 : decode cX9_hashesPieces 119 = .ok (.invokevirtual 72, 3) := td tX9_hashesPieces_1_ok 15 (q := (119, .invokevirtual 72, 3)) rfl
theorem dX9_hashesPieces_122 : decode cX9_hashesPieces 122 = .ok (.i2l, 1) := td tX9_hashesPieces_1_ok 16 (q := (122, .i2l, 1)) rfl
theorem dX9_hashesPieces_123 : decode cX9_hashesPieces 123 = .ok (.invokevirtual 227, 3) := td tX9_hashesPieces_1_ok 17 (q := (123, .invokevirtual 227, 3)) rfl
theorem dX9_hashesPieces_126 : decode cX9_hashesPieces 126 = .ok (.iinc 1 1, 3) := td tX9_hashesPieces_1_ok 18 (q := (126, .iinc 1 1, 3)) rfl
theorem dX9_hashesPieces_129 : decode cX9_hashesPieces 129 = .ok (.goto (-45), 3) := td tX9_hashesPieces_1_ok 19 (q := (129, .goto (-45), 3)) rfl
theorem dX9_hashesPieces_132 : decode cX9_hashesPieces 132 = .ok (.return_, 1) := td tX9_hashesPieces_1_ok 20 (q := (132, .return_, 1)) rfl
def fX9_hashesPieces_14 (k14 : Int64 → Option (Int64)) (ms : (Nat → Int32)) (x1 : Int32) : Nat → Int32 → Int64 → Option (Int64)
  | 0, _, _ => none
  | n14 + 1, x2, mh => (if (8 : Int32) ≤ x2 then (k14 mh) else (Option.bind (fX9_tellsPiece ms x1 x2) (fun q4 => (Option.bind (fX9_hashes mh q4.toInt64) (fun q5 => (fX9_hashesPieces_14 k14 ms x1 n14 (x2 + (1 : Int32)) q5))))))
def fX9_hashesPieces_39 (k39 : Int64 → Option (Int64)) (ms : (Nat → Int32)) (x1 : Int32) : Nat → Int32 → Int64 → Option (Int64)
  | 0, _, _ => none
  | n39 + 1, x2, mh => (Option.bind (fX9_of ms x1 (2 : Int32)) (fun q10 => (if ((9 : Int32) * q10) ≤ x2 then (k39 mh) else (Option.bind (fX9_tellsReceipt ms x1 (x2 / (9 : Int32)) (x2 - x2 / (9 : Int32) * (9 : Int32))) (fun q12 => (Option.bind (fX9_hashes mh q12.toInt64) (fun q13 => (fX9_hashesPieces_39 k39 ms x1 n39 (x2 + (1 : Int32)) q13))))))))
def fX9_hashesPieces_2 (k2 : Int64 → Option (Int64)) (ms : (Nat → Int32)) : Nat → Int32 → Int64 → Option (Int64)
  | 0, _, _ => none
  | n2 + 1, x1, mh => (Option.bind (aget ms 531 (0 : Int32)) (fun t1 => (if t1 ≤ x1 then (k2 mh) else (fX9_hashesPieces_14 (fun (mh_u6 : Int64) => (fX9_hashesPieces_39 (fun (mh_u14 : Int64) => (fX9_hashesPieces_2 k2 ms n2 (x1 + (1 : Int32)) mh_u14)) ms x1 LF (0 : Int32) mh_u6)) ms x1 LF (0 : Int32) mh))))
def fX9_hashesPieces_84 (k84 : Int64 → Option (Int64)) (ms : (Nat → Int32)) : Nat → Int32 → Int64 → Option (Int64)
  | 0, _, _ => none
  | n84 + 1, x1, mh => (Option.bind (aget ms 531 (0 : Int32)) (fun t38 => (Option.bind (aget ms 531 (0 : Int32)) (fun t39 => (if (t38 * t39) ≤ x1 then (k84 mh) else (Option.bind (aget ms 531 (0 : Int32)) (fun t41 => (Option.bind (jdiv x1 t41) (fun t42 => (Option.bind (aget ms 531 (0 : Int32)) (fun t43 => (Option.bind (jrem x1 t43) (fun t44 => (Option.bind (fX9_fitting ms t42 t44) (fun q45 => (Option.bind (fX9_hashes mh q45.toInt64) (fun q46 => (fX9_hashesPieces_84 k84 ms n84 (x1 + (1 : Int32)) q46))))))))))))))))))
def fX9_hashesPieces (ms : (Nat → Int32)) (mh : Int64) : Option (Int64) :=
  (fX9_hashesPieces_2 (fun (mh_u19 : Int64) => (fX9_hashesPieces_84 (fun (mh_u47 : Int64) => (some mh_u47)) ms LF (0 : Int32) mh_u19)) ms LF (0 : Int32) mh)
set_option maxHeartbeats 4000000 in
set_option maxRecDepth 100000 in
theorem mX9_hashesPieces {l : Launch} {D : va_G} {bd : Nat → Nat} {cI : ClassId} {ms : (Nat → Int32)} {msv : (Nat → Int32)} {mb : (Nat → Int32)} {mf : (Nat → Int32)} {mr : (Nat → Int32)} {mt : Int32} {mn : Int32} {ml : Int32} {mat : Int32} {mw : Int32} {mm : Int32} {mh : Int64} {mh' : Int64} (hs : fX9_hashesPieces ms mh = some mh') : nd_C l yX9_hashesPieces cX9_hashesPieces 3 none 6 133 D [(cI, .int)] [.ref (bd 0)] (MW bd cI ms msv mb mf mr mt mn ml mat mw mm mh) (MW bd cI ms msv mb mf mr mt mn ml mat mw mm mh') none := by
  refine nd_ofCv (by decide) (Nat.le_of_ble_eq_true rfl) (fun p e s m args below meth c_ ls A Q hx hb hml hown hts hl hP hK hD hS hA hN hret => ?_)
  have hown : s.vm.findClass RX9 = some m.cls := hown
  have hl : lv_has ls 3 [(0, .ref (bd 0))] := hl
  have hret : ∀ (z0 : Int64) {H : Heap} {locs : List Loc} {pc : Nat} {ls : Array Slot}, some z0 = some mh' → va_P D vwCl (MW bd cI ms msv mb mf mr mt mn ml mat mw mm z0) H → va_S A s.heap H locs → decode cX9_hashesPieces pc = .ok (.return_, 1) → W p l e ⟨6, 0, 0, 133⟩ s m args below meth c_ H locs 0 0 Q (F0 m pc ls []) := by
    intro z0 H locs pc ls h hP hS hd
    cases h
    exact hret hP hS hd
  rw [fX9_hashesPieces] at hs
  refine lv_iconst (v := (0 : Int32)) hx hb dX9_hashesPieces_0 (by decide) ?_
  refine lv_istore_n (lv' := [(1, .int (0 : Int32)), (0, .ref (bd 0))]) hx hb dX9_hashesPieces_1 rfl hl (by decide) rfl (fun ls hl => ?_)
  have L2 : ∀ (n2 : Nat) (k2 : Int64 → Option (Int64)) (v1_19 : Int32) (mh_19 : Int64) (H : Heap) (locs : List Loc) (ls : Array Slot), lv_has ls 3 [(0, .ref (bd 0)), (1, .int v1_19)] → va_P D vwCl (MW bd cI ms msv mb mf mr mt mn ml mat mw mm mh_19) H → va_S A s.heap H locs → fX9_hashesPieces_2 k2 ms n2 v1_19 mh_19 = some mh' → (∀ (mh_u19 : Int64) (H : Heap) (locs : List Loc) (ls : Array Slot), lv_has ls 3 [(0, .ref (bd 0))] → va_P D vwCl (MW bd cI ms msv mb mf mr mt mn ml mat mw mm mh_u19) H → va_S A s.heap H locs → k2 mh_u19 = some mh' → W p l e ⟨6, 0, 0, 133⟩ s m args below meth c_ H locs 0 0 Q (F0 m 82 ls [])) → W p l e ⟨6, 0, 0, 133⟩ s m args below meth c_ H locs 0 0 Q (F0 m 2 ls []) := by
    intro n2
    induction n2 with
    | zero =>
      intro k2 v1_19 mh_19 H locs ls hl hP hS hs hk2
      rw [fX9_hashesPieces_2] at hs
      cases hs
    | succ n2 ih2 =>
      intro k2 v1_19 mh_19 H locs ls hl hP hS hs hk2
      rw [fX9_hashesPieces_2] at hs
      have hD : va_D A (MW bd cI ms msv mb mf mr mt mn ml mat mw mm mh_19) := nd_DD hD rfl
      refine lv_iload_n hx hb dX9_hashesPieces_2 rfl (lv_at hl 1 rfl) ?_
      refine lv_aload_n hx hb dX9_hashesPieces_3 rfl (lv_at hl 0 rfl) ?_
      refine gf_X9_7 hx hb hts hown hK hP 0 rfl rfl dX9_hashesPieces_4 ?_
      refine lv_iconst (v := (0 : Int32)) hx hb dX9_hashesPieces_7 (by decide) ?_
      obtain ⟨t20, et20, hs⟩ := ob hs
      refine nd_iald hx hb hK hP 1 0 rfl rfl et20 dX9_hashesPieces_8 ?_
      refine lv_icmp_ge (tgt := 82) hx hb dX9_hashesPieces_9 (by decide) (fun b21 => ?_) (fun b21 => ?_)
      · have hs := ite_t hs b21
        exact hk2 mh_19 _ _ _ (lv_sub hl [0] rfl) hP hS hs
      · have hs := ite_f hs b21
        refine lv_iconst (v := (0 : Int32)) hx hb dX9_hashesPieces_12 (by decide) ?_
        refine lv_istore_n (lv' := [(2, .int (0 : Int32)), (0, .ref (bd 0)), (1, .int v1_19)]) hx hb dX9_hashesPieces_13 rfl hl (by decide) rfl (fun ls hl => ?_)
        have L14 : ∀ (n14 : Nat) (k14 : Int64 → Option (Int64)) (v2_25 : Int32) (mh_25 : Int64) (H : Heap) (locs : List Loc) (ls : Array Slot), lv_has ls 3 [(0, .ref (bd 0)), (1, .int v1_19), (2, .int v2_25)] → va_P D vwCl (MW bd cI ms msv mb mf mr mt mn ml mat mw mm mh_25) H → va_S A s.heap H locs → fX9_hashesPieces_14 k14 ms v1_19 n14 v2_25 mh_25 = some mh' → (∀ (mh_u25 : Int64) (H : Heap) (locs : List Loc) (ls : Array Slot), lv_has ls 3 [(0, .ref (bd 0)), (1, .int v1_19)] → va_P D vwCl (MW bd cI ms msv mb mf mr mt mn ml mat mw mm mh_u25) H → va_S A s.heap H locs → k14 mh_u25 = some mh' → W p l e ⟨6, 0, 0, 133⟩ s m args below meth c_ H locs 0 0 Q (F0 m 37 ls [])) → W p l e ⟨6, 0, 0, 133⟩ s m args below meth c_ H locs 0 0 Q (F0 m 14 ls []) := by
          intro n14
          induction n14 with
          | zero =>
            intro k14 v2_25 mh_25 H locs ls hl hP hS hs hk14
            rw [fX9_hashesPieces_14] at hs
            cases hs
          | succ n14 ih14 =>
            intro k14 v2_25 mh_25 H locs ls hl hP hS hs hk14
            rw [fX9_hashesPieces_14] at hs
            have hD : va_D A (MW bd cI ms msv mb mf mr mt mn ml mat mw mm mh_25) := nd_DD hD rfl
            refine lv_iload_n hx hb dX9_hashesPieces_14 rfl (lv_at hl 2 rfl) ?_
            refine lv_bipush (v := (8 : Int32)) hx hb dX9_hashesPieces_15 (by decide) ?_
            refine lv_icmp_ge (tgt := 37) hx hb dX9_hashesPieces_17 (by decide) (fun b26 => ?_) (fun b26 => ?_)
            · have hs := ite_t hs b26
              exact hk14 mh_25 _ _ _ (lv_sub hl [0, 1] rfl) hP hS hs
            · have hs := ite_f hs b26
              refine lv_aload_n hx hb dX9_hashesPieces_20 rfl (lv_at hl 0 rfl) ?_
              refine lv_aload_n hx hb dX9_hashesPieces_21 rfl (lv_at hl 0 rfl) ?_
              refine lv_iload_n hx hb dX9_hashesPieces_22 rfl (lv_at hl 1 rfl) ?_
              refine lv_iload_n hx hb dX9_hashesPieces_23 rfl (lv_at hl 2 rfl) ?_
              obtain ⟨q27, eq27, hs⟩ := ob hs
              refine nd_callV (As := [.int v1_19, .int v2_25]) (rest := [.ref (bd 0)]) (st1 := [.int q27, .ref (bd 0)]) hx hb hml hown hts hl hP hK hD hS hA hN (mX9_tellsPiece eq27) iv_X9_tellsPiece wd_562 0 rfl rfl rfl rfl ⟨Nat.le_of_ble_eq_true rfl, Nat.le_of_ble_eq_true rfl⟩ (Nat.le_of_ble_eq_true rfl) ⟨Nat.zero_le _, Nat.zero_le _⟩ dX9_hashesPieces_24 rfl rfl (fun H locs hP hD hS => ?_)
              refine lv_i2l hx hb dX9_hashesPieces_27 rfl ?_
              obtain ⟨q28, eq28, hs⟩ := ob hs
              refine nd_callV (As := [.long q27.toInt64]) (rest := []) (st1 := []) hx hb hml hown hts hl hP hK hD hS hA hN (mX9_hashes eq28) iv_X9_hashes wd_980 0 rfl rfl rfl rfl ⟨Nat.le_of_ble_eq_true rfl, Nat.le_of_ble_eq_true rfl⟩ (Nat.le_of_ble_eq_true rfl) ⟨Nat.zero_le _, Nat.zero_le _⟩ dX9_hashesPieces_28 rfl rfl (fun H locs hP hD hS => ?_)
              refine lv_iinc (v := v2_25 + (1 : Int32)) (lv' := [(2, .int (v2_25 + (1 : Int32))), (0, .ref (bd 0)), (1, .int v1_19)]) hx hb dX9_hashesPieces_31 hl (k := 2) rfl rfl (by decide) rfl (fun ls hl => ?_)
              refine lv_goto (tgt := 14) hx hb dX9_hashesPieces_34 (by decide) ?_
              exact ih14 k14 (v2_25 + (1 : Int32)) q28 _ _ _ (lv_sub hl [1, 2, 0] rfl) hP hS hs hk14
        refine L14 LF _ (0 : Int32) mh_19 _ _ _ (lv_sub hl [1, 2, 0] rfl) hP hS hs (fun mh_u25 H locs ls hl hP hS hs => ?_)
        have hD : va_D A (MW bd cI ms msv mb mf mr mt mn ml mat mw mm mh_u25) := nd_DD hD rfl
        refine lv_iconst (v := (0 : Int32)) hx hb dX9_hashesPieces_37 (by decide) ?_
        refine lv_istore_n (lv' := [(2, .int (0 : Int32)), (0, .ref (bd 0)), (1, .int v1_19)]) hx hb dX9_hashesPieces_38 rfl hl (by decide) rfl (fun ls hl => ?_)
        have L39 : ∀ (n39 : Nat) (k39 : Int64 → Option (Int64)) (v2_33 : Int32) (mh_33 : Int64) (H : Heap) (locs : List Loc) (ls : Array Slot), lv_has ls 3 [(0, .ref (bd 0)), (1, .int v1_19), (2, .int v2_33)] → va_P D vwCl (MW bd cI ms msv mb mf mr mt mn ml mat mw mm mh_33) H → va_S A s.heap H locs → fX9_hashesPieces_39 k39 ms v1_19 n39 v2_33 mh_33 = some mh' → (∀ (mh_u33 : Int64) (H : Heap) (locs : List Loc) (ls : Array Slot), lv_has ls 3 [(0, .ref (bd 0)), (1, .int v1_19)] → va_P D vwCl (MW bd cI ms msv mb mf mr mt mn ml mat mw mm mh_u33) H → va_S A s.heap H locs → k39 mh_u33 = some mh' → W p l e ⟨6, 0, 0, 133⟩ s m args below meth c_ H locs 0 0 Q (F0 m 76 ls [])) → W p l e ⟨6, 0, 0, 133⟩ s m args below meth c_ H locs 0 0 Q (F0 m 39 ls []) := by
          intro n39
          induction n39 with
          | zero =>
            intro k39 v2_33 mh_33 H locs ls hl hP hS hs hk39
            rw [fX9_hashesPieces_39] at hs
            cases hs
          | succ n39 ih39 =>
            intro k39 v2_33 mh_33 H locs ls hl hP hS hs hk39
            rw [fX9_hashesPieces_39] at hs
            have hD : va_D A (MW bd cI ms msv mb mf mr mt mn ml mat mw mm mh_33) := nd_DD hD rfl
            refine lv_iload_n hx hb dX9_hashesPieces_39 rfl (lv_at hl 2 rfl) ?_
            refine lv_bipush (v := (9 : Int32)) hx hb dX9_hashesPieces_40 (by decide) ?_
            refine lv_aload_n hx hb dX9_hashesPieces_42 rfl (lv_at hl 0 rfl) ?_
            refine lv_iload_n hx hb dX9_hashesPieces_43 rfl (lv_at hl 1 rfl) ?_
            refine lv_iconst (v := (2 : Int32)) hx hb dX9_hashesPieces_44 (by decide) ?_
            obtain ⟨q34, eq34, hs⟩ := ob hs
            refine nd_callV (As := [.int v1_19, .int (2 : Int32)]) (rest := [.int (9 : Int32), .int v2_33]) (st1 := [.int q34, .int (9 : Int32), .int v2_33]) hx hb hml hown hts hl hP hK hD hS hA hN (mX9_of eq34) iv_X9_of wd_307 0 rfl rfl rfl rfl ⟨Nat.le_of_ble_eq_true rfl, Nat.le_of_ble_eq_true rfl⟩ (Nat.le_of_ble_eq_true rfl) ⟨Nat.zero_le _, Nat.zero_le _⟩ dX9_hashesPieces_45 rfl rfl (fun H locs hP hD hS => ?_)
            refine lv_imul hx hb dX9_hashesPieces_48 ?_
            refine lv_icmp_ge (tgt := 76) hx hb dX9_hashesPieces_49 (by decide) (fun b35 => ?_) (fun b35 => ?_)
            · have hs := ite_t hs b35
              exact hk39 mh_33 _ _ _ (lv_sub hl [0, 1] rfl) hP hS hs
            · have hs := ite_f hs b35
              refine lv_aload_n hx hb dX9_hashesPieces_52 rfl (lv_at hl 0 rfl) ?_
              refine lv_aload_n hx hb dX9_hashesPieces_53 rfl (lv_at hl 0 rfl) ?_
              refine lv_iload_n hx hb dX9_hashesPieces_54 rfl (lv_at hl 1 rfl) ?_
              refine lv_iload_n hx hb dX9_hashesPieces_55 rfl (lv_at hl 2 rfl) ?_
              refine lv_bipush (v := (9 : Int32)) hx hb dX9_hashesPieces_56 (by decide) ?_
              refine lv_idiv hx hb dX9_hashesPieces_58 (by decide) ?_
              refine lv_iload_n hx hb dX9_hashesPieces_59 rfl (lv_at hl 2 rfl) ?_
              refine lv_bipush (v := (9 : Int32)) hx hb dX9_hashesPieces_60 (by decide) ?_
              refine lv_irem hx hb dX9_hashesPieces_62 (by decide) ?_
              obtain ⟨q36, eq36, hs⟩ := ob hs
              refine nd_callV (As := [.int v1_19, .int (v2_33 / (9 : Int32)), .int (v2_33 - v2_33 / (9 : Int32) * (9 : Int32))]) (rest := [.ref (bd 0)]) (st1 := [.int q36, .ref (bd 0)]) hx hb hml hown hts hl hP hK hD hS hA hN (mX9_tellsReceipt eq36) iv_X9_tellsReceipt wd_619 0 rfl rfl rfl rfl ⟨Nat.le_of_ble_eq_true rfl, Nat.le_of_ble_eq_true rfl⟩ (Nat.le_of_ble_eq_true rfl) ⟨Nat.zero_le _, Nat.zero_le _⟩ dX9_hashesPieces_63 rfl rfl (fun H locs hP hD hS => ?_)
              refine lv_i2l hx hb dX9_hashesPieces_66 rfl ?_
              obtain ⟨q37, eq37, hs⟩ := ob hs
              refine nd_callV (As := [.long q36.toInt64]) (rest := []) (st1 := []) hx hb hml hown hts hl hP hK hD hS hA hN (mX9_hashes eq37) iv_X9_hashes wd_980 0 rfl rfl rfl rfl ⟨Nat.le_of_ble_eq_true rfl, Nat.le_of_ble_eq_true rfl⟩ (Nat.le_of_ble_eq_true rfl) ⟨Nat.zero_le _, Nat.zero_le _⟩ dX9_hashesPieces_67 rfl rfl (fun H locs hP hD hS => ?_)
              refine lv_iinc (v := v2_33 + (1 : Int32)) (lv' := [(2, .int (v2_33 + (1 : Int32))), (0, .ref (bd 0)), (1, .int v1_19)]) hx hb dX9_hashesPieces_70 hl (k := 2) rfl rfl (by decide) rfl (fun ls hl => ?_)
              refine lv_goto (tgt := 39) hx hb dX9_hashesPieces_73 (by decide) ?_
              exact ih39 k39 (v2_33 + (1 : Int32)) q37 _ _ _ (lv_sub hl [1, 2, 0] rfl) hP hS hs hk39
        refine L39 LF _ (0 : Int32) mh_u25 _ _ _ (lv_sub hl [1, 2, 0] rfl) hP hS hs (fun mh_u33 H locs ls hl hP hS hs => ?_)
        have hD : va_D A (MW bd cI ms msv mb mf mr mt mn ml mat mw mm mh_u33) := nd_DD hD rfl
        refine lv_iinc (v := v1_19 + (1 : Int32)) (lv' := [(1, .int (v1_19 + (1 : Int32))), (0, .ref (bd 0))]) hx hb dX9_hashesPieces_76 hl (k := 1) rfl rfl (by decide) rfl (fun ls hl => ?_)
        refine lv_goto (tgt := 2) hx hb dX9_hashesPieces_79 (by decide) ?_
        exact ih2 k2 (v1_19 + (1 : Int32)) mh_u33 _ _ _ (lv_sub hl [1, 0] rfl) hP hS hs hk2
  refine L2 LF _ (0 : Int32) mh _ _ _ (lv_sub hl [1, 0] rfl) hP hS hs (fun mh_u19 H locs ls hl hP hS hs => ?_)
  have hD : va_D A (MW bd cI ms msv mb mf mr mt mn ml mat mw mm mh_u19) := nd_DD hD rfl
  refine lv_iconst (v := (0 : Int32)) hx hb dX9_hashesPieces_82 (by decide) ?_
  refine lv_istore_n (lv' := [(1, .int (0 : Int32)), (0, .ref (bd 0))]) hx hb dX9_hashesPieces_83 rfl hl (by decide) rfl (fun ls hl => ?_)
  have L84 : ∀ (n84 : Nat) (k84 : Int64 → Option (Int64)) (v1_47 : Int32) (mh_47 : Int64) (H : Heap) (locs : List Loc) (ls : Array Slot), lv_has ls 3 [(0, .ref (bd 0)), (1, .int v1_47)] → va_P D vwCl (MW bd cI ms msv mb mf mr mt mn ml mat mw mm mh_47) H → va_S A s.heap H locs → fX9_hashesPieces_84 k84 ms n84 v1_47 mh_47 = some mh' → (∀ (mh_u47 : Int64) (H : Heap) (locs : List Loc) (ls : Array Slot), lv_has ls 3 [] → va_P D vwCl (MW bd cI ms msv mb mf mr mt mn ml mat mw mm mh_u47) H → va_S A s.heap H locs → k84 mh_u47 = some mh' → W p l e ⟨6, 0, 0, 133⟩ s m args below meth c_ H locs 0 0 Q (F0 m 132 ls [])) → W p l e ⟨6, 0, 0, 133⟩ s m args below meth c_ H locs 0 0 Q (F0 m 84 ls []) := by
    intro n84
    induction n84 with
    | zero =>
      intro k84 v1_47 mh_47 H locs ls hl hP hS hs hk84
      rw [fX9_hashesPieces_84] at hs
      cases hs
    | succ n84 ih84 =>
      intro k84 v1_47 mh_47 H locs ls hl hP hS hs hk84
      rw [fX9_hashesPieces_84] at hs
      have hD : va_D A (MW bd cI ms msv mb mf mr mt mn ml mat mw mm mh_47) := nd_DD hD rfl
      refine lv_iload_n hx hb dX9_hashesPieces_84 rfl (lv_at hl 1 rfl) ?_
      refine lv_aload_n hx hb dX9_hashesPieces_85 rfl (lv_at hl 0 rfl) ?_
      refine gf_X9_7 hx hb hts hown hK hP 0 rfl rfl dX9_hashesPieces_86 ?_
      refine lv_iconst (v := (0 : Int32)) hx hb dX9_hashesPieces_89 (by decide) ?_
      obtain ⟨t48, et48, hs⟩ := ob hs
      refine nd_iald hx hb hK hP 1 0 rfl rfl et48 dX9_hashesPieces_90 ?_
      refine lv_aload_n hx hb dX9_hashesPieces_91 rfl (lv_at hl 0 rfl) ?_
      refine gf_X9_7 hx hb hts hown hK hP 0 rfl rfl dX9_hashesPieces_92 ?_
      refine lv_iconst (v := (0 : Int32)) hx hb dX9_hashesPieces_95 (by decide) ?_
      obtain ⟨t49, et49, hs⟩ := ob hs
      refine nd_iald hx hb hK hP 1 0 rfl rfl et49 dX9_hashesPieces_96 ?_
      refine lv_imul hx hb dX9_hashesPieces_97 ?_
      refine lv_icmp_ge (tgt := 132) hx hb dX9_hashesPieces_98 (by decide) (fun b50 => ?_) (fun b50 => ?_)
      · have hs := ite_t hs b50
        exact hk84 mh_47 _ _ _ (lv_sub hl [] rfl) hP hS hs
      · have hs := ite_f hs b50
        refine lv_aload_n hx hb dX9_hashesPieces_101 rfl (lv_at hl 0 rfl) ?_
        refine lv_aload_n hx hb dX9_hashesPieces_102 rfl (lv_at hl 0 rfl) ?_
        refine lv_iload_n hx hb dX9_hashesPieces_103 rfl (lv_at hl 1 rfl) ?_
        refine lv_aload_n hx hb dX9_hashesPieces_104 rfl (lv_at hl 0 rfl) ?_
        refine gf_X9_7 hx hb hts hown hK hP 0 rfl rfl dX9_hashesPieces_105 ?_
        refine lv_iconst (v := (0 : Int32)) hx hb dX9_hashesPieces_108 (by decide) ?_
        obtain ⟨t51, et51, hs⟩ := ob hs
        refine nd_iald hx hb hK hP 1 0 rfl rfl et51 dX9_hashesPieces_109 ?_
        obtain ⟨t52, et52, hs⟩ := ob hs
        refine nd_idiv hx hb dX9_hashesPieces_110 et52 ?_
        refine lv_iload_n hx hb dX9_hashesPieces_111 rfl (lv_at hl 1 rfl) ?_
        refine lv_aload_n hx hb dX9_hashesPieces_112 rfl (lv_at hl 0 rfl) ?_
        refine gf_X9_7 hx hb hts hown hK hP 0 rfl rfl dX9_hashesPieces_113 ?_
        refine lv_iconst (v := (0 : Int32)) hx hb dX9_hashesPieces_116 (by decide) ?_
        obtain ⟨t53, et53, hs⟩ := ob hs
        refine nd_iald hx hb hK hP 1 0 rfl rfl et53 dX9_hashesPieces_117 ?_
        obtain ⟨t54, et54, hs⟩ := ob hs
        refine nd_irem hx hb dX9_hashesPieces_118 et54 ?_
        obtain ⟨q55, eq55, hs⟩ := ob hs
        refine nd_callV (As := [.int t52, .int t54]) (rest := [.ref (bd 0)]) (st1 := [.int q55, .ref (bd 0)]) hx hb hml hown hts hl hP hK hD hS hA hN (mX9_fitting eq55) iv_X9_fitting wd_403 0 rfl rfl rfl rfl ⟨Nat.le_of_ble_eq_true rfl, Nat.le_of_ble_eq_true rfl⟩ (Nat.le_of_ble_eq_true rfl) ⟨Nat.zero_le _, Nat.zero_le _⟩ dX9_hashesPieces_119 rfl rfl (fun H locs hP hD hS => ?_)
        refine lv_i2l hx hb dX9_hashesPieces_122 rfl ?_
        obtain ⟨q56, eq56, hs⟩ := ob hs
        refine nd_callV (As := [.long q55.toInt64]) (rest := []) (st1 := []) hx hb hml hown hts hl hP hK hD hS hA hN (mX9_hashes eq56) iv_X9_hashes wd_980 0 rfl rfl rfl rfl ⟨Nat.le_of_ble_eq_true rfl, Nat.le_of_ble_eq_true rfl⟩ (Nat.le_of_ble_eq_true rfl) ⟨Nat.zero_le _, Nat.zero_le _⟩ dX9_hashesPieces_123 rfl rfl (fun H locs hP hD hS => ?_)
        refine lv_iinc (v := v1_47 + (1 : Int32)) (lv' := [(1, .int (v1_47 + (1 : Int32))), (0, .ref (bd 0))]) hx hb dX9_hashesPieces_126 hl (k := 1) rfl rfl (by decide) rfl (fun ls hl => ?_)
        refine lv_goto (tgt := 84) hx hb dX9_hashesPieces_129 (by decide) ?_
        exact ih84 k84 (v1_47 + (1 : Int32)) q56 _ _ _ (lv_sub hl [1, 0] rfl) hP hS hs hk84
  refine L84 LF _ (0 : Int32) mh_u19 _ _ _ (lv_sub hl [1, 0] rfl) hP hS hs (fun mh_u47 H locs ls hl hP hS hs => ?_)
  have hD : va_D A (MW bd cI ms msv mb mf mr mt mn ml mat mw mm mh_u47) := nd_DD hD rfl
  exact hret _ hs hP hS dX9_hashesPieces_132
