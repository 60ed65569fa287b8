def tX9_hashesPages_0 : List (Nat × Instr × Nat) := [(0, .iconst 0, 1), (1, .istore_n 1, 1), (2, .iload_n 1, 1), (3, .bipush 8, 2), (5, .if_icmp .ge 75, 3), (8, .iconst 0, 1), (9, .istore_n 2, 1), (10, .iload_n 2, 1), (11, .iconst 5, 1), (12, .if_icmp .ge 20, 3), (15, .aload_n 0, 1), (16, .aload_n 0, 1), (17, .iload_n 1, 1), (18, .iload_n 2, 1), (19, .invokevirtual 174, 3), (22, .i2l, 1), (23, .invokevirtual 227, 3), (26, .iinc 2 1, 3), (29, .goto (-19), 3), (32, .iconst 0, 1), (33, .istore_n 2, 1), (34, .iload_n 2, 1), (35, .aload_n 0, 1), (36, .iload_n 1, 1), (37, .iconst 0, 1), (38, .invokevirtual 174, 3), (41, .if_icmp .ge 33, 3), (44, .aload_n 0, 1), (45, .aload_n 0, 1), (46, .iload_n 1, 1), (47, .iload_n 2, 1), (48, .iconst 0, 1), (49, .invokevirtual 180, 3), (52, .i2l, 1), (53, .invokevirtual 227, 3), (56, .aload_n 0, 1), (57, .aload_n 0, 1), (58, .iload_n 1, 1), (59, .iload_n 2, 1), (60, .iconst 1, 1), (61, .invokevirtual 180, 3), (64, .i2l, 1), (65, .invokevirtual 227, 3), (68, .iinc 2 1, 3), (71, .goto (-37), 3), (74, .iinc 1 1, 3), (77, .goto (-75), 3), (80, .return_, 1)]
theorem tX9_hashesPages_0_ok : tX9_hashesPages_0.all (fun q => decide (decode cX9_hashesPages q.1 = .ok q.2)) = true := by decide +kernel
theorem dX9_hashesPages_0 : decode cX9_hashesPages 0 = .ok (.iconst 0, 1) := td tX9_hashesPages_0_ok 0 (q := (0, .iconst 0, 1)) rfl
theorem dX9_hashesPages_1 : decode cX9_hashesPages 1 = .ok (.istore_n 1, 1) := td tX9_hashesPages_0_ok 1 (q := (1, .istore_n 1, 1)) rfl
theorem dX9_hashesPages_2 : decode cX9_hashesPages 2 = .ok (.iload_n 1, 1) := td tX9_hashesPages_0_ok 2 (q := (2, .iload_n 1, 1)) rfl
theorem dX9_hashesPages_3 : decode cX9_hashesPages 3 = .ok (.bipush 8, 2) := td tX9_hashesPages_0_ok 3 (q := (3, .bipush 8, 2)) rfl
theorem dX9_hashesPages_5 : decode cX9_hashesPages 5 = .ok (.if_icmp .ge 75, 3) := td tX9_hashesPages_0_ok 4 (q := (5, .if_icmp .ge 75, 3)) rfl
theorem dX9_hashesPages_8 : decode cX9_hashesPages 8 = .ok (.iconst 0, 1) := td tX9_hashesPages_0_ok 5 (q := (8, .iconst 0, 1)) rfl
theorem dX9_hashesPages_9 : decode cX9_hashesPages 9 = .ok (.istore_n 2, 1) := td tX9_hashesPages_0_ok 6 (q := (9, .istore_n 2, 1)) rfl
theorem dX9_hashesPages_10 : decode cX9_hashesPages 10 = .ok (.iload_n 2, 1) := td tX9_hashesPages_0_ok 7 (q := (10, .iload_n 2, 1)) rfl
theorem dX9_hashesPages_11 : decode cX9_hashesPages 11 = .ok (.iconst 5, 1) := td tX9_hashesPages_0_ok 8 (q := (11, .iconst 5, 1)) rfl
theorem dX9_hashesPages_12 : decode cX9_hashesPages 12 = .ok (.if_icmp .ge 20, 3) := td tX9_hashesPages_0_ok 9 (q := (12, .if_icmp .ge 20, 3)) rfl
theorem dX9_hashesPages_15 : decode cX9_hashesPages 15 = .ok (.aload_n 0, 1) := td tX9_hashesPages_0_ok 10 (q := (15, .aload_n 0, 1)) rfl
theorem dX9_hashesPages_16 : decode cX9_hashesPages 16 = .ok (.aload_n 0, 1) := td tX9_hashesPages_0_ok 11 (q := (16, .aload_n 0, 1)) rfl
theorem dX9_hashesPages_17 : decode cX9_hashesPages 17 = .ok (.iload_n 1, 1) := td tX9_hashesPages_0_ok 12 (q := (17, .iload_n 1, 1)) rfl
theorem dX9_hashesPages_18 : decode cX9_hashesPages 18 = .ok (.iload_n 2, 1) := td tX9_hashesPages_0_ok 13 (q := (18, .iload_n 2, 1)) rfl
theorem dX9_hashesPages_19 : decode cX9_hashesPages 19 = .ok (.invokevirtual 174, 3) := td tX9_hashesPages_0_ok 14 (q := (19, .invokevirtual 174, 3)) rfl
theorem dX9_hashesPages_22 : decode cX9_hashesPages 22 = .ok (.i2l, 1) := td tX9_hashesPages_0_ok 15 (q := (22, .i2l, 1)) rfl
theorem dX9_hashesPages_23 : decode cX9_hashesPages 23 = .ok (.invokevirtual 227, 3) := td tX9_hashesPages_0_ok 16 (q := (23, .invokevirtual 227, 3)) rfl
theorem dX9_hashesPages_26 : decode cX9_hashesPages 26 = .ok (.iinc 2 1, 3) := td tX9_hashesPages_0_ok 17 (q := (26, .iinc 2 1, 3)) rfl
theorem dX9_hashesPages_29 : decode cX9_hashesPages 29 = .ok (.goto (-19), 3) := td tX9_hashesPages_0_ok 18 (q := (29, .goto (-19), 3)) rfl
theorem dX9_hashesPages_32 : decode cX9_hashesPages 32 = .ok (.iconst 0, 1) := td tX9_hashesPages_0_ok 19 (q := (32, .iconst 0, 1)) rfl
theorem dX9_hashesPages_33 : decode cX9_hashesPages 33 = .ok (.istore_n 2, 1) := td tX9_hashesPages_0_ok 20 (q := (33, .istore_n 2, 1)) rfl
theorem dX9_hashesPages_34 : decode cX9_hashesPages 34 = .ok (.iload_n 2, 1) := td tX9_hashesPages_0_ok 21 (q := (34, .iload_n 2, 1)) rfl
theorem dX9_hashesPages_35 : decode cX9_hashesPages 35 = .ok (.aload_n 0, 1) := td tX9_hashesPages_0_ok 22 (q := (35, .aload_n 0, 1)) rfl
theorem dX9_hashesPages_36 : decode cX9_hashesPages 36 = .ok (.iload_n 1, 1) := td tX9_hashesPages_0_ok 23 (q := (36, .iload_n 1, 1)) rfl
theorem dX9_hashesPages_37 : decode cX9_hashesPages 37 = .ok (.iconst 0, 1) := td tX9_hashesPages_0_ok 24 (q := (37, .iconst 0, 1)) rfl
theorem dX9_hashesPages_38 : decode cX9_hashesPages 38 = .ok (.invokevirtual 174, 3) := td tX9_hashesPages_0_ok 25 (q := (38, .invokevirtual 174, 3)) rfl
theorem dX9_hashesPages_41 : decode cX9_hashesPages 41 = .ok (.if_icmp .ge 33, 3) := td tX9_hashesPages_0_ok 26 (q := (41, .if_icmp .ge 33, 3)) rfl
theorem dX9_hashesPages_44 : decode cX9_hashesPages 44 = .ok (.aload_n 0, 1) := td tX9_hashesPages_0_ok 27 (q := (44, .aload_n 0, 1)) rfl
theorem dX9_hashesPages_45 : decode cX9_hashesPages 45 = .ok (.aload_n 0, 1) := td tX9_hashesPages_0_ok 28 (q := (45, .aload_n 0, 1)) rfl
theorem dX9_hashesPages_46 : decode cX9_hashesPages 46 = .ok (.iload_n 1, 1) := td tX9_hashesPages_0_ok 29 (q := (46, .iload_n 1, 1)) rfl
theorem dX9_hashesPages_47 : decode cX9_hashesPages 47 = .ok (.iload_n 2, 1) := td tX9_hashesPages_0_ok 30 (q := (47, .iload_n 2, 1)) rfl
theorem dX9_hashesPages_48 : decode cX9_hashesPages 48 = .ok (.iconst 0, 1) := td tX9_hashesPages_0_ok 31 (q := (48, .iconst 0, 1)) rfl
theorem dX9_hashesPages_49 : decode cX9_hashesPages 49 = .ok (.invokevirtual 180, 3) := td tX9_hashesPages_0_ok 32 (q := (49, .invokevirtual 180, 3)) rfl
theorem dX9_hashesPages_52 : decode cX9_hashesPages 52 = .ok (.i2l, 1) := td tX9_hashesPages_0_ok 33 (q := (52, .i2l, 1)) rfl
theorem dX9_hashesPages_53 : decode cX9_hashesPages 53 = .ok (.invokevirtual 227, 3) := td tX9_hashesPages_0_ok 34 (q := (53, .invokevirtual 227, 3)) rfl
theorem dX9_hashesPages_56 : decode cX9_hashesPages 56 = .ok (.aload_n 0, 1) := td tX9_hashesPages_0_ok 35 (q := (56, .aload_n 0, 1)) rfl
theorem dX9_hashesPages_57 : decode cX9_hashesPages 57 = .ok (.aload_n 0, 1) := td tX9_hashesPages_0_ok 36 (q := (57, .aload_n 0, 1)) rfl
theorem dX9_hashesPages_58 : decode cX9_hashesPages 58 = .ok (.iload_n 1, 1) := td tX9_hashesPages_0_ok 37 (q := (58, .iload_n 1, 1)) rfl
theorem dX9_hashesPages_59 : decode cX9_hashesPages 59 = .ok (.iload_n 2, 1) := td tX9_hashesPages_0_ok 38 (q := (59, .iload_n 2, 1)) rfl
theorem dX9_hashesPages_60 : decode cX9_hashesPages 60 = .ok (.iconst 1, 1) := td tX9_hashesPages_0_ok 39 (q := (60, .iconst 1, 1)) rfl
theorem dX9_hashesPages_61 : decode cX9_hashesPages 61 = .ok (.invokevirtual 180, 3) := td tX9_hashesPages_0_ok 40 (q := (61, .invokevirtual 180, 3)) rfl
theorem dX9_hashesPages_64 : decode cX9_hashesPages 64 = .ok (.i2l, 1) := td tX9_hashesPages_0_ok 41 (q := (64, .i2l, 1)) rfl
theorem dX9_hashesPages_65 : decode cX9_hashesPages 65 = .ok (.invokevirtual 227, 3) := td tX9_hashesPages_0_ok 42 (q := (65, .invokevirtual 227, 3)) rfl
theorem dX9_hashesPages_68 : decode cX9_hashesPages 68 = .ok (.iinc 2 1, 3) := td tX9_hashesPages_0_ok 43 (q := (68, .iinc 2 1, 3)) rfl
theorem dX9_hashesPages_71 : decode cX9_hashesPages 71 = .ok (.goto (-37), 3) := td tX9_hashesPages_0_ok 44 (q := (71, .goto (-37), 3)) rfl
theorem dX9_hashesPages_74 : decode cX9_hashesPages 74 = .ok (.iinc 1 1, 3) := td tX9_hashesPages_0_ok 45 (q := (74, .iinc 1 1, 3)) rfl
theorem dX9_hashesPages_77 : decode cX9_hashesPages 77 = .ok (.goto (-75), 3) := td tX9_hashesPages_0_ok 46 (q := (77, .goto (-75), 3)) rfl
theorem dX9_hashesPages_80 : decode cX9_hashesPages 80 = .ok (.return_, 1) := td tX9_hashesPages_0_ok 47 (q := (80, .return_, 1)) rfl
def fX9_hashesPages_10 (k10 : Int64 → Option (Int64)) (ms : (Nat → Int32)) (x1 : Int32) : Nat → Int32 → Int64 → Option (Int64)
  | 0, _, _ => none
  | n10 + 1, x2, mh => (if (5 : Int32) ≤ x2 then (k10 mh) else (Option.bind (fX9_tellsPage ms x1 x2) (fun q3 => (Option.bind (fX9_hashes mh q3.toInt64) (fun q4 => (fX9_hashesPages_10 k10 ms x1 n10 (x2 + (1 : Int32)) q4))))))
def fX9_hashesPages_34 (k34 : Int64 → Option (Int64)) (ms : (Nat → Int32)) (x1 : Int32) : Nat → Int32 → Int64 → Option (Int64)
  | 0, _, _ => none
  | n34 + 1, x2, mh => (Option.bind (fX9_tellsPage ms x1 (0 : Int32)) (fun q9 => (if q9 ≤ x2 then (k34 mh) else (Option.bind (fX9_tellsLine ms x1 x2 (0 : Int32)) (fun q11 => (Option.bind (fX9_hashes mh q11.toInt64) (fun q12 => (Option.bind (fX9_tellsLine ms x1 x2 (1 : Int32)) (fun q13 => (Option.bind (fX9_hashes q12 q13.toInt64) (fun q14 => (fX9_hashesPages_34 k34 ms x1 n34 (x2 + (1 : Int32)) q14))))))))))))
def fX9_hashesPages_2 (k2 : Int64 → Option (Int64)) (ms : (Nat → Int32)) : Nat → Int32 → Int64 → Option (Int64)
  | 0, _, _ => none
  | n2 + 1, x1, mh => (if (8 : Int32) ≤ x1 then (k2 mh) else (fX9_hashesPages_10 (fun (mh_u5 : Int64) => (fX9_hashesPages_34 (fun (mh_u15 : Int64) => (fX9_hashesPages_2 k2 ms n2 (x1 + (1 : Int32)) mh_u15)) ms x1 LF (0 : Int32) mh_u5)) ms x1 LF (0 : Int32) mh))
def fX9_hashesPages (ms : (Nat → Int32)) (mh : Int64) : Option (Int64) :=
  (fX9_hashesPages_2 (fun (mh_u22 : Int64) => (some mh_u22)) ms LF (0 : Int32) mh)
set_option maxHeartbeats 4000000 in
set_option maxRecDepth 100000 in
theorem mX9_hashesPages {l : Launch} {D : va_G} {bd : Nat → Nat} {cI : ClassId} {ms : (Nat → Int32)} {msv : (Nat → Int32)} {mb : (Nat → Int32)} {mf : (Nat → Int32)} {mr : (Nat → Int32)} {mt : Int32} {mn : Int32} {ml : Int32} {mat : Int32} {mw : Int32} {mm : Int32} {mh : Int64} {mh' : Int64} (hs : fX9_hashesPages ms mh = some mh') : nd_C l yX9_hashesPages cX9_hashesPages 3 none 5 117 D [(cI, .int)] [.ref (bd 0)] (MW bd cI ms msv mb mf mr mt mn ml mat mw mm mh) (MW bd cI ms msv mb mf mr mt mn ml mat mw mm mh') none := by
  refine nd_ofCv (by decide) (Nat.le_of_ble_eq_true rfl) (fun p e s m args below meth c_ ls A Q hx hb hml hown hts hl hP hK hD hS hA hN hret => ?_)
  have hown : s.vm.findClass RX9 = some m.cls := hown
  have hl : lv_has ls 3 [(0, .ref (bd 0))] := hl
  have hret : ∀ (z0 : Int64) {H : Heap} {locs : List Loc} {pc : Nat} {ls : Array Slot}, some z0 = some mh' → va_P D vwCl (MW bd cI ms msv mb mf mr mt mn ml mat mw mm z0) H → va_S A s.heap H locs → decode cX9_hashesPages pc = .ok (.return_, 1) → W p l e ⟨5, 0, 0, 117⟩ s m args below meth c_ H locs 0 0 Q (F0 m pc ls []) := by
    intro z0 H locs pc ls h hP hS hd
    cases h
    exact hret hP hS hd
  rw [fX9_hashesPages] at hs
  refine lv_iconst (v := (0 : Int32)) hx hb dX9_hashesPages_0 (by decide) ?_
  refine lv_istore_n (lv' := [(1, .int (0 : Int32)), (0, .ref (bd 0))]) hx hb dX9_hashesPages_1 rfl hl (by decide) rfl (fun ls hl => ?_)
  have L2 : ∀ (n2 : Nat) (k2 : Int64 → Option (Int64)) (v1_22 : Int32) (mh_22 : Int64) (H : Heap) (locs : List Loc) (ls : Array Slot), lv_has ls 3 [(0, .ref (bd 0)), (1, .int v1_22)] → va_P D vwCl (MW bd cI ms msv mb mf mr mt mn ml mat mw mm mh_22) H → va_S A s.heap H locs → fX9_hashesPages_2 k2 ms n2 v1_22 mh_22 = some mh' → (∀ (mh_u22 : Int64) (H : Heap) (locs : List Loc) (ls : Array Slot), lv_has ls 3 [] → va_P D vwCl (MW bd cI ms msv mb mf mr mt mn ml mat mw mm mh_u22) H → va_S A s.heap H locs → k2 mh_u22 = some mh' → W p l e ⟨5, 0, 0, 117⟩ s m args below meth c_ H locs 0 0 Q (F0 m 80 ls [])) → W p l e ⟨5, 0, 0, 117⟩ s m args below meth c_ H locs 0 0 Q (F0 m 2 ls []) := by
    intro n2
    induction n2 with
    | zero =>
      intro k2 v1_22 mh_22 H locs ls hl hP hS hs hk2
      rw [fX9_hashesPages_2] at hs
      cases hs
    | succ n2 ih2 =>
      intro k2 v1_22 mh_22 H locs ls hl hP hS hs hk2
      rw [fX9_hashesPages_2] at hs
      have hD : va_D A (MW bd cI ms msv mb mf mr mt mn ml mat mw mm mh_22) := nd_DD hD rfl
      refine lv_iload_n hx hb dX9_hashesPages_2 rfl (lv_at hl 1 rfl) ?_
      refine lv_bipush (v := (8 : Int32)) hx hb dX9_hashesPages_3 (by decide) ?_
      refine lv_icmp_ge (tgt := 80) hx hb dX9_hashesPages_5 (by decide) (fun b23 => ?_) (fun b23 => ?_)
      · have hs := ite_t hs b23
        exact hk2 mh_22 _ _ _ (lv_sub hl [] rfl) hP hS hs
      · have hs := ite_f hs b23
        refine lv_iconst (v := (0 : Int32)) hx hb dX9_hashesPages_8 (by decide) ?_
        refine lv_istore_n (lv' := [(2, .int (0 : Int32)), (0, .ref (bd 0)), (1, .int v1_22)]) hx hb dX9_hashesPages_9 rfl hl (by decide) rfl (fun ls hl => ?_)
        have L10 : ∀ (n10 : Nat) (k10 : Int64 → Option (Int64)) (v2_27 : Int32) (mh_27 : Int64) (H : Heap) (locs : List Loc) (ls : Array Slot), lv_has ls 3 [(0, .ref (bd 0)), (1, .int v1_22), (2, .int v2_27)] → va_P D vwCl (MW bd cI ms msv mb mf mr mt mn ml mat mw mm mh_27) H → va_S A s.heap H locs → fX9_hashesPages_10 k10 ms v1_22 n10 v2_27 mh_27 = some mh' → (∀ (mh_u27 : Int64) (H : Heap) (locs : List Loc) (ls : Array Slot), lv_has ls 3 [(0, .ref (bd 0)), (1, .int v1_22)] → va_P D vwCl (MW bd cI ms msv mb mf mr mt mn ml mat mw mm mh_u27) H → va_S A s.heap H locs → k10 mh_u27 = some mh' → W p l e ⟨5, 0, 0, 117⟩ s m args below meth c_ H locs 0 0 Q (F0 m 32 ls [])) → W p l e ⟨5, 0, 0, 117⟩ s m args below meth c_ H locs 0 0 Q (F0 m 10 ls []) := by
          intro n10
          induction n10 with
          | zero =>
            intro k10 v2_27 mh_27 H locs ls hl hP hS hs hk10
            rw [fX9_hashesPages_10] at hs
            cases hs
          | succ n10 ih10 =>
            intro k10 v2_27 mh_27 H locs ls hl hP hS hs hk10
            rw [fX9_hashesPages_10] at hs
            have hD : va_D A (MW bd cI ms msv mb mf mr mt mn ml mat mw mm mh_27) := nd_DD hD rfl
            refine lv_iload_n hx hb dX9_hashesPages_10 rfl (lv_at hl 2 rfl) ?_
            refine lv_iconst (v := (5 : Int32)) hx hb dX9_hashesPages_11 (by decide) ?_
            refine lv_icmp_ge (tgt := 32) hx hb dX9_hashesPages_12 (by decide) (fun b28 => ?_) (fun b28 => ?_)
            · have hs := ite_t hs b28
              exact hk10 mh_27 _ _ _ (lv_sub hl [0, 1] rfl) hP hS hs
            · have hs := ite_f hs b28
              refine lv_aload_n hx hb dX9_hashesPages_15 rfl (lv_at hl 0 rfl) ?_
              refine lv_aload_n hx hb dX9_hashesPages_16 rfl (lv_at hl 0 rfl) ?_
              refine lv_iload_n hx hb dX9_hashesPages_17 rfl (lv_at hl 1 rfl) ?_
              refine lv_iload_n hx hb dX9_hashesPages_18 rfl (lv_at hl 2 rfl) ?_
              obtain ⟨q29, eq29, hs⟩ := ob hs
              refine nd_callV (As := [.int v1_22, .int v2_27]) (rest := [.ref (bd 0)]) (st1 := [.int q29, .ref (bd 0)]) hx hb hml hown hts hl hP hK hD hS hA hN (mX9_tellsPage eq29) iv_X9_tellsPage wd_671 0 rfl rfl rfl rfl ⟨Nat.le_of_ble_eq_true rfl, Nat.le_of_ble_eq_true rfl⟩ (Nat.le_of_ble_eq_true rfl) ⟨Nat.zero_le _, Nat.zero_le _⟩ dX9_hashesPages_19 rfl rfl (fun H locs hP hD hS => ?_)
              refine lv_i2l hx hb dX9_hashesPages_22 rfl ?_
              obtain ⟨q30, eq30, hs⟩ := ob hs
              refine nd_callV (As := [.long q29.toInt64]) (rest := []) (st1 := []) hx hb hml hown hts hl hP hK hD hS hA hN (mX9_hashes eq30) iv_X9_hashes wd_980 0 rfl rfl rfl rfl ⟨Nat.le_of_ble_eq_true rfl, Nat.le_of_ble_eq_true rfl⟩ (Nat.le_of_ble_eq_true rfl) ⟨Nat.zero_le _, Nat.zero_le _⟩ dX9_hashesPages_23 rfl rfl (fun H locs hP hD hS => ?_)
              refine lv_iinc (v := v2_27 + (1 : Int32)) (lv' := [(2, .int (v2_27 + (1 : Int32))), (0, .ref (bd 0)), (1, .int v1_22)]) hx hb dX9_hashesPages_26 hl (k := 2) rfl rfl (by decide) rfl (fun ls hl => ?_)
              refine lv_goto (tgt := 10) hx hb dX9_hashesPages_29 (by decide) ?_
              exact ih10 k10 (v2_27 + (1 : Int32)) q30 _ _ _ (lv_sub hl [1, 2, 0] rfl) hP hS hs hk10
        refine L10 LF _ (0 : Int32) mh_22 _ _ _ (lv_sub hl [1, 2, 0] rfl) hP hS hs (fun mh_u27 H locs ls hl hP hS hs => ?_)
        have hD : va_D A (MW bd cI ms msv mb mf mr mt mn ml mat mw mm mh_u27) := nd_DD hD rfl
        refine lv_iconst (v := (0 : Int32)) hx hb dX9_hashesPages_32 (by decide) ?_
        refine lv_istore_n (lv' := [(2, .int (0 : Int32)), (0, .ref (bd 0)), (1, .int v1_22)]) hx hb dX9_hashesPages_33 rfl hl (by decide) rfl (fun ls hl => ?_)
        have L34 : ∀ (n34 : Nat) (k34 : Int64 → Option (Int64)) (v2_37 : Int32) (mh_37 : Int64) (H : Heap) (locs : List Loc) (ls : Array Slot), lv_has ls 3 [(0, .ref (bd 0)), (1, .int v1_22), (2, .int v2_37)] → va_P D vwCl (MW bd cI ms msv mb mf mr mt mn ml mat mw mm mh_37) H → va_S A s.heap H locs → fX9_hashesPages_34 k34 ms v1_22 n34 v2_37 mh_37 = some mh' → (∀ (mh_u37 : Int64) (H : Heap) (locs : List Loc) (ls : Array Slot), lv_has ls 3 [(0, .ref (bd 0)), (1, .int v1_22)] → va_P D vwCl (MW bd cI ms msv mb mf mr mt mn ml mat mw mm mh_u37) H → va_S A s.heap H locs → k34 mh_u37 = some mh' → W p l e ⟨5, 0, 0, 117⟩ s m args below meth c_ H locs 0 0 Q (F0 m 74 ls [])) → W p l e ⟨5, 0, 0, 117⟩ s m args below meth c_ H locs 0 0 Q (F0 m 34 ls []) := by
          intro n34
          induction n34 with
          | zero =>
            intro k34 v2_37 mh_37 H locs ls hl hP hS hs hk34
            rw [fX9_hashesPages_34] at hs
            cases hs
          | succ n34 ih34 =>
            intro k34 v2_37 mh_37 H locs ls hl hP hS hs hk34
            rw [fX9_hashesPages_34] at hs
            have hD : va_D A (MW bd cI ms msv mb mf mr mt mn ml mat mw mm mh_37) := nd_DD hD rfl
            refine lv_iload_n hx hb dX9_hashesPages_34 rfl (lv_at hl 2 rfl) ?_
            refine lv_aload_n hx hb dX9_hashesPages_35 rfl (lv_at hl 0 rfl) ?_
            refine lv_iload_n hx hb dX9_hashesPages_36 rfl (lv_at hl 1 rfl) ?_
            refine lv_iconst (v := (0 : Int32)) hx hb dX9_hashesPages_37 (by decide) ?_
            obtain ⟨q38, eq38, hs⟩ := ob hs
            refine nd_callV (As := [.int v1_22, .int (0 : Int32)]) (rest := [.int v2_37]) (st1 := [.int q38, .int v2_37]) hx hb hml hown hts hl hP hK hD hS hA hN (mX9_tellsPage eq38) iv_X9_tellsPage wd_671 0 rfl rfl rfl rfl ⟨Nat.le_of_ble_eq_true rfl, Nat.le_of_ble_eq_true rfl⟩ (Nat.le_of_ble_eq_true rfl) ⟨Nat.zero_le _, Nat.zero_le _⟩ dX9_hashesPages_38 rfl rfl (fun H locs hP hD hS => ?_)
            refine lv_icmp_ge (tgt := 74) hx hb dX9_hashesPages_41 (by decide) (fun b39 => ?_) (fun b39 => ?_)
            · have hs := ite_t hs b39
              exact hk34 mh_37 _ _ _ (lv_sub hl [0, 1] rfl) hP hS hs
            · have hs := ite_f hs b39
              refine lv_aload_n hx hb dX9_hashesPages_44 rfl (lv_at hl 0 rfl) ?_
              refine lv_aload_n hx hb dX9_hashesPages_45 rfl (lv_at hl 0 rfl) ?_
              refine lv_iload_n hx hb dX9_hashesPages_46 rfl (lv_at hl 1 rfl) ?_
              refine lv_iload_n hx hb dX9_hashesPages_47 rfl (lv_at hl 2 rfl) ?_
              refine lv_iconst (v := (0 : Int32)) hx hb dX9_hashesPages_48 (by decide) ?_
              obtain ⟨q40, eq40, hs⟩ := ob hs
              refine nd_callV (As := [.int v1_22, .int v2_37, .int (0 : Int32)]) (rest := [.ref (bd 0)]) (st1 := [.int q40, .ref (bd 0)]) hx hb hml hown hts hl hP hK hD hS hA hN (mX9_tellsLine eq40) iv_X9_tellsLine wd_713 0 rfl rfl rfl rfl ⟨Nat.le_of_ble_eq_true rfl, Nat.le_of_ble_eq_true rfl⟩ (Nat.le_of_ble_eq_true rfl) ⟨Nat.zero_le _, Nat.zero_le _⟩ dX9_hashesPages_49 rfl rfl (fun H locs hP hD hS => ?_)
              refine lv_i2l hx hb dX9_hashesPages_52 rfl ?_
              obtain ⟨q41, eq41, hs⟩ := ob hs
              refine nd_callV (As := [.long q40.toInt64]) (rest := []) (st1 := []) hx hb hml hown hts hl hP hK hD hS hA hN (mX9_hashes eq41) iv_X9_hashes wd_980 0 rfl rfl rfl rfl ⟨Nat.le_of_ble_eq_true rfl, Nat.le_of_ble_eq_true rfl⟩ (Nat.le_of_ble_eq_true rfl) ⟨Nat.zero_le _, Nat.zero_le _⟩ dX9_hashesPages_53 rfl rfl (fun H locs hP hD hS => ?_)
              refine lv_aload_n hx hb dX9_hashesPages_56 rfl (lv_at hl 0 rfl) ?_
              refine lv_aload_n hx hb dX9_hashesPages_57 rfl (lv_at hl 0 rfl) ?_
              refine lv_iload_n hx hb dX9_hashesPages_58 rfl (lv_at hl 1 rfl) ?_
              refine lv_iload_n hx hb dX9_hashesPages_59 rfl (lv_at hl 2 rfl) ?_
              refine lv_iconst (v := (1 : Int32)) hx hb dX9_hashesPages_60 (by decide) ?_
              obtain ⟨q42, eq42, hs⟩ := ob hs
              refine nd_callV (As := [.int v1_22, .int v2_37, .int (1 : Int32)]) (rest := [.ref (bd 0)]) (st1 := [.int q42, .ref (bd 0)]) hx hb hml hown hts hl hP hK hD hS hA hN (mX9_tellsLine eq42) iv_X9_tellsLine wd_713 0 rfl rfl rfl rfl ⟨Nat.le_of_ble_eq_true rfl, Nat.le_of_ble_eq_true rfl⟩ (Nat.le_of_ble_eq_true rfl) ⟨Nat.zero_le _, Nat.zero_le _⟩ dX9_hashesPages_61 rfl rfl (fun H locs hP hD hS => ?_)
              refine lv_i2l hx hb dX9_hashesPages_64 rfl ?_
              obtain ⟨q43, eq43, hs⟩ := ob hs
              refine nd_callV (As := [.long q42.toInt64]) (rest := []) (st1 := []) hx hb hml hown hts hl hP hK hD hS hA hN (mX9_hashes eq43) iv_X9_hashes wd_980 0 rfl rfl rfl rfl ⟨Nat.le_of_ble_eq_true rfl, Nat.le_of_ble_eq_true rfl⟩ (Nat.le_of_ble_eq_true rfl) ⟨Nat.zero_le _, Nat.zero_le _⟩ dX9_hashesPages_65 rfl rfl (fun H locs hP hD hS => ?_)
              refine lv_iinc (v := v2_37 + (1 : Int32)) (lv' := [(2, .int (v2_37 + (1 : Int32))), (0, .ref (bd 0)), (1, .int v1_22)]) hx hb dX9_hashesPages_68 hl (k := 2) rfl rfl (by decide) rfl (fun ls hl => ?_)
              refine lv_goto (tgt := 34) hx hb dX9_hashesPages_71 (by decide) ?_
              exact ih34 k34 (v2_37 + (1 : Int32)) q43 _ _ _ (lv_sub hl [1, 2, 0] rfl) hP hS hs hk34
        refine L34 LF _ (0 : Int32) mh_u27 _ _ _ (lv_sub hl [1, 2, 0] rfl) hP hS hs (fun mh_u37 H locs ls hl hP hS hs => ?_)
        have hD : va_D A (MW bd cI ms msv mb mf mr mt mn ml mat mw mm mh_u37) := nd_DD hD rfl
        refine lv_iinc (v := v1_22 + (1 : Int32)) (lv' := [(1, .int (v1_22 + (1 : Int32))), (0, .ref (bd 0))]) hx hb dX9_hashesPages_74 hl (k := 1) rfl rfl (by decide) rfl (fun ls hl => ?_)
        refine lv_goto (tgt := 2) hx hb dX9_hashesPages_77 (by decide) ?_
        exact ih2 k2 (v1_22 + (1 : Int32)) mh_u37 _ _ _ (lv_sub hl [1, 0] rfl) hP hS hs hk2
  refine L2 LF _ (0 : Int32) mh _ _ _ (lv_sub hl [1, 0] rfl) hP hS hs (fun mh_u22 H locs ls hl hP hS hs => ?_)
  have hD : va_D A (MW bd cI ms msv mb mf mr mt mn ml mat mw mm mh_u22) := nd_DD hD rfl
  exact hret _ hs hP hS dX9_hashesPages_80
def tJxe99ae_isNaN_b9ae7_0 : List (Nat × Instr × Nat) := [(0, .dload_n 0, 1), (1, .dload_n 0, 1), (2, .dcmp .l, 1), (3, .ifCond .eq 7, 3), (6, .iconst 1, 1), (7, .goto 4, 3), (10, .iconst 0, 1), (11, .ireturn, 1)]
theorem tJxe99ae_isNaN_b9ae7_0_ok : tJxe99ae_isNaN_b9ae7_0.all (fun q => decide (decode cJxe99ae_isNaN_b9ae7 q.1 = .ok q.2)) = true := by decide +kernel
theorem dJxe99ae_isNaN_b9ae7_0 : decode cJxe99ae_isNaN_b9ae7 0 = .ok (.dload_n 0, 1) := td tJxe99ae_isNaN_b9ae7_0_ok 0 (q := (0, .dload_n 0, 1)) rfl
theorem dJxe99ae_isNaN_b9ae7_1 : decode cJxe99ae_isNaN_b9ae7 1 = .ok (.dload_n 0, 1) := td tJxe99ae_isNaN_b9ae7_0_ok 1 (q := (1, .dload_n 0, 1)) rfl
theorem dJxe99ae_isNaN_b9ae7_2 : decode cJxe99ae_isNaN_b9ae7 2 = .ok (.dcmp .l, 1) := td tJxe99ae_isNaN_b9ae7_0_ok 2 (q := (2, .dcmp .l, 1)) rfl
theorem dJxe99ae_isNaN_b9ae7_3 : decode cJxe99ae_isNaN_b9ae7 3 = .ok (.ifCond .eq 7, 3) := td tJxe99ae_isNaN_b9ae7_0_ok 3 (q := (3, .ifCond .eq 7, 3)) rfl
theorem dJxe99ae_isNaN_b9ae7_6 : decode cJxe99ae_isNaN_b9ae7 6 = .ok (.iconst 1, 1) := td tJxe99ae_isNaN_b9ae7_0_ok 4 (q := (6, .iconst 1, 1)) rfl
theorem dJxe99ae_isNaN_b9ae7_7 : decode cJxe99ae_isNaN_b9ae7 7 = .ok (.goto 4, 3) := td tJxe99ae_isNaN_b9ae7_0_ok 5 (q := (7, .goto 4, 3)) rfl
theorem dJxe99ae_isNaN_b9ae7_10 : decode cJxe99ae_isNaN_b9ae7 10 = .ok (.iconst 0, 1) := td tJxe99ae_isNaN_b9ae7_0_ok 6 (q := (10, .iconst 0, 1)) rfl
theorem dJxe99ae_isNaN_b9ae7_11 : decode cJxe99ae_isNaN_b9ae7 11 = .ok (.ireturn, 1) := td tJxe99ae_isNaN_b9ae7_0_ok 7 (q := (11, .ireturn, 1)) rfl
def fJxe99ae_isNaN_b9ae7 (x0 : UInt64) : Option (Int32) :=
  (if (Op.cmpValue (FP.dcmp x0 x0) CmpOp.l) = 0 then (some (0 : Int32)) else (some (1 : Int32)))
set_option maxHeartbeats 4000000 in
set_option maxRecDepth 100000 in
theorem mJxe99ae_isNaN_b9ae7 {l : Launch} {D : va_G} {W0 : va_W} {tys : nd_T} {x0 : UInt64} {r : Int32} (hs : fJxe99ae_isNaN_b9ae7 x0 = some r) : nd_C l yJxe99ae_isNaN_b9ae7 cJxe99ae_isNaN_b9ae7 2 (some .boolean) 0 0 D tys [.double x0] W0 W0 (some (.int r)) := by
  refine nd_ofCz (by decide) (Nat.le_of_ble_eq_true rfl) (fun p e s m args below meth c_ ls A Q hx hb hml hown hts hl hP hK hD hS hA hN hret => ?_)
  have hown : s.vm.findClass RJxe99ae = some m.cls := hown
  have hl : lv_has ls 2 [(0, .double x0)] := hl
  have hret : ∀ (z0 : Int32) {H : Heap} {locs : List Loc} {pc : Nat} {ls : Array Slot}, some z0 = some r → (z0 = 0 ∨ z0 = 1) → va_P D vwCl W0 H → va_S A s.heap H locs → decode cJxe99ae_isNaN_b9ae7 pc = .ok (.ireturn, 1) → W p l e ⟨0, 0, 0, 0⟩ s m args below meth c_ H locs 0 0 Q (F0 m pc ls [.int z0]) := by
    intro z0 H locs pc ls h hz hP hS hd
    cases h
    exact hret hz hP hS hd
  rw [fJxe99ae_isNaN_b9ae7] at hs
  refine lv_dload_n hx hb dJxe99ae_isNaN_b9ae7_0 rfl (lv_at hl 0 rfl) ?_
  refine lv_dload_n hx hb dJxe99ae_isNaN_b9ae7_1 rfl (lv_at hl 0 rfl) ?_
  refine lv_dcmp hx hb dJxe99ae_isNaN_b9ae7_2 ?_
  refine lv_if_eq (tgt := 10) hx hb dJxe99ae_isNaN_b9ae7_3 (by decide) (fun b1 => ?_) (fun b1 => ?_)
  · have hs := ite_t hs b1
    refine lv_iconst (v := (0 : Int32)) hx hb dJxe99ae_isNaN_b9ae7_10 (by decide) ?_
    exact hret _ hs (Or.inl rfl) hP hS dJxe99ae_isNaN_b9ae7_11
  · have hs := ite_f hs b1
    refine lv_iconst (v := (1 : Int32)) hx hb dJxe99ae_isNaN_b9ae7_6 (by decide) ?_
    refine lv_goto (tgt := 11) hx hb dJxe99ae_isNaN_b9ae7_7 (by decide) ?_
    exact hret _ hs (Or.inr rfl) hP hS dJxe99ae_isNaN_b9ae7_11
def tJxe99ae_doubleToLongBits_ccdee_0 : List (Nat × Instr × Nat) := [(0, .dload_n 0, 1), (1, .invokestatic 122, 3), (4, .ifCond .ne 8, 3), (7, .dload_n 0, 1), (8, .invokestatic 134, 3), (11, .lreturn, 1), (12, .ldc2_w 137, 3), (15, .lreturn, 1)]
theorem tJxe99ae_doubleToLongBits_ccdee_0_ok : tJxe99ae_doubleToLongBits_ccdee_0.all (fun q => decide (decode cJxe99ae_doubleToLongBits_ccdee q.1 = .ok q.2)) = true := by decide +kernel
theorem dJxe99ae_doubleToLongBits_ccdee_0 : decode cJxe99ae_doubleToLongBits_ccdee 0 = .ok (.dload_n 0, 1) := td tJxe99ae_doubleToLongBits_ccdee_0_ok 0 (q := (0, .dload_n 0, 1)) rfl
theorem dJxe99ae_doubleToLongBits_ccdee_1 : decode cJxe99ae_doubleToLongBits_ccdee 1 = .ok (.invokestatic 122, 3) := td tJxe99ae_doubleToLongBits_ccdee_0_ok 1 (q := (1, .invokestatic 122, 3)) rfl
theorem dJxe99ae_doubleToLongBits_ccdee_4 : decode cJxe99ae_doubleToLongBits_ccdee 4 = .ok (.ifCond .ne 8, 3) := td tJxe99ae_doubleToLongBits_ccdee_0_ok 2 (q := (4, .ifCond .ne 8, 3)) rfl
theorem dJxe99ae_doubleToLongBits_ccdee_7 : decode cJxe99ae_doubleToLongBits_ccdee 7 = .ok (.dload_n 0, 1) := td tJxe99ae_doubleToLongBits_ccdee_0_ok 3 (q := (7, .dload_n 0, 1)) rfl
theorem dJxe99ae_doubleToLongBits_ccdee_8 : decode cJxe99ae_doubleToLongBits_ccdee 8 = .ok (.invokestatic 134, 3) := td tJxe99ae_doubleToLongBits_ccdee_0_ok 4 (q := (8, .invokestatic 134, 3)) rfl
theorem dJxe99ae_doubleToLongBits_ccdee_11 : decode cJxe99ae_doubleToLongBits_ccdee 11 = .ok (.lreturn, 1) := td tJxe99ae_doubleToLongBits_ccdee_0_ok 5 (q := (11, .lreturn, 1)) rfl
theorem dJxe99ae_doubleToLongBits_ccdee_12 : decode cJxe99ae_doubleToLongBits_ccdee 12 = .ok (.ldc2_w 137, 3) := td tJxe99ae_doubleToLongBits_ccdee_0_ok 6 (q := (12, .ldc2_w 137, 3)) rfl
theorem dJxe99ae_doubleToLongBits_ccdee_15 : decode cJxe99ae_doubleToLongBits_ccdee 15 = .ok (.lreturn, 1) := td tJxe99ae_doubleToLongBits_ccdee_0_ok 7 (q := (15, .lreturn, 1)) rfl
def fJxe99ae_doubleToLongBits_ccdee (x0 : UInt64) : Option (Int64) :=
  (Option.bind (fJxe99ae_isNaN_b9ae7 x0) (fun q1 => (if q1 = 0 then (some x0.toInt64) else (some (9221120237041090560 : Int64)))))
set_option maxHeartbeats 4000000 in
set_option maxRecDepth 100000 in
theorem mJxe99ae_doubleToLongBits_ccdee {l : Launch} {D : va_G} {W0 : va_W} {tys : nd_T} {x0 : UInt64} {r : Int64} (hs : fJxe99ae_doubleToLongBits_ccdee x0 = some r) : nd_C l yJxe99ae_doubleToLongBits_ccdee cJxe99ae_doubleToLongBits_ccdee 2 (some .long) 1 24 D tys [.double x0] W0 W0 (some (.long r)) := by
  refine nd_ofCl (by decide) (Nat.le_of_ble_eq_true rfl) (fun p e s m args below meth c_ ls A Q hx hb hml hown hts hl hP hK hD hS hA hN hret => ?_)
  have hown : s.vm.findClass RJxe99ae = some m.cls := hown
  have hl : lv_has ls 2 [(0, .double x0)] := hl
  have hret : ∀ (z0 : Int64) {H : Heap} {locs : List Loc} {pc : Nat} {ls : Array Slot}, some z0 = some r → va_P D vwCl W0 H → va_S A s.heap H locs → decode cJxe99ae_doubleToLongBits_ccdee pc = .ok (.lreturn, 1) → W p l e ⟨1, 0, 0, 24⟩ s m args below meth c_ H locs 0 0 Q (F0 m pc ls [.long z0]) := by
    intro z0 H locs pc ls h hP hS hd
    cases h
    exact hret hP hS hd
  rw [fJxe99ae_doubleToLongBits_ccdee] at hs
  refine lv_dload_n hx hb dJxe99ae_doubleToLongBits_ccdee_0 rfl (lv_at hl 0 rfl) ?_
  obtain ⟨q1, eq1, hs⟩ := ob hs
  refine nd_callS (As := [.double x0]) (rest := []) (st1 := [.int q1]) hx hb hml hown hts hl hP hK hD hS hA hN (mJxe99ae_isNaN_b9ae7 eq1) is_Jxe99ae_isNaN_b9ae7 wd_1002 rfl rfl ⟨Nat.le_of_ble_eq_true rfl, Nat.le_of_ble_eq_true rfl⟩ (Nat.le_of_ble_eq_true rfl) ⟨Nat.zero_le _, Nat.zero_le _⟩ dJxe99ae_doubleToLongBits_ccdee_1 rfl rfl (fun H locs hP hD hS => ?_)
  refine lv_if_ne (tgt := 12) hx hb dJxe99ae_doubleToLongBits_ccdee_4 (by decide) (fun b2 => ?_) (fun b2 => ?_)
  · have hs := ite_f hs b2
    refine lv_ldc2 hx hb hown (hts _ wd_1001) dJxe99ae_doubleToLongBits_ccdee_12 ?_
    exact hret _ hs hP hS dJxe99ae_doubleToLongBits_ccdee_15
  · have hs := ite_t hs b2
    refine lv_dload_n hx hb dJxe99ae_doubleToLongBits_ccdee_7 rfl (lv_at hl 0 rfl) ?_
    refine vn_d2l hx hb (hml.trans hl.1.symm) hown (hts _ wd_997) (hts _ wd_998) (hts _ wd_999) (hts _ wd_995) (Nat.le_of_ble_eq_true rfl) (Nat.le_of_ble_eq_true rfl) dJxe99ae_doubleToLongBits_ccdee_8 ?_
    exact hret _ hs hP hS dJxe99ae_doubleToLongBits_ccdee_11
def tX9_digest_0 : List (Nat × Instr × Nat) := [(0, .aload_n 0, 1), (1, .iconst 0, 1), (2, .putfield 25, 3), (5, .aload_n 0, 1), (6, .ldc2_w 231, 3), (9, .putfield 223, 3), (12, .iconst 0, 1), (13, .istore_n 1, 1), (14, .iload_n 1, 1), (15, .bipush 13, 2), (17, .if_icmp .ge 19, 3), (20, .aload_n 0, 1), (21, .aload_n 0, 1), (22, .iload_n 1, 1), (23, .invokevirtual 195, 3), (26, .i2l, 1), (27, .invokevirtual 227, 3), (30, .iinc 1 1, 3), (33, .goto (-19), 3), (36, .aload_n 0, 1), (37, .invokevirtual 233, 3), (40, .aload_n 0, 1), (41, .invokevirtual 236, 3), (44, .aload_n 0, 1), (45, .aload_n 0, 1), (46, .iconst (-1), 1), (47, .iconst (-1), 1), (48, .invokevirtual 183, 3), (51, .i2l, 1), (52, .invokevirtual 227, 3), (55, .iconst 0, 1), (56, .istore_n 1, 1), (57, .iload_n 1, 1), (58, .bipush 10, 2), (60, .if_icmp .ge 20, 3), (63, .aload_n 0, 1), (64, .aload_n 0, 1), (65, .iload_n 1, 1), (66, .iconst (-1), 1), (67, .invokevirtual 183, 3), (70, .i2l, 1), (71, .invokevirtual 227, 3), (74, .iinc 1 1, 3), (77, .goto (-20), 3), (80, .iconst 0, 1), (81, .istore_n 1, 1), (82, .iload_n 1, 1), (83, .bipush 24, 2), (85, .if_icmp .ge 20, 3), (88, .aload_n 0, 1), (89, .aload_n 0, 1), (90, .iconst (-1), 1), (91, .iload_n 1, 1), (92, .invokevirtual 183, 3), (95, .i2l, 1), (96, .invokevirtual 227, 3), (99, .iinc 1 1, 3), (102, .goto (-20), 3), (105, .iconst 0, 1), (106, .istore_n 1, 1)]
theorem tX9_digest_0_ok : tX9_digest_0.all (fun q => decide (decode cX9_digest q.1 = .ok q.2)) = true := by decide +kernel
theorem dX9_digest_0 : decode cX9_digest 0 = .ok (.aload_n 0, 1) := td tX9_digest_0_ok 0 (q := (0, .aload_n 0, 1)) rfl
theorem dX9_digest_1 : decode cX9_digest 1 = .ok (.iconst 0, 1) := td tX9_digest_0_ok 1 (q := (1, .iconst 0, 1)) rfl
theorem dX9_digest_2 : decode cX9_digest 2 = .ok (.putfield 25, 3) := td tX9_digest_0_ok 2 (q := (2, .putfield 25, 3)) rfl
theorem dX9_digest_5 : decode cX9_digest 5 = .ok (.aload_n 0, 1) := td tX9_digest_0_ok 3 (q := (5, .aload_n 0, 1)) rfl
theorem dX9_digest_6 : decode cX9_digest 6 = .ok (.ldc2_w 231, 3) := td tX9_digest_0_ok 4 (q := (6, .ldc2_w 231, 3)) rfl
theorem dX9_digest_9 : decode cX9_digest 9 = .ok (.putfield 223, 3) := td tX9_digest_0_ok 5 (q := (9, .putfield 223, 3)) rfl
theorem dX9_digest_12 : decode cX9_digest 12 = .ok (.iconst 0, 1) := td tX9_digest_0_ok 6 (q := (12, .iconst 0, 1)) rfl
theorem dX9_digest_13 : decode cX9_digest 13 = .ok (.istore_n 1, 1) := td tX9_digest_0_ok 7 (q := (13, .istore_n 1, 1)) rfl
theorem dX9_digest_14 : decode cX9_digest 14 = .ok (.iload_n 1, 1) := td tX9_digest_0_ok 8 (q := (14, .iload_n 1, 1)) rfl
theorem dX9_digest_15 : decode cX9_digest 15 = .ok (.bipush 13, 2) := td tX9_digest_0_ok 9 (q := (15, .bipush 13, 2)) rfl
theorem dX9_digest_17 : decode cX9_digest 17 = .ok (.if_icmp .ge 19, 3) := td tX9_digest_0_ok 10 (q := (17, .if_icmp .ge 19, 3)) rfl
theorem dX9_digest_20 : decode cX9_digest 20 = .ok (.aload_n 0, 1) := td tX9_digest_0_ok 11 (q := (20, .aload_n 0, 1)) rfl
theorem dX9_digest_21 : decode cX9_digest 21 = .ok (.aload_n 0, 1) := td tX9_digest_0_ok 12 (q := (21, .aload_n 0, 1)) rfl
theorem dX9_digest_22 : decode cX9_digest 22 = .ok (.iload_n 1, 1) := td tX9_digest_0_ok 13 (q := (22, .iload_n 1, 1)) rfl
theorem dX9_digest_23 : decode cX9_digest 23 = .ok (.invokevirtual 195, 3) := td tX9_digest_0_ok 14 (q := (23, .invokevirtual 195, 3)) rfl
theorem dX9_digest_26 : decode cX9_digest 26 = .ok (.i2l, 1) := td tX9_digest_0_ok 15 (q := (26, .i2l, 1)) rfl
theorem dX9_digest_27 : decode cX9_digest 27 = .ok (.invokevirtual 227, 3) := td tX9_digest_0_ok 16 (q := (27, .invokevirtual 227, 3)) rfl
theorem dX9_digest_30 : decode cX9_digest 30 = .ok (.iinc 1 1, 3) := td tX9_digest_0_ok 17 (q := (30, .iinc 1 1, 3)) rfl
theorem dX9_digest_33 : decode cX9_digest 33 = .ok (.goto (-19), 3) := td tX9_digest_0_ok 18 (q := (33, .goto (-19), 3)) rfl
theorem dX9_digest_36 : decode cX9_digest 36 = .ok (.aload_n 0, 1) := td tX9_digest_0_ok 19 (q := (36, .aload_n 0, 1)) rfl
theorem dX9_digest_37 : decode cX9_digest 37 = .ok (.invokevirtual 233, 3) := td tX9_digest_0_ok 20 (q := (37, .invokevirtual 233, 3)) rfl
theorem dX9_digest_40 : decode cX9_digest 40 = .ok (.aload_n 0, 1) := td tX9_digest_0_ok 21 (q := (40, .aload_n 0, 1)) rfl
theorem dX9_digest_41 : decode cX9_digest 41 = .ok (.invokevirtual 236, 3) := td tX9_digest_0_ok 22 (q := (41, .invokevirtual 236, 3)) rfl
theorem dX9_digest_44 : decode cX9_digest 44 = .ok (.aload_n 0, 1) := td tX9_digest_0_ok 23 (q := (44, .aload_n 0, 1)) rfl
theorem dX9_digest_45 : decode cX9_digest 45 = .ok (.aload_n 0, 1) := td tX9_digest_0_ok 24 (q := (45, .aload_n 0, 1)) rfl
theorem dX9_digest_46 : decode cX9_digest 46 = .ok (.iconst (-1), 1) := td tX9_digest_0_ok 25 (q := (46, .iconst (-1), 1)) rfl
theorem dX9_digest_47 : decode cX9_digest 47 = .ok (.iconst (-1), 1) := td tX9_digest_0_ok 26 (q := (47, .iconst (-1), 1)) rfl
theorem dX9_digest_48 : decode cX9_digest 48 = .ok (.invokevirtual 183, 3) := td tX9_digest_0_ok 27 (q := (48, .invokevirtual 183, 3)) rfl
theorem dX9_digest_51 : decode cX9_digest 51 = .ok (.i2l, 1) := td tX9_digest_0_ok 28 (q := (51, .i2l, 1)) rfl
theorem dX9_digest_52 : decode cX9_digest 52 = .ok (.invokevirtual 227, 3) := td tX9_digest_0_ok 29 (q := (52, .invokevirtual 227, 3)) rfl
theorem dX9_digest_55 : decode cX9_digest 55 = .ok (.iconst 0, 1) := td tX9_digest_0_ok 30 (q := (55, .iconst 0, 1)) rfl
theorem dX9_digest_56 : decode cX9_digest 56 = .ok (.istore_n 1, 1) := td tX9_digest_0_ok 31 (q := (56, .istore_n 1, 1)) rfl
theorem dX9_digest_57 : decode cX9_digest 57 = .ok (.iload_n 1, 1) := td tX9_digest_0_ok 32 (q := (57, .iload_n 1, 1)) rfl
theorem dX9_digest_58 : decode cX9_digest 58 = .ok (.bipush 10, 2) := td tX9_digest_0_ok 33 (q := (58, .bipush 10, 2)) rfl
theorem dX9_digest_60 : decode cX9_digest 60 = .ok (.if_icmp .ge 20, 3) := td tX9_digest_0_ok 34 (q := (60, .if_icmp .ge 20, 3)) rfl
theorem dX9_digest_63 : decode cX9_digest 63 = .ok (.aload_n 0, 1) := td tX9_digest_0_ok 35 (q := (63, .aload_n 0, 1)) rfl
theorem dX9_digest_64 : decode cX9_digest 64 = .ok (.aload_n 0, 1) := td tX9_digest_0_ok 36 (q := (64, .aload_n 0, 1)) rfl
theorem dX9_digest_65 : decode cX9_digest 65 = .ok (.iload_n 1, 1) := td tX9_digest_0_ok 37 (q := (65, .iload_n 1, 1)) rfl
theorem dX9_digest_66 : decode cX9_digest 66 = .ok (.iconst (-1), 1) := td tX9_digest_0_ok 38 (q := (66, .iconst (-1), 1)) rfl
theorem dX9_digest_67 : decode cX9_digest 67 = .ok (.invokevirtual 183, 3) := td tX9_digest_0_ok 39 (q := (67, .invokevirtual 183, 3)) rfl
theorem dX9_digest_70 : decode cX9_digest 70 = .ok (.i2l, 1) := td tX9_digest_0_ok 40 (q := (70, .i2l, 1)) rfl
theorem dX9_digest_71 : decode cX9_digest 71 = .ok (.invokevirtual 227, 3) := td tX9_digest_0_ok 41 (q := (71, .invokevirtual 227, 3)) rfl
theorem dX9_digest_74 : decode cX9_digest 74 = .ok (.iinc 1 1, 3) := td tX9_digest_0_ok 42 (q := (74, .iinc 1 1, 3)) rfl
theorem dX9_digest_77 : decode cX9_digest 77 = .ok (.goto (-20), 3) := td tX9_digest_0_ok 43 (q := (77, .goto (-20), 3)) rfl
theorem dX9_digest_80 : decode cX9_digest 80 = .ok (.iconst 0, 1) := td tX9_digest_0_ok 44 (q := (80, .iconst 0, 1)) rfl
theorem dX9_digest_81 : decode cX9_digest 81 = .ok (.istore_n 1, 1) := td tX9_digest_0_ok 45 (q := (81, .istore_n 1, 1)) rfl
theorem dX9_digest_82 : decode cX9_digest 82 = .ok (.iload_n 1, 1) := td tX9_digest_0_ok 46 (q := (82, .iload_n 1, 1)) rfl
theorem dX9_digest_83 : decode cX9_digest 83 = .ok (.bipush 24, 2) := td tX9_digest_0_ok 47 (q := (83, .bipush 24, 2)) rfl
theorem dX9_digest_85 : decode cX9_digest 85 = .ok (.if_icmp .ge 20, 3) := td tX9_digest_0_ok 48 (q := (85, .if_icmp .ge 20, 3)) rfl
theorem dX9_digest_88 : decode cX9_digest 88 = .ok (.aload_n 0, 1) := td tX9_digest_0_ok 49 (q := (88, .aload_n 0, 1)) rfl
theorem dX9_digest_89 : decode cX9_digest 89 = .ok (.aload_n 0, 1) := td tX9_digest_0_ok 50 (q := (89, .aload_n 0, 1)) rfl
theorem dX9_digest_90 : decode cX9_digest 90 = .ok (.iconst (-1), 1) := td tX9_digest_0_ok 51 (q := (90, .iconst (-1), 1)) rfl
theorem dX9_digest_91 : decode cX9_digest 91 = .ok (.iload_n 1, 1) := td tX9_digest_0_ok 52 (q := (91, .iload_n 1, 1)) rfl
theorem dX9_digest_92 : decode cX9_digest 92 = .ok (.invokevirtual 183, 3) := td tX9_digest_0_ok 53 (q := (92, .invokevirtual 183, 3)) rfl
theorem dX9_digest_95 : decode cX9_digest 95 = .ok (.i2l, 1) := td tX9_digest_0_ok 54 (q := (95, .i2l, 1)) rfl
theorem dX9_digest_96 : decode cX9_digest 96 = .ok (.invokevirtual 227, 3) := td tX9_digest_0_ok 55 (q := (96, .invokevirtual 227, 3)) rfl
theorem dX9_digest_99 : decode cX9_digest 99 = .ok (.iinc 1 1, 3) := td tX9_digest_0_ok 56 (q := (99, .iinc 1 1, 3)) rfl
theorem dX9_digest_102 : decode cX9_digest 102 = .ok (.goto (-20), 3) := td tX9_digest_0_ok 57 (q := (102, .goto (-20), 3)) rfl
theorem dX9_digest_105 : decode cX9_digest 105 = .ok (.iconst 0, 1) := td tX9_digest_0_ok 58 (q := (105, .iconst 0, 1)) rfl
theorem dX9_digest_106 : decode cX9_digest 106 = .ok (.istore_n 1, 1) := td tX9_digest_0_ok 59 (q := (106, .istore_n 1, 1)) rfl
def tX9_digest_1 : List (Nat × Instr × Nat) := [(107, .iload_n 1, 1), (108, .iconst 3, 1), (109, .if_icmp .ge 19, 3), (112, .aload_n 0, 1), (113, .aload_n 0, 1), (114, .iload_n 1, 1), (115, .invokevirtual 204, 3), (118, .i2l, 1), (119, .invokevirtual 227, 3), (122, .iinc 1 1, 3), (125, .goto (-18), 3), (128, .aload_n 0, 1), (129, .aload_n 0, 1), (130, .iconst (-1), 1), (131, .iconst 0, 1), (132, .invokevirtual 210, 3), (135, .i2l, 1), (136, .invokevirtual 227, 3), (139, .aload_n 0, 1), (140, .aload_n 0, 1), (141, .invokevirtual 214, 3), (144, .i2l, 1), (145, .invokevirtual 227, 3), (148, .aload_n 0, 1), (149, .aload_n 0, 1), (150, .invokevirtual 217, 3), (153, .invokestatic 239, 3), (156, .invokevirtual 227, 3), (159, .aload_n 0, 1), (160, .aload_n 0, 1), (161, .getfield 96, 3), (164, .i2l, 1), (165, .invokevirtual 227, 3), (168, .iconst 0, 1), (169, .istore_n 1, 1), (170, .iload_n 1, 1), (171, .aload_n 0, 1), (172, .getfield 96, 3), (175, .if_icmp .ge 20, 3), (178, .aload_n 0, 1), (179, .aload_n 0, 1), (180, .getfield 16, 3), (183, .iload_n 1, 1), (184, .iaload, 1), (185, .i2l, 1), (186, .invokevirtual 227, 3), (189, .iinc 1 1, 3), (192, .goto (-22), 3), (195, .aload_n 0, 1), (196, .getfield 223, 3), (199, .lreturn, 1)]
theorem tX9_digest_1_ok : tX9_digest_1.all (fun q => decide (decode cX9_digest q.1 = .ok q.2)) = true := by decide +kernel
theorem dX9_digest_107 : decode cX9_digest 107 = .ok (.iload_n 1, 1) := td tX9_digest_1_ok 0 (q := (107, .iload_n 1, 1)) rfl
theorem dX9_digest_108 : decode cX9_digest 108 = .ok (.iconst 3, 1) := td tX9_digest_1_ok 1 (q := (108, .iconst 3, 1)) rfl
theorem dX9_digest_109 : decode cX9_digest 109 = .ok (.if_icmp .ge 19, 3) := td tX9_digest_1_ok 2 (q := (109, .if_icmp .ge 19, 3)) rfl
theorem dX9_digest_112 : decode cX9_digest 112 = .ok (.aload_n 0, 1) := td tX9_digest_1_ok 3 (q := (112, .aload_n 0, 1)) rfl
theorem dX9_digest_113 : decode cX9_digest 113 = .ok (.aload_n 0, 1) := td tX9_digest_1_ok 4 (q := (113, .aload_n 0, 1)) rfl
theorem dX9_digest_114 : decode cX9_digest 114 = .ok (.iload_n 1, 1) := td tX9_digest_1_ok 5 (q := (114, .iload_n 1, 1)) rfl
theorem dX9_digest_115 : decode cX9_digest 115 = .ok (.invokevirtual 204, 3) := td tX9_digest_1_ok 6 (q := (115, .invokevirtual 204, 3)) rfl
theorem dX9_digest_118 : decode cX9_digest 118 = .ok (.i2l, 1) := td tX9_digest_1_ok 7 (q := (118, .i2l, 1)) rfl
theorem dX9_digest_119 : decode cX9_digest 119 = .ok (.invokevirtual 227, 3) := td tX9_digest_1_ok 8 (q := (119, .invokevirtual 227, 3)) rfl
theorem dX9_digest_122 : decode cX9_digest 122 = .ok (.iinc 1 1, 3) := td tX9_digest_1_ok 9 (q := (122, .iinc 1 1, 3)) rfl
theorem dX9_digest_125 : decode cX9_digest 125 = .ok (.goto (-18), 3) := td tX9_digest_1_ok 10 (q := (125, .goto (-18), 3)) rfl
theorem dX9_digest_128 : decode cX9_digest 128 = .ok (.aload_n 0, 1) := td tX9_digest_1_ok 11 (q := (128, .aload_n 0, 1)) rfl
theorem dX9_digest_129 : decode cX9_digest 129 = .ok (.aload_n 0, 1) := td tX9_digest_1_ok 12 (q := (129, .aload_n 0, 1)) rfl
theorem dX9_digest_130 : decode cX9_digest 130 = .ok (.iconst (-1), 1) := td tX9_digest_1_ok 13 (q := (130, .iconst (-1), 1)) rfl
theorem dX9_digest_131 : decode cX9_digest 131 = .ok (.iconst 0, 1) := td tX9_digest_1_ok 14 (q := (131, .iconst 0, 1)) rfl
theorem dX9_digest_132 : decode cX9_digest 132 = .ok (.invokevirtual 210, 3) := td tX9_digest_1_ok 15 (q := (132, .invokevirtual 210, 3)) rfl
theorem dX9_digest_135 : decode cX9_digest 135 = .ok (.i2l, 1) := td tX9_digest_1_ok 16 (q := (135, .i2l, 1)) rfl
theorem dX9_digest_136 : decode cX9_digest 136 = .ok (.invokevirtual 227, 3) := td tX9_digest_1_ok 17 (q := (136, .invokevirtual 227, 3)) rfl
theorem dX9_digest_139 : decode cX9_digest 139 = .ok (.aload_n 0, 1) := td tX9_digest_1_ok 18 (q := (139, .aload_n 0, 1)) rfl
theorem dX9_digest_140 : decode cX9_digest 140 = .ok (.aload_n 0, 1) := td tX9_digest_1_ok 19 (q := (140, .aload_n 0, 1)) rfl
theorem dX9_digest_141 : decode cX9_digest 141 = .ok (.invokevirtual 214, 3) := td tX9_digest_1_ok 20 (q := (141, .invokevirtual 214, 3)) rfl
theorem dX9_digest_144 : decode cX9_digest 144 = .ok (.i2l, 1) := td tX9_digest_1_ok 21 (q := (144, .i2l, 1)) rfl
theorem dX9_digest_145 : decode cX9_digest 145 = .ok (.invokevirtual 227, 3) := td tX9_digest_1_ok 22 (q := (145, .invokevirtual 227, 3)) rfl
theorem dX9_digest_148 : decode cX9_digest 148 = .ok (.aload_n 0, 1) := td tX9_digest_1_ok 23 (q := (148, .aload_n 0, 1)) rfl
theorem dX9_digest_149 : decode cX9_digest 149 = .ok (.aload_n 0, 1) := td tX9_digest_1_ok 24 (q := (149, .aload_n 0, 1)) rfl
theorem dX9_digest_150 : decode cX9_digest 150 = .ok (.invokevirtual 217, 3) := td tX9_digest_1_ok 25 (q := (150, .invokevirtual 217, 3)) rfl
theorem dX9_digest_153 : decode cX9_digest 153 = .ok (.invokestatic 239, 3) := td tX9_digest_1_ok 26 (q := (153, .invokestatic 239, 3)) rfl
theorem dX9_digest_156 : decode cX9_digest 156 = .ok (.invokevirtual 227, 3) := td tX9_digest_1_ok 27 (q := (156, .invokevirtual 227, 3)) rfl
theorem dX9_digest_159 : decode cX9_digest 159 = .ok (.aload_n 0, 1) := td tX9_digest_1_ok 28 (q := (159, .aload_n 0, 1)) rfl
theorem dX9_digest_160 : decode cX9_digest 160 = .ok (.aload_n 0, 1) := td tX9_digest_1_ok 29 (q := (160, .aload_n 0, 1)) rfl
theorem dX9_digest_161 : decode cX9_digest 161 = .ok (.getfield 96, 3) := td tX9_digest_1_ok 30 (q := (161, .getfield 96, 3)) rfl
theorem dX9_digest_164 : decode cX9_digest 164 = .ok (.i2l, 1) := td tX9_digest_1_ok 31 (q := (164, .i2l, 1)) rfl
theorem dX9_digest_165 : decode cX9_digest 165 = .ok (.invokevirtual 227, 3) := td tX9_digest_1_ok 32 (q := (165, .invokevirtual 227, 3)) rfl
theorem dX9_digest_168 : decode cX9_digest 168 = .ok (.iconst 0, 1) := td tX9_digest_1_ok 33 (q := (168, .iconst 0, 1)) rfl
theorem dX9_digest_169 : decode cX9_digest 169 = .ok (.istore_n 1, 1) := td tX9_digest_1_ok 34 (q := (169, .istore_n 1, 1)) rfl
theorem dX9_digest_170 : decode cX9_digest 170 = .ok (.iload_n 1, 1) := td tX9_digest_1_ok 35 (q := (170, .iload_n 1, 1)) rfl
theorem dX9_digest_171 : decode cX9_digest 171 = .ok (.aload_n 0, 1) := td tX9_digest_1_ok 36 (q := (171, .aload_n 0, 1)) rfl
theorem dX9_digest_172 : decode cX9_digest 172 = .ok (.getfield 96, 3) := td tX9_digest_1_ok 37 (q := (172, .getfield 96, 3)) rfl
theorem dX9_digest_175 : decode cX9_digest 175 = .ok (.if_icmp .ge 20, 3) := td tX9_digest_1_ok 38 (q := (175, .if_icmp .ge 20, 3)) rfl
theorem dX9_digest_178 : decode cX9_digest 178 = .ok (.aload_n 0, 1) := td tX9_digest_1_ok 39 (q := (178, .aload_n 0, 1)) rfl
theorem dX9_digest_179 : decode cX9_digest 179 = .ok (.aload_n 0, 1) := td tX9_digest_1_ok 40 (q := (179, .aload_n 0, 1)) rfl
theorem dX9_digest_180 : decode cX9_digest 180 = .ok (.getfield 16, 3) := td tX9_digest_1_ok 41 (q := (180, .getfield 16, 3)) rfl
theorem dX9_digest_183 : decode cX9_digest 183 = .ok (.iload_n 1, 1) := td tX9_digest_1_ok 42 (q := (183, .iload_n 1, 1)) rfl
theorem dX9_digest_184 : decode cX9_digest 184 = .ok (.iaload, 1) := td tX9_digest_1_ok 43 (q := (184, .iaload, 1)) rfl
theorem dX9_digest_185 : decode cX9_digest 185 = .ok (.i2l, 1) := td tX9_digest_1_ok 44 (q := (185, .i2l, 1)) rfl
theorem dX9_digest_186 : decode cX9_digest 186 = .ok (.invokevirtual 227, 3) := td tX9_digest_1_ok 45 (q := (186, .invokevirtual 227, 3)) rfl
theorem dX9_digest_189 : decode cX9_digest 189 = .ok (.iinc 1 1, 3) := td tX9_digest_1_ok 46 (q := (189, .iinc 1 1, 3)) rfl
theorem dX9_digest_192 : decode cX9_digest 192 = .ok (.goto (-22), 3) := td tX9_digest_1_ok 47 (q := (192, .goto (-22), 3)) rfl
theorem dX9_digest_195 : decode cX9_digest 195 = .ok (.aload_n 0, 1) := td tX9_digest_1_ok 48 (q := (195, .aload_n 0, 1)) rfl
theorem dX9_digest_196 : decode cX9_digest 196 = .ok (.getfield 223, 3) := td tX9_digest_1_ok 49 (q := (196, .getfield 223, 3)) rfl
theorem dX9_digest_199 : decode cX9_digest 199 = .ok (.lreturn, 1) := td tX9_digest_1_ok 50 (q := (199, .lreturn, 1)) rfl
def fX9_digest_14 (k14 : Int64 → Option (Int64 × (Nat → Int32) × Int32 × Int64)) (ms : (Nat → Int32)) (mn : Int32) : Nat → Int32 → Int64 → Option (Int64 × (Nat → Int32) × Int32 × Int64)
  | 0, _, _ => none
  | n14 + 1, x1, mh => (if (13 : Int32) ≤ x1 then (k14 mh) else (Option.bind (fX9_counts ms mn x1) (fun q2 => (Option.bind (fX9_hashes mh q2.toInt64) (fun q3 => (fX9_digest_14 k14 ms mn n14 (x1 + (1 : Int32)) q3))))))
def fX9_digest_57 (k57 : Int64 → Option (Int64 × (Nat → Int32) × Int32 × Int64)) (ms : (Nat → Int32)) : Nat → Int32 → Int64 → Option (Int64 × (Nat → Int32) × Int32 × Int64)
  | 0, _, _ => none
  | n57 + 1, x1, mh => (if (10 : Int32) ≤ x1 then (k57 mh) else (Option.bind (fX9_sumBy ms x1 (-1 : Int32)) (fun q13 => (Option.bind (fX9_hashes mh q13.toInt64) (fun q14 => (fX9_digest_57 k57 ms n57 (x1 + (1 : Int32)) q14))))))
def fX9_digest_82 (k82 : Int64 → Option (Int64 × (Nat → Int32) × Int32 × Int64)) (ms : (Nat → Int32)) : Nat → Int32 → Int64 → Option (Int64 × (Nat → Int32) × Int32 × Int64)
  | 0, _, _ => none
  | n82 + 1, x1, mh => (if (24 : Int32) ≤ x1 then (k82 mh) else (Option.bind (fX9_sumBy ms (-1 : Int32) x1) (fun q20 => (Option.bind (fX9_hashes mh q20.toInt64) (fun q21 => (fX9_digest_82 k82 ms n82 (x1 + (1 : Int32)) q21))))))
def fX9_digest_107 (k107 : (Nat → Int32) → Int64 → Option (Int64 × (Nat → Int32) × Int32 × Int64)) (ms : (Nat → Int32)) : Nat → Int32 → (Nat → Int32) → Int64 → Option (Int64 × (Nat → Int32) × Int32 × Int64)
  | 0, _, _, _ => none
  | n107 + 1, x1, mf, mh => (if (3 : Int32) ≤ x1 then (k107 mf mh) else (Option.bind (fX9_tellsLongest ms mf x1) (fun q27 => (Option.bind (fX9_hashes mh q27.1.toInt64) (fun q28 => (fX9_digest_107 k107 ms n107 (x1 + (1 : Int32)) q27.2 q28))))))
def fX9_digest_170 (k170 : Int64 → Option (Int64 × (Nat → Int32) × Int32 × Int64)) (mb : (Nat → Int32)) (ml : Int32) : Nat → Int32 → Int64 → Option (Int64 × (Nat → Int32) × Int32 × Int64)
  | 0, _, _ => none
  | n170 + 1, x1, mh => (if ml ≤ x1 then (k170 mh) else (Option.bind (aget mb 60 x1) (fun t42 => (Option.bind (fX9_hashes mh t42.toInt64) (fun q43 => (fX9_digest_170 k170 mb ml n170 (x1 + (1 : Int32)) q43))))))
def fX9_digest (ms : (Nat → Int32)) (mb : (Nat → Int32)) (mf : (Nat → Int32)) (mt : Int32) (mn : Int32) (ml : Int32) (mh : Int64) : Option (Int64 × (Nat → Int32) × Int32 × Int64) :=
  (fX9_digest_14 (fun (mh_u4 : Int64) => (Option.bind (fX9_hashesPieces ms mh_u4) (fun q8 => (Option.bind (fX9_hashesPages ms q8) (fun q9 => (Option.bind (fX9_sumBy ms (-1 : Int32) (-1 : Int32)) (fun q10 => (Option.bind (fX9_hashes q9 q10.toInt64) (fun q11 => (fX9_digest_57 (fun (mh_u15 : Int64) => (fX9_digest_82 (fun (mh_u22 : Int64) => (fX9_digest_107 (fun (mf_u29 : (Nat → Int32)) (mh_u29 : Int64) => (Option.bind (fX9_wrongOf ms (-1 : Int32) (0 : Int32)) (fun q33 => (Option.bind (fX9_hashes mh_u29 q33.toInt64) (fun q34 => (Option.bind (fX9_suspected ms) (fun q35 => (Option.bind (fX9_hashes q34 q35.toInt64) (fun q36 => (Option.bind (fX9_share ms) (fun q37 => (Option.bind (fJxe99ae_doubleToLongBits_ccdee q37) (fun q38 => (Option.bind (fX9_hashes q36 q38) (fun q39 => (Option.bind (fX9_hashes q39 ml.toInt64) (fun q40 => (fX9_digest_170 (fun (mh_u44 : Int64) => (some (mh_u44, mf_u29, (0 : Int32), mh_u44))) mb ml LF (0 : Int32) q40)))))))))))))))))) ms LF (0 : Int32) mf mh_u22)) ms LF (0 : Int32) mh_u15)) ms LF (0 : Int32) q11)))))))))) ms mn LF (0 : Int32) (2897 : Int64))
set_option maxHeartbeats 4000000 in
set_option maxRecDepth 100000 in
theorem mX9_digest {l : Launch} {D : va_G} {bd : Nat → Nat} {cI : ClassId} {ms : (Nat → Int32)} {msv : (Nat → Int32)} {mb : (Nat → Int32)} {mf : (Nat → Int32)} {mr : (Nat → Int32)} {mt : Int32} {mn : Int32} {ml : Int32} {mat : Int32} {mw : Int32} {mm : Int32} {mh : Int64} {r : Int64} {mf' : (Nat → Int32)} {mt' : Int32} {mh' : Int64} (hs : fX9_digest ms mb mf mt mn ml mh = some (r, mf', mt', mh')) : nd_C l yX9_digest cX9_digest 2 (some .long) 7 155 D [(cI, .int)] [.ref (bd 0)] (MW bd cI ms msv mb mf mr mt mn ml mat mw mm mh) (MW bd cI ms msv mb mf' mr mt' mn ml mat mw mm mh') (some (.long r)) := by
  refine nd_ofCl (by decide) (Nat.le_of_ble_eq_true rfl) (fun p e s m args below meth c_ ls A Q hx hb hml hown hts hl hP hK hD hS hA hN hret => ?_)
  have hown : s.vm.findClass RX9 = some m.cls := hown
  have hl : lv_has ls 2 [(0, .ref (bd 0))] := hl
  have hret : ∀ (z0 : Int64) (z1 : (Nat → Int32)) (z2 : Int32) (z3 : Int64) {H : Heap} {locs : List Loc} {pc : Nat} {ls : Array Slot}, some (z0, z1, z2, z3) = some (r, mf', mt', mh') → va_P D vwCl (MW bd cI ms msv mb z1 mr z2 mn ml mat mw mm z3) H → va_S A s.heap H locs → decode cX9_digest pc = .ok (.lreturn, 1) → W p l e ⟨7, 0, 0, 155⟩ s m args below meth c_ H locs 0 0 Q (F0 m pc ls [.long z0]) := by
    intro z0 z1 z2 z3 H locs pc ls h hP hS hd
    cases h
    exact hret hP hS hd
  rw [fX9_digest] at hs
  refine lv_aload_n hx hb dX9_digest_0 rfl (lv_at hl 0 rfl) ?_
  refine lv_iconst (v := (0 : Int32)) hx hb dX9_digest_1 (by decide) ?_
  refine pf_X9_25 hx hb hts hown hK hP hD hS 0 rfl rfl dX9_digest_2 (fun H locs hP hD hS => ?_)
  have hP : va_P D vwCl (MW bd cI ms msv mb mf mr (0 : Int32) mn ml mat mw mm mh) H := hP
  have hD : va_D A (MW bd cI ms msv mb mf mr (0 : Int32) mn ml mat mw mm mh) := hD
  refine lv_aload_n hx hb dX9_digest_5 rfl (lv_at hl 0 rfl) ?_
  refine lv_ldc2 hx hb hown (hts _ wd_978) dX9_digest_6 ?_
  refine pf_X9_223 hx hb hts hown hK hP hD hS 0 rfl rfl dX9_digest_9 (fun H locs hP hD hS => ?_)
  have hP : va_P D vwCl (MW bd cI ms msv mb mf mr (0 : Int32) mn ml mat mw mm (2897 : Int64)) H := hP
  have hD : va_D A (MW bd cI ms msv mb mf mr (0 : Int32) mn ml mat mw mm (2897 : Int64)) := hD
  refine lv_iconst (v := (0 : Int32)) hx hb dX9_digest_12 (by decide) ?_
  refine lv_istore_n (lv' := [(1, .int (0 : Int32)), (0, .ref (bd 0))]) hx hb dX9_digest_13 rfl hl (by decide) rfl (fun ls hl => ?_)
  have L14 : ∀ (n14 : Nat) (k14 : Int64 → Option (Int64 × (Nat → Int32) × Int32 × Int64)) (v1_4 : Int32) (mh_4 : Int64) (H : Heap) (locs : List Loc) (ls : Array Slot), lv_has ls 2 [(0, .ref (bd 0)), (1, .int v1_4)] → va_P D vwCl (MW bd cI ms msv mb mf mr (0 : Int32) mn ml mat mw mm mh_4) H → va_S A s.heap H locs → fX9_digest_14 k14 ms mn n14 v1_4 mh_4 = some (r, mf', mt', mh') → (∀ (mh_u4 : Int64) (H : Heap) (locs : List Loc) (ls : Array Slot), lv_has ls 2 [(0, .ref (bd 0))] → va_P D vwCl (MW bd cI ms msv mb mf mr (0 : Int32) mn ml mat mw mm mh_u4) H → va_S A s.heap H locs → k14 mh_u4 = some (r, mf', mt', mh') → W p l e ⟨7, 0, 0, 155⟩ s m args below meth c_ H locs 0 0 Q (F0 m 36 ls [])) → W p l e ⟨7, 0, 0, 155⟩ s m args below meth c_ H locs 0 0 Q (F0 m 14 ls []) := by
    intro n14
    induction n14 with
    | zero =>
      intro k14 v1_4 mh_4 H locs ls hl hP hS hs hk14
      rw [fX9_digest_14] at hs
      cases hs
    | succ n14 ih14 =>
      intro k14 v1_4 mh_4 H locs ls hl hP hS hs hk14
      rw [fX9_digest_14] at hs
      have hD : va_D A (MW bd cI ms msv mb mf mr (0 : Int32) mn ml mat mw mm mh_4) := nd_DD hD rfl
      refine lv_iload_n hx hb dX9_digest_14 rfl (lv_at hl 1 rfl) ?_
      refine lv_bipush (v := (13 : Int32)) hx hb dX9_digest_15 (by decide) ?_
      refine lv_icmp_ge (tgt := 36) hx hb dX9_digest_17 (by decide) (fun b5 => ?_) (fun b5 => ?_)
      · have hs := ite_t hs b5
        exact hk14 mh_4 _ _ _ (lv_sub hl [0] rfl) hP hS hs
      · have hs := ite_f hs b5
        refine lv_aload_n hx hb dX9_digest_20 rfl (lv_at hl 0 rfl) ?_
        refine lv_aload_n hx hb dX9_digest_21 rfl (lv_at hl 0 rfl) ?_
        refine lv_iload_n hx hb dX9_digest_22 rfl (lv_at hl 1 rfl) ?_
        obtain ⟨q6, eq6, hs⟩ := ob hs
        refine nd_callV (As := [.int v1_4]) (rest := [.ref (bd 0)]) (st1 := [.int q6, .ref (bd 0)]) hx hb hml hown hts hl hP hK hD hS hA hN (mX9_counts eq6) iv_X9_counts wd_775 0 rfl rfl rfl rfl ⟨Nat.le_of_ble_eq_true rfl, Nat.le_of_ble_eq_true rfl⟩ (Nat.le_of_ble_eq_true rfl) ⟨Nat.zero_le _, Nat.zero_le _⟩ dX9_digest_23 rfl rfl (fun H locs hP hD hS => ?_)
        refine lv_i2l hx hb dX9_digest_26 rfl ?_
        obtain ⟨q7, eq7, hs⟩ := ob hs
        refine nd_callV (As := [.long q6.toInt64]) (rest := []) (st1 := []) hx hb hml hown hts hl hP hK hD hS hA hN (mX9_hashes eq7) iv_X9_hashes wd_980 0 rfl rfl rfl rfl ⟨Nat.le_of_ble_eq_true rfl, Nat.le_of_ble_eq_true rfl⟩ (Nat.le_of_ble_eq_true rfl) ⟨Nat.zero_le _, Nat.zero_le _⟩ dX9_digest_27 rfl rfl (fun H locs hP hD hS => ?_)
        refine lv_iinc (v := v1_4 + (1 : Int32)) (lv' := [(1, .int (v1_4 + (1 : Int32))), (0, .ref (bd 0))]) hx hb dX9_digest_30 hl (k := 1) rfl rfl (by decide) rfl (fun ls hl => ?_)
        refine lv_goto (tgt := 14) hx hb dX9_digest_33 (by decide) ?_
        exact ih14 k14 (v1_4 + (1 : Int32)) q7 _ _ _ (lv_sub hl [1, 0] rfl) hP hS hs hk14
  refine L14 LF _ (0 : Int32) (2897 : Int64) _ _ _ (lv_sub hl [1, 0] rfl) hP hS hs (fun mh_u4 H locs ls hl hP hS hs => ?_)
  have hD : va_D A (MW bd cI ms msv mb mf mr (0 : Int32) mn ml mat mw mm mh_u4) := nd_DD hD rfl
  refine lv_aload_n hx hb dX9_digest_36 rfl (lv_at hl 0 rfl) ?_
  obtain ⟨q8, eq8, hs⟩ := ob hs
  refine nd_callV (As := []) (rest := []) (st1 := []) hx hb hml hown hts hl hP hK hD hS hA hN (mX9_hashesPieces eq8) iv_X9_hashesPieces wd_985 0 rfl rfl rfl rfl ⟨Nat.le_of_ble_eq_true rfl, Nat.le_of_ble_eq_true rfl⟩ (Nat.le_of_ble_eq_true rfl) ⟨Nat.zero_le _, Nat.zero_le _⟩ dX9_digest_37 rfl rfl (fun H locs hP hD hS => ?_)
  refine lv_aload_n hx hb dX9_digest_40 rfl (lv_at hl 0 rfl) ?_
  obtain ⟨q9, eq9, hs⟩ := ob hs
  refine nd_callV (As := []) (rest := []) (st1 := []) hx hb hml hown hts hl hP hK hD hS hA hN (mX9_hashesPages eq9) iv_X9_hashesPages wd_989 0 rfl rfl rfl rfl ⟨Nat.le_of_ble_eq_true rfl, Nat.le_of_ble_eq_true rfl⟩ (Nat.le_of_ble_eq_true rfl) ⟨Nat.zero_le _, Nat.zero_le _⟩ dX9_digest_41 rfl rfl (fun H locs hP hD hS => ?_)
  refine lv_aload_n hx hb dX9_digest_44 rfl (lv_at hl 0 rfl) ?_
  refine lv_aload_n hx hb dX9_digest_45 rfl (lv_at hl 0 rfl) ?_
  refine lv_iconst (v := (-1 : Int32)) hx hb dX9_digest_46 (by decide) ?_
  refine lv_iconst (v := (-1 : Int32)) hx hb dX9_digest_47 (by decide) ?_
  obtain ⟨q10, eq10, hs⟩ := ob hs
  refine nd_callV (As := [.int (-1 : Int32), .int (-1 : Int32)]) (rest := [.ref (bd 0)]) (st1 := [.int q10, .ref (bd 0)]) hx hb hml hown hts hl hP hK hD hS hA hN (mX9_sumBy eq10) iv_X9_sumBy wd_736 0 rfl rfl rfl rfl ⟨Nat.le_of_ble_eq_true rfl, Nat.le_of_ble_eq_true rfl⟩ (Nat.le_of_ble_eq_true rfl) ⟨Nat.zero_le _, Nat.zero_le _⟩ dX9_digest_48 rfl rfl (fun H locs hP hD hS => ?_)
  refine lv_i2l hx hb dX9_digest_51 rfl ?_
  obtain ⟨q11, eq11, hs⟩ := ob hs
  refine nd_callV (As := [.long q10.toInt64]) (rest := []) (st1 := []) hx hb hml hown hts hl hP hK hD hS hA hN (mX9_hashes eq11) iv_X9_hashes wd_980 0 rfl rfl rfl rfl ⟨Nat.le_of_ble_eq_true rfl, Nat.le_of_ble_eq_true rfl⟩ (Nat.le_of_ble_eq_true rfl) ⟨Nat.zero_le _, Nat.zero_le _⟩ dX9_digest_52 rfl rfl (fun H locs hP hD hS => ?_)
  refine lv_iconst (v := (0 : Int32)) hx hb dX9_digest_55 (by decide) ?_
  refine lv_istore_n (lv' := [(1, .int (0 : Int32)), (0, .ref (bd 0))]) hx hb dX9_digest_56 rfl hl (by decide) rfl (fun ls hl => ?_)
  have L57 : ∀ (n57 : Nat) (k57 : Int64 → Option (Int64 × (Nat → Int32) × Int32 × Int64)) (v1_15 : Int32) (mh_15 : Int64) (H : Heap) (locs : List Loc) (ls : Array Slot), lv_has ls 2 [(0, .ref (bd 0)), (1, .int v1_15)] → va_P D vwCl (MW bd cI ms msv mb mf mr (0 : Int32) mn ml mat mw mm mh_15) H → va_S A s.heap H locs → fX9_digest_57 k57 ms n57 v1_15 mh_15 = some (r, mf', mt', mh') → (∀ (mh_u15 : Int64) (H : Heap) (locs : List Loc) (ls : Array Slot), lv_has ls 2 [(0, .ref (bd 0))] → va_P D vwCl (MW bd cI ms msv mb mf mr (0 : Int32) mn ml mat mw mm mh_u15) H → va_S A s.heap H locs → k57 mh_u15 = some (r, mf', mt', mh') → W p l e ⟨7, 0, 0, 155⟩ s m args below meth c_ H locs 0 0 Q (F0 m 80 ls [])) → W p l e ⟨7, 0, 0, 155⟩ s m args below meth c_ H locs 0 0 Q (F0 m 57 ls []) := by
    intro n57
    induction n57 with
    | zero =>
      intro k57 v1_15 mh_15 H locs ls hl hP hS hs hk57
      rw [fX9_digest_57] at hs
      cases hs
    | succ n57 ih57 =>
      intro k57 v1_15 mh_15 H locs ls hl hP hS hs hk57
      rw [fX9_digest_57] at hs
      have hD : va_D A (MW bd cI ms msv mb mf mr (0 : Int32) mn ml mat mw mm mh_15) := nd_DD hD rfl
      refine lv_iload_n hx hb dX9_digest_57 rfl (lv_at hl 1 rfl) ?_
      refine lv_bipush (v := (10 : Int32)) hx hb dX9_digest_58 (by decide) ?_
      refine lv_icmp_ge (tgt := 80) hx hb dX9_digest_60 (by decide) (fun b16 => ?_) (fun b16 => ?_)
      · have hs := ite_t hs b16
        exact hk57 mh_15 _ _ _ (lv_sub hl [0] rfl) hP hS hs
      · have hs := ite_f hs b16
        refine lv_aload_n hx hb dX9_digest_63 rfl (lv_at hl 0 rfl) ?_
        refine lv_aload_n hx hb dX9_digest_64 rfl (lv_at hl 0 rfl) ?_
        refine lv_iload_n hx hb dX9_digest_65 rfl (lv_at hl 1 rfl) ?_
        refine lv_iconst (v := (-1 : Int32)) hx hb dX9_digest_66 (by decide) ?_
        obtain ⟨q17, eq17, hs⟩ := ob hs
        refine nd_callV (As := [.int v1_15, .int (-1 : Int32)]) (rest := [.ref (bd 0)]) (st1 := [.int q17, .ref (bd 0)]) hx hb hml hown hts hl hP hK hD hS hA hN (mX9_sumBy eq17) iv_X9_sumBy wd_736 0 rfl rfl rfl rfl ⟨Nat.le_of_ble_eq_true rfl, Nat.le_of_ble_eq_true rfl⟩ (Nat.le_of_ble_eq_true rfl) ⟨Nat.zero_le _, Nat.zero_le _⟩ dX9_digest_67 rfl rfl (fun H locs hP hD hS => ?_)
        refine lv_i2l hx hb dX9_digest_70 rfl ?_
        obtain ⟨q18, eq18, hs⟩ := ob hs
        refine nd_callV (As := [.long q17.toInt64]) (rest := []) (st1 := []) hx hb hml hown hts hl hP hK hD hS hA hN (mX9_hashes eq18) iv_X9_hashes wd_980 0 rfl rfl rfl rfl ⟨Nat.le_of_ble_eq_true rfl, Nat.le_of_ble_eq_true rfl⟩ (Nat.le_of_ble_eq_true rfl) ⟨Nat.zero_le _, Nat.zero_le _⟩ dX9_digest_71 rfl rfl (fun H locs hP hD hS => ?_)
        refine lv_iinc (v := v1_15 + (1 : Int32)) (lv' := [(1, .int (v1_15 + (1 : Int32))), (0, .ref (bd 0))]) hx hb dX9_digest_74 hl (k := 1) rfl rfl (by decide) rfl (fun ls hl => ?_)
        refine lv_goto (tgt := 57) hx hb dX9_digest_77 (by decide) ?_
        exact ih57 k57 (v1_15 + (1 : Int32)) q18 _ _ _ (lv_sub hl [1, 0] rfl) hP hS hs hk57
  refine L57 LF _ (0 : Int32) q11 _ _ _ (lv_sub hl [1, 0] rfl) hP hS hs (fun mh_u15 H locs ls hl hP hS hs => ?_)
  have hD : va_D A (MW bd cI ms msv mb mf mr (0 : Int32) mn ml mat mw mm mh_u15) := nd_DD hD rfl
  refine lv_iconst (v := (0 : Int32)) hx hb dX9_digest_80 (by decide) ?_
  refine lv_istore_n (lv' := [(1, .int (0 : Int32)), (0, .ref (bd 0))]) hx hb dX9_digest_81 rfl hl (by decide) rfl (fun ls hl => ?_)
  have L82 : ∀ (n82 : Nat) (k82 : Int64 → Option (Int64 × (Nat → Int32) × Int32 × Int64)) (v1_22 : Int32) (mh_22 : Int64) (H : Heap) (locs : List Loc) (ls : Array Slot), lv_has ls 2 [(0, .ref (bd 0)), (1, .int v1_22)] → va_P D vwCl (MW bd cI ms msv mb mf mr (0 : Int32) mn ml mat mw mm mh_22) H → va_S A s.heap H locs → fX9_digest_82 k82 ms n82 v1_22 mh_22 = some (r, mf', mt', mh') → (∀ (mh_u22 : Int64) (H : Heap) (locs : List Loc) (ls : Array Slot), lv_has ls 2 [(0, .ref (bd 0))] → va_P D vwCl (MW bd cI ms msv mb mf mr (0 : Int32) mn ml mat mw mm mh_u22) H → va_S A s.heap H locs → k82 mh_u22 = some (r, mf', mt', mh') → W p l e ⟨7, 0, 0, 155⟩ s m args below meth c_ H locs 0 0 Q (F0 m 105 ls [])) → W p l e ⟨7, 0, 0, 155⟩ s m args below meth c_ H locs 0 0 Q (F0 m 82 ls []) := by
    intro n82
    induction n82 with
    | zero =>
      intro k82 v1_22 mh_22 H locs ls hl hP hS hs hk82
      rw [fX9_digest_82] at hs
      cases hs
    | succ n82 ih82 =>
      intro k82 v1_22 mh_22 H locs ls hl hP hS hs hk82
      rw [fX9_digest_82] at hs
      have hD : va_D A (MW bd cI ms msv mb mf mr (0 : Int32) mn ml mat mw mm mh_22) := nd_DD hD rfl
      refine lv_iload_n hx hb dX9_digest_82 rfl (lv_at hl 1 rfl) ?_
      refine lv_bipush (v := (24 : Int32)) hx hb dX9_digest_83 (by decide) ?_
      refine lv_icmp_ge (tgt := 105) hx hb dX9_digest_85 (by decide) (fun b23 => ?_) (fun b23 => ?_)
      · have hs := ite_t hs b23
        exact hk82 mh_22 _ _ _ (lv_sub hl [0] rfl) hP hS hs
      · have hs := ite_f hs b23
        refine lv_aload_n hx hb dX9_digest_88 rfl (lv_at hl 0 rfl) ?_
        refine lv_aload_n hx hb dX9_digest_89 rfl (lv_at hl 0 rfl) ?_
        refine lv_iconst (v := (-1 : Int32)) hx hb dX9_digest_90 (by decide) ?_
        refine lv_iload_n hx hb dX9_digest_91 rfl (lv_at hl 1 rfl) ?_
        obtain ⟨q24, eq24, hs⟩ := ob hs
        refine nd_callV (As := [.int (-1 : Int32), .int v1_22]) (rest := [.ref (bd 0)]) (st1 := [.int q24, .ref (bd 0)]) hx hb hml hown hts hl hP hK hD hS hA hN (mX9_sumBy eq24) iv_X9_sumBy wd_736 0 rfl rfl rfl rfl ⟨Nat.le_of_ble_eq_true rfl, Nat.le_of_ble_eq_true rfl⟩ (Nat.le_of_ble_eq_true rfl) ⟨Nat.zero_le _, Nat.zero_le _⟩ dX9_digest_92 rfl rfl (fun H locs hP hD hS => ?_)
        refine lv_i2l hx hb dX9_digest_95 rfl ?_
        obtain ⟨q25, eq25, hs⟩ := ob hs
        refine nd_callV (As := [.long q24.toInt64]) (rest := []) (st1 := []) hx hb hml hown hts hl hP hK hD hS hA hN (mX9_hashes eq25) iv_X9_hashes wd_980 0 rfl rfl rfl rfl ⟨Nat.le_of_ble_eq_true rfl, Nat.le_of_ble_eq_true rfl⟩ (Nat.le_of_ble_eq_true rfl) ⟨Nat.zero_le _, Nat.zero_le _⟩ dX9_digest_96 rfl rfl (fun H locs hP hD hS => ?_)
        refine lv_iinc (v := v1_22 + (1 : Int32)) (lv' := [(1, .int (v1_22 + (1 : Int32))), (0, .ref (bd 0))]) hx hb dX9_digest_99 hl (k := 1) rfl rfl (by decide) rfl (fun ls hl => ?_)
        refine lv_goto (tgt := 82) hx hb dX9_digest_102 (by decide) ?_
        exact ih82 k82 (v1_22 + (1 : Int32)) q25 _ _ _ (lv_sub hl [1, 0] rfl) hP hS hs hk82
  refine L82 LF _ (0 : Int32) mh_u15 _ _ _ (lv_sub hl [1, 0] rfl) hP hS hs (fun mh_u22 H locs ls hl hP hS hs => ?_)
  have hD : va_D A (MW bd cI ms msv mb mf mr (0 : Int32) mn ml mat mw mm mh_u22) := nd_DD hD rfl
  refine lv_iconst (v := (0 : Int32)) hx hb dX9_digest_105 (by decide) ?_
  refine lv_istore_n (lv' := [(1, .int (0 : Int32)), (0, .ref (bd 0))]) hx hb dX9_digest_106 rfl hl (by decide) rfl (fun ls hl => ?_)
  have L107 : ∀ (n107 : Nat) (k107 : (Nat → Int32) → Int64 → Option (Int64 × (Nat → Int32) × Int32 × Int64)) (v1_29 : Int32) (mf_29 : (Nat → Int32)) (mh_29 : Int64) (H : Heap) (locs : List Loc) (ls : Array Slot), lv_has ls 2 [(0, .ref (bd 0)), (1, .int v1_29)] → va_P D vwCl (MW bd cI ms msv mb mf_29 mr (0 : Int32) mn ml mat mw mm mh_29) H → va_S A s.heap H locs → fX9_digest_107 k107 ms n107 v1_29 mf_29 mh_29 = some (r, mf', mt', mh') → (∀ (mf_u29 : (Nat → Int32)) (mh_u29 : Int64) (H : Heap) (locs : List Loc) (ls : Array Slot), lv_has ls 2 [(0, .ref (bd 0))] → va_P D vwCl (MW bd cI ms msv mb mf_u29 mr (0 : Int32) mn ml mat mw mm mh_u29) H → va_S A s.heap H locs → k107 mf_u29 mh_u29 = some (r, mf', mt', mh') → W p l e ⟨7, 0, 0, 155⟩ s m args below meth c_ H locs 0 0 Q (F0 m 128 ls [])) → W p l e ⟨7, 0, 0, 155⟩ s m args below meth c_ H locs 0 0 Q (F0 m 107 ls []) := by
    intro n107
    induction n107 with
    | zero =>
      intro k107 v1_29 mf_29 mh_29 H locs ls hl hP hS hs hk107
      rw [fX9_digest_107] at hs
      cases hs
    | succ n107 ih107 =>
      intro k107 v1_29 mf_29 mh_29 H locs ls hl hP hS hs hk107
      rw [fX9_digest_107] at hs
      have hD : va_D A (MW bd cI ms msv mb mf_29 mr (0 : Int32) mn ml mat mw mm mh_29) := nd_DD hD rfl
      refine lv_iload_n hx hb dX9_digest_107 rfl (lv_at hl 1 rfl) ?_
      refine lv_iconst (v := (3 : Int32)) hx hb dX9_digest_108 (by decide) ?_
      refine lv_icmp_ge (tgt := 128) hx hb dX9_digest_109 (by decide) (fun b30 => ?_) (fun b30 => ?_)
      · have hs := ite_t hs b30
        exact hk107 mf_29 mh_29 _ _ _ (lv_sub hl [0] rfl) hP hS hs
      · have hs := ite_f hs b30
        refine lv_aload_n hx hb dX9_digest_112 rfl (lv_at hl 0 rfl) ?_
        refine lv_aload_n hx hb dX9_digest_113 rfl (lv_at hl 0 rfl) ?_
        refine lv_iload_n hx hb dX9_digest_114 rfl (lv_at hl 1 rfl) ?_
        obtain ⟨q31, eq31, hs⟩ := ob hs
        refine nd_callV (As := [.int v1_29]) (rest := [.ref (bd 0)]) (st1 := [.int q31.1, .ref (bd 0)]) hx hb hml hown hts hl hP hK hD hS hA hN (mX9_tellsLongest eq31) iv_X9_tellsLongest wd_860 0 rfl rfl rfl rfl ⟨Nat.le_of_ble_eq_true rfl, Nat.le_of_ble_eq_true rfl⟩ (Nat.le_of_ble_eq_true rfl) ⟨Nat.zero_le _, Nat.zero_le _⟩ dX9_digest_115 rfl rfl (fun H locs hP hD hS => ?_)
        refine lv_i2l hx hb dX9_digest_118 rfl ?_
        obtain ⟨q32, eq32, hs⟩ := ob hs
        refine nd_callV (As := [.long q31.1.toInt64]) (rest := []) (st1 := []) hx hb hml hown hts hl hP hK hD hS hA hN (mX9_hashes eq32) iv_X9_hashes wd_980 0 rfl rfl rfl rfl ⟨Nat.le_of_ble_eq_true rfl, Nat.le_of_ble_eq_true rfl⟩ (Nat.le_of_ble_eq_true rfl) ⟨Nat.zero_le _, Nat.zero_le _⟩ dX9_digest_119 rfl rfl (fun H locs hP hD hS => ?_)
        refine lv_iinc (v := v1_29 + (1 : Int32)) (lv' := [(1, .int (v1_29 + (1 : Int32))), (0, .ref (bd 0))]) hx hb dX9_digest_122 hl (k := 1) rfl rfl (by decide) rfl (fun ls hl => ?_)
        refine lv_goto (tgt := 107) hx hb dX9_digest_125 (by decide) ?_
        exact ih107 k107 (v1_29 + (1 : Int32)) q31.2 q32 _ _ _ (lv_sub hl [1, 0] rfl) hP hS hs hk107
  refine L107 LF _ (0 : Int32) mf mh_u22 _ _ _ (lv_sub hl [1, 0] rfl) hP hS hs (fun mf_u29 mh_u29 H locs ls hl hP hS hs => ?_)
  have hD : va_D A (MW bd cI ms msv mb mf_u29 mr (0 : Int32) mn ml mat mw mm mh_u29) := nd_DD hD rfl
  refine lv_aload_n hx hb dX9_digest_128 rfl (lv_at hl 0 rfl) ?_
  refine lv_aload_n hx hb dX9_digest_129 rfl (lv_at hl 0 rfl) ?_
  refine lv_iconst (v := (-1 : Int32)) hx hb dX9_digest_130 (by decide) ?_
  refine lv_iconst (v := (0 : Int32)) hx hb dX9_digest_131 (by decide) ?_
  obtain ⟨q33, eq33, hs⟩ := ob hs
  refine nd_callV (As := [.int (-1 : Int32), .int (0 : Int32)]) (rest := [.ref (bd 0)]) (st1 := [.int q33, .ref (bd 0)]) hx hb hml hown hts hl hP hK hD hS hA hN (mX9_wrongOf eq33) iv_X9_wrongOf wd_883 0 rfl rfl rfl rfl ⟨Nat.le_of_ble_eq_true rfl, Nat.le_of_ble_eq_true rfl⟩ (Nat.le_of_ble_eq_true rfl) ⟨Nat.zero_le _, Nat.zero_le _⟩ dX9_digest_132 rfl rfl (fun H locs hP hD hS => ?_)
  refine lv_i2l hx hb dX9_digest_135 rfl ?_
  obtain ⟨q34, eq34, hs⟩ := ob hs
  refine nd_callV (As := [.long q33.toInt64]) (rest := []) (st1 := []) hx hb hml hown hts hl hP hK hD hS hA hN (mX9_hashes eq34) iv_X9_hashes wd_980 0 rfl rfl rfl rfl ⟨Nat.le_of_ble_eq_true rfl, Nat.le_of_ble_eq_true rfl⟩ (Nat.le_of_ble_eq_true rfl) ⟨Nat.zero_le _, Nat.zero_le _⟩ dX9_digest_136 rfl rfl (fun H locs hP hD hS => ?_)
  refine lv_aload_n hx hb dX9_digest_139 rfl (lv_at hl 0 rfl) ?_
  refine lv_aload_n hx hb dX9_digest_140 rfl (lv_at hl 0 rfl) ?_
  obtain ⟨q35, eq35, hs⟩ := ob hs
  refine nd_callV (As := []) (rest := [.ref (bd 0)]) (st1 := [.int q35, .ref (bd 0)]) hx hb hml hown hts hl hP hK hD hS hA hN (mX9_suspected eq35) iv_X9_suspected wd_905 0 rfl rfl rfl rfl ⟨Nat.le_of_ble_eq_true rfl, Nat.le_of_ble_eq_true rfl⟩ (Nat.le_of_ble_eq_true rfl) ⟨Nat.zero_le _, Nat.zero_le _⟩ dX9_digest_141 rfl rfl (fun H locs hP hD hS => ?_)
  refine lv_i2l hx hb dX9_digest_144 rfl ?_
  obtain ⟨q36, eq36, hs⟩ := ob hs
  refine nd_callV (As := [.long q35.toInt64]) (rest := []) (st1 := []) hx hb hml hown hts hl hP hK hD hS hA hN (mX9_hashes eq36) iv_X9_hashes wd_980 0 rfl rfl rfl rfl ⟨Nat.le_of_ble_eq_true rfl, Nat.le_of_ble_eq_true rfl⟩ (Nat.le_of_ble_eq_true rfl) ⟨Nat.zero_le _, Nat.zero_le _⟩ dX9_digest_145 rfl rfl (fun H locs hP hD hS => ?_)
  refine lv_aload_n hx hb dX9_digest_148 rfl (lv_at hl 0 rfl) ?_
  refine lv_aload_n hx hb dX9_digest_149 rfl (lv_at hl 0 rfl) ?_
  obtain ⟨q37, eq37, hs⟩ := ob hs
  refine nd_callV (As := []) (rest := [.ref (bd 0)]) (st1 := [.double q37, .ref (bd 0)]) hx hb hml hown hts hl hP hK hD hS hA hN (mX9_share eq37) iv_X9_share wd_922 0 rfl rfl rfl rfl ⟨Nat.le_of_ble_eq_true rfl, Nat.le_of_ble_eq_true rfl⟩ (Nat.le_of_ble_eq_true rfl) ⟨Nat.zero_le _, Nat.zero_le _⟩ dX9_digest_150 rfl rfl (fun H locs hP hD hS => ?_)
  obtain ⟨q38, eq38, hs⟩ := ob hs
  refine nd_callS (As := [.double q37]) (rest := [.ref (bd 0)]) (st1 := [.long q38, .ref (bd 0)]) hx hb hml hown hts hl hP hK hD hS hA hN (mJxe99ae_doubleToLongBits_ccdee eq38) is_Jxe99ae_doubleToLongBits_ccdee wd_993 rfl rfl ⟨Nat.le_of_ble_eq_true rfl, Nat.le_of_ble_eq_true rfl⟩ (Nat.le_of_ble_eq_true rfl) ⟨Nat.zero_le _, Nat.zero_le _⟩ dX9_digest_153 rfl rfl (fun H locs hP hD hS => ?_)
  obtain ⟨q39, eq39, hs⟩ := ob hs
  refine nd_callV (As := [.long q38]) (rest := []) (st1 := []) hx hb hml hown hts hl hP hK hD hS hA hN (mX9_hashes eq39) iv_X9_hashes wd_980 0 rfl rfl rfl rfl ⟨Nat.le_of_ble_eq_true rfl, Nat.le_of_ble_eq_true rfl⟩ (Nat.le_of_ble_eq_true rfl) ⟨Nat.zero_le _, Nat.zero_le _⟩ dX9_digest_156 rfl rfl (fun H locs hP hD hS => ?_)
  refine lv_aload_n hx hb dX9_digest_159 rfl (lv_at hl 0 rfl) ?_
  refine lv_aload_n hx hb dX9_digest_160 rfl (lv_at hl 0 rfl) ?_
  refine gf_X9_96 hx hb hts hown hK hP 0 rfl rfl dX9_digest_161 ?_
  refine lv_i2l hx hb dX9_digest_164 rfl ?_
  obtain ⟨q40, eq40, hs⟩ := ob hs
  refine nd_callV (As := [.long ml.toInt64]) (rest := []) (st1 := []) hx hb hml hown hts hl hP hK hD hS hA hN (mX9_hashes eq40) iv_X9_hashes wd_980 0 rfl rfl rfl rfl ⟨Nat.le_of_ble_eq_true rfl, Nat.le_of_ble_eq_true rfl⟩ (Nat.le_of_ble_eq_true rfl) ⟨Nat.zero_le _, Nat.zero_le _⟩ dX9_digest_165 rfl rfl (fun H locs hP hD hS => ?_)
  refine lv_iconst (v := (0 : Int32)) hx hb dX9_digest_168 (by decide) ?_
  refine lv_istore_n (lv' := [(1, .int (0 : Int32)), (0, .ref (bd 0))]) hx hb dX9_digest_169 rfl hl (by decide) rfl (fun ls hl => ?_)
  have L170 : ∀ (n170 : Nat) (k170 : Int64 → Option (Int64 × (Nat → Int32) × Int32 × Int64)) (v1_44 : Int32) (mh_44 : Int64) (H : Heap) (locs : List Loc) (ls : Array Slot), lv_has ls 2 [(0, .ref (bd 0)), (1, .int v1_44)] → va_P D vwCl (MW bd cI ms msv mb mf_u29 mr (0 : Int32) mn ml mat mw mm mh_44) H → va_S A s.heap H locs → fX9_digest_170 k170 mb ml n170 v1_44 mh_44 = some (r, mf', mt', mh') → (∀ (mh_u44 : Int64) (H : Heap) (locs : List Loc) (ls : Array Slot), lv_has ls 2 [(0, .ref (bd 0))] → va_P D vwCl (MW bd cI ms msv mb mf_u29 mr (0 : Int32) mn ml mat mw mm mh_u44) H → va_S A s.heap H locs → k170 mh_u44 = some (r, mf', mt', mh') → W p l e ⟨7, 0, 0, 155⟩ s m args below meth c_ H locs 0 0 Q (F0 m 195 ls [])) → W p l e ⟨7, 0, 0, 155⟩ s m args below meth c_ H locs 0 0 Q (F0 m 170 ls []) := by
    intro n170
    induction n170 with
    | zero =>
      intro k170 v1_44 mh_44 H locs ls hl hP hS hs hk170
      rw [fX9_digest_170] at hs
      cases hs
    | succ n170 ih170 =>
      intro k170 v1_44 mh_44 H locs ls hl hP hS hs hk170
      rw [fX9_digest_170] at hs
      have hD : va_D A (MW bd cI ms msv mb mf_u29 mr (0 : Int32) mn ml mat mw mm mh_44) := nd_DD hD rfl
      refine lv_iload_n hx hb dX9_digest_170 rfl (lv_at hl 1 rfl) ?_
      refine lv_aload_n hx hb dX9_digest_171 rfl (lv_at hl 0 rfl) ?_
      refine gf_X9_96 hx hb hts hown hK hP 0 rfl rfl dX9_digest_172 ?_
      refine lv_icmp_ge (tgt := 195) hx hb dX9_digest_175 (by decide) (fun b45 => ?_) (fun b45 => ?_)
      · have hs := ite_t hs b45
        exact hk170 mh_44 _ _ _ (lv_sub hl [0] rfl) hP hS hs
      · have hs := ite_f hs b45
        refine lv_aload_n hx hb dX9_digest_178 rfl (lv_at hl 0 rfl) ?_
        refine lv_aload_n hx hb dX9_digest_179 rfl (lv_at hl 0 rfl) ?_
        refine gf_X9_16 hx hb hts hown hK hP 0 rfl rfl dX9_digest_180 ?_
        refine lv_iload_n hx hb dX9_digest_183 rfl (lv_at hl 1 rfl) ?_
        obtain ⟨t46, et46, hs⟩ := ob hs
        refine nd_iald hx hb hK hP 3 0 rfl rfl et46 dX9_digest_184 ?_
        refine lv_i2l hx hb dX9_digest_185 rfl ?_
        obtain ⟨q47, eq47, hs⟩ := ob hs
        refine nd_callV (As := [.long t46.toInt64]) (rest := []) (st1 := []) hx hb hml hown hts hl hP hK hD hS hA hN (mX9_hashes eq47) iv_X9_hashes wd_980 0 rfl rfl rfl rfl ⟨Nat.le_of_ble_eq_true rfl, Nat.le_of_ble_eq_true rfl⟩ (Nat.le_of_ble_eq_true rfl) ⟨Nat.zero_le _, Nat.zero_le _⟩ dX9_digest_186 rfl rfl (fun H locs hP hD hS => ?_)
        refine lv_iinc (v := v1_44 + (1 : Int32)) (lv' := [(1, .int (v1_44 + (1 : Int32))), (0, .ref (bd 0))]) hx hb dX9_digest_189 hl (k := 1) rfl rfl (by decide) rfl (fun ls hl => ?_)
        refine lv_goto (tgt := 170) hx hb dX9_digest_192 (by decide) ?_
        exact ih170 k170 (v1_44 + (1 : Int32)) q47 _ _ _ (lv_sub hl [1, 0] rfl) hP hS hs hk170
  refine L170 LF _ (0 : Int32) q40 _ _ _ (lv_sub hl [1, 0] rfl) hP hS hs (fun mh_u44 H locs ls hl hP hS hs => ?_)
  have hD : va_D A (MW bd cI ms msv mb mf_u29 mr (0 : Int32) mn ml mat mw mm mh_u44) := nd_DD hD rfl
  refine lv_aload_n hx hb dX9_digest_195 rfl (lv_at hl 0 rfl) ?_
  refine gf_X9_223 hx hb hts hown hK hP 0 rfl rfl dX9_digest_196 ?_
  exact hret _ _ _ _ hs hP hS dX9_digest_199
