def tX3_lowersOf_0 : List (Nat × Instr × Nat) := [(0, .iconst 0, 1), (1, .istore_n 2, 1), (2, .iconst 0, 1), (3, .istore_n 3, 1), (4, .iload_n 3, 1), (5, .aload_n 0, 1), (6, .invokevirtual 26, 3), (9, .if_icmp .ge 24, 3), (12, .aload_n 0, 1), (13, .iload_n 1, 1), (14, .iload_n 3, 1), (15, .invokestatic 30, 3), (18, .ifCond .ne 9, 3), (21, .iload_n 2, 1), (22, .iconst 1, 1), (23, .iload_n 3, 1), (24, .ishl, 1), (25, .ior, 1), (26, .istore_n 2, 1), (27, .iinc 3 1, 3), (30, .goto (-26), 3), (33, .iload_n 2, 1), (34, .ireturn, 1)]
theorem tX3_lowersOf_0_ok : tX3_lowersOf_0.all (fun q => decide (decode cX3_lowersOf q.1 = .ok q.2)) = true := by decide +kernel
theorem dX3_lowersOf_0 : decode cX3_lowersOf 0 = .ok (.iconst 0, 1) := td tX3_lowersOf_0_ok 0 (q := (0, .iconst 0, 1)) rfl
theorem dX3_lowersOf_1 : decode cX3_lowersOf 1 = .ok (.istore_n 2, 1) := td tX3_lowersOf_0_ok 1 (q := (1, .istore_n 2, 1)) rfl
theorem dX3_lowersOf_2 : decode cX3_lowersOf 2 = .ok (.iconst 0, 1) := td tX3_lowersOf_0_ok 2 (q := (2, .iconst 0, 1)) rfl
theorem dX3_lowersOf_3 : decode cX3_lowersOf 3 = .ok (.istore_n 3, 1) := td tX3_lowersOf_0_ok 3 (q := (3, .istore_n 3, 1)) rfl
theorem dX3_lowersOf_4 : decode cX3_lowersOf 4 = .ok (.iload_n 3, 1) := td tX3_lowersOf_0_ok 4 (q := (4, .iload_n 3, 1)) rfl
theorem dX3_lowersOf_5 : decode cX3_lowersOf 5 = .ok (.aload_n 0, 1) := td tX3_lowersOf_0_ok 5 (q := (5, .aload_n 0, 1)) rfl
theorem dX3_lowersOf_6 : decode cX3_lowersOf 6 = .ok (.invokevirtual 26, 3) := td tX3_lowersOf_0_ok 6 (q := (6, .invokevirtual 26, 3)) rfl
theorem dX3_lowersOf_9 : decode cX3_lowersOf 9 = .ok (.if_icmp .ge 24, 3) := td tX3_lowersOf_0_ok 7 (q := (9, .if_icmp .ge 24, 3)) rfl
theorem dX3_lowersOf_12 : decode cX3_lowersOf 12 = .ok (.aload_n 0, 1) := td tX3_lowersOf_0_ok 8 (q := (12, .aload_n 0, 1)) rfl
theorem dX3_lowersOf_13 : decode cX3_lowersOf 13 = .ok (.iload_n 1, 1) := td tX3_lowersOf_0_ok 9 (q := (13, .iload_n 1, 1)) rfl
theorem dX3_lowersOf_14 : decode cX3_lowersOf 14 = .ok (.iload_n 3, 1) := td tX3_lowersOf_0_ok 10 (q := (14, .iload_n 3, 1)) rfl
theorem dX3_lowersOf_15 : decode cX3_lowersOf 15 = .ok (.invokestatic 30, 3) := td tX3_lowersOf_0_ok 11 (q := (15, .invokestatic 30, 3)) rfl
theorem dX3_lowersOf_18 : decode cX3_lowersOf 18 = .ok (.ifCond .ne 9, 3) := td tX3_lowersOf_0_ok 12 (q := (18, .ifCond .ne 9, 3)) rfl
theorem dX3_lowersOf_21 : decode cX3_lowersOf 21 = .ok (.iload_n 2, 1) := td tX3_lowersOf_0_ok 13 (q := (21, .iload_n 2, 1)) rfl
theorem dX3_lowersOf_22 : decode cX3_lowersOf 22 = .ok (.iconst 1, 1) := td tX3_lowersOf_0_ok 14 (q := (22, .iconst 1, 1)) rfl
theorem dX3_lowersOf_23 : decode cX3_lowersOf 23 = .ok (.iload_n 3, 1) := td tX3_lowersOf_0_ok 15 (q := (23, .iload_n 3, 1)) rfl
theorem dX3_lowersOf_24 : decode cX3_lowersOf 24 = .ok (.ishl, 1) := td tX3_lowersOf_0_ok 16 (q := (24, .ishl, 1)) rfl
theorem dX3_lowersOf_25 : decode cX3_lowersOf 25 = .ok (.ior, 1) := td tX3_lowersOf_0_ok 17 (q := (25, .ior, 1)) rfl
theorem dX3_lowersOf_26 : decode cX3_lowersOf 26 = .ok (.istore_n 2, 1) := td tX3_lowersOf_0_ok 18 (q := (26, .istore_n 2, 1)) rfl
theorem dX3_lowersOf_27 : decode cX3_lowersOf 27 = .ok (.iinc 3 1, 3) := td tX3_lowersOf_0_ok 19 (q := (27, .iinc 3 1, 3)) rfl
theorem dX3_lowersOf_30 : decode cX3_lowersOf 30 = .ok (.goto (-26), 3) := td tX3_lowersOf_0_ok 20 (q := (30, .goto (-26), 3)) rfl
theorem dX3_lowersOf_33 : decode cX3_lowersOf 33 = .ok (.iload_n 2, 1) := td tX3_lowersOf_0_ok 21 (q := (33, .iload_n 2, 1)) rfl
theorem dX3_lowersOf_34 : decode cX3_lowersOf 34 = .ok (.ireturn, 1) := td tX3_lowersOf_0_ok 22 (q := (34, .ireturn, 1)) rfl
def fX3_lowersOf_4 (k4 : Int32 → Option (Int32)) (kc : (Nat → Int32)) (x1 : Int32) : Nat → Int32 → Int32 → Option (Int32)
  | 0, _, _ => none
  | n4 + 1, x2, x3 => (Option.bind (fX0_pieces kc) (fun q1 => (if q1 ≤ x3 then (k4 x2) else (Option.bind (fX3_obstacle kc x1 x3) (fun q3 => (if q3 = 0 then (fX3_lowersOf_4 k4 kc x1 n4 (x2 ||| ((1 : Int32) <<< (x3 &&& 31))) (x3 + (1 : Int32))) else (fX3_lowersOf_4 k4 kc x1 n4 x2 (x3 + (1 : Int32)))))))))
def fX3_lowersOf (kc : (Nat → Int32)) (x1 : Int32) : Option (Int32) :=
  (fX3_lowersOf_4 (fun (u2_5 : Int32) => (some u2_5)) kc x1 LF (0 : Int32) (0 : Int32))
set_option maxHeartbeats 4000000 in
set_option maxRecDepth 100000 in
theorem mX3_lowersOf {l : Launch} {D : va_G} {ad : Nat → Nat} {cI : ClassId} {kc : (Nat → Int32)} {ksv : (Nat → Int32)} {kbc : (Nat → Int32)} {kit : (Nat → Int32)} {kln : (Nat → Int32)} {ken : (Nat → Int32)} {kla : (Nat → Int32)} {kfi : (Nat → Int32)} {kea : (Nat → Int32)} {kns : Int32} {kbl : Int32} {kr0 : Int32} {kr1 : Int32} {kr2 : Int32} {kr3 : Int32} {kr4 : Int32} {kr5 : Int32} {klr : Int32} {kp0 : Int32} {kp1 : Int32} {kp2 : Int32} {kp3 : Int32} {x1 : Int32} {r : Int32} (hs : fX3_lowersOf kc x1 = some r) : nd_C l yX3_lowersOf cX3_lowersOf 4 (some .int) 3 67 D [(cI, .int)] [.ref (ad 1), .int x1] (CW ad cI kc ksv kbc kit kln ken kla kfi kea kns kbl kr0 kr1 kr2 kr3 kr4 kr5 klr kp0 kp1 kp2 kp3) (CW ad cI kc ksv kbc kit kln ken kla kfi kea kns kbl kr0 kr1 kr2 kr3 kr4 kr5 klr kp0 kp1 kp2 kp3) (some (.int r)) := by
  refine nd_ofCi (by decide) (Nat.le_of_ble_eq_true rfl) (fun p e s m args below meth c_ ls A Q hx hb hml hown hts hl hP hK hD hS hA hN hret => ?_)
  have hown : s.vm.findClass RX3 = some m.cls := hown
  have hl : lv_has ls 4 [(0, .ref (ad 1)), (1, .int x1)] := hl
  have hret : ∀ (z0 : Int32) {H : Heap} {locs : List Loc} {pc : Nat} {ls : Array Slot}, some z0 = some r → va_P D vwCl (CW ad cI kc ksv kbc kit kln ken kla kfi kea kns kbl kr0 kr1 kr2 kr3 kr4 kr5 klr kp0 kp1 kp2 kp3) H → va_S A s.heap H locs → decode cX3_lowersOf pc = .ok (.ireturn, 1) → W p l e ⟨3, 0, 0, 67⟩ s m args below meth c_ H locs 0 0 Q (F0 m pc ls [.int z0]) := by
    intro z0 H locs pc ls h hP hS hd
    cases h
    exact hret hP hS hd
  rw [fX3_lowersOf] at hs
  refine lv_iconst (v := (0 : Int32)) hx hb dX3_lowersOf_0 (by decide) ?_
  refine lv_istore_n (lv' := [(2, .int (0 : Int32)), (0, .ref (ad 1)), (1, .int x1)]) hx hb dX3_lowersOf_1 rfl hl (by decide) rfl (fun ls hl => ?_)
  refine lv_iconst (v := (0 : Int32)) hx hb dX3_lowersOf_2 (by decide) ?_
  refine lv_istore_n (lv' := [(3, .int (0 : Int32)), (2, .int (0 : Int32)), (0, .ref (ad 1)), (1, .int x1)]) hx hb dX3_lowersOf_3 rfl hl (by decide) rfl (fun ls hl => ?_)
  have L4 : ∀ (n4 : Nat) (k4 : Int32 → Option (Int32)) (v2_5 : Int32) (v3_5 : Int32) (H : Heap) (locs : List Loc) (ls : Array Slot), lv_has ls 4 [(0, .ref (ad 1)), (1, .int x1), (2, .int v2_5), (3, .int v3_5)] → va_P D vwCl (CW ad cI kc ksv kbc kit kln ken kla kfi kea kns kbl kr0 kr1 kr2 kr3 kr4 kr5 klr kp0 kp1 kp2 kp3) H → va_S A s.heap H locs → fX3_lowersOf_4 k4 kc x1 n4 v2_5 v3_5 = some r → (∀ (u2_5 : Int32) (H : Heap) (locs : List Loc) (ls : Array Slot), lv_has ls 4 [(2, .int u2_5)] → va_P D vwCl (CW ad cI kc ksv kbc kit kln ken kla kfi kea kns kbl kr0 kr1 kr2 kr3 kr4 kr5 klr kp0 kp1 kp2 kp3) H → va_S A s.heap H locs → k4 u2_5 = some r → W p l e ⟨3, 0, 0, 67⟩ s m args below meth c_ H locs 0 0 Q (F0 m 33 ls [])) → W p l e ⟨3, 0, 0, 67⟩ s m args below meth c_ H locs 0 0 Q (F0 m 4 ls []) := by
    intro n4
    induction n4 with
    | zero =>
      intro k4 v2_5 v3_5 H locs ls hl hP hS hs hk4
      rw [fX3_lowersOf_4] at hs
      cases hs
    | succ n4 ih4 =>
      intro k4 v2_5 v3_5 H locs ls hl hP hS hs hk4
      rw [fX3_lowersOf_4] at hs
      refine lv_iload_n hx hb dX3_lowersOf_4 rfl (lv_at hl 3 rfl) ?_
      refine lv_aload_n hx hb dX3_lowersOf_5 rfl (lv_at hl 0 rfl) ?_
      obtain ⟨q6, eq6, hs⟩ := ob hs
      refine nd_callV (As := []) (rest := [.int v3_5]) (st1 := [.int q6, .int v3_5]) hx hb hml hown hts hl hP hK hD hS hA hN (mX0_pieces eq6) iv_X0_pieces wd_444 1 rfl rfl rfl rfl ⟨Nat.le_of_ble_eq_true rfl, Nat.le_of_ble_eq_true rfl⟩ (Nat.le_of_ble_eq_true rfl) ⟨Nat.zero_le _, Nat.zero_le _⟩ dX3_lowersOf_6 rfl rfl (fun H locs hP hD hS => ?_)
      refine lv_icmp_ge (tgt := 33) hx hb dX3_lowersOf_9 (by decide) (fun b7 => ?_) (fun b7 => ?_)
      · have hs := ite_t hs b7
        exact hk4 v2_5 _ _ _ (lv_sub hl [2] rfl) hP hS hs
      · have hs := ite_f hs b7
        refine lv_aload_n hx hb dX3_lowersOf_12 rfl (lv_at hl 0 rfl) ?_
        refine lv_iload_n hx hb dX3_lowersOf_13 rfl (lv_at hl 1 rfl) ?_
        refine lv_iload_n hx hb dX3_lowersOf_14 rfl (lv_at hl 3 rfl) ?_
        obtain ⟨q8, eq8, hs⟩ := ob hs
        refine nd_callS (As := [.ref (ad 1), .int x1, .int v3_5]) (rest := []) (st1 := [.int q8]) hx hb hml hown hts hl hP hK hD hS hA hN (mX3_obstacle eq8) is_X3_obstacle wd_448 rfl rfl ⟨Nat.le_of_ble_eq_true rfl, Nat.le_of_ble_eq_true rfl⟩ (Nat.le_of_ble_eq_true rfl) ⟨Nat.zero_le _, Nat.zero_le _⟩ dX3_lowersOf_15 rfl rfl (fun H locs hP hD hS => ?_)
        refine lv_if_ne (tgt := 27) hx hb dX3_lowersOf_18 (by decide) (fun b9 => ?_) (fun b9 => ?_)
        · have hs := ite_f hs b9
          refine lv_iinc (v := v3_5 + (1 : Int32)) (lv' := [(3, .int (v3_5 + (1 : Int32))), (0, .ref (ad 1)), (1, .int x1), (2, .int v2_5)]) hx hb dX3_lowersOf_27 hl (k := 3) rfl rfl (by decide) rfl (fun ls hl => ?_)
          refine lv_goto (tgt := 4) hx hb dX3_lowersOf_30 (by decide) ?_
          exact ih4 k4 v2_5 (v3_5 + (1 : Int32)) _ _ _ (lv_sub hl [1, 2, 3, 0] rfl) hP hS hs hk4
        · have hs := ite_t hs b9
          refine lv_iload_n hx hb dX3_lowersOf_21 rfl (lv_at hl 2 rfl) ?_
          refine lv_iconst (v := (1 : Int32)) hx hb dX3_lowersOf_22 (by decide) ?_
          refine lv_iload_n hx hb dX3_lowersOf_23 rfl (lv_at hl 3 rfl) ?_
          refine lv_ishl hx hb dX3_lowersOf_24 ?_
          refine lv_ior hx hb dX3_lowersOf_25 ?_
          refine lv_istore_n (lv' := [(2, .int (v2_5 ||| ((1 : Int32) <<< (v3_5 &&& 31)))), (0, .ref (ad 1)), (1, .int x1), (3, .int v3_5)]) hx hb dX3_lowersOf_26 rfl hl (by decide) rfl (fun ls hl => ?_)
          refine lv_iinc (v := v3_5 + (1 : Int32)) (lv' := [(3, .int (v3_5 + (1 : Int32))), (2, .int (v2_5 ||| ((1 : Int32) <<< (v3_5 &&& 31)))), (0, .ref (ad 1)), (1, .int x1)]) hx hb dX3_lowersOf_27 hl (k := 3) rfl rfl (by decide) rfl (fun ls hl => ?_)
          refine lv_goto (tgt := 4) hx hb dX3_lowersOf_30 (by decide) ?_
          exact ih4 k4 (v2_5 ||| ((1 : Int32) <<< (v3_5 &&& 31))) (v3_5 + (1 : Int32)) _ _ _ (lv_sub hl [2, 3, 1, 0] rfl) hP hS hs hk4
  refine L4 LF _ (0 : Int32) (0 : Int32) _ _ _ (lv_sub hl [2, 3, 1, 0] rfl) hP hS hs (fun u2_5 H locs ls hl hP hS hs => ?_)
  refine lv_iload_n hx hb dX3_lowersOf_33 rfl (lv_at hl 0 rfl) ?_
  exact hret _ hs hP hS dX3_lowersOf_34
def tJ6_bitCount_0f7a4_0 : List (Nat × Instr × Nat) := [(0, .iload_n 0, 1), (1, .iload_n 0, 1), (2, .iconst 1, 1), (3, .iushr, 1), (4, .ldc_w 265, 3), (7, .iand, 1), (8, .isub, 1), (9, .istore_n 0, 1), (10, .iload_n 0, 1), (11, .ldc_w 266, 3), (14, .iand, 1), (15, .iload_n 0, 1), (16, .iconst 2, 1), (17, .iushr, 1), (18, .ldc_w 266, 3), (21, .iand, 1), (22, .iadd, 1), (23, .istore_n 0, 1), (24, .iload_n 0, 1), (25, .iload_n 0, 1), (26, .iconst 4, 1), (27, .iushr, 1), (28, .iadd, 1), (29, .ldc_w 267, 3), (32, .iand, 1), (33, .istore_n 0, 1), (34, .iload_n 0, 1), (35, .iload_n 0, 1), (36, .bipush 8, 2), (38, .iushr, 1), (39, .iadd, 1), (40, .istore_n 0, 1), (41, .iload_n 0, 1), (42, .iload_n 0, 1), (43, .bipush 16, 2), (45, .iushr, 1), (46, .iadd, 1), (47, .istore_n 0, 1), (48, .iload_n 0, 1), (49, .bipush 63, 2), (51, .iand, 1), (52, .ireturn, 1)]
theorem tJ6_bitCount_0f7a4_0_ok : tJ6_bitCount_0f7a4_0.all (fun q => decide (decode cJ6_bitCount_0f7a4 q.1 = .ok q.2)) = true := by decide +kernel
theorem dJ6_bitCount_0f7a4_0 : decode cJ6_bitCount_0f7a4 0 = .ok (.iload_n 0, 1) := td tJ6_bitCount_0f7a4_0_ok 0 (q := (0, .iload_n 0, 1)) rfl
theorem dJ6_bitCount_0f7a4_1 : decode cJ6_bitCount_0f7a4 1 = .ok (.iload_n 0, 1) := td tJ6_bitCount_0f7a4_0_ok 1 (q := (1, .iload_n 0, 1)) rfl
theorem dJ6_bitCount_0f7a4_2 : decode cJ6_bitCount_0f7a4 2 = .ok (.iconst 1, 1) := td tJ6_bitCount_0f7a4_0_ok 2 (q := (2, .iconst 1, 1)) rfl
theorem dJ6_bitCount_0f7a4_3 : decode cJ6_bitCount_0f7a4 3 = .ok (.iushr, 1) := td tJ6_bitCount_0f7a4_0_ok 3 (q := (3, .iushr, 1)) rfl
theorem dJ6_bitCount_0f7a4_4 : decode cJ6_bitCount_0f7a4 4 = .ok (.ldc_w 265, 3) := td tJ6_bitCount_0f7a4_0_ok 4 (q := (4, .ldc_w 265, 3)) rfl
theorem dJ6_bitCount_0f7a4_7 : decode cJ6_bitCount_0f7a4 7 = .ok (.iand, 1) := td tJ6_bitCount_0f7a4_0_ok 5 (q := (7, .iand, 1)) rfl
theorem dJ6_bitCount_0f7a4_8 : decode cJ6_bitCount_0f7a4 8 = .ok (.isub, 1) := td tJ6_bitCount_0f7a4_0_ok 6 (q := (8, .isub, 1)) rfl
theorem dJ6_bitCount_0f7a4_9 : decode cJ6_bitCount_0f7a4 9 = .ok (.istore_n 0, 1) := td tJ6_bitCount_0f7a4_0_ok 7 (q := (9, .istore_n 0, 1)) rfl
theorem dJ6_bitCount_0f7a4_10 : decode cJ6_bitCount_0f7a4 10 = .ok (.iload_n 0, 1) := td tJ6_bitCount_0f7a4_0_ok 8 (q := (10, .iload_n 0, 1)) rfl
theorem dJ6_bitCount_0f7a4_11 : decode cJ6_bitCount_0f7a4 11 = .ok (.ldc_w 266, 3) := td tJ6_bitCount_0f7a4_0_ok 9 (q := (11, .ldc_w 266, 3)) rfl
theorem dJ6_bitCount_0f7a4_14 : decode cJ6_bitCount_0f7a4 14 = .ok (.iand, 1) := td tJ6_bitCount_0f7a4_0_ok 10 (q := (14, .iand, 1)) rfl
theorem dJ6_bitCount_0f7a4_15 : decode cJ6_bitCount_0f7a4 15 = .ok (.iload_n 0, 1) := td tJ6_bitCount_0f7a4_0_ok 11 (q := (15, .iload_n 0, 1)) rfl
theorem dJ6_bitCount_0f7a4_16 : decode cJ6_bitCount_0f7a4 16 = .ok (.iconst 2, 1) := td tJ6_bitCount_0f7a4_0_ok 12 (q := (16, .iconst 2, 1)) rfl
theorem dJ6_bitCount_0f7a4_17 : decode cJ6_bitCount_0f7a4 17 = .ok (.iushr, 1) := td tJ6_bitCount_0f7a4_0_ok 13 (q := (17, .iushr, 1)) rfl
theorem dJ6_bitCount_0f7a4_18 : decode cJ6_bitCount_0f7a4 18 = .ok (.ldc_w 266, 3) := td tJ6_bitCount_0f7a4_0_ok 14 (q := (18, .ldc_w 266, 3)) rfl
theorem dJ6_bitCount_0f7a4_21 : decode cJ6_bitCount_0f7a4 21 = .ok (.iand, 1) := td tJ6_bitCount_0f7a4_0_ok 15 (q := (21, .iand, 1)) rfl
theorem dJ6_bitCount_0f7a4_22 : decode cJ6_bitCount_0f7a4 22 = .ok (.iadd, 1) := td tJ6_bitCount_0f7a4_0_ok 16 (q := (22, .iadd, 1)) rfl
theorem dJ6_bitCount_0f7a4_23 : decode cJ6_bitCount_0f7a4 23 = .ok (.istore_n 0, 1) := td tJ6_bitCount_0f7a4_0_ok 17 (q := (23, .istore_n 0, 1)) rfl
theorem dJ6_bitCount_0f7a4_24 : decode cJ6_bitCount_0f7a4 24 = .ok (.iload_n 0, 1) := td tJ6_bitCount_0f7a4_0_ok 18 (q := (24, .iload_n 0, 1)) rfl
theorem dJ6_bitCount_0f7a4_25 : decode cJ6_bitCount_0f7a4 25 = .ok (.iload_n 0, 1) := td tJ6_bitCount_0f7a4_0_ok 19 (q := (25, .iload_n 0, 1)) rfl
theorem dJ6_bitCount_0f7a4_26 : decode cJ6_bitCount_0f7a4 26 = .ok (.iconst 4, 1) := td tJ6_bitCount_0f7a4_0_ok 20 (q := (26, .iconst 4, 1)) rfl
theorem dJ6_bitCount_0f7a4_27 : decode cJ6_bitCount_0f7a4 27 = .ok (.iushr, 1) := td tJ6_bitCount_0f7a4_0_ok 21 (q := (27, .iushr, 1)) rfl
theorem dJ6_bitCount_0f7a4_28 : decode cJ6_bitCount_0f7a4 28 = .ok (.iadd, 1) := td tJ6_bitCount_0f7a4_0_ok 22 (q := (28, .iadd, 1)) rfl
theorem dJ6_bitCount_0f7a4_29 : decode cJ6_bitCount_0f7a4 29 = .ok (.ldc_w 267, 3) := td tJ6_bitCount_0f7a4_0_ok 23 (q := (29, .ldc_w 267, 3)) rfl
theorem dJ6_bitCount_0f7a4_32 : decode cJ6_bitCount_0f7a4 32 = .ok (.iand, 1) := td tJ6_bitCount_0f7a4_0_ok 24 (q := (32, .iand, 1)) rfl
theorem dJ6_bitCount_0f7a4_33 : decode cJ6_bitCount_0f7a4 33 = .ok (.istore_n 0, 1) := td tJ6_bitCount_0f7a4_0_ok 25 (q := (33, .istore_n 0, 1)) rfl
theorem dJ6_bitCount_0f7a4_34 : decode cJ6_bitCount_0f7a4 34 = .ok (.iload_n 0, 1) := td tJ6_bitCount_0f7a4_0_ok 26 (q := (34, .iload_n 0, 1)) rfl
theorem dJ6_bitCount_0f7a4_35 : decode cJ6_bitCount_0f7a4 35 = .ok (.iload_n 0, 1) := td tJ6_bitCount_0f7a4_0_ok 27 (q := (35, .iload_n 0, 1)) rfl
theorem dJ6_bitCount_0f7a4_36 : decode cJ6_bitCount_0f7a4 36 = .ok (.bipush 8, 2) := td tJ6_bitCount_0f7a4_0_ok 28 (q := (36, .bipush 8, 2)) rfl
theorem dJ6_bitCount_0f7a4_38 : decode cJ6_bitCount_0f7a4 38 = .ok (.iushr, 1) := td tJ6_bitCount_0f7a4_0_ok 29 (q := (38, .iushr, 1)) rfl
theorem dJ6_bitCount_0f7a4_39 : decode cJ6_bitCount_0f7a4 39 = .ok (.iadd, 1) := td tJ6_bitCount_0f7a4_0_ok 30 (q := (39, .iadd, 1)) rfl
theorem dJ6_bitCount_0f7a4_40 : decode cJ6_bitCount_0f7a4 40 = .ok (.istore_n 0, 1) := td tJ6_bitCount_0f7a4_0_ok 31 (q := (40, .istore_n 0, 1)) rfl
theorem dJ6_bitCount_0f7a4_41 : decode cJ6_bitCount_0f7a4 41 = .ok (.iload_n 0, 1) := td tJ6_bitCount_0f7a4_0_ok 32 (q := (41, .iload_n 0, 1)) rfl
theorem dJ6_bitCount_0f7a4_42 : decode cJ6_bitCount_0f7a4 42 = .ok (.iload_n 0, 1) := td tJ6_bitCount_0f7a4_0_ok 33 (q := (42, .iload_n 0, 1)) rfl
theorem dJ6_bitCount_0f7a4_43 : decode cJ6_bitCount_0f7a4 43 = .ok (.bipush 16, 2) := td tJ6_bitCount_0f7a4_0_ok 34 (q := (43, .bipush 16, 2)) rfl
theorem dJ6_bitCount_0f7a4_45 : decode cJ6_bitCount_0f7a4 45 = .ok (.iushr, 1) := td tJ6_bitCount_0f7a4_0_ok 35 (q := (45, .iushr, 1)) rfl
theorem dJ6_bitCount_0f7a4_46 : decode cJ6_bitCount_0f7a4 46 = .ok (.iadd, 1) := td tJ6_bitCount_0f7a4_0_ok 36 (q := (46, .iadd, 1)) rfl
theorem dJ6_bitCount_0f7a4_47 : decode cJ6_bitCount_0f7a4 47 = .ok (.istore_n 0, 1) := td tJ6_bitCount_0f7a4_0_ok 37 (q := (47, .istore_n 0, 1)) rfl
theorem dJ6_bitCount_0f7a4_48 : decode cJ6_bitCount_0f7a4 48 = .ok (.iload_n 0, 1) := td tJ6_bitCount_0f7a4_0_ok 38 (q := (48, .iload_n 0, 1)) rfl
theorem dJ6_bitCount_0f7a4_49 : decode cJ6_bitCount_0f7a4 49 = .ok (.bipush 63, 2) := td tJ6_bitCount_0f7a4_0_ok 39 (q := (49, .bipush 63, 2)) rfl
theorem dJ6_bitCount_0f7a4_51 : decode cJ6_bitCount_0f7a4 51 = .ok (.iand, 1) := td tJ6_bitCount_0f7a4_0_ok 40 (q := (51, .iand, 1)) rfl
theorem dJ6_bitCount_0f7a4_52 : decode cJ6_bitCount_0f7a4 52 = .ok (.ireturn, 1) := td tJ6_bitCount_0f7a4_0_ok 41 (q := (52, .ireturn, 1)) rfl
def fJ6_bitCount_0f7a4 (x0 : Int32) : Option (Int32) :=
  (some ((((((((x0 - (((x0.toUInt32 >>> ((1 : Int32).toUInt32 &&& Int32.toUInt32 31)).toInt32) &&& (1431655765 : Int32))) &&& (858993459 : Int32)) + ((((x0 - (((x0.toUInt32 >>> ((1 : Int32).toUInt32 &&& Int32.toUInt32 31)).toInt32) &&& (1431655765 : Int32))).toUInt32 >>> ((2 : Int32).toUInt32 &&& Int32.toUInt32 31)).toInt32) &&& (858993459 : Int32))) + (((((x0 - (((x0.toUInt32 >>> ((1 : Int32).toUInt32 &&& Int32.toUInt32 31)).toInt32) &&& (1431655765 : Int32))) &&& (858993459 : Int32)) + ((((x0 - (((x0.toUInt32 >>> ((1 : Int32).toUInt32 &&& Int32.toUInt32 31)).toInt32) &&& (1431655765 : Int32))).toUInt32 >>> ((2 : Int32).toUInt32 &&& Int32.toUInt32 31)).toInt32) &&& (858993459 : Int32))).toUInt32 >>> ((4 : Int32).toUInt32 &&& Int32.toUInt32 31)).toInt32)) &&& (252645135 : Int32)) + (((((((x0 - (((x0.toUInt32 >>> ((1 : Int32).toUInt32 &&& Int32.toUInt32 31)).toInt32) &&& (1431655765 : Int32))) &&& (858993459 : Int32)) + ((((x0 - (((x0.toUInt32 >>> ((1 : Int32).toUInt32 &&& Int32.toUInt32 31)).toInt32) &&& (1431655765 : Int32))).toUInt32 >>> ((2 : Int32).toUInt32 &&& Int32.toUInt32 31)).toInt32) &&& (858993459 : Int32))) + (((((x0 - (((x0.toUInt32 >>> ((1 : Int32).toUInt32 &&& Int32.toUInt32 31)).toInt32) &&& (1431655765 : Int32))) &&& (858993459 : Int32)) + ((((x0 - (((x0.toUInt32 >>> ((1 : Int32).toUInt32 &&& Int32.toUInt32 31)).toInt32) &&& (1431655765 : Int32))).toUInt32 >>> ((2 : Int32).toUInt32 &&& Int32.toUInt32 31)).toInt32) &&& (858993459 : Int32))).toUInt32 >>> ((4 : Int32).toUInt32 &&& Int32.toUInt32 31)).toInt32)) &&& (252645135 : Int32)).toUInt32 >>> ((8 : Int32).toUInt32 &&& Int32.toUInt32 31)).toInt32)) + ((((((((x0 - (((x0.toUInt32 >>> ((1 : Int32).toUInt32 &&& Int32.toUInt32 31)).toInt32) &&& (1431655765 : Int32))) &&& (858993459 : Int32)) + ((((x0 - (((x0.toUInt32 >>> ((1 : Int32).toUInt32 &&& Int32.toUInt32 31)).toInt32) &&& (1431655765 : Int32))).toUInt32 >>> ((2 : Int32).toUInt32 &&& Int32.toUInt32 31)).toInt32) &&& (858993459 : Int32))) + (((((x0 - (((x0.toUInt32 >>> ((1 : Int32).toUInt32 &&& Int32.toUInt32 31)).toInt32) &&& (1431655765 : Int32))) &&& (858993459 : Int32)) + ((((x0 - (((x0.toUInt32 >>> ((1 : Int32).toUInt32 &&& Int32.toUInt32 31)).toInt32) &&& (1431655765 : Int32))).toUInt32 >>> ((2 : Int32).toUInt32 &&& Int32.toUInt32 31)).toInt32) &&& (858993459 : Int32))).toUInt32 >>> ((4 : Int32).toUInt32 &&& Int32.toUInt32 31)).toInt32)) &&& (252645135 : Int32)) + (((((((x0 - (((x0.toUInt32 >>> ((1 : Int32).toUInt32 &&& Int32.toUInt32 31)).toInt32) &&& (1431655765 : Int32))) &&& (858993459 : Int32)) + ((((x0 - (((x0.toUInt32 >>> ((1 : Int32).toUInt32 &&& Int32.toUInt32 31)).toInt32) &&& (1431655765 : Int32))).toUInt32 >>> ((2 : Int32).toUInt32 &&& Int32.toUInt32 31)).toInt32) &&& (858993459 : Int32))) + (((((x0 - (((x0.toUInt32 >>> ((1 : Int32).toUInt32 &&& Int32.toUInt32 31)).toInt32) &&& (1431655765 : Int32))) &&& (858993459 : Int32)) + ((((x0 - (((x0.toUInt32 >>> ((1 : Int32).toUInt32 &&& Int32.toUInt32 31)).toInt32) &&& (1431655765 : Int32))).toUInt32 >>> ((2 : Int32).toUInt32 &&& Int32.toUInt32 31)).toInt32) &&& (858993459 : Int32))).toUInt32 >>> ((4 : Int32).toUInt32 &&& Int32.toUInt32 31)).toInt32)) &&& (252645135 : Int32)).toUInt32 >>> ((8 : Int32).toUInt32 &&& Int32.toUInt32 31)).toInt32)).toUInt32 >>> ((16 : Int32).toUInt32 &&& Int32.toUInt32 31)).toInt32)) &&& (63 : Int32)))
set_option maxHeartbeats 4000000 in
set_option maxRecDepth 100000 in
theorem mJ6_bitCount_0f7a4 {l : Launch} {D : va_G} {W0 : va_W} {tys : nd_T} {x0 : Int32} {r : Int32} (hs : fJ6_bitCount_0f7a4 x0 = some r) : nd_C l yJ6_bitCount_0f7a4 cJ6_bitCount_0f7a4 1 (some .int) 0 0 D tys [.int x0] W0 W0 (some (.int r)) := by
  refine nd_ofCi (by decide) (Nat.le_of_ble_eq_true rfl) (fun p e s m args below meth c_ ls A Q hx hb hml hown hts hl hP hK hD hS hA hN hret => ?_)
  have hown : s.vm.findClass RJ6 = some m.cls := hown
  have hl : lv_has ls 1 [(0, .int x0)] := hl
  have hret : ∀ (z0 : Int32) {H : Heap} {locs : List Loc} {pc : Nat} {ls : Array Slot}, some z0 = some r → va_P D vwCl W0 H → va_S A s.heap H locs → decode cJ6_bitCount_0f7a4 pc = .ok (.ireturn, 1) → W p l e ⟨0, 0, 0, 0⟩ s m args below meth c_ H locs 0 0 Q (F0 m pc ls [.int z0]) := by
    intro z0 H locs pc ls h hP hS hd
    cases h
    exact hret hP hS hd
  rw [fJ6_bitCount_0f7a4] at hs
  refine lv_iload_n hx hb dJ6_bitCount_0f7a4_0 rfl (lv_at hl 0 rfl) ?_
  refine lv_iload_n hx hb dJ6_bitCount_0f7a4_1 rfl (lv_at hl 0 rfl) ?_
  refine lv_iconst (v := (1 : Int32)) hx hb dJ6_bitCount_0f7a4_2 (by decide) ?_
  refine lv_iushr hx hb dJ6_bitCount_0f7a4_3 rfl ?_
  refine lv_ldcw hx hb hown (hts _ wd_453) dJ6_bitCount_0f7a4_4 ?_
  refine lv_iand hx hb dJ6_bitCount_0f7a4_7 ?_
  refine lv_isub hx hb dJ6_bitCount_0f7a4_8 ?_
  refine lv_istore_n (lv' := [(0, .int (x0 - (((x0.toUInt32 >>> ((1 : Int32).toUInt32 &&& Int32.toUInt32 31)).toInt32) &&& (1431655765 : Int32))))]) hx hb dJ6_bitCount_0f7a4_9 rfl hl (by decide) rfl (fun ls hl => ?_)
  refine lv_iload_n hx hb dJ6_bitCount_0f7a4_10 rfl (lv_at hl 0 rfl) ?_
  refine lv_ldcw hx hb hown (hts _ wd_454) dJ6_bitCount_0f7a4_11 ?_
  refine lv_iand hx hb dJ6_bitCount_0f7a4_14 ?_
  refine lv_iload_n hx hb dJ6_bitCount_0f7a4_15 rfl (lv_at hl 0 rfl) ?_
  refine lv_iconst (v := (2 : Int32)) hx hb dJ6_bitCount_0f7a4_16 (by decide) ?_
  refine lv_iushr hx hb dJ6_bitCount_0f7a4_17 rfl ?_
  refine lv_ldcw hx hb hown (hts _ wd_454) dJ6_bitCount_0f7a4_18 ?_
  refine lv_iand hx hb dJ6_bitCount_0f7a4_21 ?_
  refine lv_iadd hx hb dJ6_bitCount_0f7a4_22 ?_
  refine lv_istore_n (lv' := [(0, .int (((x0 - (((x0.toUInt32 >>> ((1 : Int32).toUInt32 &&& Int32.toUInt32 31)).toInt32) &&& (1431655765 : Int32))) &&& (858993459 : Int32)) + ((((x0 - (((x0.toUInt32 >>> ((1 : Int32).toUInt32 &&& Int32.toUInt32 31)).toInt32) &&& (1431655765 : Int32))).toUInt32 >>> ((2 : Int32).toUInt32 &&& Int32.toUInt32 31)).toInt32) &&& (858993459 : Int32))))]) hx hb dJ6_bitCount_0f7a4_23 rfl hl (by decide) rfl (fun ls hl => ?_)
  refine lv_iload_n hx hb dJ6_bitCount_0f7a4_24 rfl (lv_at hl 0 rfl) ?_
  refine lv_iload_n hx hb dJ6_bitCount_0f7a4_25 rfl (lv_at hl 0 rfl) ?_
  refine lv_iconst (v := (4 : Int32)) hx hb dJ6_bitCount_0f7a4_26 (by decide) ?_
  refine lv_iushr hx hb dJ6_bitCount_0f7a4_27 rfl ?_
  refine lv_iadd hx hb dJ6_bitCount_0f7a4_28 ?_
  refine lv_ldcw hx hb hown (hts _ wd_455) dJ6_bitCount_0f7a4_29 ?_
  refine lv_iand hx hb dJ6_bitCount_0f7a4_32 ?_
  refine lv_istore_n (lv' := [(0, .int (((((x0 - (((x0.toUInt32 >>> ((1 : Int32).toUInt32 &&& Int32.toUInt32 31)).toInt32) &&& (1431655765 : Int32))) &&& (858993459 : Int32)) + ((((x0 - (((x0.toUInt32 >>> ((1 : Int32).toUInt32 &&& Int32.toUInt32 31)).toInt32) &&& (1431655765 : Int32))).toUInt32 >>> ((2 : Int32).toUInt32 &&& Int32.toUInt32 31)).toInt32) &&& (858993459 : Int32))) + (((((x0 - (((x0.toUInt32 >>> ((1 : Int32).toUInt32 &&& Int32.toUInt32 31)).toInt32) &&& (1431655765 : Int32))) &&& (858993459 : Int32)) + ((((x0 - (((x0.toUInt32 >>> ((1 : Int32).toUInt32 &&& Int32.toUInt32 31)).toInt32) &&& (1431655765 : Int32))).toUInt32 >>> ((2 : Int32).toUInt32 &&& Int32.toUInt32 31)).toInt32) &&& (858993459 : Int32))).toUInt32 >>> ((4 : Int32).toUInt32 &&& Int32.toUInt32 31)).toInt32)) &&& (252645135 : Int32)))]) hx hb dJ6_bitCount_0f7a4_33 rfl hl (by decide) rfl (fun ls hl => ?_)
  refine lv_iload_n hx hb dJ6_bitCount_0f7a4_34 rfl (lv_at hl 0 rfl) ?_
  refine lv_iload_n hx hb dJ6_bitCount_0f7a4_35 rfl (lv_at hl 0 rfl) ?_
  refine lv_bipush (v := (8 : Int32)) hx hb dJ6_bitCount_0f7a4_36 (by decide) ?_
  refine lv_iushr hx hb dJ6_bitCount_0f7a4_38 rfl ?_
  refine lv_iadd hx hb dJ6_bitCount_0f7a4_39 ?_
  refine lv_istore_n (lv' := [(0, .int ((((((x0 - (((x0.toUInt32 >>> ((1 : Int32).toUInt32 &&& Int32.toUInt32 31)).toInt32) &&& (1431655765 : Int32))) &&& (858993459 : Int32)) + ((((x0 - (((x0.toUInt32 >>> ((1 : Int32).toUInt32 &&& Int32.toUInt32 31)).toInt32) &&& (1431655765 : Int32))).toUInt32 >>> ((2 : Int32).toUInt32 &&& Int32.toUInt32 31)).toInt32) &&& (858993459 : Int32))) + (((((x0 - (((x0.toUInt32 >>> ((1 : Int32).toUInt32 &&& Int32.toUInt32 31)).toInt32) &&& (1431655765 : Int32))) &&& (858993459 : Int32)) + ((((x0 - (((x0.toUInt32 >>> ((1 : Int32).toUInt32 &&& Int32.toUInt32 31)).toInt32) &&& (1431655765 : Int32))).toUInt32 >>> ((2 : Int32).toUInt32 &&& Int32.toUInt32 31)).toInt32) &&& (858993459 : Int32))).toUInt32 >>> ((4 : Int32).toUInt32 &&& Int32.toUInt32 31)).toInt32)) &&& (252645135 : Int32)) + (((((((x0 - (((x0.toUInt32 >>> ((1 : Int32).toUInt32 &&& Int32.toUInt32 31)).toInt32) &&& (1431655765 : Int32))) &&& (858993459 : Int32)) + ((((x0 - (((x0.toUInt32 >>> ((1 : Int32).toUInt32 &&& Int32.toUInt32 31)).toInt32) &&& (1431655765 : Int32))).toUInt32 >>> ((2 : Int32).toUInt32 &&& Int32.toUInt32 31)).toInt32) &&& (858993459 : Int32))) + (((((x0 - (((x0.toUInt32 >>> ((1 : Int32).toUInt32 &&& Int32.toUInt32 31)).toInt32) &&& (1431655765 : Int32))) &&& (858993459 : Int32)) + ((((x0 - (((x0.toUInt32 >>> ((1 : Int32).toUInt32 &&& Int32.toUInt32 31)).toInt32) &&& (1431655765 : Int32))).toUInt32 >>> ((2 : Int32).toUInt32 &&& Int32.toUInt32 31)).toInt32) &&& (858993459 : Int32))).toUInt32 >>> ((4 : Int32).toUInt32 &&& Int32.toUInt32 31)).toInt32)) &&& (252645135 : Int32)).toUInt32 >>> ((8 : Int32).toUInt32 &&& Int32.toUInt32 31)).toInt32)))]) hx hb dJ6_bitCount_0f7a4_40 rfl hl (by decide) rfl (fun ls hl => ?_)
  refine lv_iload_n hx hb dJ6_bitCount_0f7a4_41 rfl (lv_at hl 0 rfl) ?_
  refine lv_iload_n hx hb dJ6_bitCount_0f7a4_42 rfl (lv_at hl 0 rfl) ?_
  refine lv_bipush (v := (16 : Int32)) hx hb dJ6_bitCount_0f7a4_43 (by decide) ?_
  refine lv_iushr hx hb dJ6_bitCount_0f7a4_45 rfl ?_
  refine lv_iadd hx hb dJ6_bitCount_0f7a4_46 ?_
  refine lv_istore_n (lv' := [(0, .int (((((((x0 - (((x0.toUInt32 >>> ((1 : Int32).toUInt32 &&& Int32.toUInt32 31)).toInt32) &&& (1431655765 : Int32))) &&& (858993459 : Int32)) + ((((x0 - (((x0.toUInt32 >>> ((1 : Int32).toUInt32 &&& Int32.toUInt32 31)).toInt32) &&& (1431655765 : Int32))).toUInt32 >>> ((2 : Int32).toUInt32 &&& Int32.toUInt32 31)).toInt32) &&& (858993459 : Int32))) + (((((x0 - (((x0.toUInt32 >>> ((1 : Int32).toUInt32 &&& Int32.toUInt32 31)).toInt32) &&& (1431655765 : Int32))) &&& (858993459 : Int32)) + ((((x0 - (((x0.toUInt32 >>> ((1 : Int32).toUInt32 &&& Int32.toUInt32 31)).toInt32) &&& (1431655765 : Int32))).toUInt32 >>> ((2 : Int32).toUInt32 &&& Int32.toUInt32 31)).toInt32) &&& (858993459 : Int32))).toUInt32 >>> ((4 : Int32).toUInt32 &&& Int32.toUInt32 31)).toInt32)) &&& (252645135 : Int32)) + (((((((x0 - (((x0.toUInt32 >>> ((1 : Int32).toUInt32 &&& Int32.toUInt32 31)).toInt32) &&& (1431655765 : Int32))) &&& (858993459 : Int32)) + ((((x0 - (((x0.toUInt32 >>> ((1 : Int32).toUInt32 &&& Int32.toUInt32 31)).toInt32) &&& (1431655765 : Int32))).toUInt32 >>> ((2 : Int32).toUInt32 &&& Int32.toUInt32 31)).toInt32) &&& (858993459 : Int32))) + (((((x0 - (((x0.toUInt32 >>> ((1 : Int32).toUInt32 &&& Int32.toUInt32 31)).toInt32) &&& (1431655765 : Int32))) &&& (858993459 : Int32)) + ((((x0 - (((x0.toUInt32 >>> ((1 : Int32).toUInt32 &&& Int32.toUInt32 31)).toInt32) &&& (1431655765 : Int32))).toUInt32 >>> ((2 : Int32).toUInt32 &&& Int32.toUInt32 31)).toInt32) &&& (858993459 : Int32))).toUInt32 >>> ((4 : Int32).toUInt32 &&& Int32.toUInt32 31)).toInt32)) &&& (252645135 : Int32)).toUInt32 >>> ((8 : Int32).toUInt32 &&& Int32.toUInt32 31)).toInt32)) + ((((((((x0 - (((x0.toUInt32 >>> ((1 : Int32).toUInt32 &&& Int32.toUInt32 31)).toInt32) &&& (1431655765 : Int32))) &&& (858993459 : Int32)) + ((((x0 - (((x0.toUInt32 >>> ((1 : Int32).toUInt32 &&& Int32.toUInt32 31)).toInt32) &&& (1431655765 : Int32))).toUInt32 >>> ((2 : Int32).toUInt32 &&& Int32.toUInt32 31)).toInt32) &&& (858993459 : Int32))) + (((((x0 - (((x0.toUInt32 >>> ((1 : Int32).toUInt32 &&& Int32.toUInt32 31)).toInt32) &&& (1431655765 : Int32))) &&& (858993459 : Int32)) + ((((x0 - (((x0.toUInt32 >>> ((1 : Int32).toUInt32 &&& Int32.toUInt32 31)).toInt32) &&& (1431655765 : Int32))).toUInt32 >>> ((2 : Int32).toUInt32 &&& Int32.toUInt32 31)).toInt32) &&& (858993459 : Int32))).toUInt32 >>> ((4 : Int32).toUInt32 &&& Int32.toUInt32 31)).toInt32)) &&& (252645135 : Int32)) + (((((((x0 - (((x0.toUInt32 >>> ((1 : Int32).toUInt32 &&& Int32.toUInt32 31)).toInt32) &&& (1431655765 : Int32))) &&& (858993459 : Int32)) + ((((x0 - (((x0.toUInt32 >>> ((1 : Int32).toUInt32 &&& Int32.toUInt32 31)).toInt32) &&& (1431655765 : Int32))).toUInt32 >>> ((2 : Int32).toUInt32 &&& Int32.toUInt32 31)).toInt32) &&& (858993459 : Int32))) + (((((x0 - (((x0.toUInt32 >>> ((1 : Int32).toUInt32 &&& Int32.toUInt32 31)).toInt32) &&& (1431655765 : Int32))) &&& (858993459 : Int32)) + ((((x0 - (((x0.toUInt32 >>> ((1 : Int32).toUInt32 &&& Int32.toUInt32 31)).toInt32) &&& (1431655765 : Int32))).toUInt32 >>> ((2 : Int32).toUInt32 &&& Int32.toUInt32 31)).toInt32) &&& (858993459 : Int32))).toUInt32 >>> ((4 : Int32).toUInt32 &&& Int32.toUInt32 31)).toInt32)) &&& (252645135 : Int32)).toUInt32 >>> ((8 : Int32).toUInt32 &&& Int32.toUInt32 31)).toInt32)).toUInt32 >>> ((16 : Int32).toUInt32 &&& Int32.toUInt32 31)).toInt32)))]) hx hb dJ6_bitCount_0f7a4_47 rfl hl (by decide) rfl (fun ls hl => ?_)
  refine lv_iload_n hx hb dJ6_bitCount_0f7a4_48 rfl (lv_at hl 0 rfl) ?_
  refine lv_bipush (v := (63 : Int32)) hx hb dJ6_bitCount_0f7a4_49 (by decide) ?_
  refine lv_iand hx hb dJ6_bitCount_0f7a4_51 ?_
  exact hret _ hs hP hS dJ6_bitCount_0f7a4_52
def tX8_lowestOf_0 : List (Nat × Instr × Nat) := [(0, .iload_n 0, 1), (1, .iload_n 0, 1), (2, .ineg, 1), (3, .iand, 1), (4, .iconst 1, 1), (5, .isub, 1), (6, .invokestatic 241, 3), (9, .ireturn, 1)]
theorem tX8_lowestOf_0_ok : tX8_lowestOf_0.all (fun q => decide (decode cX8_lowestOf q.1 = .ok q.2)) = true := by decide +kernel
theorem dX8_lowestOf_0 : decode cX8_lowestOf 0 = .ok (.iload_n 0, 1) := td tX8_lowestOf_0_ok 0 (q := (0, .iload_n 0, 1)) rfl
theorem dX8_lowestOf_1 : decode cX8_lowestOf 1 = .ok (.iload_n 0, 1) := td tX8_lowestOf_0_ok 1 (q := (1, .iload_n 0, 1)) rfl
theorem dX8_lowestOf_2 : decode cX8_lowestOf 2 = .ok (.ineg, 1) := td tX8_lowestOf_0_ok 2 (q := (2, .ineg, 1)) rfl
theorem dX8_lowestOf_3 : decode cX8_lowestOf 3 = .ok (.iand, 1) := td tX8_lowestOf_0_ok 3 (q := (3, .iand, 1)) rfl
theorem dX8_lowestOf_4 : decode cX8_lowestOf 4 = .ok (.iconst 1, 1) := td tX8_lowestOf_0_ok 4 (q := (4, .iconst 1, 1)) rfl
theorem dX8_lowestOf_5 : decode cX8_lowestOf 5 = .ok (.isub, 1) := td tX8_lowestOf_0_ok 5 (q := (5, .isub, 1)) rfl
theorem dX8_lowestOf_6 : decode cX8_lowestOf 6 = .ok (.invokestatic 241, 3) := td tX8_lowestOf_0_ok 6 (q := (6, .invokestatic 241, 3)) rfl
theorem dX8_lowestOf_9 : decode cX8_lowestOf 9 = .ok (.ireturn, 1) := td tX8_lowestOf_0_ok 7 (q := (9, .ireturn, 1)) rfl
def fX8_lowestOf (x0 : Int32) : Option (Int32) :=
  (Option.bind (fJ6_bitCount_0f7a4 ((x0 &&& (-x0)) - (1 : Int32))) (fun q1 => (some q1)))
set_option maxHeartbeats 4000000 in
set_option maxRecDepth 100000 in
theorem mX8_lowestOf {l : Launch} {D : va_G} {W0 : va_W} {tys : nd_T} {x0 : Int32} {r : Int32} (hs : fX8_lowestOf x0 = some r) : nd_C l yX8_lowestOf cX8_lowestOf 1 (some .int) 1 20 D tys [.int x0] W0 W0 (some (.int r)) := by
  refine nd_ofCi (by decide) (Nat.le_of_ble_eq_true rfl) (fun p e s m args below meth c_ ls A Q hx hb hml hown hts hl hP hK hD hS hA hN hret => ?_)
  have hown : s.vm.findClass RX8 = some m.cls := hown
  have hl : lv_has ls 1 [(0, .int x0)] := hl
  have hret : ∀ (z0 : Int32) {H : Heap} {locs : List Loc} {pc : Nat} {ls : Array Slot}, some z0 = some r → va_P D vwCl W0 H → va_S A s.heap H locs → decode cX8_lowestOf pc = .ok (.ireturn, 1) → W p l e ⟨1, 0, 0, 20⟩ s m args below meth c_ H locs 0 0 Q (F0 m pc ls [.int z0]) := by
    intro z0 H locs pc ls h hP hS hd
    cases h
    exact hret hP hS hd
  rw [fX8_lowestOf] at hs
  refine lv_iload_n hx hb dX8_lowestOf_0 rfl (lv_at hl 0 rfl) ?_
  refine lv_iload_n hx hb dX8_lowestOf_1 rfl (lv_at hl 0 rfl) ?_
  refine lv_ineg hx hb dX8_lowestOf_2 ?_
  refine lv_iand hx hb dX8_lowestOf_3 ?_
  refine lv_iconst (v := (1 : Int32)) hx hb dX8_lowestOf_4 (by decide) ?_
  refine lv_isub hx hb dX8_lowestOf_5 ?_
  obtain ⟨q1, eq1, hs⟩ := ob hs
  refine nd_callS (As := [.int ((x0 &&& (-x0)) - (1 : Int32))]) (rest := []) (st1 := [.int q1]) hx hb hml hown hts hl hP hK hD hS hA hN (mJ6_bitCount_0f7a4 eq1) is_J6_bitCount_0f7a4 wd_458 rfl rfl ⟨Nat.le_of_ble_eq_true rfl, Nat.le_of_ble_eq_true rfl⟩ (Nat.le_of_ble_eq_true rfl) ⟨Nat.zero_le _, Nat.zero_le _⟩ dX8_lowestOf_6 rfl rfl (fun H locs hP hD hS => ?_)
  exact hret _ hs hP hS dX8_lowestOf_9
def tX3_uppersOf_0 : List (Nat × Instr × Nat) := [(0, .iconst 0, 1), (1, .istore_n 2, 1), (2, .iconst 0, 1), (3, .istore_n 3, 1), (4, .iload_n 3, 1), (5, .aload_n 0, 1), (6, .invokevirtual 26, 3), (9, .if_icmp .ge 21, 3), (12, .aload_n 0, 1), (13, .iload_n 3, 1), (14, .iload_n 1, 1), (15, .invokestatic 30, 3), (18, .ifCond .ne 6, 3), (21, .iinc 2 1, 3), (24, .iinc 3 1, 3), (27, .goto (-23), 3), (30, .iload_n 2, 1), (31, .ireturn, 1)]
theorem tX3_uppersOf_0_ok : tX3_uppersOf_0.all (fun q => decide (decode cX3_uppersOf q.1 = .ok q.2)) = true := by decide +kernel
theorem dX3_uppersOf_0 : decode cX3_uppersOf 0 = .ok (.iconst 0, 1) := td tX3_uppersOf_0_ok 0 (q := (0, .iconst 0, 1)) rfl
theorem dX3_uppersOf_1 : decode cX3_uppersOf 1 = .ok (.istore_n 2, 1) := td tX3_uppersOf_0_ok 1 (q := (1, .istore_n 2, 1)) rfl
theorem dX3_uppersOf_2 : decode cX3_uppersOf 2 = .ok (.iconst 0, 1) := td tX3_uppersOf_0_ok 2 (q := (2, .iconst 0, 1)) rfl
theorem dX3_uppersOf_3 : decode cX3_uppersOf 3 = .ok (.istore_n 3, 1) := td tX3_uppersOf_0_ok 3 (q := (3, .istore_n 3, 1)) rfl
theorem dX3_uppersOf_4 : decode cX3_uppersOf 4 = .ok (.iload_n 3, 1) := td tX3_uppersOf_0_ok 4 (q := (4, .iload_n 3, 1)) rfl
theorem dX3_uppersOf_5 : decode cX3_uppersOf 5 = .ok (.aload_n 0, 1) := td tX3_uppersOf_0_ok 5 (q := (5, .aload_n 0, 1)) rfl
theorem dX3_uppersOf_6 : decode cX3_uppersOf 6 = .ok (.invokevirtual 26, 3) := td tX3_uppersOf_0_ok 6 (q := (6, .invokevirtual 26, 3)) rfl
theorem dX3_uppersOf_9 : decode cX3_uppersOf 9 = .ok (.if_icmp .ge 21, 3) := td tX3_uppersOf_0_ok 7 (q := (9, .if_icmp .ge 21, 3)) rfl
theorem dX3_uppersOf_12 : decode cX3_uppersOf 12 = .ok (.aload_n 0, 1) := td tX3_uppersOf_0_ok 8 (q := (12, .aload_n 0, 1)) rfl
theorem dX3_uppersOf_13 : decode cX3_uppersOf 13 = .ok (.iload_n 3, 1) := td tX3_uppersOf_0_ok 9 (q := (13, .iload_n 3, 1)) rfl
theorem dX3_uppersOf_14 : decode cX3_uppersOf 14 = .ok (.iload_n 1, 1) := td tX3_uppersOf_0_ok 10 (q := (14, .iload_n 1, 1)) rfl
theorem dX3_uppersOf_15 : decode cX3_uppersOf 15 = .ok (.invokestatic 30, 3) := td tX3_uppersOf_0_ok 11 (q := (15, .invokestatic 30, 3)) rfl
theorem dX3_uppersOf_18 : decode cX3_uppersOf 18 = .ok (.ifCond .ne 6, 3) := td tX3_uppersOf_0_ok 12 (q := (18, .ifCond .ne 6, 3)) rfl
theorem dX3_uppersOf_21 : decode cX3_uppersOf 21 = .ok (.iinc 2 1, 3) := td tX3_uppersOf_0_ok 13 (q := (21, .iinc 2 1, 3)) rfl
theorem dX3_uppersOf_24 : decode cX3_uppersOf 24 = .ok (.iinc 3 1, 3) := td tX3_uppersOf_0_ok 14 (q := (24, .iinc 3 1, 3)) rfl
theorem dX3_uppersOf_27 : decode cX3_uppersOf 27 = .ok (.goto (-23), 3) := td tX3_uppersOf_0_ok 15 (q := (27, .goto (-23), 3)) rfl
theorem dX3_uppersOf_30 : decode cX3_uppersOf 30 = .ok (.iload_n 2, 1) := td tX3_uppersOf_0_ok 16 (q := (30, .iload_n 2, 1)) rfl
theorem dX3_uppersOf_31 : decode cX3_uppersOf 31 = .ok (.ireturn, 1) := td tX3_uppersOf_0_ok 17 (q := (31, .ireturn, 1)) rfl
def fX3_uppersOf_4 (k4 : Int32 → Option (Int32)) (kc : (Nat → Int32)) (x1 : Int32) : Nat → Int32 → Int32 → Option (Int32)
  | 0, _, _ => none
  | n4 + 1, x2, x3 => (Option.bind (fX0_pieces kc) (fun q1 => (if q1 ≤ x3 then (k4 x2) else (Option.bind (fX3_obstacle kc x3 x1) (fun q3 => (if q3 = 0 then (fX3_uppersOf_4 k4 kc x1 n4 (x2 + (1 : Int32)) (x3 + (1 : Int32))) else (fX3_uppersOf_4 k4 kc x1 n4 x2 (x3 + (1 : Int32)))))))))
def fX3_uppersOf (kc : (Nat → Int32)) (x1 : Int32) : Option (Int32) :=
  (fX3_uppersOf_4 (fun (u2_5 : Int32) => (some u2_5)) kc x1 LF (0 : Int32) (0 : Int32))
set_option maxHeartbeats 4000000 in
set_option maxRecDepth 100000 in
theorem mX3_uppersOf {l : Launch} {D : va_G} {ad : Nat → Nat} {cI : ClassId} {kc : (Nat → Int32)} {ksv : (Nat → Int32)} {kbc : (Nat → Int32)} {kit : (Nat → Int32)} {kln : (Nat → Int32)} {ken : (Nat → Int32)} {kla : (Nat → Int32)} {kfi : (Nat → Int32)} {kea : (Nat → Int32)} {kns : Int32} {kbl : Int32} {kr0 : Int32} {kr1 : Int32} {kr2 : Int32} {kr3 : Int32} {kr4 : Int32} {kr5 : Int32} {klr : Int32} {kp0 : Int32} {kp1 : Int32} {kp2 : Int32} {kp3 : Int32} {x1 : Int32} {r : Int32} (hs : fX3_uppersOf kc x1 = some r) : nd_C l yX3_uppersOf cX3_uppersOf 4 (some .int) 3 67 D [(cI, .int)] [.ref (ad 1), .int x1] (CW ad cI kc ksv kbc kit kln ken kla kfi kea kns kbl kr0 kr1 kr2 kr3 kr4 kr5 klr kp0 kp1 kp2 kp3) (CW ad cI kc ksv kbc kit kln ken kla kfi kea kns kbl kr0 kr1 kr2 kr3 kr4 kr5 klr kp0 kp1 kp2 kp3) (some (.int r)) := by
  refine nd_ofCi (by decide) (Nat.le_of_ble_eq_true rfl) (fun p e s m args below meth c_ ls A Q hx hb hml hown hts hl hP hK hD hS hA hN hret => ?_)
  have hown : s.vm.findClass RX3 = some m.cls := hown
  have hl : lv_has ls 4 [(0, .ref (ad 1)), (1, .int x1)] := hl
  have hret : ∀ (z0 : Int32) {H : Heap} {locs : List Loc} {pc : Nat} {ls : Array Slot}, some z0 = some r → va_P D vwCl (CW ad cI kc ksv kbc kit kln ken kla kfi kea kns kbl kr0 kr1 kr2 kr3 kr4 kr5 klr kp0 kp1 kp2 kp3) H → va_S A s.heap H locs → decode cX3_uppersOf pc = .ok (.ireturn, 1) → W p l e ⟨3, 0, 0, 67⟩ s m args below meth c_ H locs 0 0 Q (F0 m pc ls [.int z0]) := by
    intro z0 H locs pc ls h hP hS hd
    cases h
    exact hret hP hS hd
  rw [fX3_uppersOf] at hs
  refine lv_iconst (v := (0 : Int32)) hx hb dX3_uppersOf_0 (by decide) ?_
  refine lv_istore_n (lv' := [(2, .int (0 : Int32)), (0, .ref (ad 1)), (1, .int x1)]) hx hb dX3_uppersOf_1 rfl hl (by decide) rfl (fun ls hl => ?_)
  refine lv_iconst (v := (0 : Int32)) hx hb dX3_uppersOf_2 (by decide) ?_
  refine lv_istore_n (lv' := [(3, .int (0 : Int32)), (2, .int (0 : Int32)), (0, .ref (ad 1)), (1, .int x1)]) hx hb dX3_uppersOf_3 rfl hl (by decide) rfl (fun ls hl => ?_)
  have L4 : ∀ (n4 : Nat) (k4 : Int32 → Option (Int32)) (v2_5 : Int32) (v3_5 : Int32) (H : Heap) (locs : List Loc) (ls : Array Slot), lv_has ls 4 [(0, .ref (ad 1)), (1, .int x1), (2, .int v2_5), (3, .int v3_5)] → va_P D vwCl (CW ad cI kc ksv kbc kit kln ken kla kfi kea kns kbl kr0 kr1 kr2 kr3 kr4 kr5 klr kp0 kp1 kp2 kp3) H → va_S A s.heap H locs → fX3_uppersOf_4 k4 kc x1 n4 v2_5 v3_5 = some r → (∀ (u2_5 : Int32) (H : Heap) (locs : List Loc) (ls : Array Slot), lv_has ls 4 [(2, .int u2_5)] → va_P D vwCl (CW ad cI kc ksv kbc kit kln ken kla kfi kea kns kbl kr0 kr1 kr2 kr3 kr4 kr5 klr kp0 kp1 kp2 kp3) H → va_S A s.heap H locs → k4 u2_5 = some r → W p l e ⟨3, 0, 0, 67⟩ s m args below meth c_ H locs 0 0 Q (F0 m 30 ls [])) → W p l e ⟨3, 0, 0, 67⟩ s m args below meth c_ H locs 0 0 Q (F0 m 4 ls []) := by
    intro n4
    induction n4 with
    | zero =>
      intro k4 v2_5 v3_5 H locs ls hl hP hS hs hk4
      rw [fX3_uppersOf_4] at hs
      cases hs
    | succ n4 ih4 =>
      intro k4 v2_5 v3_5 H locs ls hl hP hS hs hk4
      rw [fX3_uppersOf_4] at hs
      refine lv_iload_n hx hb dX3_uppersOf_4 rfl (lv_at hl 3 rfl) ?_
      refine lv_aload_n hx hb dX3_uppersOf_5 rfl (lv_at hl 0 rfl) ?_
      obtain ⟨q6, eq6, hs⟩ := ob hs
      refine nd_callV (As := []) (rest := [.int v3_5]) (st1 := [.int q6, .int v3_5]) hx hb hml hown hts hl hP hK hD hS hA hN (mX0_pieces eq6) iv_X0_pieces wd_444 1 rfl rfl rfl rfl ⟨Nat.le_of_ble_eq_true rfl, Nat.le_of_ble_eq_true rfl⟩ (Nat.le_of_ble_eq_true rfl) ⟨Nat.zero_le _, Nat.zero_le _⟩ dX3_uppersOf_6 rfl rfl (fun H locs hP hD hS => ?_)
      refine lv_icmp_ge (tgt := 30) hx hb dX3_uppersOf_9 (by decide) (fun b7 => ?_) (fun b7 => ?_)
      · have hs := ite_t hs b7
        exact hk4 v2_5 _ _ _ (lv_sub hl [2] rfl) hP hS hs
      · have hs := ite_f hs b7
        refine lv_aload_n hx hb dX3_uppersOf_12 rfl (lv_at hl 0 rfl) ?_
        refine lv_iload_n hx hb dX3_uppersOf_13 rfl (lv_at hl 3 rfl) ?_
        refine lv_iload_n hx hb dX3_uppersOf_14 rfl (lv_at hl 1 rfl) ?_
        obtain ⟨q8, eq8, hs⟩ := ob hs
        refine nd_callS (As := [.ref (ad 1), .int v3_5, .int x1]) (rest := []) (st1 := [.int q8]) hx hb hml hown hts hl hP hK hD hS hA hN (mX3_obstacle eq8) is_X3_obstacle wd_448 rfl rfl ⟨Nat.le_of_ble_eq_true rfl, Nat.le_of_ble_eq_true rfl⟩ (Nat.le_of_ble_eq_true rfl) ⟨Nat.zero_le _, Nat.zero_le _⟩ dX3_uppersOf_15 rfl rfl (fun H locs hP hD hS => ?_)
        refine lv_if_ne (tgt := 24) hx hb dX3_uppersOf_18 (by decide) (fun b9 => ?_) (fun b9 => ?_)
        · have hs := ite_f hs b9
          refine lv_iinc (v := v3_5 + (1 : Int32)) (lv' := [(3, .int (v3_5 + (1 : Int32))), (0, .ref (ad 1)), (1, .int x1), (2, .int v2_5)]) hx hb dX3_uppersOf_24 hl (k := 3) rfl rfl (by decide) rfl (fun ls hl => ?_)
          refine lv_goto (tgt := 4) hx hb dX3_uppersOf_27 (by decide) ?_
          exact ih4 k4 v2_5 (v3_5 + (1 : Int32)) _ _ _ (lv_sub hl [1, 2, 3, 0] rfl) hP hS hs hk4
        · have hs := ite_t hs b9
          refine lv_iinc (v := v2_5 + (1 : Int32)) (lv' := [(2, .int (v2_5 + (1 : Int32))), (0, .ref (ad 1)), (1, .int x1), (3, .int v3_5)]) hx hb dX3_uppersOf_21 hl (k := 2) rfl rfl (by decide) rfl (fun ls hl => ?_)
          refine lv_iinc (v := v3_5 + (1 : Int32)) (lv' := [(3, .int (v3_5 + (1 : Int32))), (2, .int (v2_5 + (1 : Int32))), (0, .ref (ad 1)), (1, .int x1)]) hx hb dX3_uppersOf_24 hl (k := 3) rfl rfl (by decide) rfl (fun ls hl => ?_)
          refine lv_goto (tgt := 4) hx hb dX3_uppersOf_27 (by decide) ?_
          exact ih4 k4 (v2_5 + (1 : Int32)) (v3_5 + (1 : Int32)) _ _ _ (lv_sub hl [2, 3, 1, 0] rfl) hP hS hs hk4
  refine L4 LF _ (0 : Int32) (0 : Int32) _ _ _ (lv_sub hl [2, 3, 1, 0] rfl) hP hS hs (fun u2_5 H locs ls hl hP hS hs => ?_)
  refine lv_iload_n hx hb dX3_uppersOf_30 rfl (lv_at hl 0 rfl) ?_
  exact hret _ hs hP hS dX3_uppersOf_31
def tX3_lowestClear_0 : List (Nat × Instr × Nat) := [(0, .iconst 0, 1), (1, .istore_n 1, 1), (2, .iload_n 1, 1), (3, .aload_n 0, 1), (4, .invokevirtual 26, 3), (7, .if_icmp .ge 37, 3), (10, .aload_n 0, 1), (11, .iload_n 1, 1), (12, .invokestatic 38, 3), (15, .istore_n 2, 1), (16, .iload_n 2, 1), (17, .invokestatic 49, 3), (20, .iconst 1, 1), (21, .if_icmp .ne 17, 3), (24, .aload_n 0, 1), (25, .iload_n 2, 1), (26, .invokestatic 42, 3), (29, .invokestatic 54, 3), (32, .iconst 1, 1), (33, .if_icmp .ne 5, 3), (36, .iload_n 1, 1), (37, .ireturn, 1), (38, .iinc 1 1, 3), (41, .goto (-39), 3), (44, .iconst (-1), 1), (45, .ireturn, 1)]
theorem tX3_lowestClear_0_ok : tX3_lowestClear_0.all (fun q => decide (decode cX3_lowestClear q.1 = .ok q.2)) = true := by decide +kernel
theorem dX3_lowestClear_0 : decode cX3_lowestClear 0 = .ok (.iconst 0, 1) := td tX3_lowestClear_0_ok 0 (q := (0, .iconst 0, 1)) rfl
theorem dX3_lowestClear_1 : decode cX3_lowestClear 1 = .ok (.istore_n 1, 1) := td tX3_lowestClear_0_ok 1 (q := (1, .istore_n 1, 1)) rfl
theorem dX3_lowestClear_2 : decode cX3_lowestClear 2 = .ok (.iload_n 1, 1) := td tX3_lowestClear_0_ok 2 (q := (2, .iload_n 1, 1)) rfl
theorem dX3_lowestClear_3 : decode cX3_lowestClear 3 = .ok (.aload_n 0, 1) := td tX3_lowestClear_0_ok 3 (q := (3, .aload_n 0, 1)) rfl
theorem dX3_lowestClear_4 : decode cX3_lowestClear 4 = .ok (.invokevirtual 26, 3) := td tX3_lowestClear_0_ok 4 (q := (4, .invokevirtual 26, 3)) rfl
theorem dX3_lowestClear_7 : decode cX3_lowestClear 7 = .ok (.if_icmp .ge 37, 3) := td tX3_lowestClear_0_ok 5 (q := (7, .if_icmp .ge 37, 3)) rfl
theorem dX3_lowestClear_10 : decode cX3_lowestClear 10 = .ok (.aload_n 0, 1) := td tX3_lowestClear_0_ok 6 (q := (10, .aload_n 0, 1)) rfl
theorem dX3_lowestClear_11 : decode cX3_lowestClear 11 = .ok (.iload_n 1, 1) := td tX3_lowestClear_0_ok 7 (q := (11, .iload_n 1, 1)) rfl
theorem dX3_lowestClear_12 : decode cX3_lowestClear 12 = .ok (.invokestatic 38, 3) := td tX3_lowestClear_0_ok 8 (q := (12, .invokestatic 38, 3)) rfl
theorem dX3_lowestClear_15 : decode cX3_lowestClear 15 = .ok (.istore_n 2, 1) := td tX3_lowestClear_0_ok 9 (q := (15, .istore_n 2, 1)) rfl
theorem dX3_lowestClear_16 : decode cX3_lowestClear 16 = .ok (.iload_n 2, 1) := td tX3_lowestClear_0_ok 10 (q := (16, .iload_n 2, 1)) rfl
theorem dX3_lowestClear_17 : decode cX3_lowestClear 17 = .ok (.invokestatic 49, 3) := td tX3_lowestClear_0_ok 11 (q := (17, .invokestatic 49, 3)) rfl
theorem dX3_lowestClear_20 : decode cX3_lowestClear 20 = .ok (.iconst 1, 1) := td tX3_lowestClear_0_ok 12 (q := (20, .iconst 1, 1)) rfl
theorem dX3_lowestClear_21 : decode cX3_lowestClear 21 = .ok (.if_icmp .ne 17, 3) := td tX3_lowestClear_0_ok 13 (q := (21, .if_icmp .ne 17, 3)) rfl
theorem dX3_lowestClear_24 : decode cX3_lowestClear 24 = .ok (.aload_n 0, 1) := td tX3_lowestClear_0_ok 14 (q := (24, .aload_n 0, 1)) rfl
theorem dX3_lowestClear_25 : decode cX3_lowestClear 25 = .ok (.iload_n 2, 1) := td tX3_lowestClear_0_ok 15 (q := (25, .iload_n 2, 1)) rfl
theorem dX3_lowestClear_26 : decode cX3_lowestClear 26 = .ok (.invokestatic 42, 3) := td tX3_lowestClear_0_ok 16 (q := (26, .invokestatic 42, 3)) rfl
theorem dX3_lowestClear_29 : decode cX3_lowestClear 29 = .ok (.invokestatic 54, 3) := td tX3_lowestClear_0_ok 17 (q := (29, .invokestatic 54, 3)) rfl
theorem dX3_lowestClear_32 : decode cX3_lowestClear 32 = .ok (.iconst 1, 1) := td tX3_lowestClear_0_ok 18 (q := (32, .iconst 1, 1)) rfl
theorem dX3_lowestClear_33 : decode cX3_lowestClear 33 = .ok (.if_icmp .ne 5, 3) := td tX3_lowestClear_0_ok 19 (q := (33, .if_icmp .ne 5, 3)) rfl
theorem dX3_lowestClear_36 : decode cX3_lowestClear 36 = .ok (.iload_n 1, 1) := td tX3_lowestClear_0_ok 20 (q := (36, .iload_n 1, 1)) rfl
theorem dX3_lowestClear_37 : decode cX3_lowestClear 37 = .ok (.ireturn, 1) := td tX3_lowestClear_0_ok 21 (q := (37, .ireturn, 1)) rfl
theorem dX3_lowestClear_38 : decode cX3_lowestClear 38 = .ok (.iinc 1 1, 3) := td tX3_lowestClear_0_ok 22 (q := (38, .iinc 1 1, 3)) rfl
theorem dX3_lowestClear_41 : decode cX3_lowestClear 41 = .ok (.goto (-39), 3) := td tX3_lowestClear_0_ok 23 (q := (41, .goto (-39), 3)) rfl
theorem dX3_lowestClear_44 : decode cX3_lowestClear 44 = .ok (.iconst (-1), 1) := td tX3_lowestClear_0_ok 24 (q := (44, .iconst (-1), 1)) rfl
theorem dX3_lowestClear_45 : decode cX3_lowestClear 45 = .ok (.ireturn, 1) := td tX3_lowestClear_0_ok 25 (q := (45, .ireturn, 1)) rfl
def fX3_lowestClear_2 (k2 : Unit → Option (Int32)) (kc : (Nat → Int32)) : Nat → Int32 → Option (Int32)
  | 0, _ => none
  | n2 + 1, x1 => (Option.bind (fX0_pieces kc) (fun q1 => (if q1 ≤ x1 then (k2 ()) else (Option.bind (fX3_lowersOf kc x1) (fun q3 => (Option.bind (fJ6_bitCount_0f7a4 q3) (fun q4 => (if q4 = (1 : Int32) then (Option.bind (fX8_lowestOf q3) (fun q6 => (Option.bind (fX3_uppersOf kc q6) (fun q7 => (if q7 = (1 : Int32) then (some x1) else (fX3_lowestClear_2 k2 kc n2 (x1 + (1 : Int32)))))))) else (fX3_lowestClear_2 k2 kc n2 (x1 + (1 : Int32)))))))))))
def fX3_lowestClear (kc : (Nat → Int32)) : Option (Int32) :=
  (fX3_lowestClear_2 (fun (_ : Unit) => (some (-1 : Int32))) kc LF (0 : Int32))
set_option maxHeartbeats 4000000 in
set_option maxRecDepth 100000 in
theorem mX3_lowestClear {l : Launch} {D : va_G} {ad : Nat → Nat} {cI : ClassId} {kc : (Nat → Int32)} {ksv : (Nat → Int32)} {kbc : (Nat → Int32)} {kit : (Nat → Int32)} {kln : (Nat → Int32)} {ken : (Nat → Int32)} {kla : (Nat → Int32)} {kfi : (Nat → Int32)} {kea : (Nat → Int32)} {kns : Int32} {kbl : Int32} {kr0 : Int32} {kr1 : Int32} {kr2 : Int32} {kr3 : Int32} {kr4 : Int32} {kr5 : Int32} {klr : Int32} {kp0 : Int32} {kp1 : Int32} {kp2 : Int32} {kp3 : Int32} {r : Int32} (hs : fX3_lowestClear kc = some r) : nd_C l yX3_lowestClear cX3_lowestClear 3 (some .int) 4 90 D [(cI, .int)] [.ref (ad 1)] (CW ad cI kc ksv kbc kit kln ken kla kfi kea kns kbl kr0 kr1 kr2 kr3 kr4 kr5 klr kp0 kp1 kp2 kp3) (CW ad cI kc ksv kbc kit kln ken kla kfi kea kns kbl kr0 kr1 kr2 kr3 kr4 kr5 klr kp0 kp1 kp2 kp3) (some (.int r)) := by
  refine nd_ofCi (by decide) (Nat.le_of_ble_eq_true rfl) (fun p e s m args below meth c_ ls A Q hx hb hml hown hts hl hP hK hD hS hA hN hret => ?_)
  have hown : s.vm.findClass RX3 = some m.cls := hown
  have hl : lv_has ls 3 [(0, .ref (ad 1))] := hl
  have hret : ∀ (z0 : Int32) {H : Heap} {locs : List Loc} {pc : Nat} {ls : Array Slot}, some z0 = some r → va_P D vwCl (CW ad cI kc ksv kbc kit kln ken kla kfi kea kns kbl kr0 kr1 kr2 kr3 kr4 kr5 klr kp0 kp1 kp2 kp3) H → va_S A s.heap H locs → decode cX3_lowestClear pc = .ok (.ireturn, 1) → W p l e ⟨4, 0, 0, 90⟩ s m args below meth c_ H locs 0 0 Q (F0 m pc ls [.int z0]) := by
    intro z0 H locs pc ls h hP hS hd
    cases h
    exact hret hP hS hd
  rw [fX3_lowestClear] at hs
  refine lv_iconst (v := (0 : Int32)) hx hb dX3_lowestClear_0 (by decide) ?_
  refine lv_istore_n (lv' := [(1, .int (0 : Int32)), (0, .ref (ad 1))]) hx hb dX3_lowestClear_1 rfl hl (by decide) rfl (fun ls hl => ?_)
  have L2 : ∀ (n2 : Nat) (k2 : Unit → Option (Int32)) (v1_9 : Int32) (H : Heap) (locs : List Loc) (ls : Array Slot), lv_has ls 3 [(0, .ref (ad 1)), (1, .int v1_9)] → va_P D vwCl (CW ad cI kc ksv kbc kit kln ken kla kfi kea kns kbl kr0 kr1 kr2 kr3 kr4 kr5 klr kp0 kp1 kp2 kp3) H → va_S A s.heap H locs → fX3_lowestClear_2 k2 kc n2 v1_9 = some r → (∀ (H : Heap) (locs : List Loc) (ls : Array Slot), lv_has ls 3 [] → va_P D vwCl (CW ad cI kc ksv kbc kit kln ken kla kfi kea kns kbl kr0 kr1 kr2 kr3 kr4 kr5 klr kp0 kp1 kp2 kp3) H → va_S A s.heap H locs → k2 () = some r → W p l e ⟨4, 0, 0, 90⟩ s m args below meth c_ H locs 0 0 Q (F0 m 44 ls [])) → W p l e ⟨4, 0, 0, 90⟩ s m args below meth c_ H locs 0 0 Q (F0 m 2 ls []) := by
    intro n2
    induction n2 with
    | zero =>
      intro k2 v1_9 H locs ls hl hP hS hs hk2
      rw [fX3_lowestClear_2] at hs
      cases hs
    | succ n2 ih2 =>
      intro k2 v1_9 H locs ls hl hP hS hs hk2
      rw [fX3_lowestClear_2] at hs
      refine lv_iload_n hx hb dX3_lowestClear_2 rfl (lv_at hl 1 rfl) ?_
      refine lv_aload_n hx hb dX3_lowestClear_3 rfl (lv_at hl 0 rfl) ?_
      obtain ⟨q10, eq10, hs⟩ := ob hs
      refine nd_callV (As := []) (rest := [.int v1_9]) (st1 := [.int q10, .int v1_9]) hx hb hml hown hts hl hP hK hD hS hA hN (mX0_pieces eq10) iv_X0_pieces wd_444 1 rfl rfl rfl rfl ⟨Nat.le_of_ble_eq_true rfl, Nat.le_of_ble_eq_true rfl⟩ (Nat.le_of_ble_eq_true rfl) ⟨Nat.zero_le _, Nat.zero_le _⟩ dX3_lowestClear_4 rfl rfl (fun H locs hP hD hS => ?_)
      refine lv_icmp_ge (tgt := 44) hx hb dX3_lowestClear_7 (by decide) (fun b11 => ?_) (fun b11 => ?_)
      · have hs := ite_t hs b11
        exact hk2  _ _ _ (lv_sub hl [] rfl) hP hS hs
      · have hs := ite_f hs b11
        refine lv_aload_n hx hb dX3_lowestClear_10 rfl (lv_at hl 0 rfl) ?_
        refine lv_iload_n hx hb dX3_lowestClear_11 rfl (lv_at hl 1 rfl) ?_
        obtain ⟨q12, eq12, hs⟩ := ob hs
        refine nd_callS (As := [.ref (ad 1), .int v1_9]) (rest := []) (st1 := [.int q12]) hx hb hml hown hts hl hP hK hD hS hA hN (mX3_lowersOf eq12) is_X3_lowersOf wd_445 rfl rfl ⟨Nat.le_of_ble_eq_true rfl, Nat.le_of_ble_eq_true rfl⟩ (Nat.le_of_ble_eq_true rfl) ⟨Nat.zero_le _, Nat.zero_le _⟩ dX3_lowestClear_12 rfl rfl (fun H locs hP hD hS => ?_)
        refine lv_istore_n (lv' := [(2, .int q12), (0, .ref (ad 1)), (1, .int v1_9)]) hx hb dX3_lowestClear_15 rfl hl (by decide) rfl (fun ls hl => ?_)
        refine lv_iload_n hx hb dX3_lowestClear_16 rfl (lv_at hl 0 rfl) ?_
        obtain ⟨q13, eq13, hs⟩ := ob hs
        refine nd_callS (As := [.int q12]) (rest := []) (st1 := [.int q13]) hx hb hml hown hts hl hP hK hD hS hA hN (mJ6_bitCount_0f7a4 eq13) is_J6_bitCount_0f7a4 wd_449 rfl rfl ⟨Nat.le_of_ble_eq_true rfl, Nat.le_of_ble_eq_true rfl⟩ (Nat.le_of_ble_eq_true rfl) ⟨Nat.zero_le _, Nat.zero_le _⟩ dX3_lowestClear_17 rfl rfl (fun H locs hP hD hS => ?_)
        refine lv_iconst (v := (1 : Int32)) hx hb dX3_lowestClear_20 (by decide) ?_
        refine lv_icmp_ne (tgt := 38) hx hb dX3_lowestClear_21 (by decide) (fun b14 => ?_) (fun b14 => ?_)
        · have hs := ite_f hs b14
          refine lv_iinc (v := v1_9 + (1 : Int32)) (lv' := [(1, .int (v1_9 + (1 : Int32))), (2, .int q12), (0, .ref (ad 1))]) hx hb dX3_lowestClear_38 hl (k := 2) rfl rfl (by decide) rfl (fun ls hl => ?_)
          refine lv_goto (tgt := 2) hx hb dX3_lowestClear_41 (by decide) ?_
          exact ih2 k2 (v1_9 + (1 : Int32)) _ _ _ (lv_sub hl [2, 0] rfl) hP hS hs hk2
        · have hs := ite_t hs b14
          refine lv_aload_n hx hb dX3_lowestClear_24 rfl (lv_at hl 1 rfl) ?_
          refine lv_iload_n hx hb dX3_lowestClear_25 rfl (lv_at hl 0 rfl) ?_
          obtain ⟨q15, eq15, hs⟩ := ob hs
          refine nd_callN (As := [.int q12]) (rest := [.ref (ad 1)]) (st1 := [.int q15, .ref (ad 1)]) hx hb hml hown hts hl hP hK hD hS hA hN (mX8_lowestOf eq15) is_X8_lowestOf hN.1 rfl rfl ⟨Nat.le_of_ble_eq_true rfl, Nat.le_of_ble_eq_true rfl⟩ (Nat.le_of_ble_eq_true rfl) ⟨Nat.zero_le _, Nat.zero_le _⟩ dX3_lowestClear_26 rfl rfl (fun H locs hP hD hS => ?_)
          obtain ⟨q16, eq16, hs⟩ := ob hs
          refine nd_callS (As := [.ref (ad 1), .int q15]) (rest := []) (st1 := [.int q16]) hx hb hml hown hts hl hP hK hD hS hA hN (mX3_uppersOf eq16) is_X3_uppersOf wd_459 rfl rfl ⟨Nat.le_of_ble_eq_true rfl, Nat.le_of_ble_eq_true rfl⟩ (Nat.le_of_ble_eq_true rfl) ⟨Nat.zero_le _, Nat.zero_le _⟩ dX3_lowestClear_29 rfl rfl (fun H locs hP hD hS => ?_)
          refine lv_iconst (v := (1 : Int32)) hx hb dX3_lowestClear_32 (by decide) ?_
          refine lv_icmp_ne (tgt := 38) hx hb dX3_lowestClear_33 (by decide) (fun b17 => ?_) (fun b17 => ?_)
          · have hs := ite_f hs b17
            refine lv_iinc (v := v1_9 + (1 : Int32)) (lv' := [(1, .int (v1_9 + (1 : Int32))), (2, .int q12), (0, .ref (ad 1))]) hx hb dX3_lowestClear_38 hl (k := 2) rfl rfl (by decide) rfl (fun ls hl => ?_)
            refine lv_goto (tgt := 2) hx hb dX3_lowestClear_41 (by decide) ?_
            exact ih2 k2 (v1_9 + (1 : Int32)) _ _ _ (lv_sub hl [2, 0] rfl) hP hS hs hk2
          · have hs := ite_t hs b17
            refine lv_iload_n hx hb dX3_lowestClear_36 rfl (lv_at hl 2 rfl) ?_
            exact hret _ hs hP hS dX3_lowestClear_37
  refine L2 LF _ (0 : Int32) _ _ _ (lv_sub hl [1, 0] rfl) hP hS hs (fun  H locs ls hl hP hS hs => ?_)
  refine lv_iconst (v := (-1 : Int32)) hx hb dX3_lowestClear_44 (by decide) ?_
  exact hret _ hs hP hS dX3_lowestClear_45
def tX3_joinAllClear_0 : List (Nat × Instr × Nat) := [(0, .iconst 0, 1), (1, .istore_n 1, 1), (2, .iconst 0, 1), (3, .istore_n 2, 1), (4, .iload_n 2, 1), (5, .bipush 10, 2), (7, .if_icmp .ge 37, 3), (10, .aload_n 0, 1), (11, .invokestatic 34, 3), (14, .istore_n 3, 1), (15, .iload_n 3, 1), (16, .iconst (-1), 1), (17, .if_icmp .ne 5, 3), (20, .iload_n 1, 1), (21, .ireturn, 1), (22, .aload_n 0, 1), (23, .iload_n 3, 1), (24, .aload_n 0, 1), (25, .iload_n 3, 1), (26, .invokestatic 38, 3), (29, .invokestatic 42, 3), (32, .invokevirtual 45, 3), (35, .iinc 1 1, 3), (38, .iinc 2 1, 3), (41, .goto (-37), 3), (44, .iload_n 1, 1), (45, .ireturn, 1)]
theorem tX3_joinAllClear_0_ok : tX3_joinAllClear_0.all (fun q => decide (decode cX3_joinAllClear q.1 = .ok q.2)) = true := by decide +kernel
theorem dX3_joinAllClear_0 : decode cX3_joinAllClear 0 = .ok (.iconst 0, 1) := td tX3_joinAllClear_0_ok 0 (q := (0, .iconst 0, 1)) rfl
theorem dX3_joinAllClear_1 : decode cX3_joinAllClear 1 = .ok (.istore_n 1, 1) := td tX3_joinAllClear_0_ok 1 (q := (1, .istore_n 1, 1)) rfl
theorem dX3_joinAllClear_2 : decode cX3_joinAllClear 2 = .ok (.iconst 0, 1) := td tX3_joinAllClear_0_ok 2 (q := (2, .iconst 0, 1)) rfl
theorem dX3_joinAllClear_3 : decode cX3_joinAllClear 3 = .ok (.istore_n 2, 1) := td tX3_joinAllClear_0_ok 3 (q := (3, .istore_n 2, 1)) rfl
theorem dX3_joinAllClear_4 : decode cX3_joinAllClear 4 = .ok (.iload_n 2, 1) := td tX3_joinAllClear_0_ok 4 (q := (4, .iload_n 2, 1)) rfl
theorem dX3_joinAllClear_5 : decode cX3_joinAllClear 5 = .ok (.bipush 10, 2) := td tX3_joinAllClear_0_ok 5 (q := (5, .bipush 10, 2)) rfl
theorem dX3_joinAllClear_7 : decode cX3_joinAllClear 7 = .ok (.if_icmp .ge 37, 3) := td tX3_joinAllClear_0_ok 6 (q := (7, .if_icmp .ge 37, 3)) rfl
theorem dX3_joinAllClear_10 : decode cX3_joinAllClear 10 = .ok (.aload_n 0, 1) := td tX3_joinAllClear_0_ok 7 (q := (10, .aload_n 0, 1)) rfl
theorem dX3_joinAllClear_11 : decode cX3_joinAllClear 11 = .ok (.invokestatic 34, 3) := td tX3_joinAllClear_0_ok 8 (q := (11, .invokestatic 34, 3)) rfl
theorem dX3_joinAllClear_14 : decode cX3_joinAllClear 14 = .ok (.istore_n 3, 1) := td tX3_joinAllClear_0_ok 9 (q := (14, .istore_n 3, 1)) rfl
theorem dX3_joinAllClear_15 : decode cX3_joinAllClear 15 = .ok (.iload_n 3, 1) := td tX3_joinAllClear_0_ok 10 (q := (15, .iload_n 3, 1)) rfl
theorem dX3_joinAllClear_16 : decode cX3_joinAllClear 16 = .ok (.iconst (-1), 1) := td tX3_joinAllClear_0_ok 11 (q := (16, .iconst (-1), 1)) rfl
theorem dX3_joinAllClear_17 : decode cX3_joinAllClear 17 = .ok (.if_icmp .ne 5, 3) := td tX3_joinAllClear_0_ok 12 (q := (17, .if_icmp .ne 5, 3)) rfl
theorem dX3_joinAllClear_20 : decode cX3_joinAllClear 20 = .ok (.iload_n 1, 1) := td tX3_joinAllClear_0_ok 13 (q := (20, .iload_n 1, 1)) rfl
theorem dX3_joinAllClear_21 : decode cX3_joinAllClear 21 = .ok (.ireturn, 1) := td tX3_joinAllClear_0_ok 14 (q := (21, .ireturn, 1)) rfl
theorem dX3_joinAllClear_22 : decode cX3_joinAllClear 22 = .ok (.aload_n 0, 1) := td tX3_joinAllClear_0_ok 15 (q := (22, .aload_n 0, 1)) rfl
theorem dX3_joinAllClear_23 : decode cX3_joinAllClear 23 = .ok (.iload_n 3, 1) := td tX3_joinAllClear_0_ok 16 (q := (23, .iload_n 3, 1)) rfl
theorem dX3_joinAllClear_24 : decode cX3_joinAllClear 24 = .ok (.aload_n 0, 1) := td tX3_joinAllClear_0_ok 17 (q := (24, .aload_n 0, 1)) rfl
theorem dX3_joinAllClear_25 : decode cX3_joinAllClear 25 = .ok (.iload_n 3, 1) := td tX3_joinAllClear_0_ok 18 (q := (25, .iload_n 3, 1)) rfl
theorem dX3_joinAllClear_26 : decode cX3_joinAllClear 26 = .ok (.invokestatic 38, 3) := td tX3_joinAllClear_0_ok 19 (q := (26, .invokestatic 38, 3)) rfl
theorem dX3_joinAllClear_29 : decode cX3_joinAllClear 29 = .ok (.invokestatic 42, 3) := td tX3_joinAllClear_0_ok 20 (q := (29, .invokestatic 42, 3)) rfl
theorem dX3_joinAllClear_32 : decode cX3_joinAllClear 32 = .ok (.invokevirtual 45, 3) := td tX3_joinAllClear_0_ok 21 (q := (32, .invokevirtual 45, 3)) rfl
theorem dX3_joinAllClear_35 : decode cX3_joinAllClear 35 = .ok (.iinc 1 1, 3) := td tX3_joinAllClear_0_ok 22 (q := (35, .iinc 1 1, 3)) rfl
theorem dX3_joinAllClear_38 : decode cX3_joinAllClear 38 = .ok (.iinc 2 1, 3) := td tX3_joinAllClear_0_ok 23 (q := (38, .iinc 2 1, 3)) rfl
theorem dX3_joinAllClear_41 : decode cX3_joinAllClear 41 = .ok (.goto (-37), 3) := td tX3_joinAllClear_0_ok 24 (q := (41, .goto (-37), 3)) rfl
theorem dX3_joinAllClear_44 : decode cX3_joinAllClear 44 = .ok (.iload_n 1, 1) := td tX3_joinAllClear_0_ok 25 (q := (44, .iload_n 1, 1)) rfl
theorem dX3_joinAllClear_45 : decode cX3_joinAllClear 45 = .ok (.ireturn, 1) := td tX3_joinAllClear_0_ok 26 (q := (45, .ireturn, 1)) rfl
def fX3_joinAllClear_4 (k4 : Int32 → (Nat → Int32) → Option (Int32 × (Nat → Int32))) : Nat → Int32 → Int32 → (Nat → Int32) → Option (Int32 × (Nat → Int32))
  | 0, _, _, _ => none
  | n4 + 1, x1, x2, kc => (if (10 : Int32) ≤ x2 then (k4 x1 kc) else (Option.bind (fX3_lowestClear kc) (fun q2 => (if q2 = (-1 : Int32) then (some (x1, kc)) else (Option.bind (fX3_lowersOf kc q2) (fun q4 => (Option.bind (fX8_lowestOf q4) (fun q5 => (Option.bind (fX0_link kc q2 q5) (fun q6 => (fX3_joinAllClear_4 k4 n4 (x1 + (1 : Int32)) (x2 + (1 : Int32)) q6)))))))))))
def fX3_joinAllClear (kc : (Nat → Int32)) : Option (Int32 × (Nat → Int32)) :=
  (fX3_joinAllClear_4 (fun (u1_7 : Int32) (kc_u7 : (Nat → Int32)) => (some (u1_7, kc_u7))) LF (0 : Int32) (0 : Int32) kc)
set_option maxHeartbeats 4000000 in
set_option maxRecDepth 100000 in
theorem mX3_joinAllClear {l : Launch} {D : va_G} {ad : Nat → Nat} {cI : ClassId} {kc : (Nat → Int32)} {ksv : (Nat → Int32)} {kbc : (Nat → Int32)} {kit : (Nat → Int32)} {kln : (Nat → Int32)} {ken : (Nat → Int32)} {kla : (Nat → Int32)} {kfi : (Nat → Int32)} {kea : (Nat → Int32)} {kns : Int32} {kbl : Int32} {kr0 : Int32} {kr1 : Int32} {kr2 : Int32} {kr3 : Int32} {kr4 : Int32} {kr5 : Int32} {klr : Int32} {kp0 : Int32} {kp1 : Int32} {kp2 : Int32} {kp3 : Int32} {r : Int32} {kc' : (Nat → Int32)} (hs : fX3_joinAllClear kc = some (r, kc')) : nd_C l yX3_joinAllClear cX3_joinAllClear 4 (some .int) 5 112 D [(cI, .int)] [.ref (ad 1)] (CW ad cI kc ksv kbc kit kln ken kla kfi kea kns kbl kr0 kr1 kr2 kr3 kr4 kr5 klr kp0 kp1 kp2 kp3) (CW ad cI kc' ksv kbc kit kln ken kla kfi kea kns kbl kr0 kr1 kr2 kr3 kr4 kr5 klr kp0 kp1 kp2 kp3) (some (.int r)) := by
  refine nd_ofCi (by decide) (Nat.le_of_ble_eq_true rfl) (fun p e s m args below meth c_ ls A Q hx hb hml hown hts hl hP hK hD hS hA hN hret => ?_)
  have hown : s.vm.findClass RX3 = some m.cls := hown
  have hl : lv_has ls 4 [(0, .ref (ad 1))] := hl
  have hret : ∀ (z0 : Int32) (z1 : (Nat → Int32)) {H : Heap} {locs : List Loc} {pc : Nat} {ls : Array Slot}, some (z0, z1) = some (r, kc') → va_P D vwCl (CW ad cI z1 ksv kbc kit kln ken kla kfi kea kns kbl kr0 kr1 kr2 kr3 kr4 kr5 klr kp0 kp1 kp2 kp3) H → va_S A s.heap H locs → decode cX3_joinAllClear pc = .ok (.ireturn, 1) → W p l e ⟨5, 0, 0, 112⟩ s m args below meth c_ H locs 0 0 Q (F0 m pc ls [.int z0]) := by
    intro z0 z1 H locs pc ls h hP hS hd
    cases h
    exact hret hP hS hd
  rw [fX3_joinAllClear] at hs
  refine lv_iconst (v := (0 : Int32)) hx hb dX3_joinAllClear_0 (by decide) ?_
  refine lv_istore_n (lv' := [(1, .int (0 : Int32)), (0, .ref (ad 1))]) hx hb dX3_joinAllClear_1 rfl hl (by decide) rfl (fun ls hl => ?_)
  refine lv_iconst (v := (0 : Int32)) hx hb dX3_joinAllClear_2 (by decide) ?_
  refine lv_istore_n (lv' := [(2, .int (0 : Int32)), (1, .int (0 : Int32)), (0, .ref (ad 1))]) hx hb dX3_joinAllClear_3 rfl hl (by decide) rfl (fun ls hl => ?_)
  have L4 : ∀ (n4 : Nat) (k4 : Int32 → (Nat → Int32) → Option (Int32 × (Nat → Int32))) (v1_7 : Int32) (v2_7 : Int32) (kc_7 : (Nat → Int32)) (H : Heap) (locs : List Loc) (ls : Array Slot), lv_has ls 4 [(0, .ref (ad 1)), (1, .int v1_7), (2, .int v2_7)] → va_P D vwCl (CW ad cI kc_7 ksv kbc kit kln ken kla kfi kea kns kbl kr0 kr1 kr2 kr3 kr4 kr5 klr kp0 kp1 kp2 kp3) H → va_S A s.heap H locs → fX3_joinAllClear_4 k4 n4 v1_7 v2_7 kc_7 = some (r, kc') → (∀ (u1_7 : Int32) (kc_u7 : (Nat → Int32)) (H : Heap) (locs : List Loc) (ls : Array Slot), lv_has ls 4 [(1, .int u1_7)] → va_P D vwCl (CW ad cI kc_u7 ksv kbc kit kln ken kla kfi kea kns kbl kr0 kr1 kr2 kr3 kr4 kr5 klr kp0 kp1 kp2 kp3) H → va_S A s.heap H locs → k4 u1_7 kc_u7 = some (r, kc') → W p l e ⟨5, 0, 0, 112⟩ s m args below meth c_ H locs 0 0 Q (F0 m 44 ls [])) → W p l e ⟨5, 0, 0, 112⟩ s m args below meth c_ H locs 0 0 Q (F0 m 4 ls []) := by
    intro n4
    induction n4 with
    | zero =>
      intro k4 v1_7 v2_7 kc_7 H locs ls hl hP hS hs hk4
      rw [fX3_joinAllClear_4] at hs
      cases hs
    | succ n4 ih4 =>
      intro k4 v1_7 v2_7 kc_7 H locs ls hl hP hS hs hk4
      rw [fX3_joinAllClear_4] at hs
      have hD : va_D A (CW ad cI kc_7 ksv kbc kit kln ken kla kfi kea kns kbl kr0 kr1 kr2 kr3 kr4 kr5 klr kp0 kp1 kp2 kp3) := nd_DD hD rfl
      refine lv_iload_n hx hb dX3_joinAllClear_4 rfl (lv_at hl 2 rfl) ?_
      refine lv_bipush (v := (10 : Int32)) hx hb dX3_joinAllClear_5 (by decide) ?_
      refine lv_icmp_ge (tgt := 44) hx hb dX3_joinAllClear_7 (by decide) (fun b8 => ?_) (fun b8 => ?_)
      · have hs := ite_t hs b8
        exact hk4 v1_7 kc_7 _ _ _ (lv_sub hl [1] rfl) hP hS hs
      · have hs := ite_f hs b8
        refine lv_aload_n hx hb dX3_joinAllClear_10 rfl (lv_at hl 0 rfl) ?_
        obtain ⟨q9, eq9, hs⟩ := ob hs
        refine nd_callS (As := [.ref (ad 1)]) (rest := []) (st1 := [.int q9]) hx hb hml hown hts hl hP hK hD hS hA hN (mX3_lowestClear eq9) is_X3_lowestClear wd_441 rfl rfl ⟨Nat.le_of_ble_eq_true rfl, Nat.le_of_ble_eq_true rfl⟩ (Nat.le_of_ble_eq_true rfl) ⟨Nat.zero_le _, Nat.zero_le _⟩ dX3_joinAllClear_11 rfl rfl (fun H locs hP hD hS => ?_)
        refine lv_istore_n (lv' := [(3, .int q9), (0, .ref (ad 1)), (1, .int v1_7), (2, .int v2_7)]) hx hb dX3_joinAllClear_14 rfl hl (by decide) rfl (fun ls hl => ?_)
        refine lv_iload_n hx hb dX3_joinAllClear_15 rfl (lv_at hl 0 rfl) ?_
        refine lv_iconst (v := (-1 : Int32)) hx hb dX3_joinAllClear_16 (by decide) ?_
        refine lv_icmp_ne (tgt := 22) hx hb dX3_joinAllClear_17 (by decide) (fun b10 => ?_) (fun b10 => ?_)
        · have hs := ite_f hs b10
          refine lv_aload_n hx hb dX3_joinAllClear_22 rfl (lv_at hl 1 rfl) ?_
          refine lv_iload_n hx hb dX3_joinAllClear_23 rfl (lv_at hl 0 rfl) ?_
          refine lv_aload_n hx hb dX3_joinAllClear_24 rfl (lv_at hl 1 rfl) ?_
          refine lv_iload_n hx hb dX3_joinAllClear_25 rfl (lv_at hl 0 rfl) ?_
          obtain ⟨q11, eq11, hs⟩ := ob hs
          refine nd_callS (As := [.ref (ad 1), .int q9]) (rest := [.int q9, .ref (ad 1)]) (st1 := [.int q11, .int q9, .ref (ad 1)]) hx hb hml hown hts hl hP hK hD hS hA hN (mX3_lowersOf eq11) is_X3_lowersOf wd_445 rfl rfl ⟨Nat.le_of_ble_eq_true rfl, Nat.le_of_ble_eq_true rfl⟩ (Nat.le_of_ble_eq_true rfl) ⟨Nat.zero_le _, Nat.zero_le _⟩ dX3_joinAllClear_26 rfl rfl (fun H locs hP hD hS => ?_)
          obtain ⟨q12, eq12, hs⟩ := ob hs
          refine nd_callN (As := [.int q11]) (rest := [.int q9, .ref (ad 1)]) (st1 := [.int q12, .int q9, .ref (ad 1)]) hx hb hml hown hts hl hP hK hD hS hA hN (mX8_lowestOf eq12) is_X8_lowestOf hN.1 rfl rfl ⟨Nat.le_of_ble_eq_true rfl, Nat.le_of_ble_eq_true rfl⟩ (Nat.le_of_ble_eq_true rfl) ⟨Nat.zero_le _, Nat.zero_le _⟩ dX3_joinAllClear_29 rfl rfl (fun H locs hP hD hS => ?_)
          obtain ⟨q13, eq13, hs⟩ := ob hs
          refine nd_callV (As := [.int q9, .int q12]) (rest := []) (st1 := []) hx hb hml hown hts hl hP hK hD hS hA hN (mX0_link eq13) iv_X0_link wd_462 1 rfl rfl rfl rfl ⟨Nat.le_of_ble_eq_true rfl, Nat.le_of_ble_eq_true rfl⟩ (Nat.le_of_ble_eq_true rfl) ⟨Nat.zero_le _, Nat.zero_le _⟩ dX3_joinAllClear_32 rfl rfl (fun H locs hP hD hS => ?_)
          refine lv_iinc (v := v1_7 + (1 : Int32)) (lv' := [(1, .int (v1_7 + (1 : Int32))), (3, .int q9), (0, .ref (ad 1)), (2, .int v2_7)]) hx hb dX3_joinAllClear_35 hl (k := 2) rfl rfl (by decide) rfl (fun ls hl => ?_)
          refine lv_iinc (v := v2_7 + (1 : Int32)) (lv' := [(2, .int (v2_7 + (1 : Int32))), (1, .int (v1_7 + (1 : Int32))), (3, .int q9), (0, .ref (ad 1))]) hx hb dX3_joinAllClear_38 hl (k := 3) rfl rfl (by decide) rfl (fun ls hl => ?_)
          refine lv_goto (tgt := 4) hx hb dX3_joinAllClear_41 (by decide) ?_
          exact ih4 k4 (v1_7 + (1 : Int32)) (v2_7 + (1 : Int32)) q13 _ _ _ (lv_sub hl [3, 1, 0] rfl) hP hS hs hk4
        · have hs := ite_t hs b10
          refine lv_iload_n hx hb dX3_joinAllClear_20 rfl (lv_at hl 2 rfl) ?_
          exact hret _ _ hs hP hS dX3_joinAllClear_21
  refine L4 LF _ (0 : Int32) (0 : Int32) kc _ _ _ (lv_sub hl [2, 1, 0] rfl) hP hS hs (fun u1_7 kc_u7 H locs ls hl hP hS hs => ?_)
  have hD : va_D A (CW ad cI kc_u7 ksv kbc kit kln ken kla kfi kea kns kbl kr0 kr1 kr2 kr3 kr4 kr5 klr kp0 kp1 kp2 kp3) := nd_DD hD rfl
  refine lv_iload_n hx hb dX3_joinAllClear_44 rfl (lv_at hl 0 rfl) ?_
  exact hret _ _ hs hP hS dX3_joinAllClear_45
def tX4_slotInOrder_0 : List (Nat × Instr × Nat) := [(0, .iload_n 1, 1), (1, .ifCond .lt 18, 3), (4, .iload_n 1, 1), (5, .bipush 60, 2), (7, .if_icmp .ge 12, 3), (10, .aload_n 0, 1), (11, .getfield 9, 3), (14, .iload_n 1, 1), (15, .iaload, 1), (16, .goto 4, 3), (19, .iconst 0, 1), (20, .ireturn, 1)]
theorem tX4_slotInOrder_0_ok : tX4_slotInOrder_0.all (fun q => decide (decode cX4_slotInOrder q.1 = .ok q.2)) = true := by decide +kernel
theorem dX4_slotInOrder_0 : decode cX4_slotInOrder 0 = .ok (.iload_n 1, 1) := td tX4_slotInOrder_0_ok 0 (q := (0, .iload_n 1, 1)) rfl
theorem dX4_slotInOrder_1 : decode cX4_slotInOrder 1 = .ok (.ifCond .lt 18, 3) := td tX4_slotInOrder_0_ok 1 (q := (1, .ifCond .lt 18, 3)) rfl
theorem dX4_slotInOrder_4 : decode cX4_slotInOrder 4 = .ok (.iload_n 1, 1) := td tX4_slotInOrder_0_ok 2 (q := (4, .iload_n 1, 1)) rfl
theorem dX4_slotInOrder_5 : decode cX4_slotInOrder 5 = .ok (.bipush 60, 2) := td tX4_slotInOrder_0_ok 3 (q := (5, .bipush 60, 2)) rfl
theorem dX4_slotInOrder_7 : decode cX4_slotInOrder 7 = .ok (.if_icmp .ge 12, 3) := td tX4_slotInOrder_0_ok 4 (q := (7, .if_icmp .ge 12, 3)) rfl
theorem dX4_slotInOrder_10 : decode cX4_slotInOrder 10 = .ok (.aload_n 0, 1) := td tX4_slotInOrder_0_ok 5 (q := (10, .aload_n 0, 1)) rfl
theorem dX4_slotInOrder_11 : decode cX4_slotInOrder 11 = .ok (.getfield 9, 3) := td tX4_slotInOrder_0_ok 6 (q := (11, .getfield 9, 3)) rfl
theorem dX4_slotInOrder_14 : decode cX4_slotInOrder 14 = .ok (.iload_n 1, 1) := td tX4_slotInOrder_0_ok 7 (q := (14, .iload_n 1, 1)) rfl
theorem dX4_slotInOrder_15 : decode cX4_slotInOrder 15 = .ok (.iaload, 1) := td tX4_slotInOrder_0_ok 8 (q := (15, .iaload, 1)) rfl
theorem dX4_slotInOrder_16 : decode cX4_slotInOrder 16 = .ok (.goto 4, 3) := td tX4_slotInOrder_0_ok 9 (q := (16, .goto 4, 3)) rfl
theorem dX4_slotInOrder_19 : decode cX4_slotInOrder 19 = .ok (.iconst 0, 1) := td tX4_slotInOrder_0_ok 10 (q := (19, .iconst 0, 1)) rfl
theorem dX4_slotInOrder_20 : decode cX4_slotInOrder 20 = .ok (.ireturn, 1) := td tX4_slotInOrder_0_ok 11 (q := (20, .ireturn, 1)) rfl
def fX4_slotInOrder (kln : (Nat → Int32)) (x1 : Int32) : Option (Int32) :=
  (if x1 < 0 then (some (0 : Int32)) else (if (60 : Int32) ≤ x1 then (some (0 : Int32)) else (Option.bind (aget kln 60 x1) (fun t3 => (some t3)))))
set_option maxHeartbeats 4000000 in
set_option maxRecDepth 100000 in
theorem mX4_slotInOrder {l : Launch} {D : va_G} {ad : Nat → Nat} {cI : ClassId} {kc : (Nat → Int32)} {ksv : (Nat → Int32)} {kbc : (Nat → Int32)} {kit : (Nat → Int32)} {kln : (Nat → Int32)} {ken : (Nat → Int32)} {kla : (Nat → Int32)} {kfi : (Nat → Int32)} {kea : (Nat → Int32)} {kns : Int32} {kbl : Int32} {kr0 : Int32} {kr1 : Int32} {kr2 : Int32} {kr3 : Int32} {kr4 : Int32} {kr5 : Int32} {klr : Int32} {kp0 : Int32} {kp1 : Int32} {kp2 : Int32} {kp3 : Int32} {x1 : Int32} {r : Int32} (hs : fX4_slotInOrder kln x1 = some r) : nd_C l yX4_slotInOrder cX4_slotInOrder 2 (some .int) 0 0 D [(cI, .int)] [.ref (ad 4), .int x1] (CW ad cI kc ksv kbc kit kln ken kla kfi kea kns kbl kr0 kr1 kr2 kr3 kr4 kr5 klr kp0 kp1 kp2 kp3) (CW ad cI kc ksv kbc kit kln ken kla kfi kea kns kbl kr0 kr1 kr2 kr3 kr4 kr5 klr kp0 kp1 kp2 kp3) (some (.int r)) := by
  refine nd_ofCi (by decide) (Nat.le_of_ble_eq_true rfl) (fun p e s m args below meth c_ ls A Q hx hb hml hown hts hl hP hK hD hS hA hN hret => ?_)
  have hown : s.vm.findClass RX4 = some m.cls := hown
  have hl : lv_has ls 2 [(0, .ref (ad 4)), (1, .int x1)] := hl
  have hret : ∀ (z0 : Int32) {H : Heap} {locs : List Loc} {pc : Nat} {ls : Array Slot}, some z0 = some r → va_P D vwCl (CW ad cI kc ksv kbc kit kln ken kla kfi kea kns kbl kr0 kr1 kr2 kr3 kr4 kr5 klr kp0 kp1 kp2 kp3) H → va_S A s.heap H locs → decode cX4_slotInOrder pc = .ok (.ireturn, 1) → W p l e ⟨0, 0, 0, 0⟩ s m args below meth c_ H locs 0 0 Q (F0 m pc ls [.int z0]) := by
    intro z0 H locs pc ls h hP hS hd
    cases h
    exact hret hP hS hd
  rw [fX4_slotInOrder] at hs
  refine lv_iload_n hx hb dX4_slotInOrder_0 rfl (lv_at hl 1 rfl) ?_
  refine lv_if_lt (tgt := 19) hx hb dX4_slotInOrder_1 (by decide) (fun b1 => ?_) (fun b1 => ?_)
  · have hs := ite_t hs b1
    refine lv_iconst (v := (0 : Int32)) hx hb dX4_slotInOrder_19 (by decide) ?_
    exact hret _ hs hP hS dX4_slotInOrder_20
  · have hs := ite_f hs b1
    refine lv_iload_n hx hb dX4_slotInOrder_4 rfl (lv_at hl 1 rfl) ?_
    refine lv_bipush (v := (60 : Int32)) hx hb dX4_slotInOrder_5 (by decide) ?_
    refine lv_icmp_ge (tgt := 19) hx hb dX4_slotInOrder_7 (by decide) (fun b2 => ?_) (fun b2 => ?_)
    · have hs := ite_t hs b2
      refine lv_iconst (v := (0 : Int32)) hx hb dX4_slotInOrder_19 (by decide) ?_
      exact hret _ hs hP hS dX4_slotInOrder_20
    · have hs := ite_f hs b2
      refine lv_aload_n hx hb dX4_slotInOrder_10 rfl (lv_at hl 0 rfl) ?_
      refine gf_X4_9 hx hb hts hown hK hP 4 rfl rfl dX4_slotInOrder_11 ?_
      refine lv_iload_n hx hb dX4_slotInOrder_14 rfl (lv_at hl 1 rfl) ?_
      obtain ⟨t3, et3, hs⟩ := ob hs
      refine nd_iald hx hb hK hP 10 0 rfl rfl et3 dX4_slotInOrder_15 ?_
      refine lv_goto (tgt := 20) hx hb dX4_slotInOrder_16 (by decide) ?_
      exact hret _ hs hP hS dX4_slotInOrder_20
def tX4_put_0 : List (Nat × Instr × Nat) := [(0, .iload_n 1, 1), (1, .ifCond .lt 16, 3), (4, .iload_n 1, 1), (5, .bipush 60, 2), (7, .if_icmp .ge 10, 3), (10, .aload_n 0, 1), (11, .getfield 9, 3), (14, .iload_n 1, 1), (15, .iload_n 2, 1), (16, .iastore, 1), (17, .return_, 1)]
theorem tX4_put_0_ok : tX4_put_0.all (fun q => decide (decode cX4_put q.1 = .ok q.2)) = true := by decide +kernel
theorem dX4_put_0 : decode cX4_put 0 = .ok (.iload_n 1, 1) := td tX4_put_0_ok 0 (q := (0, .iload_n 1, 1)) rfl
theorem dX4_put_1 : decode cX4_put 1 = .ok (.ifCond .lt 16, 3) := td tX4_put_0_ok 1 (q := (1, .ifCond .lt 16, 3)) rfl
theorem dX4_put_4 : decode cX4_put 4 = .ok (.iload_n 1, 1) := td tX4_put_0_ok 2 (q := (4, .iload_n 1, 1)) rfl
theorem dX4_put_5 : decode cX4_put 5 = .ok (.bipush 60, 2) := td tX4_put_0_ok 3 (q := (5, .bipush 60, 2)) rfl
theorem dX4_put_7 : decode cX4_put 7 = .ok (.if_icmp .ge 10, 3) := td tX4_put_0_ok 4 (q := (7, .if_icmp .ge 10, 3)) rfl
theorem dX4_put_10 : decode cX4_put 10 = .ok (.aload_n 0, 1) := td tX4_put_0_ok 5 (q := (10, .aload_n 0, 1)) rfl
theorem dX4_put_11 : decode cX4_put 11 = .ok (.getfield 9, 3) := td tX4_put_0_ok 6 (q := (11, .getfield 9, 3)) rfl
theorem dX4_put_14 : decode cX4_put 14 = .ok (.iload_n 1, 1) := td tX4_put_0_ok 7 (q := (14, .iload_n 1, 1)) rfl
theorem dX4_put_15 : decode cX4_put 15 = .ok (.iload_n 2, 1) := td tX4_put_0_ok 8 (q := (15, .iload_n 2, 1)) rfl
theorem dX4_put_16 : decode cX4_put 16 = .ok (.iastore, 1) := td tX4_put_0_ok 9 (q := (16, .iastore, 1)) rfl
theorem dX4_put_17 : decode cX4_put 17 = .ok (.return_, 1) := td tX4_put_0_ok 10 (q := (17, .return_, 1)) rfl
def fX4_put (kln : (Nat → Int32)) (x1 : Int32) (x2 : Int32) : Option ((Nat → Int32)) :=
  (if x1 < 0 then (some kln) else (if (60 : Int32) ≤ x1 then (some kln) else (Option.bind (aput kln 60 x1 x2) (fun c3 => (some c3)))))
set_option maxHeartbeats 4000000 in
set_option maxRecDepth 100000 in
theorem mX4_put {l : Launch} {D : va_G} {ad : Nat → Nat} {cI : ClassId} {kc : (Nat → Int32)} {ksv : (Nat → Int32)} {kbc : (Nat → Int32)} {kit : (Nat → Int32)} {kln : (Nat → Int32)} {ken : (Nat → Int32)} {kla : (Nat → Int32)} {kfi : (Nat → Int32)} {kea : (Nat → Int32)} {kns : Int32} {kbl : Int32} {kr0 : Int32} {kr1 : Int32} {kr2 : Int32} {kr3 : Int32} {kr4 : Int32} {kr5 : Int32} {klr : Int32} {kp0 : Int32} {kp1 : Int32} {kp2 : Int32} {kp3 : Int32} {x1 : Int32} {x2 : Int32} {kln' : (Nat → Int32)} (hs : fX4_put kln x1 x2 = some kln') : nd_C l yX4_put cX4_put 3 none 0 0 D [(cI, .int)] [.ref (ad 4), .int x1, .int x2] (CW ad cI kc ksv kbc kit kln ken kla kfi kea kns kbl kr0 kr1 kr2 kr3 kr4 kr5 klr kp0 kp1 kp2 kp3) (CW ad cI kc ksv kbc kit kln' ken kla kfi kea kns kbl kr0 kr1 kr2 kr3 kr4 kr5 klr kp0 kp1 kp2 kp3) none := by
  refine nd_ofCv (by decide) (Nat.le_of_ble_eq_true rfl) (fun p e s m args below meth c_ ls A Q hx hb hml hown hts hl hP hK hD hS hA hN hret => ?_)
  have hown : s.vm.findClass RX4 = some m.cls := hown
  have hl : lv_has ls 3 [(0, .ref (ad 4)), (1, .int x1), (2, .int x2)] := hl
  have hret : ∀ (z0 : (Nat → Int32)) {H : Heap} {locs : List Loc} {pc : Nat} {ls : Array Slot}, some z0 = some kln' → va_P D vwCl (CW ad cI kc ksv kbc kit z0 ken kla kfi kea kns kbl kr0 kr1 kr2 kr3 kr4 kr5 klr kp0 kp1 kp2 kp3) H → va_S A s.heap H locs → decode cX4_put pc = .ok (.return_, 1) → W p l e ⟨0, 0, 0, 0⟩ s m args below meth c_ H locs 0 0 Q (F0 m pc ls []) := by
    intro z0 H locs pc ls h hP hS hd
    cases h
    exact hret hP hS hd
  rw [fX4_put] at hs
  refine lv_iload_n hx hb dX4_put_0 rfl (lv_at hl 1 rfl) ?_
  refine lv_if_lt (tgt := 17) hx hb dX4_put_1 (by decide) (fun b1 => ?_) (fun b1 => ?_)
  · have hs := ite_t hs b1
    exact hret _ hs hP hS dX4_put_17
  · have hs := ite_f hs b1
    refine lv_iload_n hx hb dX4_put_4 rfl (lv_at hl 1 rfl) ?_
    refine lv_bipush (v := (60 : Int32)) hx hb dX4_put_5 (by decide) ?_
    refine lv_icmp_ge (tgt := 17) hx hb dX4_put_7 (by decide) (fun b2 => ?_) (fun b2 => ?_)
    · have hs := ite_t hs b2
      exact hret _ hs hP hS dX4_put_17
    · have hs := ite_f hs b2
      refine lv_aload_n hx hb dX4_put_10 rfl (lv_at hl 0 rfl) ?_
      refine gf_X4_9 hx hb hts hown hK hP 4 rfl rfl dX4_put_11 ?_
      refine lv_iload_n hx hb dX4_put_14 rfl (lv_at hl 1 rfl) ?_
      refine lv_iload_n hx hb dX4_put_15 rfl (lv_at hl 2 rfl) ?_
      obtain ⟨c3, ec3, hs⟩ := ob hs
      refine nd_iast hx hb hK hP hD hS 10 0 rfl rfl ec3 dX4_put_16 (fun H locs hP hD hS => ?_)
      have hP : va_P D vwCl (CW ad cI kc ksv kbc kit c3 ken kla kfi kea kns kbl kr0 kr1 kr2 kr3 kr4 kr5 klr kp0 kp1 kp2 kp3) H := hP
      have hD : va_D A (CW ad cI kc ksv kbc kit c3 ken kla kfi kea kns kbl kr0 kr1 kr2 kr3 kr4 kr5 klr kp0 kp1 kp2 kp3) := hD
      exact hret _ hs hP hS dX4_put_17
def tX4_insert_0 : List (Nat × Instr × Nat) := [(0, .aload_n 1, 1), (1, .bipush 51, 2), (3, .iload_n 2, 1), (4, .iadd, 1), (5, .invokevirtual 29, 3), (8, .istore_n 3, 1), (9, .aload_n 0, 1), (10, .getfield 15, 3), (13, .istore 4, 2), (15, .iload 4, 2), (17, .ifCond .le 42, 3), (20, .aload_n 1, 1), (21, .bipush 51, 2), (23, .aload_n 0, 1), (24, .iload 4, 2), (26, .iconst 1, 1), (27, .isub, 1), (28, .invokevirtual 33, 3), (31, .iadd, 1), (32, .invokevirtual 29, 3), (35, .iload_n 3, 1), (36, .if_icmp .le 23, 3), (39, .aload_n 0, 1), (40, .iload 4, 2), (42, .aload_n 0, 1), (43, .iload 4, 2), (45, .iconst 1, 1), (46, .isub, 1), (47, .invokevirtual 33, 3), (50, .invokevirtual 36, 3), (53, .iinc 4 (-1), 3), (56, .goto (-41), 3), (59, .aload_n 0, 1), (60, .iload 4, 2), (62, .iload_n 2, 1), (63, .invokevirtual 36, 3), (66, .aload_n 0, 1), (67, .dup, 1), (68, .getfield 15, 3), (71, .iconst 1, 1), (72, .iadd, 1), (73, .putfield 15, 3), (76, .return_, 1)]
theorem tX4_insert_0_ok : tX4_insert_0.all (fun q => decide (decode cX4_insert q.1 = .ok q.2)) = true := by decide +kernel
theorem dX4_insert_0 : decode cX4_insert 0 = .ok (.aload_n 1, 1) := td tX4_insert_0_ok 0 (q := (0, .aload_n 1, 1)) rfl
theorem dX4_insert_1 : decode cX4_insert 1 = .ok (.bipush 51, 2) := td tX4_insert_0_ok 1 (q := (1, .bipush 51, 2)) rfl
theorem dX4_insert_3 : decode cX4_insert 3 = .ok (.iload_n 2, 1) := td tX4_insert_0_ok 2 (q := (3, .iload_n 2, 1)) rfl
theorem dX4_insert_4 : decode cX4_insert 4 = .ok (.iadd, 1) := td tX4_insert_0_ok 3 (q := (4, .iadd, 1)) rfl
theorem dX4_insert_5 : decode cX4_insert 5 = .ok (.invokevirtual 29, 3) := td tX4_insert_0_ok 4 (q := (5, .invokevirtual 29, 3)) rfl
theorem dX4_insert_8 : decode cX4_insert 8 = .ok (.istore_n 3, 1) := td tX4_insert_0_ok 5 (q := (8, .istore_n 3, 1)) rfl
theorem dX4_insert_9 : decode cX4_insert 9 = .ok (.aload_n 0, 1) := td tX4_insert_0_ok 6 (q := (9, .aload_n 0, 1)) rfl
theorem dX4_insert_10 : decode cX4_insert 10 = .ok (.getfield 15, 3) := td tX4_insert_0_ok 7 (q := (10, .getfield 15, 3)) rfl
theorem dX4_insert_13 : decode cX4_insert 13 = .ok (.istore 4, 2) := td tX4_insert_0_ok 8 (q := (13, .istore 4, 2)) rfl
theorem dX4_insert_15 : decode cX4_insert 15 = .ok (.iload 4, 2) := td tX4_insert_0_ok 9 (q := (15, .iload 4, 2)) rfl
theorem dX4_insert_17 : decode cX4_insert 17 = .ok (.ifCond .le 42, 3) := td tX4_insert_0_ok 10 (q := (17, .ifCond .le 42, 3)) rfl
theorem dX4_insert_20 : decode cX4_insert 20 = .ok (.aload_n 1, 1) := td tX4_insert_0_ok 11 (q := (20, .aload_n 1, 1)) rfl
theorem dX4_insert_21 : decode cX4_insert 21 = .ok (.bipush 51, 2) := td tX4_insert_0_ok 12 (q := (21, .bipush 51, 2)) rfl
theorem dX4_insert_23 : decode cX4_insert 23 = .ok (.aload_n 0, 1) := td tX4_insert_0_ok 13 (q := (23, .aload_n 0, 1)) rfl
theorem dX4_insert_24 : decode cX4_insert 24 = .ok (.iload 4, 2) := td tX4_insert_0_ok 14 (q := (24, .iload 4, 2)) rfl
theorem dX4_insert_26 : decode cX4_insert 26 = .ok (.iconst 1, 1) := td tX4_insert_0_ok 15 (q := (26, .iconst 1, 1)) rfl
theorem dX4_insert_27 : decode cX4_insert 27 = .ok (.isub, 1) := td tX4_insert_0_ok 16 (q := (27, .isub, 1)) rfl
theorem dX4_insert_28 : decode cX4_insert 28 = .ok (.invokevirtual 33, 3) := td tX4_insert_0_ok 17 (q := (28, .invokevirtual 33, 3)) rfl
theorem dX4_insert_31 : decode cX4_insert 31 = .ok (.iadd, 1) := td tX4_insert_0_ok 18 (q := (31, .iadd, 1)) rfl
theorem dX4_insert_32 : decode cX4_insert 32 = .ok (.invokevirtual 29, 3) := td tX4_insert_0_ok 19 (q := (32, .invokevirtual 29, 3)) rfl
theorem dX4_insert_35 : decode cX4_insert 35 = .ok (.iload_n 3, 1) := td tX4_insert_0_ok 20 (q := (35, .iload_n 3, 1)) rfl
theorem dX4_insert_36 : decode cX4_insert 36 = .ok (.if_icmp .le 23, 3) := td tX4_insert_0_ok 21 (q := (36, .if_icmp .le 23, 3)) rfl
theorem dX4_insert_39 : decode cX4_insert 39 = .ok (.aload_n 0, 1) := td tX4_insert_0_ok 22 (q := (39, .aload_n 0, 1)) rfl
theorem dX4_insert_40 : decode cX4_insert 40 = .ok (.iload 4, 2) := td tX4_insert_0_ok 23 (q := (40, .iload 4, 2)) rfl
theorem dX4_insert_42 : decode cX4_insert 42 = .ok (.aload_n 0, 1) := td tX4_insert_0_ok 24 (q := (42, .aload_n 0, 1)) rfl
theorem dX4_insert_43 : decode cX4_insert 43 = .ok (.iload 4, 2) := td tX4_insert_0_ok 25 (q := (43, .iload 4, 2)) rfl
theorem dX4_insert_45 : decode cX4_insert 45 = .ok (.iconst 1, 1) := td tX4_insert_0_ok 26 (q := (45, .iconst 1, 1)) rfl
theorem dX4_insert_46 : decode cX4_insert 46 = .ok (.isub, 1) := td tX4_insert_0_ok 27 (q := (46, .isub, 1)) rfl
theorem dX4_insert_47 : decode cX4_insert 47 = .ok (.invokevirtual 33, 3) := td tX4_insert_0_ok 28 (q := (47, .invokevirtual 33, 3)) rfl
theorem dX4_insert_50 : decode cX4_insert 50 = .ok (.invokevirtual 36, 3) := td tX4_insert_0_ok 29 (q := (50, .invokevirtual 36, 3)) rfl
theorem dX4_insert_53 : decode cX4_insert 53 = .ok (.iinc 4 (-1), 3) := td tX4_insert_0_ok 30 (q := (53, .iinc 4 (-1), 3)) rfl
theorem dX4_insert_56 : decode cX4_insert 56 = .ok (.goto (-41), 3) := td tX4_insert_0_ok 31 (q := (56, .goto (-41), 3)) rfl
theorem dX4_insert_59 : decode cX4_insert 59 = .ok (.aload_n 0, 1) := td tX4_insert_0_ok 32 (q := (59, .aload_n 0, 1)) rfl
theorem dX4_insert_60 : decode cX4_insert 60 = .ok (.iload 4, 2) := td tX4_insert_0_ok 33 (q := (60, .iload 4, 2)) rfl
theorem dX4_insert_62 : decode cX4_insert 62 = .ok (.iload_n 2, 1) := td tX4_insert_0_ok 34 (q := (62, .iload_n 2, 1)) rfl
theorem dX4_insert_63 : decode cX4_insert 63 = .ok (.invokevirtual 36, 3) := td tX4_insert_0_ok 35 (q := (63, .invokevirtual 36, 3)) rfl
theorem dX4_insert_66 : decode cX4_insert 66 = .ok (.aload_n 0, 1) := td tX4_insert_0_ok 36 (q := (66, .aload_n 0, 1)) rfl
theorem dX4_insert_67 : decode cX4_insert 67 = .ok (.dup, 1) := td tX4_insert_0_ok 37 (q := (67, .dup, 1)) rfl
theorem dX4_insert_68 : decode cX4_insert 68 = .ok (.getfield 15, 3) := td tX4_insert_0_ok 38 (q := (68, .getfield 15, 3)) rfl
theorem dX4_insert_71 : decode cX4_insert 71 = .ok (.iconst 1, 1) := td tX4_insert_0_ok 39 (q := (71, .iconst 1, 1)) rfl
theorem dX4_insert_72 : decode cX4_insert 72 = .ok (.iadd, 1) := td tX4_insert_0_ok 40 (q := (72, .iadd, 1)) rfl
theorem dX4_insert_73 : decode cX4_insert 73 = .ok (.putfield 15, 3) := td tX4_insert_0_ok 41 (q := (73, .putfield 15, 3)) rfl
theorem dX4_insert_76 : decode cX4_insert 76 = .ok (.return_, 1) := td tX4_insert_0_ok 42 (q := (76, .return_, 1)) rfl
def fX4_insert_15 (k15 : Int32 → (Nat → Int32) → Option ((Nat → Int32) × Int32)) (kc : (Nat → Int32)) (x2 : Int32) (x3 : Int32) : Nat → Int32 → (Nat → Int32) → Option ((Nat → Int32) × Int32)
  | 0, _, _ => none
  | n15 + 1, x4, kln => (if x4 ≤ 0 then (k15 x4 kln) else (Option.bind (fX4_slotInOrder kln (x4 - (1 : Int32))) (fun q3 => (Option.bind (fX0_get kc ((51 : Int32) + q3)) (fun q4 => (if q4 ≤ x3 then (k15 x4 kln) else (Option.bind (fX4_slotInOrder kln (x4 - (1 : Int32))) (fun q6 => (Option.bind (fX4_put kln x4 q6) (fun q7 => (fX4_insert_15 k15 kc x2 x3 n15 (x4 + (-1 : Int32)) q7)))))))))))
def fX4_insert (kc : (Nat → Int32)) (kln : (Nat → Int32)) (klr : Int32) (x2 : Int32) : Option ((Nat → Int32) × Int32) :=
  (Option.bind (fX0_get kc ((51 : Int32) + x2)) (fun q1 => (fX4_insert_15 (fun (u4_8 : Int32) (kln_u8 : (Nat → Int32)) => (Option.bind (fX4_put kln_u8 u4_8 x2) (fun q15 => (some (q15, klr + (1 : Int32)))))) kc x2 q1 LF klr kln)))
set_option maxHeartbeats 4000000 in
set_option maxRecDepth 100000 in
theorem mX4_insert {l : Launch} {D : va_G} {ad : Nat → Nat} {cI : ClassId} {kc : (Nat → Int32)} {ksv : (Nat → Int32)} {kbc : (Nat → Int32)} {kit : (Nat → Int32)} {kln : (Nat → Int32)} {ken : (Nat → Int32)} {kla : (Nat → Int32)} {kfi : (Nat → Int32)} {kea : (Nat → Int32)} {kns : Int32} {kbl : Int32} {kr0 : Int32} {kr1 : Int32} {kr2 : Int32} {kr3 : Int32} {kr4 : Int32} {kr5 : Int32} {klr : Int32} {kp0 : Int32} {kp1 : Int32} {kp2 : Int32} {kp3 : Int32} {x2 : Int32} {kln' : (Nat → Int32)} {klr' : Int32} (hs : fX4_insert kc kln klr x2 = some (kln', klr')) : nd_C l yX4_insert cX4_insert 5 none 1 22 D [(cI, .int)] [.ref (ad 4), .ref (ad 1), .int x2] (CW ad cI kc ksv kbc kit kln ken kla kfi kea kns kbl kr0 kr1 kr2 kr3 kr4 kr5 klr kp0 kp1 kp2 kp3) (CW ad cI kc ksv kbc kit kln' ken kla kfi kea kns kbl kr0 kr1 kr2 kr3 kr4 kr5 klr' kp0 kp1 kp2 kp3) none := by
  refine nd_ofCv (by decide) (Nat.le_of_ble_eq_true rfl) (fun p e s m args below meth c_ ls A Q hx hb hml hown hts hl hP hK hD hS hA hN hret => ?_)
  have hown : s.vm.findClass RX4 = some m.cls := hown
  have hl : lv_has ls 5 [(0, .ref (ad 4)), (1, .ref (ad 1)), (2, .int x2)] := hl
  have hret : ∀ (z0 : (Nat → Int32)) (z1 : Int32) {H : Heap} {locs : List Loc} {pc : Nat} {ls : Array Slot}, some (z0, z1) = some (kln', klr') → va_P D vwCl (CW ad cI kc ksv kbc kit z0 ken kla kfi kea kns kbl kr0 kr1 kr2 kr3 kr4 kr5 z1 kp0 kp1 kp2 kp3) H → va_S A s.heap H locs → decode cX4_insert pc = .ok (.return_, 1) → W p l e ⟨1, 0, 0, 22⟩ s m args below meth c_ H locs 0 0 Q (F0 m pc ls []) := by
    intro z0 z1 H locs pc ls h hP hS hd
    cases h
    exact hret hP hS hd
  rw [fX4_insert] at hs
  refine lv_aload_n hx hb dX4_insert_0 rfl (lv_at hl 1 rfl) ?_
  refine lv_bipush (v := (51 : Int32)) hx hb dX4_insert_1 (by decide) ?_
  refine lv_iload_n hx hb dX4_insert_3 rfl (lv_at hl 2 rfl) ?_
  refine lv_iadd hx hb dX4_insert_4 ?_
  obtain ⟨q1, eq1, hs⟩ := ob hs
  refine nd_callV (As := [.int ((51 : Int32) + x2)]) (rest := []) (st1 := [.int q1]) hx hb hml hown hts hl hP hK hD hS hA hN (mX0_get eq1) iv_X0_get wd_691 1 rfl rfl rfl rfl ⟨Nat.le_of_ble_eq_true rfl, Nat.le_of_ble_eq_true rfl⟩ (Nat.le_of_ble_eq_true rfl) ⟨Nat.zero_le _, Nat.zero_le _⟩ dX4_insert_5 rfl rfl (fun H locs hP hD hS => ?_)
  refine lv_istore_n (lv' := [(3, .int q1), (0, .ref (ad 4)), (1, .ref (ad 1)), (2, .int x2)]) hx hb dX4_insert_8 rfl hl (by decide) rfl (fun ls hl => ?_)
  refine lv_aload_n hx hb dX4_insert_9 rfl (lv_at hl 1 rfl) ?_
  refine gf_X4_15 hx hb hts hown hK hP 4 rfl rfl dX4_insert_10 ?_
  refine lv_istore (lv' := [(4, .int klr), (3, .int q1), (0, .ref (ad 4)), (1, .ref (ad 1)), (2, .int x2)]) hx hb dX4_insert_13 hl (by decide) rfl (fun ls hl => ?_)
  have L15 : ∀ (n15 : Nat) (k15 : Int32 → (Nat → Int32) → Option ((Nat → Int32) × Int32)) (v4_8 : Int32) (kln_8 : (Nat → Int32)) (H : Heap) (locs : List Loc) (ls : Array Slot), lv_has ls 5 [(0, .ref (ad 4)), (1, .ref (ad 1)), (2, .int x2), (3, .int q1), (4, .int v4_8)] → va_P D vwCl (CW ad cI kc ksv kbc kit kln_8 ken kla kfi kea kns kbl kr0 kr1 kr2 kr3 kr4 kr5 klr kp0 kp1 kp2 kp3) H → va_S A s.heap H locs → fX4_insert_15 k15 kc x2 q1 n15 v4_8 kln_8 = some (kln', klr') → (∀ (u4_8 : Int32) (kln_u8 : (Nat → Int32)) (H : Heap) (locs : List Loc) (ls : Array Slot), lv_has ls 5 [(0, .ref (ad 4)), (2, .int x2), (4, .int u4_8)] → va_P D vwCl (CW ad cI kc ksv kbc kit kln_u8 ken kla kfi kea kns kbl kr0 kr1 kr2 kr3 kr4 kr5 klr kp0 kp1 kp2 kp3) H → va_S A s.heap H locs → k15 u4_8 kln_u8 = some (kln', klr') → W p l e ⟨1, 0, 0, 22⟩ s m args below meth c_ H locs 0 0 Q (F0 m 59 ls [])) → W p l e ⟨1, 0, 0, 22⟩ s m args below meth c_ H locs 0 0 Q (F0 m 15 ls []) := by
    intro n15
    induction n15 with
    | zero =>
      intro k15 v4_8 kln_8 H locs ls hl hP hS hs hk15
      rw [fX4_insert_15] at hs
      cases hs
    | succ n15 ih15 =>
      intro k15 v4_8 kln_8 H locs ls hl hP hS hs hk15
      rw [fX4_insert_15] at hs
      have hD : va_D A (CW ad cI kc ksv kbc kit kln_8 ken kla kfi kea kns kbl kr0 kr1 kr2 kr3 kr4 kr5 klr kp0 kp1 kp2 kp3) := nd_DD hD rfl
      refine lv_iload hx hb dX4_insert_15 (lv_at hl 4 rfl) ?_
      refine lv_if_le (tgt := 59) hx hb dX4_insert_17 (by decide) (fun b9 => ?_) (fun b9 => ?_)
      · have hs := ite_t hs b9
        exact hk15 v4_8 kln_8 _ _ _ (lv_sub hl [0, 2, 4] rfl) hP hS hs
      · have hs := ite_f hs b9
        refine lv_aload_n hx hb dX4_insert_20 rfl (lv_at hl 1 rfl) ?_
        refine lv_bipush (v := (51 : Int32)) hx hb dX4_insert_21 (by decide) ?_
        refine lv_aload_n hx hb dX4_insert_23 rfl (lv_at hl 0 rfl) ?_
        refine lv_iload hx hb dX4_insert_24 (lv_at hl 4 rfl) ?_
        refine lv_iconst (v := (1 : Int32)) hx hb dX4_insert_26 (by decide) ?_
        refine lv_isub hx hb dX4_insert_27 ?_
        obtain ⟨q10, eq10, hs⟩ := ob hs
        refine nd_callV (As := [.int (v4_8 - (1 : Int32))]) (rest := [.int (51 : Int32), .ref (ad 1)]) (st1 := [.int q10, .int (51 : Int32), .ref (ad 1)]) hx hb hml hown hts hl hP hK hD hS hA hN (mX4_slotInOrder eq10) iv_X4_slotInOrder wd_692 4 rfl rfl rfl rfl ⟨Nat.le_of_ble_eq_true rfl, Nat.le_of_ble_eq_true rfl⟩ (Nat.le_of_ble_eq_true rfl) ⟨Nat.zero_le _, Nat.zero_le _⟩ dX4_insert_28 rfl rfl (fun H locs hP hD hS => ?_)
        refine lv_iadd hx hb dX4_insert_31 ?_
        obtain ⟨q11, eq11, hs⟩ := ob hs
        refine nd_callV (As := [.int ((51 : Int32) + q10)]) (rest := []) (st1 := [.int q11]) hx hb hml hown hts hl hP hK hD hS hA hN (mX0_get eq11) iv_X0_get wd_691 1 rfl rfl rfl rfl ⟨Nat.le_of_ble_eq_true rfl, Nat.le_of_ble_eq_true rfl⟩ (Nat.le_of_ble_eq_true rfl) ⟨Nat.zero_le _, Nat.zero_le _⟩ dX4_insert_32 rfl rfl (fun H locs hP hD hS => ?_)
        refine lv_iload_n hx hb dX4_insert_35 rfl (lv_at hl 3 rfl) ?_
        refine lv_icmp_le (tgt := 59) hx hb dX4_insert_36 (by decide) (fun b12 => ?_) (fun b12 => ?_)
        · have hs := ite_t hs b12
          exact hk15 v4_8 kln_8 _ _ _ (lv_sub hl [0, 2, 4] rfl) hP hS hs
        · have hs := ite_f hs b12
          refine lv_aload_n hx hb dX4_insert_39 rfl (lv_at hl 0 rfl) ?_
          refine lv_iload hx hb dX4_insert_40 (lv_at hl 4 rfl) ?_
          refine lv_aload_n hx hb dX4_insert_42 rfl (lv_at hl 0 rfl) ?_
          refine lv_iload hx hb dX4_insert_43 (lv_at hl 4 rfl) ?_
          refine lv_iconst (v := (1 : Int32)) hx hb dX4_insert_45 (by decide) ?_
          refine lv_isub hx hb dX4_insert_46 ?_
          obtain ⟨q13, eq13, hs⟩ := ob hs
          refine nd_callV (As := [.int (v4_8 - (1 : Int32))]) (rest := [.int v4_8, .ref (ad 4)]) (st1 := [.int q13, .int v4_8, .ref (ad 4)]) hx hb hml hown hts hl hP hK hD hS hA hN (mX4_slotInOrder eq13) iv_X4_slotInOrder wd_692 4 rfl rfl rfl rfl ⟨Nat.le_of_ble_eq_true rfl, Nat.le_of_ble_eq_true rfl⟩ (Nat.le_of_ble_eq_true rfl) ⟨Nat.zero_le _, Nat.zero_le _⟩ dX4_insert_47 rfl rfl (fun H locs hP hD hS => ?_)
          obtain ⟨q14, eq14, hs⟩ := ob hs
          refine nd_callV (As := [.int v4_8, .int q13]) (rest := []) (st1 := []) hx hb hml hown hts hl hP hK hD hS hA hN (mX4_put eq14) iv_X4_put wd_696 4 rfl rfl rfl rfl ⟨Nat.le_of_ble_eq_true rfl, Nat.le_of_ble_eq_true rfl⟩ (Nat.le_of_ble_eq_true rfl) ⟨Nat.zero_le _, Nat.zero_le _⟩ dX4_insert_50 rfl rfl (fun H locs hP hD hS => ?_)
          refine lv_iinc (v := v4_8 + (-1 : Int32)) (lv' := [(4, .int (v4_8 + (-1 : Int32))), (0, .ref (ad 4)), (1, .ref (ad 1)), (2, .int x2), (3, .int q1)]) hx hb dX4_insert_53 hl (k := 4) rfl rfl (by decide) rfl (fun ls hl => ?_)
          refine lv_goto (tgt := 15) hx hb dX4_insert_56 (by decide) ?_
          exact ih15 k15 (v4_8 + (-1 : Int32)) q14 _ _ _ (lv_sub hl [1, 2, 3, 4, 0] rfl) hP hS hs hk15
  refine L15 LF _ klr kln _ _ _ (lv_sub hl [2, 3, 4, 1, 0] rfl) hP hS hs (fun u4_8 kln_u8 H locs ls hl hP hS hs => ?_)
  have hD : va_D A (CW ad cI kc ksv kbc kit kln_u8 ken kla kfi kea kns kbl kr0 kr1 kr2 kr3 kr4 kr5 klr kp0 kp1 kp2 kp3) := nd_DD hD rfl
  refine lv_aload_n hx hb dX4_insert_59 rfl (lv_at hl 0 rfl) ?_
  refine lv_iload hx hb dX4_insert_60 (lv_at hl 2 rfl) ?_
  refine lv_iload_n hx hb dX4_insert_62 rfl (lv_at hl 1 rfl) ?_
  obtain ⟨q15, eq15, hs⟩ := ob hs
  refine nd_callV (As := [.int u4_8, .int x2]) (rest := []) (st1 := []) hx hb hml hown hts hl hP hK hD hS hA hN (mX4_put eq15) iv_X4_put wd_696 4 rfl rfl rfl rfl ⟨Nat.le_of_ble_eq_true rfl, Nat.le_of_ble_eq_true rfl⟩ (Nat.le_of_ble_eq_true rfl) ⟨Nat.zero_le _, Nat.zero_le _⟩ dX4_insert_63 rfl rfl (fun H locs hP hD hS => ?_)
  refine lv_aload_n hx hb dX4_insert_66 rfl (lv_at hl 0 rfl) ?_
  refine lv_dup hx hb dX4_insert_67 rfl ?_
  refine gf_X4_15 hx hb hts hown hK hP 4 rfl rfl dX4_insert_68 ?_
  refine lv_iconst (v := (1 : Int32)) hx hb dX4_insert_71 (by decide) ?_
  refine lv_iadd hx hb dX4_insert_72 ?_
  refine pf_X4_15 hx hb hts hown hK hP hD hS 4 rfl rfl dX4_insert_73 (fun H locs hP hD hS => ?_)
  have hP : va_P D vwCl (CW ad cI kc ksv kbc kit q15 ken kla kfi kea kns kbl kr0 kr1 kr2 kr3 kr4 kr5 (klr + (1 : Int32)) kp0 kp1 kp2 kp3) H := hP
  have hD : va_D A (CW ad cI kc ksv kbc kit q15 ken kla kfi kea kns kbl kr0 kr1 kr2 kr3 kr4 kr5 (klr + (1 : Int32)) kp0 kp1 kp2 kp3) := hD
  exact hret _ _ hs hP hS dX4_insert_76
def tX4_sort_0 : List (Nat × Instr × Nat) := [(0, .aload_n 0, 1), (1, .iconst 0, 1), (2, .putfield 15, 3), (5, .iconst 0, 1), (6, .istore_n 2, 1), (7, .iload_n 2, 1), (8, .bipush 60, 2), (10, .if_icmp .ge 23, 3), (13, .aload_n 1, 1), (14, .iload_n 2, 1), (15, .invokevirtual 19, 3), (18, .ifCond .eq 9, 3), (21, .aload_n 0, 1), (22, .aload_n 1, 1), (23, .iload_n 2, 1), (24, .invokevirtual 25, 3), (27, .iinc 2 1, 3), (30, .goto (-23), 3), (33, .return_, 1)]
theorem tX4_sort_0_ok : tX4_sort_0.all (fun q => decide (decode cX4_sort q.1 = .ok q.2)) = true := by decide +kernel
theorem dX4_sort_0 : decode cX4_sort 0 = .ok (.aload_n 0, 1) := td tX4_sort_0_ok 0 (q := (0, .aload_n 0, 1)) rfl
theorem dX4_sort_1 : decode cX4_sort 1 = .ok (.iconst 0, 1) := td tX4_sort_0_ok 1 (q := (1, .iconst 0, 1)) rfl
theorem dX4_sort_2 : decode cX4_sort 2 = .ok (.putfield 15, 3) := td tX4_sort_0_ok 2 (q := (2, .putfield 15, 3)) rfl
theorem dX4_sort_5 : decode cX4_sort 5 = .ok (.iconst 0, 1) := td tX4_sort_0_ok 3 (q := (5, .iconst 0, 1)) rfl
theorem dX4_sort_6 : decode cX4_sort 6 = .ok (.istore_n 2, 1) := td tX4_sort_0_ok 4 (q := (6, .istore_n 2, 1)) rfl
theorem dX4_sort_7 : decode cX4_sort 7 = .ok (.iload_n 2, 1) := td tX4_sort_0_ok 5 (q := (7, .iload_n 2, 1)) rfl
theorem dX4_sort_8 : decode cX4_sort 8 = .ok (.bipush 60, 2) := td tX4_sort_0_ok 6 (q := (8, .bipush 60, 2)) rfl
theorem dX4_sort_10 : decode cX4_sort 10 = .ok (.if_icmp .ge 23, 3) := td tX4_sort_0_ok 7 (q := (10, .if_icmp .ge 23, 3)) rfl
theorem dX4_sort_13 : decode cX4_sort 13 = .ok (.aload_n 1, 1) := td tX4_sort_0_ok 8 (q := (13, .aload_n 1, 1)) rfl
theorem dX4_sort_14 : decode cX4_sort 14 = .ok (.iload_n 2, 1) := td tX4_sort_0_ok 9 (q := (14, .iload_n 2, 1)) rfl
theorem dX4_sort_15 : decode cX4_sort 15 = .ok (.invokevirtual 19, 3) := td tX4_sort_0_ok 10 (q := (15, .invokevirtual 19, 3)) rfl
theorem dX4_sort_18 : decode cX4_sort 18 = .ok (.ifCond .eq 9, 3) := td tX4_sort_0_ok 11 (q := (18, .ifCond .eq 9, 3)) rfl
theorem dX4_sort_21 : decode cX4_sort 21 = .ok (.aload_n 0, 1) := td tX4_sort_0_ok 12 (q := (21, .aload_n 0, 1)) rfl
theorem dX4_sort_22 : decode cX4_sort 22 = .ok (.aload_n 1, 1) := td tX4_sort_0_ok 13 (q := (22, .aload_n 1, 1)) rfl
theorem dX4_sort_23 : decode cX4_sort 23 = .ok (.iload_n 2, 1) := td tX4_sort_0_ok 14 (q := (23, .iload_n 2, 1)) rfl
theorem dX4_sort_24 : decode cX4_sort 24 = .ok (.invokevirtual 25, 3) := td tX4_sort_0_ok 15 (q := (24, .invokevirtual 25, 3)) rfl
theorem dX4_sort_27 : decode cX4_sort 27 = .ok (.iinc 2 1, 3) := td tX4_sort_0_ok 16 (q := (27, .iinc 2 1, 3)) rfl
theorem dX4_sort_30 : decode cX4_sort 30 = .ok (.goto (-23), 3) := td tX4_sort_0_ok 17 (q := (30, .goto (-23), 3)) rfl
theorem dX4_sort_33 : decode cX4_sort 33 = .ok (.return_, 1) := td tX4_sort_0_ok 18 (q := (33, .return_, 1)) rfl
def fX4_sort_7 (k7 : (Nat → Int32) → Int32 → Option ((Nat → Int32) × Int32)) (kc : (Nat → Int32)) : Nat → Int32 → (Nat → Int32) → Int32 → Option ((Nat → Int32) × Int32)
  | 0, _, _, _ => none
  | n7 + 1, x2, kln, klr => (if (60 : Int32) ≤ x2 then (k7 kln klr) else (Option.bind (fX0_isUsed kc x2) (fun q2 => (if q2 = 0 then (fX4_sort_7 k7 kc n7 (x2 + (1 : Int32)) kln klr) else (Option.bind (fX4_insert kc kln klr x2) (fun q4 => (fX4_sort_7 k7 kc n7 (x2 + (1 : Int32)) q4.1 q4.2)))))))
def fX4_sort (kc : (Nat → Int32)) (kln : (Nat → Int32)) (klr : Int32) : Option ((Nat → Int32) × Int32) :=
  (fX4_sort_7 (fun (kln_u5 : (Nat → Int32)) (klr_u5 : Int32) => (some (kln_u5, klr_u5))) kc LF (0 : Int32) kln (0 : Int32))
set_option maxHeartbeats 4000000 in
set_option maxRecDepth 100000 in
theorem mX4_sort {l : Launch} {D : va_G} {ad : Nat → Nat} {cI : ClassId} {kc : (Nat → Int32)} {ksv : (Nat → Int32)} {kbc : (Nat → Int32)} {kit : (Nat → Int32)} {kln : (Nat → Int32)} {ken : (Nat → Int32)} {kla : (Nat → Int32)} {kfi : (Nat → Int32)} {kea : (Nat → Int32)} {kns : Int32} {kbl : Int32} {kr0 : Int32} {kr1 : Int32} {kr2 : Int32} {kr3 : Int32} {kr4 : Int32} {kr5 : Int32} {klr : Int32} {kp0 : Int32} {kp1 : Int32} {kp2 : Int32} {kp3 : Int32} {kln' : (Nat → Int32)} {klr' : Int32} (hs : fX4_sort kc kln klr = some (kln', klr')) : nd_C l yX4_sort cX4_sort 3 none 2 46 D [(cI, .int)] [.ref (ad 4), .ref (ad 1)] (CW ad cI kc ksv kbc kit kln ken kla kfi kea kns kbl kr0 kr1 kr2 kr3 kr4 kr5 klr kp0 kp1 kp2 kp3) (CW ad cI kc ksv kbc kit kln' ken kla kfi kea kns kbl kr0 kr1 kr2 kr3 kr4 kr5 klr' kp0 kp1 kp2 kp3) none := by
  refine nd_ofCv (by decide) (Nat.le_of_ble_eq_true rfl) (fun p e s m args below meth c_ ls A Q hx hb hml hown hts hl hP hK hD hS hA hN hret => ?_)
  have hown : s.vm.findClass RX4 = some m.cls := hown
  have hl : lv_has ls 3 [(0, .ref (ad 4)), (1, .ref (ad 1))] := hl
  have hret : ∀ (z0 : (Nat → Int32)) (z1 : Int32) {H : Heap} {locs : List Loc} {pc : Nat} {ls : Array Slot}, some (z0, z1) = some (kln', klr') → va_P D vwCl (CW ad cI kc ksv kbc kit z0 ken kla kfi kea kns kbl kr0 kr1 kr2 kr3 kr4 kr5 z1 kp0 kp1 kp2 kp3) H → va_S A s.heap H locs → decode cX4_sort pc = .ok (.return_, 1) → W p l e ⟨2, 0, 0, 46⟩ s m args below meth c_ H locs 0 0 Q (F0 m pc ls []) := by
    intro z0 z1 H locs pc ls h hP hS hd
    cases h
    exact hret hP hS hd
  rw [fX4_sort] at hs
  refine lv_aload_n hx hb dX4_sort_0 rfl (lv_at hl 0 rfl) ?_
  refine lv_iconst (v := (0 : Int32)) hx hb dX4_sort_1 (by decide) ?_
  refine pf_X4_15 hx hb hts hown hK hP hD hS 4 rfl rfl dX4_sort_2 (fun H locs hP hD hS => ?_)
  have hP : va_P D vwCl (CW ad cI kc ksv kbc kit kln ken kla kfi kea kns kbl kr0 kr1 kr2 kr3 kr4 kr5 (0 : Int32) kp0 kp1 kp2 kp3) H := hP
  have hD : va_D A (CW ad cI kc ksv kbc kit kln ken kla kfi kea kns kbl kr0 kr1 kr2 kr3 kr4 kr5 (0 : Int32) kp0 kp1 kp2 kp3) := hD
  refine lv_iconst (v := (0 : Int32)) hx hb dX4_sort_5 (by decide) ?_
  refine lv_istore_n (lv' := [(2, .int (0 : Int32)), (0, .ref (ad 4)), (1, .ref (ad 1))]) hx hb dX4_sort_6 rfl hl (by decide) rfl (fun ls hl => ?_)
  have L7 : ∀ (n7 : Nat) (k7 : (Nat → Int32) → Int32 → Option ((Nat → Int32) × Int32)) (v2_5 : Int32) (kln_5 : (Nat → Int32)) (klr_5 : Int32) (H : Heap) (locs : List Loc) (ls : Array Slot), lv_has ls 3 [(0, .ref (ad 4)), (1, .ref (ad 1)), (2, .int v2_5)] → va_P D vwCl (CW ad cI kc ksv kbc kit kln_5 ken kla kfi kea kns kbl kr0 kr1 kr2 kr3 kr4 kr5 klr_5 kp0 kp1 kp2 kp3) H → va_S A s.heap H locs → fX4_sort_7 k7 kc n7 v2_5 kln_5 klr_5 = some (kln', klr') → (∀ (kln_u5 : (Nat → Int32)) (klr_u5 : Int32) (H : Heap) (locs : List Loc) (ls : Array Slot), lv_has ls 3 [] → va_P D vwCl (CW ad cI kc ksv kbc kit kln_u5 ken kla kfi kea kns kbl kr0 kr1 kr2 kr3 kr4 kr5 klr_u5 kp0 kp1 kp2 kp3) H → va_S A s.heap H locs → k7 kln_u5 klr_u5 = some (kln', klr') → W p l e ⟨2, 0, 0, 46⟩ s m args below meth c_ H locs 0 0 Q (F0 m 33 ls [])) → W p l e ⟨2, 0, 0, 46⟩ s m args below meth c_ H locs 0 0 Q (F0 m 7 ls []) := by
    intro n7
    induction n7 with
    | zero =>
      intro k7 v2_5 kln_5 klr_5 H locs ls hl hP hS hs hk7
      rw [fX4_sort_7] at hs
      cases hs
    | succ n7 ih7 =>
      intro k7 v2_5 kln_5 klr_5 H locs ls hl hP hS hs hk7
      rw [fX4_sort_7] at hs
      have hD : va_D A (CW ad cI kc ksv kbc kit kln_5 ken kla kfi kea kns kbl kr0 kr1 kr2 kr3 kr4 kr5 klr_5 kp0 kp1 kp2 kp3) := nd_DD hD rfl
      refine lv_iload_n hx hb dX4_sort_7 rfl (lv_at hl 2 rfl) ?_
      refine lv_bipush (v := (60 : Int32)) hx hb dX4_sort_8 (by decide) ?_
      refine lv_icmp_ge (tgt := 33) hx hb dX4_sort_10 (by decide) (fun b6 => ?_) (fun b6 => ?_)
      · have hs := ite_t hs b6
        exact hk7 kln_5 klr_5 _ _ _ (lv_sub hl [] rfl) hP hS hs
      · have hs := ite_f hs b6
        refine lv_aload_n hx hb dX4_sort_13 rfl (lv_at hl 1 rfl) ?_
        refine lv_iload_n hx hb dX4_sort_14 rfl (lv_at hl 2 rfl) ?_
        obtain ⟨q7, eq7, hs⟩ := ob hs
        refine nd_callV (As := [.int v2_5]) (rest := []) (st1 := [.int q7]) hx hb hml hown hts hl hP hK hD hS hA hN (mX0_isUsed eq7) iv_X0_isUsed wd_686 1 rfl rfl rfl rfl ⟨Nat.le_of_ble_eq_true rfl, Nat.le_of_ble_eq_true rfl⟩ (Nat.le_of_ble_eq_true rfl) ⟨Nat.zero_le _, Nat.zero_le _⟩ dX4_sort_15 rfl rfl (fun H locs hP hD hS => ?_)
        refine lv_if_eq (tgt := 27) hx hb dX4_sort_18 (by decide) (fun b8 => ?_) (fun b8 => ?_)
        · have hs := ite_t hs b8
          refine lv_iinc (v := v2_5 + (1 : Int32)) (lv' := [(2, .int (v2_5 + (1 : Int32))), (0, .ref (ad 4)), (1, .ref (ad 1))]) hx hb dX4_sort_27 hl (k := 2) rfl rfl (by decide) rfl (fun ls hl => ?_)
          refine lv_goto (tgt := 7) hx hb dX4_sort_30 (by decide) ?_
          exact ih7 k7 (v2_5 + (1 : Int32)) kln_5 klr_5 _ _ _ (lv_sub hl [1, 2, 0] rfl) hP hS hs hk7
        · have hs := ite_f hs b8
          refine lv_aload_n hx hb dX4_sort_21 rfl (lv_at hl 0 rfl) ?_
          refine lv_aload_n hx hb dX4_sort_22 rfl (lv_at hl 1 rfl) ?_
          refine lv_iload_n hx hb dX4_sort_23 rfl (lv_at hl 2 rfl) ?_
          obtain ⟨q9, eq9, hs⟩ := ob hs
          refine nd_callV (As := [.ref (ad 1), .int v2_5]) (rest := []) (st1 := []) hx hb hml hown hts hl hP hK hD hS hA hN (mX4_insert eq9) iv_X4_insert wd_687 4 rfl rfl rfl rfl ⟨Nat.le_of_ble_eq_true rfl, Nat.le_of_ble_eq_true rfl⟩ (Nat.le_of_ble_eq_true rfl) ⟨Nat.zero_le _, Nat.zero_le _⟩ dX4_sort_24 rfl rfl (fun H locs hP hD hS => ?_)
          refine lv_iinc (v := v2_5 + (1 : Int32)) (lv' := [(2, .int (v2_5 + (1 : Int32))), (0, .ref (ad 4)), (1, .ref (ad 1))]) hx hb dX4_sort_27 hl (k := 2) rfl rfl (by decide) rfl (fun ls hl => ?_)
          refine lv_goto (tgt := 7) hx hb dX4_sort_30 (by decide) ?_
          exact ih7 k7 (v2_5 + (1 : Int32)) q9.1 q9.2 _ _ _ (lv_sub hl [1, 2, 0] rfl) hP hS hs hk7
  refine L7 LF _ (0 : Int32) kln (0 : Int32) _ _ _ (lv_sub hl [1, 2, 0] rfl) hP hS hs (fun kln_u5 klr_u5 H locs ls hl hP hS hs => ?_)
  have hD : va_D A (CW ad cI kc ksv kbc kit kln_u5 ken kla kfi kea kns kbl kr0 kr1 kr2 kr3 kr4 kr5 klr_u5 kp0 kp1 kp2 kp3) := nd_DD hD rfl
  exact hret _ _ hs hP hS dX4_sort_33
def tX4_receipts_0 : List (Nat × Instr × Nat) := [(0, .aload_n 0, 1), (1, .getfield 15, 3), (4, .ireturn, 1)]
theorem tX4_receipts_0_ok : tX4_receipts_0.all (fun q => decide (decode cX4_receipts q.1 = .ok q.2)) = true := by decide +kernel
theorem dX4_receipts_0 : decode cX4_receipts 0 = .ok (.aload_n 0, 1) := td tX4_receipts_0_ok 0 (q := (0, .aload_n 0, 1)) rfl
theorem dX4_receipts_1 : decode cX4_receipts 1 = .ok (.getfield 15, 3) := td tX4_receipts_0_ok 1 (q := (1, .getfield 15, 3)) rfl
theorem dX4_receipts_4 : decode cX4_receipts 4 = .ok (.ireturn, 1) := td tX4_receipts_0_ok 2 (q := (4, .ireturn, 1)) rfl
def fX4_receipts (klr : Int32) : Option (Int32) :=
  (some klr)
set_option maxHeartbeats 4000000 in
set_option maxRecDepth 100000 in
theorem mX4_receipts {l : Launch} {D : va_G} {ad : Nat → Nat} {cI : ClassId} {kc : (Nat → Int32)} {ksv : (Nat → Int32)} {kbc : (Nat → Int32)} {kit : (Nat → Int32)} {kln : (Nat → Int32)} {ken : (Nat → Int32)} {kla : (Nat → Int32)} {kfi : (Nat → Int32)} {kea : (Nat → Int32)} {kns : Int32} {kbl : Int32} {kr0 : Int32} {kr1 : Int32} {kr2 : Int32} {kr3 : Int32} {kr4 : Int32} {kr5 : Int32} {klr : Int32} {kp0 : Int32} {kp1 : Int32} {kp2 : Int32} {kp3 : Int32} {r : Int32} (hs : fX4_receipts klr = some r) : nd_C l yX4_receipts cX4_receipts 1 (some .int) 0 0 D [(cI, .int)] [.ref (ad 4)] (CW ad cI kc ksv kbc kit kln ken kla kfi kea kns kbl kr0 kr1 kr2 kr3 kr4 kr5 klr kp0 kp1 kp2 kp3) (CW ad cI kc ksv kbc kit kln ken kla kfi kea kns kbl kr0 kr1 kr2 kr3 kr4 kr5 klr kp0 kp1 kp2 kp3) (some (.int r)) := by
  refine nd_ofCi (by decide) (Nat.le_of_ble_eq_true rfl) (fun p e s m args below meth c_ ls A Q hx hb hml hown hts hl hP hK hD hS hA hN hret => ?_)
  have hown : s.vm.findClass RX4 = some m.cls := hown
  have hl : lv_has ls 1 [(0, .ref (ad 4))] := hl
  have hret : ∀ (z0 : Int32) {H : Heap} {locs : List Loc} {pc : Nat} {ls : Array Slot}, some z0 = some r → va_P D vwCl (CW ad cI kc ksv kbc kit kln ken kla kfi kea kns kbl kr0 kr1 kr2 kr3 kr4 kr5 klr kp0 kp1 kp2 kp3) H → va_S A s.heap H locs → decode cX4_receipts pc = .ok (.ireturn, 1) → W p l e ⟨0, 0, 0, 0⟩ s m args below meth c_ H locs 0 0 Q (F0 m pc ls [.int z0]) := by
    intro z0 H locs pc ls h hP hS hd
    cases h
    exact hret hP hS hd
  rw [fX4_receipts] at hs
  refine lv_aload_n hx hb dX4_receipts_0 rfl (lv_at hl 0 rfl) ?_
  refine gf_X4_15 hx hb hts hown hK hP 4 rfl rfl dX4_receipts_1 ?_
  exact hret _ hs hP hS dX4_receipts_4
def tX4_slotAt_0 : List (Nat × Instr × Nat) := [(0, .iconst 0, 1), (1, .istore 4, 2), (3, .iconst 0, 1), (4, .istore 5, 2), (6, .iload 5, 2), (8, .aload_n 0, 1), (9, .getfield 15, 3), (12, .if_icmp .ge 39, 3), (15, .aload_n 0, 1), (16, .iload 5, 2), (18, .invokevirtual 33, 3), (21, .istore 6, 2), (23, .aload_n 1, 1), (24, .iload 6, 2), (26, .invokevirtual 40, 3), (29, .iload_n 2, 1), (30, .if_icmp .ne 15, 3), (33, .iload 4, 2), (35, .iload_n 3, 1), (36, .if_icmp .ne 6, 3), (39, .iload 6, 2), (41, .ireturn, 1), (42, .iinc 4 1, 3), (45, .iinc 5 1, 3), (48, .goto (-42), 3), (51, .iconst (-1), 1), (52, .ireturn, 1)]
theorem tX4_slotAt_0_ok : tX4_slotAt_0.all (fun q => decide (decode cX4_slotAt q.1 = .ok q.2)) = true := by decide +kernel
theorem dX4_slotAt_0 : decode cX4_slotAt 0 = .ok (.iconst 0, 1) := td tX4_slotAt_0_ok 0 (q := (0, .iconst 0, 1)) rfl
theorem dX4_slotAt_1 : decode cX4_slotAt 1 = .ok (.istore 4, 2) := td tX4_slotAt_0_ok 1 (q := (1, .istore 4, 2)) rfl
theorem dX4_slotAt_3 : decode cX4_slotAt 3 = .ok (.iconst 0, 1) := td tX4_slotAt_0_ok 2 (q := (3, .iconst 0, 1)) rfl
theorem dX4_slotAt_4 : decode cX4_slotAt 4 = .ok (.istore 5, 2) := td tX4_slotAt_0_ok 3 (q := (4, .istore 5, 2)) rfl
theorem dX4_slotAt_6 : decode cX4_slotAt 6 = .ok (.iload 5, 2) := td tX4_slotAt_0_ok 4 (q := (6, .iload 5, 2)) rfl
theorem dX4_slotAt_8 : decode cX4_slotAt 8 = .ok (.aload_n 0, 1) := td tX4_slotAt_0_ok 5 (q := (8, .aload_n 0, 1)) rfl
theorem dX4_slotAt_9 : decode cX4_slotAt 9 = .ok (.getfield 15, 3) := td tX4_slotAt_0_ok 6 (q := (9, .getfield 15, 3)) rfl
theorem dX4_slotAt_12 : decode cX4_slotAt 12 = .ok (.if_icmp .ge 39, 3) := td tX4_slotAt_0_ok 7 (q := (12, .if_icmp .ge 39, 3)) rfl
theorem dX4_slotAt_15 : decode cX4_slotAt 15 = .ok (.aload_n 0, 1) := td tX4_slotAt_0_ok 8 (q := (15, .aload_n 0, 1)) rfl
theorem dX4_slotAt_16 : decode cX4_slotAt 16 = .ok (.iload 5, 2) := td tX4_slotAt_0_ok 9 (q := (16, .iload 5, 2)) rfl
theorem dX4_slotAt_18 : decode cX4_slotAt 18 = .ok (.invokevirtual 33, 3) := td tX4_slotAt_0_ok 10 (q := (18, .invokevirtual 33, 3)) rfl
theorem dX4_slotAt_21 : decode cX4_slotAt 21 = .ok (.istore 6, 2) := td tX4_slotAt_0_ok 11 (q := (21, .istore 6, 2)) rfl
theorem dX4_slotAt_23 : decode cX4_slotAt 23 = .ok (.aload_n 1, 1) := td tX4_slotAt_0_ok 12 (q := (23, .aload_n 1, 1)) rfl
theorem dX4_slotAt_24 : decode cX4_slotAt 24 = .ok (.iload 6, 2) := td tX4_slotAt_0_ok 13 (q := (24, .iload 6, 2)) rfl
theorem dX4_slotAt_26 : decode cX4_slotAt 26 = .ok (.invokevirtual 40, 3) := td tX4_slotAt_0_ok 14 (q := (26, .invokevirtual 40, 3)) rfl
theorem dX4_slotAt_29 : decode cX4_slotAt 29 = .ok (.iload_n 2, 1) := td tX4_slotAt_0_ok 15 (q := (29, .iload_n 2, 1)) rfl
theorem dX4_slotAt_30 : decode cX4_slotAt 30 = .ok (.if_icmp .ne 15, 3) := td tX4_slotAt_0_ok 16 (q := (30, .if_icmp .ne 15, 3)) rfl
theorem dX4_slotAt_33 : decode cX4_slotAt 33 = .ok (.iload 4, 2) := td tX4_slotAt_0_ok 17 (q := (33, .iload 4, 2)) rfl
theorem dX4_slotAt_35 : decode cX4_slotAt 35 = .ok (.iload_n 3, 1) := td tX4_slotAt_0_ok 18 (q := (35, .iload_n 3, 1)) rfl
theorem dX4_slotAt_36 : decode cX4_slotAt 36 = .ok (.if_icmp .ne 6, 3) := td tX4_slotAt_0_ok 19 (q := (36, .if_icmp .ne 6, 3)) rfl
theorem dX4_slotAt_39 : decode cX4_slotAt 39 = .ok (.iload 6, 2) := td tX4_slotAt_0_ok 20 (q := (39, .iload 6, 2)) rfl
theorem dX4_slotAt_41 : decode cX4_slotAt 41 = .ok (.ireturn, 1) := td tX4_slotAt_0_ok 21 (q := (41, .ireturn, 1)) rfl
theorem dX4_slotAt_42 : decode cX4_slotAt 42 = .ok (.iinc 4 1, 3) := td tX4_slotAt_0_ok 22 (q := (42, .iinc 4 1, 3)) rfl
theorem dX4_slotAt_45 : decode cX4_slotAt 45 = .ok (.iinc 5 1, 3) := td tX4_slotAt_0_ok 23 (q := (45, .iinc 5 1, 3)) rfl
theorem dX4_slotAt_48 : decode cX4_slotAt 48 = .ok (.goto (-42), 3) := td tX4_slotAt_0_ok 24 (q := (48, .goto (-42), 3)) rfl
theorem dX4_slotAt_51 : decode cX4_slotAt 51 = .ok (.iconst (-1), 1) := td tX4_slotAt_0_ok 25 (q := (51, .iconst (-1), 1)) rfl
theorem dX4_slotAt_52 : decode cX4_slotAt 52 = .ok (.ireturn, 1) := td tX4_slotAt_0_ok 26 (q := (52, .ireturn, 1)) rfl
def fX4_slotAt_6 (k6 : Unit → Option (Int32)) (kc : (Nat → Int32)) (kln : (Nat → Int32)) (klr : Int32) (x2 : Int32) (x3 : Int32) : Nat → Int32 → Int32 → Option (Int32)
  | 0, _, _ => none
  | n6 + 1, x4, x5 => (if klr ≤ x5 then (k6 ()) else (Option.bind (fX4_slotInOrder kln x5) (fun q2 => (Option.bind (fX0_pageOfSlot kc q2) (fun q3 => (if q3 = x2 then (if x4 = x3 then (some q2) else (fX4_slotAt_6 k6 kc kln klr x2 x3 n6 (x4 + (1 : Int32)) (x5 + (1 : Int32)))) else (fX4_slotAt_6 k6 kc kln klr x2 x3 n6 x4 (x5 + (1 : Int32)))))))))
def fX4_slotAt (kc : (Nat → Int32)) (kln : (Nat → Int32)) (klr : Int32) (x2 : Int32) (x3 : Int32) : Option (Int32) :=
  (fX4_slotAt_6 (fun (_ : Unit) => (some (-1 : Int32))) kc kln klr x2 x3 LF (0 : Int32) (0 : Int32))
set_option maxHeartbeats 4000000 in
set_option maxRecDepth 100000 in
theorem mX4_slotAt {l : Launch} {D : va_G} {ad : Nat → Nat} {cI : ClassId} {kc : (Nat → Int32)} {ksv : (Nat → Int32)} {kbc : (Nat → Int32)} {kit : (Nat → Int32)} {kln : (Nat → Int32)} {ken : (Nat → Int32)} {kla : (Nat → Int32)} {kfi : (Nat → Int32)} {kea : (Nat → Int32)} {kns : Int32} {kbl : Int32} {kr0 : Int32} {kr1 : Int32} {kr2 : Int32} {kr3 : Int32} {kr4 : Int32} {kr5 : Int32} {klr : Int32} {kp0 : Int32} {kp1 : Int32} {kp2 : Int32} {kp3 : Int32} {x2 : Int32} {x3 : Int32} {r : Int32} (hs : fX4_slotAt kc kln klr x2 x3 = some r) : nd_C l yX4_slotAt cX4_slotAt 7 (some .int) 2 42 D [(cI, .int)] [.ref (ad 4), .ref (ad 1), .int x2, .int x3] (CW ad cI kc ksv kbc kit kln ken kla kfi kea kns kbl kr0 kr1 kr2 kr3 kr4 kr5 klr kp0 kp1 kp2 kp3) (CW ad cI kc ksv kbc kit kln ken kla kfi kea kns kbl kr0 kr1 kr2 kr3 kr4 kr5 klr kp0 kp1 kp2 kp3) (some (.int r)) := by
  refine nd_ofCi (by decide) (Nat.le_of_ble_eq_true rfl) (fun p e s m args below meth c_ ls A Q hx hb hml hown hts hl hP hK hD hS hA hN hret => ?_)
  have hown : s.vm.findClass RX4 = some m.cls := hown
  have hl : lv_has ls 7 [(0, .ref (ad 4)), (1, .ref (ad 1)), (2, .int x2), (3, .int x3)] := hl
  have hret : ∀ (z0 : Int32) {H : Heap} {locs : List Loc} {pc : Nat} {ls : Array Slot}, some z0 = some r → va_P D vwCl (CW ad cI kc ksv kbc kit kln ken kla kfi kea kns kbl kr0 kr1 kr2 kr3 kr4 kr5 klr kp0 kp1 kp2 kp3) H → va_S A s.heap H locs → decode cX4_slotAt pc = .ok (.ireturn, 1) → W p l e ⟨2, 0, 0, 42⟩ s m args below meth c_ H locs 0 0 Q (F0 m pc ls [.int z0]) := by
    intro z0 H locs pc ls h hP hS hd
    cases h
    exact hret hP hS hd
  rw [fX4_slotAt] at hs
  refine lv_iconst (v := (0 : Int32)) hx hb dX4_slotAt_0 (by decide) ?_
  refine lv_istore (lv' := [(4, .int (0 : Int32)), (0, .ref (ad 4)), (1, .ref (ad 1)), (2, .int x2), (3, .int x3)]) hx hb dX4_slotAt_1 hl (by decide) rfl (fun ls hl => ?_)
  refine lv_iconst (v := (0 : Int32)) hx hb dX4_slotAt_3 (by decide) ?_
  refine lv_istore (lv' := [(5, .int (0 : Int32)), (4, .int (0 : Int32)), (0, .ref (ad 4)), (1, .ref (ad 1)), (2, .int x2), (3, .int x3)]) hx hb dX4_slotAt_4 hl (by decide) rfl (fun ls hl => ?_)
  have L6 : ∀ (n6 : Nat) (k6 : Unit → Option (Int32)) (v4_6 : Int32) (v5_6 : Int32) (H : Heap) (locs : List Loc) (ls : Array Slot), lv_has ls 7 [(0, .ref (ad 4)), (1, .ref (ad 1)), (2, .int x2), (3, .int x3), (4, .int v4_6), (5, .int v5_6)] → va_P D vwCl (CW ad cI kc ksv kbc kit kln ken kla kfi kea kns kbl kr0 kr1 kr2 kr3 kr4 kr5 klr kp0 kp1 kp2 kp3) H → va_S A s.heap H locs → fX4_slotAt_6 k6 kc kln klr x2 x3 n6 v4_6 v5_6 = some r → (∀ (H : Heap) (locs : List Loc) (ls : Array Slot), lv_has ls 7 [] → va_P D vwCl (CW ad cI kc ksv kbc kit kln ken kla kfi kea kns kbl kr0 kr1 kr2 kr3 kr4 kr5 klr kp0 kp1 kp2 kp3) H → va_S A s.heap H locs → k6 () = some r → W p l e ⟨2, 0, 0, 42⟩ s m args below meth c_ H locs 0 0 Q (F0 m 51 ls [])) → W p l e ⟨2, 0, 0, 42⟩ s m args below meth c_ H locs 0 0 Q (F0 m 6 ls []) := by
    intro n6
    induction n6 with
    | zero =>
      intro k6 v4_6 v5_6 H locs ls hl hP hS hs hk6
      rw [fX4_slotAt_6] at hs
      cases hs
    | succ n6 ih6 =>
      intro k6 v4_6 v5_6 H locs ls hl hP hS hs hk6
      rw [fX4_slotAt_6] at hs
      refine lv_iload hx hb dX4_slotAt_6 (lv_at hl 5 rfl) ?_
      refine lv_aload_n hx hb dX4_slotAt_8 rfl (lv_at hl 0 rfl) ?_
      refine gf_X4_15 hx hb hts hown hK hP 4 rfl rfl dX4_slotAt_9 ?_
      refine lv_icmp_ge (tgt := 51) hx hb dX4_slotAt_12 (by decide) (fun b7 => ?_) (fun b7 => ?_)
      · have hs := ite_t hs b7
        exact hk6  _ _ _ (lv_sub hl [] rfl) hP hS hs
      · have hs := ite_f hs b7
        refine lv_aload_n hx hb dX4_slotAt_15 rfl (lv_at hl 0 rfl) ?_
        refine lv_iload hx hb dX4_slotAt_16 (lv_at hl 5 rfl) ?_
        obtain ⟨q8, eq8, hs⟩ := ob hs
        refine nd_callV (As := [.int v5_6]) (rest := []) (st1 := [.int q8]) hx hb hml hown hts hl hP hK hD hS hA hN (mX4_slotInOrder eq8) iv_X4_slotInOrder wd_692 4 rfl rfl rfl rfl ⟨Nat.le_of_ble_eq_true rfl, Nat.le_of_ble_eq_true rfl⟩ (Nat.le_of_ble_eq_true rfl) ⟨Nat.zero_le _, Nat.zero_le _⟩ dX4_slotAt_18 rfl rfl (fun H locs hP hD hS => ?_)
        refine lv_istore (lv' := [(6, .int q8), (0, .ref (ad 4)), (1, .ref (ad 1)), (2, .int x2), (3, .int x3), (4, .int v4_6), (5, .int v5_6)]) hx hb dX4_slotAt_21 hl (by decide) rfl (fun ls hl => ?_)
        refine lv_aload_n hx hb dX4_slotAt_23 rfl (lv_at hl 2 rfl) ?_
        refine lv_iload hx hb dX4_slotAt_24 (lv_at hl 0 rfl) ?_
        obtain ⟨q9, eq9, hs⟩ := ob hs
        refine nd_callV (As := [.int q8]) (rest := []) (st1 := [.int q9]) hx hb hml hown hts hl hP hK hD hS hA hN (mX0_pageOfSlot eq9) iv_X0_pageOfSlot wd_704 1 rfl rfl rfl rfl ⟨Nat.le_of_ble_eq_true rfl, Nat.le_of_ble_eq_true rfl⟩ (Nat.le_of_ble_eq_true rfl) ⟨Nat.zero_le _, Nat.zero_le _⟩ dX4_slotAt_26 rfl rfl (fun H locs hP hD hS => ?_)
        refine lv_iload_n hx hb dX4_slotAt_29 rfl (lv_at hl 3 rfl) ?_
        refine lv_icmp_ne (tgt := 45) hx hb dX4_slotAt_30 (by decide) (fun b10 => ?_) (fun b10 => ?_)
        · have hs := ite_f hs b10
          refine lv_iinc (v := v5_6 + (1 : Int32)) (lv' := [(5, .int (v5_6 + (1 : Int32))), (6, .int q8), (0, .ref (ad 4)), (1, .ref (ad 1)), (2, .int x2), (3, .int x3), (4, .int v4_6)]) hx hb dX4_slotAt_45 hl (k := 6) rfl rfl (by decide) rfl (fun ls hl => ?_)
          refine lv_goto (tgt := 6) hx hb dX4_slotAt_48 (by decide) ?_
          exact ih6 k6 v4_6 (v5_6 + (1 : Int32)) _ _ _ (lv_sub hl [2, 3, 4, 5, 6, 0] rfl) hP hS hs hk6
        · have hs := ite_t hs b10
          refine lv_iload hx hb dX4_slotAt_33 (lv_at hl 5 rfl) ?_
          refine lv_iload_n hx hb dX4_slotAt_35 rfl (lv_at hl 4 rfl) ?_
          refine lv_icmp_ne (tgt := 42) hx hb dX4_slotAt_36 (by decide) (fun b11 => ?_) (fun b11 => ?_)
          · have hs := ite_f hs b11
            refine lv_iinc (v := v4_6 + (1 : Int32)) (lv' := [(4, .int (v4_6 + (1 : Int32))), (6, .int q8), (0, .ref (ad 4)), (1, .ref (ad 1)), (2, .int x2), (3, .int x3), (5, .int v5_6)]) hx hb dX4_slotAt_42 hl (k := 5) rfl rfl (by decide) rfl (fun ls hl => ?_)
            refine lv_iinc (v := v5_6 + (1 : Int32)) (lv' := [(5, .int (v5_6 + (1 : Int32))), (4, .int (v4_6 + (1 : Int32))), (6, .int q8), (0, .ref (ad 4)), (1, .ref (ad 1)), (2, .int x2), (3, .int x3)]) hx hb dX4_slotAt_45 hl (k := 6) rfl rfl (by decide) rfl (fun ls hl => ?_)
            refine lv_goto (tgt := 6) hx hb dX4_slotAt_48 (by decide) ?_
            exact ih6 k6 (v4_6 + (1 : Int32)) (v5_6 + (1 : Int32)) _ _ _ (lv_sub hl [3, 4, 5, 6, 1, 0] rfl) hP hS hs hk6
          · have hs := ite_t hs b11
            refine lv_iload hx hb dX4_slotAt_39 (lv_at hl 0 rfl) ?_
            exact hret _ hs hP hS dX4_slotAt_41
  refine L6 LF _ (0 : Int32) (0 : Int32) _ _ _ (lv_sub hl [2, 3, 4, 5, 1, 0] rfl) hP hS hs (fun  H locs ls hl hP hS hs => ?_)
  refine lv_iconst (v := (-1 : Int32)) hx hb dX4_slotAt_51 (by decide) ?_
  exact hret _ hs hP hS dX4_slotAt_52
def tX5_length_0 : List (Nat × Instr × Nat) := [(0, .aload_n 0, 1), (1, .getfield 28, 3), (4, .ireturn, 1)]
theorem tX5_length_0_ok : tX5_length_0.all (fun q => decide (decode cX5_length q.1 = .ok q.2)) = true := by decide +kernel
theorem dX5_length_0 : decode cX5_length 0 = .ok (.aload_n 0, 1) := td tX5_length_0_ok 0 (q := (0, .aload_n 0, 1)) rfl
theorem dX5_length_1 : decode cX5_length 1 = .ok (.getfield 28, 3) := td tX5_length_0_ok 1 (q := (1, .getfield 28, 3)) rfl
theorem dX5_length_4 : decode cX5_length 4 = .ok (.ireturn, 1) := td tX5_length_0_ok 2 (q := (4, .ireturn, 1)) rfl
def fX5_length (kp1 : Int32) : Option (Int32) :=
  (some kp1)
set_option maxHeartbeats 4000000 in
set_option maxRecDepth 100000 in
theorem mX5_length {l : Launch} {D : va_G} {ad : Nat → Nat} {cI : ClassId} {kc : (Nat → Int32)} {ksv : (Nat → Int32)} {kbc : (Nat → Int32)} {kit : (Nat → Int32)} {kln : (Nat → Int32)} {ken : (Nat → Int32)} {kla : (Nat → Int32)} {kfi : (Nat → Int32)} {kea : (Nat → Int32)} {kns : Int32} {kbl : Int32} {kr0 : Int32} {kr1 : Int32} {kr2 : Int32} {kr3 : Int32} {kr4 : Int32} {kr5 : Int32} {klr : Int32} {kp0 : Int32} {kp1 : Int32} {kp2 : Int32} {kp3 : Int32} {r : Int32} (hs : fX5_length kp1 = some r) : nd_C l yX5_length cX5_length 1 (some .int) 0 0 D [(cI, .int)] [.ref (ad 5)] (CW ad cI kc ksv kbc kit kln ken kla kfi kea kns kbl kr0 kr1 kr2 kr3 kr4 kr5 klr kp0 kp1 kp2 kp3) (CW ad cI kc ksv kbc kit kln ken kla kfi kea kns kbl kr0 kr1 kr2 kr3 kr4 kr5 klr kp0 kp1 kp2 kp3) (some (.int r)) := by
  refine nd_ofCi (by decide) (Nat.le_of_ble_eq_true rfl) (fun p e s m args below meth c_ ls A Q hx hb hml hown hts hl hP hK hD hS hA hN hret => ?_)
  have hown : s.vm.findClass RX5 = some m.cls := hown
  have hl : lv_has ls 1 [(0, .ref (ad 5))] := hl
  have hret : ∀ (z0 : Int32) {H : Heap} {locs : List Loc} {pc : Nat} {ls : Array Slot}, some z0 = some r → va_P D vwCl (CW ad cI kc ksv kbc kit kln ken kla kfi kea kns kbl kr0 kr1 kr2 kr3 kr4 kr5 klr kp0 kp1 kp2 kp3) H → va_S A s.heap H locs → decode cX5_length pc = .ok (.ireturn, 1) → W p l e ⟨0, 0, 0, 0⟩ s m args below meth c_ H locs 0 0 Q (F0 m pc ls [.int z0]) := by
    intro z0 H locs pc ls h hP hS hd
    cases h
    exact hret hP hS hd
  rw [fX5_length] at hs
  refine lv_aload_n hx hb dX5_length_0 rfl (lv_at hl 0 rfl) ?_
  refine gf_X5_28 hx hb hts hown hK hP 5 rfl rfl dX5_length_1 ?_
  exact hret _ hs hP hS dX5_length_4
def tX5_first_0 : List (Nat × Instr × Nat) := [(0, .aload_n 0, 1), (1, .getfield 31, 3), (4, .ireturn, 1)]
theorem tX5_first_0_ok : tX5_first_0.all (fun q => decide (decode cX5_first q.1 = .ok q.2)) = true := by decide +kernel
theorem dX5_first_0 : decode cX5_first 0 = .ok (.aload_n 0, 1) := td tX5_first_0_ok 0 (q := (0, .aload_n 0, 1)) rfl
theorem dX5_first_1 : decode cX5_first 1 = .ok (.getfield 31, 3) := td tX5_first_0_ok 1 (q := (1, .getfield 31, 3)) rfl
theorem dX5_first_4 : decode cX5_first 4 = .ok (.ireturn, 1) := td tX5_first_0_ok 2 (q := (4, .ireturn, 1)) rfl
def fX5_first (kp2 : Int32) : Option (Int32) :=
  (some kp2)
set_option maxHeartbeats 4000000 in
set_option maxRecDepth 100000 in
theorem mX5_first {l : Launch} {D : va_G} {ad : Nat → Nat} {cI : ClassId} {kc : (Nat → Int32)} {ksv : (Nat → Int32)} {kbc : (Nat → Int32)} {kit : (Nat → Int32)} {kln : (Nat → Int32)} {ken : (Nat → Int32)} {kla : (Nat → Int32)} {kfi : (Nat → Int32)} {kea : (Nat → Int32)} {kns : Int32} {kbl : Int32} {kr0 : Int32} {kr1 : Int32} {kr2 : Int32} {kr3 : Int32} {kr4 : Int32} {kr5 : Int32} {klr : Int32} {kp0 : Int32} {kp1 : Int32} {kp2 : Int32} {kp3 : Int32} {r : Int32} (hs : fX5_first kp2 = some r) : nd_C l yX5_first cX5_first 1 (some .int) 0 0 D [(cI, .int)] [.ref (ad 5)] (CW ad cI kc ksv kbc kit kln ken kla kfi kea kns kbl kr0 kr1 kr2 kr3 kr4 kr5 klr kp0 kp1 kp2 kp3) (CW ad cI kc ksv kbc kit kln ken kla kfi kea kns kbl kr0 kr1 kr2 kr3 kr4 kr5 klr kp0 kp1 kp2 kp3) (some (.int r)) := by
  refine nd_ofCi (by decide) (Nat.le_of_ble_eq_true rfl) (fun p e s m args below meth c_ ls A Q hx hb hml hown hts hl hP hK hD hS hA hN hret => ?_)
  have hown : s.vm.findClass RX5 = some m.cls := hown
  have hl : lv_has ls 1 [(0, .ref (ad 5))] := hl
  have hret : ∀ (z0 : Int32) {H : Heap} {locs : List Loc} {pc : Nat} {ls : Array Slot}, some z0 = some r → va_P D vwCl (CW ad cI kc ksv kbc kit kln ken kla kfi kea kns kbl kr0 kr1 kr2 kr3 kr4 kr5 klr kp0 kp1 kp2 kp3) H → va_S A s.heap H locs → decode cX5_first pc = .ok (.ireturn, 1) → W p l e ⟨0, 0, 0, 0⟩ s m args below meth c_ H locs 0 0 Q (F0 m pc ls [.int z0]) := by
    intro z0 H locs pc ls h hP hS hd
    cases h
    exact hret hP hS hd
  rw [fX5_first] at hs
  refine lv_aload_n hx hb dX5_first_0 rfl (lv_at hl 0 rfl) ?_
  refine gf_X5_31 hx hb hts hown hK hP 5 rfl rfl dX5_first_1 ?_
  exact hret _ hs hP hS dX5_first_4
def tX5_last_0 : List (Nat × Instr × Nat) := [(0, .aload_n 0, 1), (1, .getfield 34, 3), (4, .ireturn, 1)]
theorem tX5_last_0_ok : tX5_last_0.all (fun q => decide (decode cX5_last q.1 = .ok q.2)) = true := by decide +kernel
theorem dX5_last_0 : decode cX5_last 0 = .ok (.aload_n 0, 1) := td tX5_last_0_ok 0 (q := (0, .aload_n 0, 1)) rfl
theorem dX5_last_1 : decode cX5_last 1 = .ok (.getfield 34, 3) := td tX5_last_0_ok 1 (q := (1, .getfield 34, 3)) rfl
theorem dX5_last_4 : decode cX5_last 4 = .ok (.ireturn, 1) := td tX5_last_0_ok 2 (q := (4, .ireturn, 1)) rfl
def fX5_last (kp3 : Int32) : Option (Int32) :=
  (some kp3)
set_option maxHeartbeats 4000000 in
set_option maxRecDepth 100000 in
theorem mX5_last {l : Launch} {D : va_G} {ad : Nat → Nat} {cI : ClassId} {kc : (Nat → Int32)} {ksv : (Nat → Int32)} {kbc : (Nat → Int32)} {kit : (Nat → Int32)} {kln : (Nat → Int32)} {ken : (Nat → Int32)} {kla : (Nat → Int32)} {kfi : (Nat → Int32)} {kea : (Nat → Int32)} {kns : Int32} {kbl : Int32} {kr0 : Int32} {kr1 : Int32} {kr2 : Int32} {kr3 : Int32} {kr4 : Int32} {kr5 : Int32} {klr : Int32} {kp0 : Int32} {kp1 : Int32} {kp2 : Int32} {kp3 : Int32} {r : Int32} (hs : fX5_last kp3 = some r) : nd_C l yX5_last cX5_last 1 (some .int) 0 0 D [(cI, .int)] [.ref (ad 5)] (CW ad cI kc ksv kbc kit kln ken kla kfi kea kns kbl kr0 kr1 kr2 kr3 kr4 kr5 klr kp0 kp1 kp2 kp3) (CW ad cI kc ksv kbc kit kln ken kla kfi kea kns kbl kr0 kr1 kr2 kr3 kr4 kr5 klr kp0 kp1 kp2 kp3) (some (.int r)) := by
  refine nd_ofCi (by decide) (Nat.le_of_ble_eq_true rfl) (fun p e s m args below meth c_ ls A Q hx hb hml hown hts hl hP hK hD hS hA hN hret => ?_)
  have hown : s.vm.findClass RX5 = some m.cls := hown
  have hl : lv_has ls 1 [(0, .ref (ad 5))] := hl
  have hret : ∀ (z0 : Int32) {H : Heap} {locs : List Loc} {pc : Nat} {ls : Array Slot}, some z0 = some r → va_P D vwCl (CW ad cI kc ksv kbc kit kln ken kla kfi kea kns kbl kr0 kr1 kr2 kr3 kr4 kr5 klr kp0 kp1 kp2 kp3) H → va_S A s.heap H locs → decode cX5_last pc = .ok (.ireturn, 1) → W p l e ⟨0, 0, 0, 0⟩ s m args below meth c_ H locs 0 0 Q (F0 m pc ls [.int z0]) := by
    intro z0 H locs pc ls h hP hS hd
    cases h
    exact hret hP hS hd
  rw [fX5_last] at hs
  refine lv_aload_n hx hb dX5_last_0 rfl (lv_at hl 0 rfl) ?_
  refine gf_X5_34 hx hb hts hown hK hP 5 rfl rfl dX5_last_1 ?_
  exact hret _ hs hP hS dX5_last_4
def tX5_lookAt_0 : List (Nat × Instr × Nat) := [(0, .aload_n 1, 1), (1, .iload_n 2, 1), (2, .invokevirtual 56, 3), (5, .istore_n 3, 1), (6, .iload_n 2, 1), (7, .iconst 0, 1), (8, .invokestatic 60, 3), (11, .istore 4, 2), (13, .iload_n 3, 1), (14, .ifCond .le 19, 3), (17, .aload_n 1, 1), (18, .bipush 51, 2), (20, .iload 4, 2), (22, .iadd, 1), (23, .iload_n 3, 1), (24, .iadd, 1), (25, .iconst 1, 1), (26, .isub, 1), (27, .invokevirtual 63, 3), (30, .goto 4, 3), (33, .iconst (-1), 1), (34, .istore 5, 2), (36, .iconst 0, 1), (37, .istore 6, 2), (39, .iconst 0, 1), (40, .istore 7, 2), (42, .iload 7, 2), (44, .aload_n 0, 1), (45, .getfield 24, 3), (48, .if_icmp .ge 40, 3), (51, .aload_n 1, 1), (52, .bipush 11, 2), (54, .iload_n 2, 1), (55, .iadd, 1), (56, .invokevirtual 63, 3), (59, .aload_n 1, 1), (60, .iconst 1, 1), (61, .iload 7, 2), (63, .iadd, 1), (64, .invokevirtual 63, 3), (67, .iadd, 1), (68, .bipush 99, 2), (70, .if_icmp .ne 12, 3), (73, .iload 6, 2), (75, .iconst 1, 1), (76, .iload 7, 2), (78, .ishl, 1), (79, .ior, 1), (80, .istore 6, 2), (82, .iinc 7 1, 3), (85, .goto (-43), 3), (88, .iload_n 2, 1), (89, .ifCond .lt 85, 3), (92, .iload_n 2, 1), (93, .bipush 10, 2), (95, .if_icmp .ge 79, 3), (98, .aload_n 0, 1), (99, .getfield 18, 3), (102, .iload_n 2, 1), (103, .iload 6, 2)]
theorem tX5_lookAt_0_ok : tX5_lookAt_0.all (fun q => decide (decode cX5_lookAt q.1 = .ok q.2)) = true := by decide +kernel
theorem dX5_lookAt_0 : decode cX5_lookAt 0 = .ok (.aload_n 1, 1) := td tX5_lookAt_0_ok 0 (q := (0, .aload_n 1, 1)) rfl
theorem dX5_lookAt_1 : decode cX5_lookAt 1 = .ok (.iload_n 2, 1) := td tX5_lookAt_0_ok 1 (q := (1, .iload_n 2, 1)) rfl
theorem dX5_lookAt_2 : decode cX5_lookAt 2 = .ok (.invokevirtual 56, 3) := td tX5_lookAt_0_ok 2 (q := (2, .invokevirtual 56, 3)) rfl
theorem dX5_lookAt_5 : decode cX5_lookAt 5 = .ok (.istore_n 3, 1) := td tX5_lookAt_0_ok 3 (q := (5, .istore_n 3, 1)) rfl
theorem dX5_lookAt_6 : decode cX5_lookAt 6 = .ok (.iload_n 2, 1) := td tX5_lookAt_0_ok 4 (q := (6, .iload_n 2, 1)) rfl
theorem dX5_lookAt_7 : decode cX5_lookAt 7 = .ok (.iconst 0, 1) := td tX5_lookAt_0_ok 5 (q := (7, .iconst 0, 1)) rfl
theorem dX5_lookAt_8 : decode cX5_lookAt 8 = .ok (.invokestatic 60, 3) := td tX5_lookAt_0_ok 6 (q := (8, .invokestatic 60, 3)) rfl
theorem dX5_lookAt_11 : decode cX5_lookAt 11 = .ok (.istore 4, 2) := td tX5_lookAt_0_ok 7 (q := (11, .istore 4, 2)) rfl
theorem dX5_lookAt_13 : decode cX5_lookAt 13 = .ok (.iload_n 3, 1) := td tX5_lookAt_0_ok 8 (q := (13, .iload_n 3, 1)) rfl
theorem dX5_lookAt_14 : decode cX5_lookAt 14 = .ok (.ifCond .le 19, 3) := td tX5_lookAt_0_ok 9 (q := (14, .ifCond .le 19, 3)) rfl
theorem dX5_lookAt_17 : decode cX5_lookAt 17 = .ok (.aload_n 1, 1) := td tX5_lookAt_0_ok 10 (q := (17, .aload_n 1, 1)) rfl
theorem dX5_lookAt_18 : decode cX5_lookAt 18 = .ok (.bipush 51, 2) := td tX5_lookAt_0_ok 11 (q := (18, .bipush 51, 2)) rfl
theorem dX5_lookAt_20 : decode cX5_lookAt 20 = .ok (.iload 4, 2) := td tX5_lookAt_0_ok 12 (q := (20, .iload 4, 2)) rfl
theorem dX5_lookAt_22 : decode cX5_lookAt 22 = .ok (.iadd, 1) := td tX5_lookAt_0_ok 13 (q := (22, .iadd, 1)) rfl
theorem dX5_lookAt_23 : decode cX5_lookAt 23 = .ok (.iload_n 3, 1) := td tX5_lookAt_0_ok 14 (q := (23, .iload_n 3, 1)) rfl
theorem dX5_lookAt_24 : decode cX5_lookAt 24 = .ok (.iadd, 1) := td tX5_lookAt_0_ok 15 (q := (24, .iadd, 1)) rfl
theorem dX5_lookAt_25 : decode cX5_lookAt 25 = .ok (.iconst 1, 1) := td tX5_lookAt_0_ok 16 (q := (25, .iconst 1, 1)) rfl
theorem dX5_lookAt_26 : decode cX5_lookAt 26 = .ok (.isub, 1) := td tX5_lookAt_0_ok 17 (q := (26, .isub, 1)) rfl
theorem dX5_lookAt_27 : decode cX5_lookAt 27 = .ok (.invokevirtual 63, 3) := td tX5_lookAt_0_ok 18 (q := (27, .invokevirtual 63, 3)) rfl
theorem dX5_lookAt_30 : decode cX5_lookAt 30 = .ok (.goto 4, 3) := td tX5_lookAt_0_ok 19 (q := (30, .goto 4, 3)) rfl
theorem dX5_lookAt_33 : decode cX5_lookAt 33 = .ok (.iconst (-1), 1) := td tX5_lookAt_0_ok 20 (q := (33, .iconst (-1), 1)) rfl
theorem dX5_lookAt_34 : decode cX5_lookAt 34 = .ok (.istore 5, 2) := td tX5_lookAt_0_ok 21 (q := (34, .istore 5, 2)) rfl
theorem dX5_lookAt_36 : decode cX5_lookAt 36 = .ok (.iconst 0, 1) := td tX5_lookAt_0_ok 22 (q := (36, .iconst 0, 1)) rfl
theorem dX5_lookAt_37 : decode cX5_lookAt 37 = .ok (.istore 6, 2) := td tX5_lookAt_0_ok 23 (q := (37, .istore 6, 2)) rfl
theorem dX5_lookAt_39 : decode cX5_lookAt 39 = .ok (.iconst 0, 1) := td tX5_lookAt_0_ok 24 (q := (39, .iconst 0, 1)) rfl
theorem dX5_lookAt_40 : decode cX5_lookAt 40 = .ok (.istore 7, 2) := td tX5_lookAt_0_ok 25 (q := (40, .istore 7, 2)) rfl
theorem dX5_lookAt_42 : decode cX5_lookAt 42 = .ok (.iload 7, 2) := td tX5_lookAt_0_ok 26 (q := (42, .iload 7, 2)) rfl
theorem dX5_lookAt_44 : decode cX5_lookAt 44 = .ok (.aload_n 0, 1) := td tX5_lookAt_0_ok 27 (q := (44, .aload_n 0, 1)) rfl
theorem dX5_lookAt_45 : decode cX5_lookAt 45 = .ok (.getfield 24, 3) := td tX5_lookAt_0_ok 28 (q := (45, .getfield 24, 3)) rfl
theorem dX5_lookAt_48 : decode cX5_lookAt 48 = .ok (.if_icmp .ge 40, 3) := td tX5_lookAt_0_ok 29 (q := (48, .if_icmp .ge 40, 3)) rfl
theorem dX5_lookAt_51 : decode cX5_lookAt 51 = .ok (.aload_n 1, 1) := td tX5_lookAt_0_ok 30 (q := (51, .aload_n 1, 1)) rfl
theorem dX5_lookAt_52 : decode cX5_lookAt 52 = .ok (.bipush 11, 2) := td tX5_lookAt_0_ok 31 (q := (52, .bipush 11, 2)) rfl
theorem dX5_lookAt_54 : decode cX5_lookAt 54 = .ok (.iload_n 2, 1) := td tX5_lookAt_0_ok 32 (q := (54, .iload_n 2, 1)) rfl
theorem dX5_lookAt_55 : decode cX5_lookAt 55 = .ok (.iadd, 1) := td tX5_lookAt_0_ok 33 (q := (55, .iadd, 1)) rfl
theorem dX5_lookAt_56 : decode cX5_lookAt 56 = .ok (.invokevirtual 63, 3) := td tX5_lookAt_0_ok 34 (q := (56, .invokevirtual 63, 3)) rfl
theorem dX5_lookAt_59 : decode cX5_lookAt 59 = .ok (.aload_n 1, 1) := td tX5_lookAt_0_ok 35 (q := (59, .aload_n 1, 1)) rfl
theorem dX5_lookAt_60 : decode cX5_lookAt 60 = .ok (.iconst 1, 1) := td tX5_lookAt_0_ok 36 (q := (60, .iconst 1, 1)) rfl
theorem dX5_lookAt_61 : decode cX5_lookAt 61 = .ok (.iload 7, 2) := td tX5_lookAt_0_ok 37 (q := (61, .iload 7, 2)) rfl
theorem dX5_lookAt_63 : decode cX5_lookAt 63 = .ok (.iadd, 1) := td tX5_lookAt_0_ok 38 (q := (63, .iadd, 1)) rfl
theorem dX5_lookAt_64 : decode cX5_lookAt 64 = .ok (.invokevirtual 63, 3) := td tX5_lookAt_0_ok 39 (q := (64, .invokevirtual 63, 3)) rfl
theorem dX5_lookAt_67 : decode cX5_lookAt 67 = .ok (.iadd, 1) := td tX5_lookAt_0_ok 40 (q := (67, .iadd, 1)) rfl
theorem dX5_lookAt_68 : decode cX5_lookAt 68 = .ok (.bipush 99, 2) := td tX5_lookAt_0_ok 41 (q := (68, .bipush 99, 2)) rfl
theorem dX5_lookAt_70 : decode cX5_lookAt 70 = .ok (.if_icmp .ne 12, 3) := td tX5_lookAt_0_ok 42 (q := (70, .if_icmp .ne 12, 3)) rfl
theorem dX5_lookAt_73 : decode cX5_lookAt 73 = .ok (.iload 6, 2) := td tX5_lookAt_0_ok 43 (q := (73, .iload 6, 2)) rfl
theorem dX5_lookAt_75 : decode cX5_lookAt 75 = .ok (.iconst 1, 1) := td tX5_lookAt_0_ok 44 (q := (75, .iconst 1, 1)) rfl
theorem dX5_lookAt_76 : decode cX5_lookAt 76 = .ok (.iload 7, 2) := td tX5_lookAt_0_ok 45 (q := (76, .iload 7, 2)) rfl
theorem dX5_lookAt_78 : decode cX5_lookAt 78 = .ok (.ishl, 1) := td tX5_lookAt_0_ok 46 (q := (78, .ishl, 1)) rfl
theorem dX5_lookAt_79 : decode cX5_lookAt 79 = .ok (.ior, 1) := td tX5_lookAt_0_ok 47 (q := (79, .ior, 1)) rfl
theorem dX5_lookAt_80 : decode cX5_lookAt 80 = .ok (.istore 6, 2) := td tX5_lookAt_0_ok 48 (q := (80, .istore 6, 2)) rfl
theorem dX5_lookAt_82 : decode cX5_lookAt 82 = .ok (.iinc 7 1, 3) := td tX5_lookAt_0_ok 49 (q := (82, .iinc 7 1, 3)) rfl
theorem dX5_lookAt_85 : decode cX5_lookAt 85 = .ok (.goto (-43), 3) := td tX5_lookAt_0_ok 50 (q := (85, .goto (-43), 3)) rfl
theorem dX5_lookAt_88 : decode cX5_lookAt 88 = .ok (.iload_n 2, 1) := td tX5_lookAt_0_ok 51 (q := (88, .iload_n 2, 1)) rfl
theorem dX5_lookAt_89 : decode cX5_lookAt 89 = .ok (.ifCond .lt 85, 3) := td tX5_lookAt_0_ok 52 (q := (89, .ifCond .lt 85, 3)) rfl
theorem dX5_lookAt_92 : decode cX5_lookAt 92 = .ok (.iload_n 2, 1) := td tX5_lookAt_0_ok 53 (q := (92, .iload_n 2, 1)) rfl
theorem dX5_lookAt_93 : decode cX5_lookAt 93 = .ok (.bipush 10, 2) := td tX5_lookAt_0_ok 54 (q := (93, .bipush 10, 2)) rfl
theorem dX5_lookAt_95 : decode cX5_lookAt 95 = .ok (.if_icmp .ge 79, 3) := td tX5_lookAt_0_ok 55 (q := (95, .if_icmp .ge 79, 3)) rfl
theorem dX5_lookAt_98 : decode cX5_lookAt 98 = .ok (.aload_n 0, 1) := td tX5_lookAt_0_ok 56 (q := (98, .aload_n 0, 1)) rfl
theorem dX5_lookAt_99 : decode cX5_lookAt 99 = .ok (.getfield 18, 3) := td tX5_lookAt_0_ok 57 (q := (99, .getfield 18, 3)) rfl
theorem dX5_lookAt_102 : decode cX5_lookAt 102 = .ok (.iload_n 2, 1) := td tX5_lookAt_0_ok 58 (q := (102, .iload_n 2, 1)) rfl
theorem dX5_lookAt_103 : decode cX5_lookAt 103 = .ok (.iload 6, 2) := td tX5_lookAt_0_ok 59 (q := (103, .iload 6, 2)) rfl
def tX5_lookAt_1 : List (Nat × Instr × Nat) := [(105, .iastore, 1), (106, .aload_n 0, 1), (107, .getfield 21, 3), (110, .iload_n 2, 1), (111, .iload_n 3, 1), (112, .ifCond .le 15, 3), (115, .aload_n 1, 1), (116, .bipush 51, 2), (118, .iload 4, 2), (120, .iadd, 1), (121, .invokevirtual 63, 3), (124, .goto 6, 3), (127, .sipush 10000, 3), (130, .iastore, 1), (131, .iconst 1, 1), (132, .iload_n 2, 1), (133, .ishl, 1), (134, .istore 7, 2), (136, .iconst 0, 1), (137, .istore 8, 2), (139, .iload 8, 2), (141, .iload 7, 2), (143, .if_icmp .ge 31, 3), (146, .aload_n 0, 1), (147, .getfield 15, 3), (150, .iload 7, 2), (152, .iload 8, 2), (154, .iadd, 1), (155, .aload_n 0, 1), (156, .getfield 15, 3), (159, .iload 8, 2), (161, .iaload, 1), (162, .iload 5, 2), (164, .invokestatic 66, 3), (167, .iastore, 1), (168, .iinc 8 1, 3), (171, .goto (-32), 3), (174, .return_, 1)]
theorem tX5_lookAt_1_ok : tX5_lookAt_1.all (fun q => decide (decode cX5_lookAt q.1 = .ok q.2)) = true := by decide +kernel
theorem dX5_lookAt_105 : decode cX5_lookAt 105 = .ok (.iastore, 1) := td tX5_lookAt_1_ok 0 (q := (105, .iastore, 1)) rfl
theorem dX5_lookAt_106 : decode cX5_lookAt 106 = .ok (.aload_n 0, 1) := td tX5_lookAt_1_ok 1 (q := (106, .aload_n 0, 1)) rfl
theorem dX5_lookAt_107 : decode cX5_lookAt 107 = .ok (.getfield 21, 3) := td tX5_lookAt_1_ok 2 (q := (107, .getfield 21, 3)) rfl
theorem dX5_lookAt_110 : decode cX5_lookAt 110 = .ok (.iload_n 2, 1) := td tX5_lookAt_1_ok 3 (q := (110, .iload_n 2, 1)) rfl
theorem dX5_lookAt_111 : decode cX5_lookAt 111 = .ok (.iload_n 3, 1) := td tX5_lookAt_1_ok 4 (q := (111, .iload_n 3, 1)) rfl
theorem dX5_lookAt_112 : decode cX5_lookAt 112 = .ok (.ifCond .le 15, 3) := td tX5_lookAt_1_ok 5 (q := (112, .ifCond .le 15, 3)) rfl
theorem dX5_lookAt_115 : decode cX5_lookAt 115 = .ok (.aload_n 1, 1) := td tX5_lookAt_1_ok 6 (q := (115, .aload_n 1, 1)) rfl
theorem dX5_lookAt_116 : decode cX5_lookAt 116 = .ok (.bipush 51, 2) := td tX5_lookAt_1_ok 7 (q := (116, .bipush 51, 2)) rfl
theorem dX5_lookAt_118 : decode cX5_lookAt 118 = .ok (.iload 4, 2) := td tX5_lookAt_1_ok 8 (q := (118, .iload 4, 2)) rfl
theorem dX5_lookAt_120 : decode cX5_lookAt 120 = .ok (.iadd, 1) := td tX5_lookAt_1_ok 9 (q := (120, .iadd, 1)) rfl
theorem dX5_lookAt_121 : decode cX5_lookAt 121 = .ok (.invokevirtual 63, 3) := td tX5_lookAt_1_ok 10 (q := (121, .invokevirtual 63, 3)) rfl
theorem dX5_lookAt_124 : decode cX5_lookAt 124 = .ok (.goto 6, 3) := td tX5_lookAt_1_ok 11 (q := (124, .goto 6, 3)) rfl
theorem dX5_lookAt_127 : decode cX5_lookAt 127 = .ok (.sipush 10000, 3) := td tX5_lookAt_1_ok 12 (q := (127, .sipush 10000, 3)) rfl
theorem dX5_lookAt_130 : decode cX5_lookAt 130 = .ok (.iastore, 1) := td tX5_lookAt_1_ok 13 (q := (130, .iastore, 1)) rfl
theorem dX5_lookAt_131 : decode cX5_lookAt 131 = .ok (.iconst 1, 1) := td tX5_lookAt_1_ok 14 (q := (131, .iconst 1, 1)) rfl
theorem dX5_lookAt_132 : decode cX5_lookAt 132 = .ok (.iload_n 2, 1) := td tX5_lookAt_1_ok 15 (q := (132, .iload_n 2, 1)) rfl
theorem dX5_lookAt_133 : decode cX5_lookAt 133 = .ok (.ishl, 1) := td tX5_lookAt_1_ok 16 (q := (133, .ishl, 1)) rfl
theorem dX5_lookAt_134 : decode cX5_lookAt 134 = .ok (.istore 7, 2) := td tX5_lookAt_1_ok 17 (q := (134, .istore 7, 2)) rfl
theorem dX5_lookAt_136 : decode cX5_lookAt 136 = .ok (.iconst 0, 1) := td tX5_lookAt_1_ok 18 (q := (136, .iconst 0, 1)) rfl
theorem dX5_lookAt_137 : decode cX5_lookAt 137 = .ok (.istore 8, 2) := td tX5_lookAt_1_ok 19 (q := (137, .istore 8, 2)) rfl
theorem dX5_lookAt_139 : decode cX5_lookAt 139 = .ok (.iload 8, 2) := td tX5_lookAt_1_ok 20 (q := (139, .iload 8, 2)) rfl
theorem dX5_lookAt_141 : decode cX5_lookAt 141 = .ok (.iload 7, 2) := td tX5_lookAt_1_ok 21 (q := (141, .iload 7, 2)) rfl
theorem dX5_lookAt_143 : decode cX5_lookAt 143 = .ok (.if_icmp .ge 31, 3) := td tX5_lookAt_1_ok 22 (q := (143, .if_icmp .ge 31, 3)) rfl
theorem dX5_lookAt_146 : decode cX5_lookAt 146 = .ok (.aload_n 0, 1) := td tX5_lookAt_1_ok 23 (q := (146, .aload_n 0, 1)) rfl
theorem dX5_lookAt_147 : decode cX5_lookAt 147 = .ok (.getfield 15, 3) := td tX5_lookAt_1_ok 24 (q := (147, .getfield 15, 3)) rfl
theorem dX5_lookAt_150 : decode cX5_lookAt 150 = .ok (.iload 7, 2) := td tX5_lookAt_1_ok 25 (q := (150, .iload 7, 2)) rfl
theorem dX5_lookAt_152 : decode cX5_lookAt 152 = .ok (.iload 8, 2) := td tX5_lookAt_1_ok 26 (q := (152, .iload 8, 2)) rfl
theorem dX5_lookAt_154 : decode cX5_lookAt 154 = .ok (.iadd, 1) := td tX5_lookAt_1_ok 27 (q := (154, .iadd, 1)) rfl
theorem dX5_lookAt_155 : decode cX5_lookAt 155 = .ok (.aload_n 0, 1) := td tX5_lookAt_1_ok 28 (q := (155, .aload_n 0, 1)) rfl
theorem dX5_lookAt_156 : decode cX5_lookAt 156 = .ok (.getfield 15, 3) := td tX5_lookAt_1_ok 29 (q := (156, .getfield 15, 3)) rfl
theorem dX5_lookAt_159 : decode cX5_lookAt 159 = .ok (.iload 8, 2) := td tX5_lookAt_1_ok 30 (q := (159, .iload 8, 2)) rfl
theorem dX5_lookAt_161 : decode cX5_lookAt 161 = .ok (.iaload, 1) := td tX5_lookAt_1_ok 31 (q := (161, .iaload, 1)) rfl
theorem dX5_lookAt_162 : decode cX5_lookAt 162 = .ok (.iload 5, 2) := td tX5_lookAt_1_ok 32 (q := (162, .iload 5, 2)) rfl
theorem dX5_lookAt_164 : decode cX5_lookAt 164 = .ok (.invokestatic 66, 3) := td tX5_lookAt_1_ok 33 (q := (164, .invokestatic 66, 3)) rfl
theorem dX5_lookAt_167 : decode cX5_lookAt 167 = .ok (.iastore, 1) := td tX5_lookAt_1_ok 34 (q := (167, .iastore, 1)) rfl
theorem dX5_lookAt_168 : decode cX5_lookAt 168 = .ok (.iinc 8 1, 3) := td tX5_lookAt_1_ok 35 (q := (168, .iinc 8 1, 3)) rfl
theorem dX5_lookAt_171 : decode cX5_lookAt 171 = .ok (.goto (-32), 3) := td tX5_lookAt_1_ok 36 (q := (171, .goto (-32), 3)) rfl
theorem dX5_lookAt_174 : decode cX5_lookAt 174 = .ok (.return_, 1) := td tX5_lookAt_1_ok 37 (q := (174, .return_, 1)) rfl
def fX5_lookAt_42 (k42 : Int32 → Option ((Nat → Int32) × (Nat → Int32) × (Nat → Int32))) (kc : (Nat → Int32)) (kp0 : Int32) (x2 : Int32) (x3 : Int32) (x4 : Int32) : Nat → Int32 → Int32 → Option ((Nat → Int32) × (Nat → Int32) × (Nat → Int32))
  | 0, _, _ => none
  | n42 + 1, x6, x7 => (if kp0 ≤ x7 then (k42 x6) else (Option.bind (fX0_get kc ((11 : Int32) + x2)) (fun q5 => (Option.bind (fX0_get kc ((1 : Int32) + x7)) (fun q6 => (if (q5 + q6) = (99 : Int32) then (fX5_lookAt_42 k42 kc kp0 x2 x3 x4 n42 (x6 ||| ((1 : Int32) <<< (x7 &&& 31))) (x7 + (1 : Int32))) else (fX5_lookAt_42 k42 kc kp0 x2 x3 x4 n42 x6 (x7 + (1 : Int32)))))))))
def fX5_lookAt_139 (k139 : (Nat → Int32) → Option ((Nat → Int32) × (Nat → Int32) × (Nat → Int32))) (x7 : Int32) : Nat → Int32 → (Nat → Int32) → Option ((Nat → Int32) × (Nat → Int32) × (Nat → Int32))
  | 0, _, _ => none
  | n139 + 1, x8, kla => (if x7 ≤ x8 then (k139 kla) else (Option.bind (aget kla 1024 x8) (fun t19 => (Option.bind (aput kla 1024 (x7 + x8) (if t19 < (-1 : Int32) then (-1 : Int32) else t19)) (fun c20 => (fX5_lookAt_139 k139 x7 n139 (x8 + (1 : Int32)) c20))))))
def fX5_lookAt_42a (k42 : Int32 → Option ((Nat → Int32) × (Nat → Int32) × (Nat → Int32))) (kc : (Nat → Int32)) (kp0 : Int32) (x2 : Int32) (x3 : Int32) (x4 : Int32) (x5 : Int32) : Nat → Int32 → Int32 → Option ((Nat → Int32) × (Nat → Int32) × (Nat → Int32))
  | 0, _, _ => none
  | n42 + 1, x6, x7 => (if kp0 ≤ x7 then (k42 x6) else (Option.bind (fX0_get kc ((11 : Int32) + x2)) (fun q36 => (Option.bind (fX0_get kc ((1 : Int32) + x7)) (fun q37 => (if (q36 + q37) = (99 : Int32) then (fX5_lookAt_42a k42 kc kp0 x2 x3 x4 x5 n42 (x6 ||| ((1 : Int32) <<< (x7 &&& 31))) (x7 + (1 : Int32))) else (fX5_lookAt_42a k42 kc kp0 x2 x3 x4 x5 n42 x6 (x7 + (1 : Int32)))))))))
def fX5_lookAt_139a (k139 : (Nat → Int32) → Option ((Nat → Int32) × (Nat → Int32) × (Nat → Int32))) (x5 : Int32) (x7 : Int32) : Nat → Int32 → (Nat → Int32) → Option ((Nat → Int32) × (Nat → Int32) × (Nat → Int32))
  | 0, _, _ => none
  | n139 + 1, x8, kla => (if x7 ≤ x8 then (k139 kla) else (Option.bind (aget kla 1024 x8) (fun t50 => (Option.bind (aput kla 1024 (x7 + x8) (if t50 < x5 then x5 else t50)) (fun c51 => (fX5_lookAt_139a k139 x5 x7 n139 (x8 + (1 : Int32)) c51))))))
def fX5_lookAt (kc : (Nat → Int32)) (kla : (Nat → Int32)) (kfi : (Nat → Int32)) (kea : (Nat → Int32)) (kp0 : Int32) (x2 : Int32) : Option ((Nat → Int32) × (Nat → Int32) × (Nat → Int32)) :=
  (Option.bind (fX0_receiptsOf kc x2) (fun q1 => (Option.bind (fX0_slotOf x2 (0 : Int32)) (fun q2 => (if q1 ≤ 0 then (fX5_lookAt_42 (fun (u6_8 : Int32) => (if x2 < 0 then (some (kla, kfi, kea)) else (if (10 : Int32) ≤ x2 then (some (kla, kfi, kea)) else (Option.bind (aput kfi 10 x2 u6_8) (fun c15 => (if q1 ≤ 0 then (Option.bind (aput kea 10 x2 (10000 : Int32)) (fun c17 => (fX5_lookAt_139 (fun (kla_u21 : (Nat → Int32)) => (some (kla_u21, c15, c17))) ((1 : Int32) <<< (x2 &&& 31)) LF (0 : Int32) kla))) else (Option.bind (fX0_get kc ((51 : Int32) + q2)) (fun q25 => (Option.bind (aput kea 10 x2 q25) (fun c26 => (fX5_lookAt_139 (fun (kla_u30 : (Nat → Int32)) => (some (kla_u30, c15, c26))) ((1 : Int32) <<< (x2 &&& 31)) LF (0 : Int32) kla))))))))))) kc kp0 x2 q1 q2 LF (0 : Int32) (0 : Int32)) else (Option.bind (fX0_get kc ((((51 : Int32) + q2) + q1) - (1 : Int32))) (fun q34 => (fX5_lookAt_42a (fun (u6_39 : Int32) => (if x2 < 0 then (some (kla, kfi, kea)) else (if (10 : Int32) ≤ x2 then (some (kla, kfi, kea)) else (Option.bind (aput kfi 10 x2 u6_39) (fun c46 => (if q1 ≤ 0 then (Option.bind (aput kea 10 x2 (10000 : Int32)) (fun c48 => (fX5_lookAt_139a (fun (kla_u52 : (Nat → Int32)) => (some (kla_u52, c46, c48))) q34 ((1 : Int32) <<< (x2 &&& 31)) LF (0 : Int32) kla))) else (Option.bind (fX0_get kc ((51 : Int32) + q2)) (fun q56 => (Option.bind (aput kea 10 x2 q56) (fun c57 => (fX5_lookAt_139a (fun (kla_u61 : (Nat → Int32)) => (some (kla_u61, c46, c57))) q34 ((1 : Int32) <<< (x2 &&& 31)) LF (0 : Int32) kla))))))))))) kc kp0 x2 q1 q2 q34 LF (0 : Int32) (0 : Int32)))))))))
set_option maxHeartbeats 4000000 in
set_option maxRecDepth 100000 in
theorem mX5_lookAt {l : Launch} {D : va_G} {ad : Nat → Nat} {cI : ClassId} {kc : (Nat → Int32)} {ksv : (Nat → Int32)} {kbc : (Nat → Int32)} {kit : (Nat → Int32)} {kln : (Nat → Int32)} {ken : (Nat → Int32)} {kla : (Nat → Int32)} {kfi : (Nat → Int32)} {kea : (Nat → Int32)} {kns : Int32} {kbl : Int32} {kr0 : Int32} {kr1 : Int32} {kr2 : Int32} {kr3 : Int32} {kr4 : Int32} {kr5 : Int32} {klr : Int32} {kp0 : Int32} {kp1 : Int32} {kp2 : Int32} {kp3 : Int32} {x2 : Int32} {kla' : (Nat → Int32)} {kfi' : (Nat → Int32)} {kea' : (Nat → Int32)} (hs : fX5_lookAt kc kla kfi kea kp0 x2 = some (kla', kfi', kea')) : nd_C l yX5_lookAt cX5_lookAt 9 none 2 42 D [(cI, .int)] [.ref (ad 5), .ref (ad 1), .int x2] (CW ad cI kc ksv kbc kit kln ken kla kfi kea kns kbl kr0 kr1 kr2 kr3 kr4 kr5 klr kp0 kp1 kp2 kp3) (CW ad cI kc ksv kbc kit kln ken kla' kfi' kea' kns kbl kr0 kr1 kr2 kr3 kr4 kr5 klr kp0 kp1 kp2 kp3) none := by
  refine nd_ofCv (by decide) (Nat.le_of_ble_eq_true rfl) (fun p e s m args below meth c_ ls A Q hx hb hml hown hts hl hP hK hD hS hA hN hret => ?_)
  have hown : s.vm.findClass RX5 = some m.cls := hown
  have hl : lv_has ls 9 [(0, .ref (ad 5)), (1, .ref (ad 1)), (2, .int x2)] := hl
  have hret : ∀ (z0 : (Nat → Int32)) (z1 : (Nat → Int32)) (z2 : (Nat → Int32)) {H : Heap} {locs : List Loc} {pc : Nat} {ls : Array Slot}, some (z0, z1, z2) = some (kla', kfi', kea') → va_P D vwCl (CW ad cI kc ksv kbc kit kln ken z0 z1 z2 kns kbl kr0 kr1 kr2 kr3 kr4 kr5 klr kp0 kp1 kp2 kp3) H → va_S A s.heap H locs → decode cX5_lookAt pc = .ok (.return_, 1) → W p l e ⟨2, 0, 0, 42⟩ s m args below meth c_ H locs 0 0 Q (F0 m pc ls []) := by
    intro z0 z1 z2 H locs pc ls h hP hS hd
    cases h
    exact hret hP hS hd
  rw [fX5_lookAt] at hs
  refine lv_aload_n hx hb dX5_lookAt_0 rfl (lv_at hl 1 rfl) ?_
  refine lv_iload_n hx hb dX5_lookAt_1 rfl (lv_at hl 2 rfl) ?_
  obtain ⟨q1, eq1, hs⟩ := ob hs
  refine nd_callV (As := [.int x2]) (rest := []) (st1 := [.int q1]) hx hb hml hown hts hl hP hK hD hS hA hN (mX0_receiptsOf eq1) iv_X0_receiptsOf wd_824 1 rfl rfl rfl rfl ⟨Nat.le_of_ble_eq_true rfl, Nat.le_of_ble_eq_true rfl⟩ (Nat.le_of_ble_eq_true rfl) ⟨Nat.zero_le _, Nat.zero_le _⟩ dX5_lookAt_2 rfl rfl (fun H locs hP hD hS => ?_)
  refine lv_istore_n (lv' := [(3, .int q1), (0, .ref (ad 5)), (1, .ref (ad 1)), (2, .int x2)]) hx hb dX5_lookAt_5 rfl hl (by decide) rfl (fun ls hl => ?_)
  refine lv_iload_n hx hb dX5_lookAt_6 rfl (lv_at hl 3 rfl) ?_
  refine lv_iconst (v := (0 : Int32)) hx hb dX5_lookAt_7 (by decide) ?_
  obtain ⟨q2, eq2, hs⟩ := ob hs
  refine nd_callS (As := [.int x2, .int (0 : Int32)]) (rest := []) (st1 := [.int q2]) hx hb hml hown hts hl hP hK hD hS hA hN (mX0_slotOf eq2) is_X0_slotOf wd_825 rfl rfl ⟨Nat.le_of_ble_eq_true rfl, Nat.le_of_ble_eq_true rfl⟩ (Nat.le_of_ble_eq_true rfl) ⟨Nat.zero_le _, Nat.zero_le _⟩ dX5_lookAt_8 rfl rfl (fun H locs hP hD hS => ?_)
  refine lv_istore (lv' := [(4, .int q2), (3, .int q1), (0, .ref (ad 5)), (1, .ref (ad 1)), (2, .int x2)]) hx hb dX5_lookAt_11 hl (by decide) rfl (fun ls hl => ?_)
  refine lv_iload_n hx hb dX5_lookAt_13 rfl (lv_at hl 1 rfl) ?_
  refine lv_if_le (tgt := 33) hx hb dX5_lookAt_14 (by decide) (fun b3 => ?_) (fun b3 => ?_)
  · have hs := ite_t hs b3
    refine lv_iconst (v := (-1 : Int32)) hx hb dX5_lookAt_33 (by decide) ?_
    refine lv_istore (lv' := [(5, .int (-1 : Int32)), (4, .int q2), (3, .int q1), (0, .ref (ad 5)), (1, .ref (ad 1)), (2, .int x2)]) hx hb dX5_lookAt_34 hl (by decide) rfl (fun ls hl => ?_)
    refine lv_iconst (v := (0 : Int32)) hx hb dX5_lookAt_36 (by decide) ?_
    refine lv_istore (lv' := [(6, .int (0 : Int32)), (5, .int (-1 : Int32)), (4, .int q2), (3, .int q1), (0, .ref (ad 5)), (1, .ref (ad 1)), (2, .int x2)]) hx hb dX5_lookAt_37 hl (by decide) rfl (fun ls hl => ?_)
    refine lv_iconst (v := (0 : Int32)) hx hb dX5_lookAt_39 (by decide) ?_
    refine lv_istore (lv' := [(7, .int (0 : Int32)), (6, .int (0 : Int32)), (5, .int (-1 : Int32)), (4, .int q2), (3, .int q1), (0, .ref (ad 5)), (1, .ref (ad 1)), (2, .int x2)]) hx hb dX5_lookAt_40 hl (by decide) rfl (fun ls hl => ?_)
    have L42 : ∀ (n42 : Nat) (k42 : Int32 → Option ((Nat → Int32) × (Nat → Int32) × (Nat → Int32))) (v6_8 : Int32) (v7_8 : Int32) (H : Heap) (locs : List Loc) (ls : Array Slot), lv_has ls 9 [(0, .ref (ad 5)), (1, .ref (ad 1)), (2, .int x2), (3, .int q1), (4, .int q2), (5, .int (-1 : Int32)), (6, .int v6_8), (7, .int v7_8)] → va_P D vwCl (CW ad cI kc ksv kbc kit kln ken kla kfi kea kns kbl kr0 kr1 kr2 kr3 kr4 kr5 klr kp0 kp1 kp2 kp3) H → va_S A s.heap H locs → fX5_lookAt_42 k42 kc kp0 x2 q1 q2 n42 v6_8 v7_8 = some (kla', kfi', kea') → (∀ (u6_8 : Int32) (H : Heap) (locs : List Loc) (ls : Array Slot), lv_has ls 9 [(0, .ref (ad 5)), (1, .ref (ad 1)), (2, .int x2), (3, .int q1), (4, .int q2), (5, .int (-1 : Int32)), (6, .int u6_8)] → va_P D vwCl (CW ad cI kc ksv kbc kit kln ken kla kfi kea kns kbl kr0 kr1 kr2 kr3 kr4 kr5 klr kp0 kp1 kp2 kp3) H → va_S A s.heap H locs → k42 u6_8 = some (kla', kfi', kea') → W p l e ⟨2, 0, 0, 42⟩ s m args below meth c_ H locs 0 0 Q (F0 m 88 ls [])) → W p l e ⟨2, 0, 0, 42⟩ s m args below meth c_ H locs 0 0 Q (F0 m 42 ls []) := by
      intro n42
      induction n42 with
      | zero =>
        intro k42 v6_8 v7_8 H locs ls hl hP hS hs hk42
        rw [fX5_lookAt_42] at hs
        cases hs
      | succ n42 ih42 =>
        intro k42 v6_8 v7_8 H locs ls hl hP hS hs hk42
        rw [fX5_lookAt_42] at hs
        refine lv_iload hx hb dX5_lookAt_42 (lv_at hl 7 rfl) ?_
        refine lv_aload_n hx hb dX5_lookAt_44 rfl (lv_at hl 0 rfl) ?_
        refine gf_X5_24 hx hb hts hown hK hP 5 rfl rfl dX5_lookAt_45 ?_
        refine lv_icmp_ge (tgt := 88) hx hb dX5_lookAt_48 (by decide) (fun b9 => ?_) (fun b9 => ?_)
        · have hs := ite_t hs b9
          exact hk42 v6_8 _ _ _ (lv_sub hl [0, 1, 2, 3, 4, 5, 6] rfl) hP hS hs
        · have hs := ite_f hs b9
          refine lv_aload_n hx hb dX5_lookAt_51 rfl (lv_at hl 1 rfl) ?_
          refine lv_bipush (v := (11 : Int32)) hx hb dX5_lookAt_52 (by decide) ?_
          refine lv_iload_n hx hb dX5_lookAt_54 rfl (lv_at hl 2 rfl) ?_
          refine lv_iadd hx hb dX5_lookAt_55 ?_
          obtain ⟨q10, eq10, hs⟩ := ob hs
          refine nd_callV (As := [.int ((11 : Int32) + x2)]) (rest := []) (st1 := [.int q10]) hx hb hml hown hts hl hP hK hD hS hA hN (mX0_get eq10) iv_X0_get wd_826 1 rfl rfl rfl rfl ⟨Nat.le_of_ble_eq_true rfl, Nat.le_of_ble_eq_true rfl⟩ (Nat.le_of_ble_eq_true rfl) ⟨Nat.zero_le _, Nat.zero_le _⟩ dX5_lookAt_56 rfl rfl (fun H locs hP hD hS => ?_)
          refine lv_aload_n hx hb dX5_lookAt_59 rfl (lv_at hl 1 rfl) ?_
          refine lv_iconst (v := (1 : Int32)) hx hb dX5_lookAt_60 (by decide) ?_
          refine lv_iload hx hb dX5_lookAt_61 (lv_at hl 7 rfl) ?_
          refine lv_iadd hx hb dX5_lookAt_63 ?_
          obtain ⟨q11, eq11, hs⟩ := ob hs
          refine nd_callV (As := [.int ((1 : Int32) + v7_8)]) (rest := [.int q10]) (st1 := [.int q11, .int q10]) hx hb hml hown hts hl hP hK hD hS hA hN (mX0_get eq11) iv_X0_get wd_826 1 rfl rfl rfl rfl ⟨Nat.le_of_ble_eq_true rfl, Nat.le_of_ble_eq_true rfl⟩ (Nat.le_of_ble_eq_true rfl) ⟨Nat.zero_le _, Nat.zero_le _⟩ dX5_lookAt_64 rfl rfl (fun H locs hP hD hS => ?_)
          refine lv_iadd hx hb dX5_lookAt_67 ?_
          refine lv_bipush (v := (99 : Int32)) hx hb dX5_lookAt_68 (by decide) ?_
          refine lv_icmp_ne (tgt := 82) hx hb dX5_lookAt_70 (by decide) (fun b12 => ?_) (fun b12 => ?_)
          · have hs := ite_f hs b12
            refine lv_iinc (v := v7_8 + (1 : Int32)) (lv' := [(7, .int (v7_8 + (1 : Int32))), (0, .ref (ad 5)), (1, .ref (ad 1)), (2, .int x2), (3, .int q1), (4, .int q2), (5, .int (-1 : Int32)), (6, .int v6_8)]) hx hb dX5_lookAt_82 hl (k := 7) rfl rfl (by decide) rfl (fun ls hl => ?_)
            refine lv_goto (tgt := 42) hx hb dX5_lookAt_85 (by decide) ?_
            exact ih42 k42 v6_8 (v7_8 + (1 : Int32)) _ _ _ (lv_sub hl [1, 2, 3, 4, 5, 6, 7, 0] rfl) hP hS hs hk42
          · have hs := ite_t hs b12
            refine lv_iload hx hb dX5_lookAt_73 (lv_at hl 6 rfl) ?_
            refine lv_iconst (v := (1 : Int32)) hx hb dX5_lookAt_75 (by decide) ?_
            refine lv_iload hx hb dX5_lookAt_76 (lv_at hl 7 rfl) ?_
            refine lv_ishl hx hb dX5_lookAt_78 ?_
            refine lv_ior hx hb dX5_lookAt_79 ?_
            refine lv_istore (lv' := [(6, .int (v6_8 ||| ((1 : Int32) <<< (v7_8 &&& 31)))), (0, .ref (ad 5)), (1, .ref (ad 1)), (2, .int x2), (3, .int q1), (4, .int q2), (5, .int (-1 : Int32)), (7, .int v7_8)]) hx hb dX5_lookAt_80 hl (by decide) rfl (fun ls hl => ?_)
            refine lv_iinc (v := v7_8 + (1 : Int32)) (lv' := [(7, .int (v7_8 + (1 : Int32))), (6, .int (v6_8 ||| ((1 : Int32) <<< (v7_8 &&& 31)))), (0, .ref (ad 5)), (1, .ref (ad 1)), (2, .int x2), (3, .int q1), (4, .int q2), (5, .int (-1 : Int32))]) hx hb dX5_lookAt_82 hl (k := 7) rfl rfl (by decide) rfl (fun ls hl => ?_)
            refine lv_goto (tgt := 42) hx hb dX5_lookAt_85 (by decide) ?_
            exact ih42 k42 (v6_8 ||| ((1 : Int32) <<< (v7_8 &&& 31))) (v7_8 + (1 : Int32)) _ _ _ (lv_sub hl [2, 3, 4, 5, 6, 7, 1, 0] rfl) hP hS hs hk42
    refine L42 LF _ (0 : Int32) (0 : Int32) _ _ _ (lv_sub hl [5, 6, 7, 4, 3, 2, 1, 0] rfl) hP hS hs (fun u6_8 H locs ls hl hP hS hs => ?_)
    refine lv_iload_n hx hb dX5_lookAt_88 rfl (lv_at hl 2 rfl) ?_
    refine lv_if_lt (tgt := 174) hx hb dX5_lookAt_89 (by decide) (fun b13 => ?_) (fun b13 => ?_)
    · have hs := ite_t hs b13
      exact hret _ _ _ hs hP hS dX5_lookAt_174
    · have hs := ite_f hs b13
      refine lv_iload_n hx hb dX5_lookAt_92 rfl (lv_at hl 2 rfl) ?_
      refine lv_bipush (v := (10 : Int32)) hx hb dX5_lookAt_93 (by decide) ?_
      refine lv_icmp_ge (tgt := 174) hx hb dX5_lookAt_95 (by decide) (fun b14 => ?_) (fun b14 => ?_)
      · have hs := ite_t hs b14
        exact hret _ _ _ hs hP hS dX5_lookAt_174
      · have hs := ite_f hs b14
        refine lv_aload_n hx hb dX5_lookAt_98 rfl (lv_at hl 0 rfl) ?_
        refine gf_X5_18 hx hb hts hown hK hP 5 rfl rfl dX5_lookAt_99 ?_
        refine lv_iload_n hx hb dX5_lookAt_102 rfl (lv_at hl 2 rfl) ?_
        refine lv_iload hx hb dX5_lookAt_103 (lv_at hl 6 rfl) ?_
        obtain ⟨c15, ec15, hs⟩ := ob hs
        refine nd_iast hx hb hK hP hD hS 13 0 rfl rfl ec15 dX5_lookAt_105 (fun H locs hP hD hS => ?_)
        have hP : va_P D vwCl (CW ad cI kc ksv kbc kit kln ken kla c15 kea kns kbl kr0 kr1 kr2 kr3 kr4 kr5 klr kp0 kp1 kp2 kp3) H := hP
        have hD : va_D A (CW ad cI kc ksv kbc kit kln ken kla c15 kea kns kbl kr0 kr1 kr2 kr3 kr4 kr5 klr kp0 kp1 kp2 kp3) := hD
        refine lv_aload_n hx hb dX5_lookAt_106 rfl (lv_at hl 0 rfl) ?_
        refine gf_X5_21 hx hb hts hown hK hP 5 rfl rfl dX5_lookAt_107 ?_
        refine lv_iload_n hx hb dX5_lookAt_110 rfl (lv_at hl 2 rfl) ?_
        refine lv_iload_n hx hb dX5_lookAt_111 rfl (lv_at hl 3 rfl) ?_
        refine lv_if_le (tgt := 127) hx hb dX5_lookAt_112 (by decide) (fun b16 => ?_) (fun b16 => ?_)
        · have hs := ite_t hs b16
          refine lv_sipush (v := (10000 : Int32)) hx hb dX5_lookAt_127 (by decide) ?_
          obtain ⟨c17, ec17, hs⟩ := ob hs
          refine nd_iast hx hb hK hP hD hS 14 0 rfl rfl ec17 dX5_lookAt_130 (fun H locs hP hD hS => ?_)
          have hP : va_P D vwCl (CW ad cI kc ksv kbc kit kln ken kla c15 c17 kns kbl kr0 kr1 kr2 kr3 kr4 kr5 klr kp0 kp1 kp2 kp3) H := hP
          have hD : va_D A (CW ad cI kc ksv kbc kit kln ken kla c15 c17 kns kbl kr0 kr1 kr2 kr3 kr4 kr5 klr kp0 kp1 kp2 kp3) := hD
          refine lv_iconst (v := (1 : Int32)) hx hb dX5_lookAt_131 (by decide) ?_
          refine lv_iload_n hx hb dX5_lookAt_132 rfl (lv_at hl 2 rfl) ?_
          refine lv_ishl hx hb dX5_lookAt_133 ?_
          refine lv_istore (lv' := [(7, .int ((1 : Int32) <<< (x2 &&& 31))), (0, .ref (ad 5)), (1, .ref (ad 1)), (2, .int x2), (3, .int q1), (4, .int q2), (5, .int (-1 : Int32)), (6, .int u6_8)]) hx hb dX5_lookAt_134 hl (by decide) rfl (fun ls hl => ?_)
          refine lv_iconst (v := (0 : Int32)) hx hb dX5_lookAt_136 (by decide) ?_
          refine lv_istore (lv' := [(8, .int (0 : Int32)), (7, .int ((1 : Int32) <<< (x2 &&& 31))), (0, .ref (ad 5)), (1, .ref (ad 1)), (2, .int x2), (3, .int q1), (4, .int q2), (5, .int (-1 : Int32)), (6, .int u6_8)]) hx hb dX5_lookAt_137 hl (by decide) rfl (fun ls hl => ?_)
          have L139 : ∀ (n139 : Nat) (k139 : (Nat → Int32) → Option ((Nat → Int32) × (Nat → Int32) × (Nat → Int32))) (v8_21 : Int32) (kla_21 : (Nat → Int32)) (H : Heap) (locs : List Loc) (ls : Array Slot), lv_has ls 9 [(0, .ref (ad 5)), (5, .int (-1 : Int32)), (7, .int ((1 : Int32) <<< (x2 &&& 31))), (8, .int v8_21)] → va_P D vwCl (CW ad cI kc ksv kbc kit kln ken kla_21 c15 c17 kns kbl kr0 kr1 kr2 kr3 kr4 kr5 klr kp0 kp1 kp2 kp3) H → va_S A s.heap H locs → fX5_lookAt_139 k139 ((1 : Int32) <<< (x2 &&& 31)) n139 v8_21 kla_21 = some (kla', kfi', kea') → (∀ (kla_u21 : (Nat → Int32)) (H : Heap) (locs : List Loc) (ls : Array Slot), lv_has ls 9 [] → va_P D vwCl (CW ad cI kc ksv kbc kit kln ken kla_u21 c15 c17 kns kbl kr0 kr1 kr2 kr3 kr4 kr5 klr kp0 kp1 kp2 kp3) H → va_S A s.heap H locs → k139 kla_u21 = some (kla', kfi', kea') → W p l e ⟨2, 0, 0, 42⟩ s m args below meth c_ H locs 0 0 Q (F0 m 174 ls [])) → W p l e ⟨2, 0, 0, 42⟩ s m args below meth c_ H locs 0 0 Q (F0 m 139 ls []) := by
            intro n139
            induction n139 with
            | zero =>
              intro k139 v8_21 kla_21 H locs ls hl hP hS hs hk139
              rw [fX5_lookAt_139] at hs
              cases hs
            | succ n139 ih139 =>
              intro k139 v8_21 kla_21 H locs ls hl hP hS hs hk139
              rw [fX5_lookAt_139] at hs
              have hD : va_D A (CW ad cI kc ksv kbc kit kln ken kla_21 c15 c17 kns kbl kr0 kr1 kr2 kr3 kr4 kr5 klr kp0 kp1 kp2 kp3) := nd_DD hD rfl
              refine lv_iload hx hb dX5_lookAt_139 (lv_at hl 3 rfl) ?_
              refine lv_iload hx hb dX5_lookAt_141 (lv_at hl 2 rfl) ?_
              refine lv_icmp_ge (tgt := 174) hx hb dX5_lookAt_143 (by decide) (fun b22 => ?_) (fun b22 => ?_)
              · have hs := ite_t hs b22
                exact hk139 kla_21 _ _ _ (lv_sub hl [] rfl) hP hS hs
              · have hs := ite_f hs b22
                refine lv_aload_n hx hb dX5_lookAt_146 rfl (lv_at hl 0 rfl) ?_
                refine gf_X5_15 hx hb hts hown hK hP 5 rfl rfl dX5_lookAt_147 ?_
                refine lv_iload hx hb dX5_lookAt_150 (lv_at hl 2 rfl) ?_
                refine lv_iload hx hb dX5_lookAt_152 (lv_at hl 3 rfl) ?_
                refine lv_iadd hx hb dX5_lookAt_154 ?_
                refine lv_aload_n hx hb dX5_lookAt_155 rfl (lv_at hl 0 rfl) ?_
                refine gf_X5_15 hx hb hts hown hK hP 5 rfl rfl dX5_lookAt_156 ?_
                refine lv_iload hx hb dX5_lookAt_159 (lv_at hl 3 rfl) ?_
                obtain ⟨t23, et23, hs⟩ := ob hs
                refine nd_iald hx hb hK hP 12 0 rfl rfl et23 dX5_lookAt_161 ?_
                refine lv_iload hx hb dX5_lookAt_162 (lv_at hl 1 rfl) ?_
                refine va_mmax hx hb (hml.trans hl.1.symm) hown (hts _ wd_821) (hts _ wd_822) (hts _ wd_665) (hts _ wd_823) (Nat.le_of_ble_eq_true rfl) (Nat.le_of_ble_eq_true rfl) (Nat.zero_le _) (Nat.zero_le _) dX5_lookAt_164 ?_
                obtain ⟨c24, ec24, hs⟩ := ob hs
                refine nd_iast hx hb hK hP hD hS 12 0 rfl rfl ec24 dX5_lookAt_167 (fun H locs hP hD hS => ?_)
                have hP : va_P D vwCl (CW ad cI kc ksv kbc kit kln ken c24 c15 c17 kns kbl kr0 kr1 kr2 kr3 kr4 kr5 klr kp0 kp1 kp2 kp3) H := hP
                have hD : va_D A (CW ad cI kc ksv kbc kit kln ken c24 c15 c17 kns kbl kr0 kr1 kr2 kr3 kr4 kr5 klr kp0 kp1 kp2 kp3) := hD
                refine lv_iinc (v := v8_21 + (1 : Int32)) (lv' := [(8, .int (v8_21 + (1 : Int32))), (0, .ref (ad 5)), (5, .int (-1 : Int32)), (7, .int ((1 : Int32) <<< (x2 &&& 31)))]) hx hb dX5_lookAt_168 hl (k := 3) rfl rfl (by decide) rfl (fun ls hl => ?_)
                refine lv_goto (tgt := 139) hx hb dX5_lookAt_171 (by decide) ?_
                exact ih139 k139 (v8_21 + (1 : Int32)) c24 _ _ _ (lv_sub hl [1, 2, 3, 0] rfl) hP hS hs hk139
          refine L139 LF _ (0 : Int32) kla _ _ _ (lv_sub hl [2, 7, 1, 0] rfl) hP hS hs (fun kla_u21 H locs ls hl hP hS hs => ?_)
          have hD : va_D A (CW ad cI kc ksv kbc kit kln ken kla_u21 c15 c17 kns kbl kr0 kr1 kr2 kr3 kr4 kr5 klr kp0 kp1 kp2 kp3) := nd_DD hD rfl
          exact hret _ _ _ hs hP hS dX5_lookAt_174
        · have hs := ite_f hs b16
          refine lv_aload_n hx hb dX5_lookAt_115 rfl (lv_at hl 1 rfl) ?_
          refine lv_bipush (v := (51 : Int32)) hx hb dX5_lookAt_116 (by decide) ?_
          refine lv_iload hx hb dX5_lookAt_118 (lv_at hl 4 rfl) ?_
          refine lv_iadd hx hb dX5_lookAt_120 ?_
          obtain ⟨q25, eq25, hs⟩ := ob hs
          refine nd_callV (As := [.int ((51 : Int32) + q2)]) (rest := [.int x2, .ref (ad 14)]) (st1 := [.int q25, .int x2, .ref (ad 14)]) hx hb hml hown hts hl hP hK hD hS hA hN (mX0_get eq25) iv_X0_get wd_826 1 rfl rfl rfl rfl ⟨Nat.le_of_ble_eq_true rfl, Nat.le_of_ble_eq_true rfl⟩ (Nat.le_of_ble_eq_true rfl) ⟨Nat.zero_le _, Nat.zero_le _⟩ dX5_lookAt_121 rfl rfl (fun H locs hP hD hS => ?_)
          refine lv_goto (tgt := 130) hx hb dX5_lookAt_124 (by decide) ?_
          obtain ⟨c26, ec26, hs⟩ := ob hs
          refine nd_iast hx hb hK hP hD hS 14 0 rfl rfl ec26 dX5_lookAt_130 (fun H locs hP hD hS => ?_)
          have hP : va_P D vwCl (CW ad cI kc ksv kbc kit kln ken kla c15 c26 kns kbl kr0 kr1 kr2 kr3 kr4 kr5 klr kp0 kp1 kp2 kp3) H := hP
          have hD : va_D A (CW ad cI kc ksv kbc kit kln ken kla c15 c26 kns kbl kr0 kr1 kr2 kr3 kr4 kr5 klr kp0 kp1 kp2 kp3) := hD
          refine lv_iconst (v := (1 : Int32)) hx hb dX5_lookAt_131 (by decide) ?_
          refine lv_iload_n hx hb dX5_lookAt_132 rfl (lv_at hl 2 rfl) ?_
          refine lv_ishl hx hb dX5_lookAt_133 ?_
          refine lv_istore (lv' := [(7, .int ((1 : Int32) <<< (x2 &&& 31))), (0, .ref (ad 5)), (1, .ref (ad 1)), (2, .int x2), (3, .int q1), (4, .int q2), (5, .int (-1 : Int32)), (6, .int u6_8)]) hx hb dX5_lookAt_134 hl (by decide) rfl (fun ls hl => ?_)
          refine lv_iconst (v := (0 : Int32)) hx hb dX5_lookAt_136 (by decide) ?_
          refine lv_istore (lv' := [(8, .int (0 : Int32)), (7, .int ((1 : Int32) <<< (x2 &&& 31))), (0, .ref (ad 5)), (1, .ref (ad 1)), (2, .int x2), (3, .int q1), (4, .int q2), (5, .int (-1 : Int32)), (6, .int u6_8)]) hx hb dX5_lookAt_137 hl (by decide) rfl (fun ls hl => ?_)
          have L139 : ∀ (n139 : Nat) (k139 : (Nat → Int32) → Option ((Nat → Int32) × (Nat → Int32) × (Nat → Int32))) (v8_30 : Int32) (kla_30 : (Nat → Int32)) (H : Heap) (locs : List Loc) (ls : Array Slot), lv_has ls 9 [(0, .ref (ad 5)), (5, .int (-1 : Int32)), (7, .int ((1 : Int32) <<< (x2 &&& 31))), (8, .int v8_30)] → va_P D vwCl (CW ad cI kc ksv kbc kit kln ken kla_30 c15 c26 kns kbl kr0 kr1 kr2 kr3 kr4 kr5 klr kp0 kp1 kp2 kp3) H → va_S A s.heap H locs → fX5_lookAt_139 k139 ((1 : Int32) <<< (x2 &&& 31)) n139 v8_30 kla_30 = some (kla', kfi', kea') → (∀ (kla_u30 : (Nat → Int32)) (H : Heap) (locs : List Loc) (ls : Array Slot), lv_has ls 9 [] → va_P D vwCl (CW ad cI kc ksv kbc kit kln ken kla_u30 c15 c26 kns kbl kr0 kr1 kr2 kr3 kr4 kr5 klr kp0 kp1 kp2 kp3) H → va_S A s.heap H locs → k139 kla_u30 = some (kla', kfi', kea') → W p l e ⟨2, 0, 0, 42⟩ s m args below meth c_ H locs 0 0 Q (F0 m 174 ls [])) → W p l e ⟨2, 0, 0, 42⟩ s m args below meth c_ H locs 0 0 Q (F0 m 139 ls []) := by
            intro n139
            induction n139 with
            | zero =>
              intro k139 v8_30 kla_30 H locs ls hl hP hS hs hk139
              rw [fX5_lookAt_139] at hs
              cases hs
            | succ n139 ih139 =>
              intro k139 v8_30 kla_30 H locs ls hl hP hS hs hk139
              rw [fX5_lookAt_139] at hs
              have hD : va_D A (CW ad cI kc ksv kbc kit kln ken kla_30 c15 c26 kns kbl kr0 kr1 kr2 kr3 kr4 kr5 klr kp0 kp1 kp2 kp3) := nd_DD hD rfl
              refine lv_iload hx hb dX5_lookAt_139 (lv_at hl 3 rfl) ?_
              refine lv_iload hx hb dX5_lookAt_141 (lv_at hl 2 rfl) ?_
              refine lv_icmp_ge (tgt := 174) hx hb dX5_lookAt_143 (by decide) (fun b31 => ?_) (fun b31 => ?_)
              · have hs := ite_t hs b31
                exact hk139 kla_30 _ _ _ (lv_sub hl [] rfl) hP hS hs
              · have hs := ite_f hs b31
                refine lv_aload_n hx hb dX5_lookAt_146 rfl (lv_at hl 0 rfl) ?_
                refine gf_X5_15 hx hb hts hown hK hP 5 rfl rfl dX5_lookAt_147 ?_
                refine lv_iload hx hb dX5_lookAt_150 (lv_at hl 2 rfl) ?_
                refine lv_iload hx hb dX5_lookAt_152 (lv_at hl 3 rfl) ?_
                refine lv_iadd hx hb dX5_lookAt_154 ?_
                refine lv_aload_n hx hb dX5_lookAt_155 rfl (lv_at hl 0 rfl) ?_
                refine gf_X5_15 hx hb hts hown hK hP 5 rfl rfl dX5_lookAt_156 ?_
                refine lv_iload hx hb dX5_lookAt_159 (lv_at hl 3 rfl) ?_
                obtain ⟨t32, et32, hs⟩ := ob hs
                refine nd_iald hx hb hK hP 12 0 rfl rfl et32 dX5_lookAt_161 ?_
                refine lv_iload hx hb dX5_lookAt_162 (lv_at hl 1 rfl) ?_
                refine va_mmax hx hb (hml.trans hl.1.symm) hown (hts _ wd_821) (hts _ wd_822) (hts _ wd_665) (hts _ wd_823) (Nat.le_of_ble_eq_true rfl) (Nat.le_of_ble_eq_true rfl) (Nat.zero_le _) (Nat.zero_le _) dX5_lookAt_164 ?_
                obtain ⟨c33, ec33, hs⟩ := ob hs
                refine nd_iast hx hb hK hP hD hS 12 0 rfl rfl ec33 dX5_lookAt_167 (fun H locs hP hD hS => ?_)
                have hP : va_P D vwCl (CW ad cI kc ksv kbc kit kln ken c33 c15 c26 kns kbl kr0 kr1 kr2 kr3 kr4 kr5 klr kp0 kp1 kp2 kp3) H := hP
                have hD : va_D A (CW ad cI kc ksv kbc kit kln ken c33 c15 c26 kns kbl kr0 kr1 kr2 kr3 kr4 kr5 klr kp0 kp1 kp2 kp3) := hD
                refine lv_iinc (v := v8_30 + (1 : Int32)) (lv' := [(8, .int (v8_30 + (1 : Int32))), (0, .ref (ad 5)), (5, .int (-1 : Int32)), (7, .int ((1 : Int32) <<< (x2 &&& 31)))]) hx hb dX5_lookAt_168 hl (k := 3) rfl rfl (by decide) rfl (fun ls hl => ?_)
                refine lv_goto (tgt := 139) hx hb dX5_lookAt_171 (by decide) ?_
                exact ih139 k139 (v8_30 + (1 : Int32)) c33 _ _ _ (lv_sub hl [1, 2, 3, 0] rfl) hP hS hs hk139
          refine L139 LF _ (0 : Int32) kla _ _ _ (lv_sub hl [2, 7, 1, 0] rfl) hP hS hs (fun kla_u30 H locs ls hl hP hS hs => ?_)
          have hD : va_D A (CW ad cI kc ksv kbc kit kln ken kla_u30 c15 c26 kns kbl kr0 kr1 kr2 kr3 kr4 kr5 klr kp0 kp1 kp2 kp3) := nd_DD hD rfl
          exact hret _ _ _ hs hP hS dX5_lookAt_174
  · have hs := ite_f hs b3
    refine lv_aload_n hx hb dX5_lookAt_17 rfl (lv_at hl 3 rfl) ?_
    refine lv_bipush (v := (51 : Int32)) hx hb dX5_lookAt_18 (by decide) ?_
    refine lv_iload hx hb dX5_lookAt_20 (lv_at hl 0 rfl) ?_
    refine lv_iadd hx hb dX5_lookAt_22 ?_
    refine lv_iload_n hx hb dX5_lookAt_23 rfl (lv_at hl 1 rfl) ?_
    refine lv_iadd hx hb dX5_lookAt_24 ?_
    refine lv_iconst (v := (1 : Int32)) hx hb dX5_lookAt_25 (by decide) ?_
    refine lv_isub hx hb dX5_lookAt_26 ?_
    obtain ⟨q34, eq34, hs⟩ := ob hs
    refine nd_callV (As := [.int ((((51 : Int32) + q2) + q1) - (1 : Int32))]) (rest := []) (st1 := [.int q34]) hx hb hml hown hts hl hP hK hD hS hA hN (mX0_get eq34) iv_X0_get wd_826 1 rfl rfl rfl rfl ⟨Nat.le_of_ble_eq_true rfl, Nat.le_of_ble_eq_true rfl⟩ (Nat.le_of_ble_eq_true rfl) ⟨Nat.zero_le _, Nat.zero_le _⟩ dX5_lookAt_27 rfl rfl (fun H locs hP hD hS => ?_)
    refine lv_goto (tgt := 34) hx hb dX5_lookAt_30 (by decide) ?_
    refine lv_istore (lv' := [(5, .int q34), (4, .int q2), (3, .int q1), (0, .ref (ad 5)), (1, .ref (ad 1)), (2, .int x2)]) hx hb dX5_lookAt_34 hl (by decide) rfl (fun ls hl => ?_)
    refine lv_iconst (v := (0 : Int32)) hx hb dX5_lookAt_36 (by decide) ?_
    refine lv_istore (lv' := [(6, .int (0 : Int32)), (5, .int q34), (4, .int q2), (3, .int q1), (0, .ref (ad 5)), (1, .ref (ad 1)), (2, .int x2)]) hx hb dX5_lookAt_37 hl (by decide) rfl (fun ls hl => ?_)
    refine lv_iconst (v := (0 : Int32)) hx hb dX5_lookAt_39 (by decide) ?_
    refine lv_istore (lv' := [(7, .int (0 : Int32)), (6, .int (0 : Int32)), (5, .int q34), (4, .int q2), (3, .int q1), (0, .ref (ad 5)), (1, .ref (ad 1)), (2, .int x2)]) hx hb dX5_lookAt_40 hl (by decide) rfl (fun ls hl => ?_)
    have L42 : ∀ (n42 : Nat) (k42 : Int32 → Option ((Nat → Int32) × (Nat → Int32) × (Nat → Int32))) (v6_39 : Int32) (v7_39 : Int32) (H : Heap) (locs : List Loc) (ls : Array Slot), lv_has ls 9 [(0, .ref (ad 5)), (1, .ref (ad 1)), (2, .int x2), (3, .int q1), (4, .int q2), (5, .int q34), (6, .int v6_39), (7, .int v7_39)] → va_P D vwCl (CW ad cI kc ksv kbc kit kln ken kla kfi kea kns kbl kr0 kr1 kr2 kr3 kr4 kr5 klr kp0 kp1 kp2 kp3) H → va_S A s.heap H locs → fX5_lookAt_42a k42 kc kp0 x2 q1 q2 q34 n42 v6_39 v7_39 = some (kla', kfi', kea') → (∀ (u6_39 : Int32) (H : Heap) (locs : List Loc) (ls : Array Slot), lv_has ls 9 [(0, .ref (ad 5)), (1, .ref (ad 1)), (2, .int x2), (3, .int q1), (4, .int q2), (5, .int q34), (6, .int u6_39)] → va_P D vwCl (CW ad cI kc ksv kbc kit kln ken kla kfi kea kns kbl kr0 kr1 kr2 kr3 kr4 kr5 klr kp0 kp1 kp2 kp3) H → va_S A s.heap H locs → k42 u6_39 = some (kla', kfi', kea') → W p l e ⟨2, 0, 0, 42⟩ s m args below meth c_ H locs 0 0 Q (F0 m 88 ls [])) → W p l e ⟨2, 0, 0, 42⟩ s m args below meth c_ H locs 0 0 Q (F0 m 42 ls []) := by
      intro n42
      induction n42 with
      | zero =>
        intro k42 v6_39 v7_39 H locs ls hl hP hS hs hk42
        rw [fX5_lookAt_42a] at hs
        cases hs
      | succ n42 ih42 =>
        intro k42 v6_39 v7_39 H locs ls hl hP hS hs hk42
        rw [fX5_lookAt_42a] at hs
        refine lv_iload hx hb dX5_lookAt_42 (lv_at hl 7 rfl) ?_
        refine lv_aload_n hx hb dX5_lookAt_44 rfl (lv_at hl 0 rfl) ?_
        refine gf_X5_24 hx hb hts hown hK hP 5 rfl rfl dX5_lookAt_45 ?_
        refine lv_icmp_ge (tgt := 88) hx hb dX5_lookAt_48 (by decide) (fun b40 => ?_) (fun b40 => ?_)
        · have hs := ite_t hs b40
          exact hk42 v6_39 _ _ _ (lv_sub hl [0, 1, 2, 3, 4, 5, 6] rfl) hP hS hs
        · have hs := ite_f hs b40
          refine lv_aload_n hx hb dX5_lookAt_51 rfl (lv_at hl 1 rfl) ?_
          refine lv_bipush (v := (11 : Int32)) hx hb dX5_lookAt_52 (by decide) ?_
          refine lv_iload_n hx hb dX5_lookAt_54 rfl (lv_at hl 2 rfl) ?_
          refine lv_iadd hx hb dX5_lookAt_55 ?_
          obtain ⟨q41, eq41, hs⟩ := ob hs
          refine nd_callV (As := [.int ((11 : Int32) + x2)]) (rest := []) (st1 := [.int q41]) hx hb hml hown hts hl hP hK hD hS hA hN (mX0_get eq41) iv_X0_get wd_826 1 rfl rfl rfl rfl ⟨Nat.le_of_ble_eq_true rfl, Nat.le_of_ble_eq_true rfl⟩ (Nat.le_of_ble_eq_true rfl) ⟨Nat.zero_le _, Nat.zero_le _⟩ dX5_lookAt_56 rfl rfl (fun H locs hP hD hS => ?_)
          refine lv_aload_n hx hb dX5_lookAt_59 rfl (lv_at hl 1 rfl) ?_
          refine lv_iconst (v := (1 : Int32)) hx hb dX5_lookAt_60 (by decide) ?_
          refine lv_iload hx hb dX5_lookAt_61 (lv_at hl 7 rfl) ?_
          refine lv_iadd hx hb dX5_lookAt_63 ?_
          obtain ⟨q42, eq42, hs⟩ := ob hs
          refine nd_callV (As := [.int ((1 : Int32) + v7_39)]) (rest := [.int q41]) (st1 := [.int q42, .int q41]) hx hb hml hown hts hl hP hK hD hS hA hN (mX0_get eq42) iv_X0_get wd_826 1 rfl rfl rfl rfl ⟨Nat.le_of_ble_eq_true rfl, Nat.le_of_ble_eq_true rfl⟩ (Nat.le_of_ble_eq_true rfl) ⟨Nat.zero_le _, Nat.zero_le _⟩ dX5_lookAt_64 rfl rfl (fun H locs hP hD hS => ?_)
          refine lv_iadd hx hb dX5_lookAt_67 ?_
          refine lv_bipush (v := (99 : Int32)) hx hb dX5_lookAt_68 (by decide) ?_
          refine lv_icmp_ne (tgt := 82) hx hb dX5_lookAt_70 (by decide) (fun b43 => ?_) (fun b43 => ?_)
          · have hs := ite_f hs b43
            refine lv_iinc (v := v7_39 + (1 : Int32)) (lv' := [(7, .int (v7_39 + (1 : Int32))), (0, .ref (ad 5)), (1, .ref (ad 1)), (2, .int x2), (3, .int q1), (4, .int q2), (5, .int q34), (6, .int v6_39)]) hx hb dX5_lookAt_82 hl (k := 7) rfl rfl (by decide) rfl (fun ls hl => ?_)
            refine lv_goto (tgt := 42) hx hb dX5_lookAt_85 (by decide) ?_
            exact ih42 k42 v6_39 (v7_39 + (1 : Int32)) _ _ _ (lv_sub hl [1, 2, 3, 4, 5, 6, 7, 0] rfl) hP hS hs hk42
          · have hs := ite_t hs b43
            refine lv_iload hx hb dX5_lookAt_73 (lv_at hl 6 rfl) ?_
            refine lv_iconst (v := (1 : Int32)) hx hb dX5_lookAt_75 (by decide) ?_
            refine lv_iload hx hb dX5_lookAt_76 (lv_at hl 7 rfl) ?_
            refine lv_ishl hx hb dX5_lookAt_78 ?_
            refine lv_ior hx hb dX5_lookAt_79 ?_
            refine lv_istore (lv' := [(6, .int (v6_39 ||| ((1 : Int32) <<< (v7_39 &&& 31)))), (0, .ref (ad 5)), (1, .ref (ad 1)), (2, .int x2), (3, .int q1), (4, .int q2), (5, .int q34), (7, .int v7_39)]) hx hb dX5_lookAt_80 hl (by decide) rfl (fun ls hl => ?_)
            refine lv_iinc (v := v7_39 + (1 : Int32)) (lv' := [(7, .int (v7_39 + (1 : Int32))), (6, .int (v6_39 ||| ((1 : Int32) <<< (v7_39 &&& 31)))), (0, .ref (ad 5)), (1, .ref (ad 1)), (2, .int x2), (3, .int q1), (4, .int q2), (5, .int q34)]) hx hb dX5_lookAt_82 hl (k := 7) rfl rfl (by decide) rfl (fun ls hl => ?_)
            refine lv_goto (tgt := 42) hx hb dX5_lookAt_85 (by decide) ?_
            exact ih42 k42 (v6_39 ||| ((1 : Int32) <<< (v7_39 &&& 31))) (v7_39 + (1 : Int32)) _ _ _ (lv_sub hl [2, 3, 4, 5, 6, 7, 1, 0] rfl) hP hS hs hk42
    refine L42 LF _ (0 : Int32) (0 : Int32) _ _ _ (lv_sub hl [5, 6, 7, 4, 3, 2, 1, 0] rfl) hP hS hs (fun u6_39 H locs ls hl hP hS hs => ?_)
    refine lv_iload_n hx hb dX5_lookAt_88 rfl (lv_at hl 2 rfl) ?_
    refine lv_if_lt (tgt := 174) hx hb dX5_lookAt_89 (by decide) (fun b44 => ?_) (fun b44 => ?_)
    · have hs := ite_t hs b44
      exact hret _ _ _ hs hP hS dX5_lookAt_174
    · have hs := ite_f hs b44
      refine lv_iload_n hx hb dX5_lookAt_92 rfl (lv_at hl 2 rfl) ?_
      refine lv_bipush (v := (10 : Int32)) hx hb dX5_lookAt_93 (by decide) ?_
      refine lv_icmp_ge (tgt := 174) hx hb dX5_lookAt_95 (by decide) (fun b45 => ?_) (fun b45 => ?_)
      · have hs := ite_t hs b45
        exact hret _ _ _ hs hP hS dX5_lookAt_174
      · have hs := ite_f hs b45
        refine lv_aload_n hx hb dX5_lookAt_98 rfl (lv_at hl 0 rfl) ?_
        refine gf_X5_18 hx hb hts hown hK hP 5 rfl rfl dX5_lookAt_99 ?_
        refine lv_iload_n hx hb dX5_lookAt_102 rfl (lv_at hl 2 rfl) ?_
        refine lv_iload hx hb dX5_lookAt_103 (lv_at hl 6 rfl) ?_
        obtain ⟨c46, ec46, hs⟩ := ob hs
        refine nd_iast hx hb hK hP hD hS 13 0 rfl rfl ec46 dX5_lookAt_105 (fun H locs hP hD hS => ?_)
        have hP : va_P D vwCl (CW ad cI kc ksv kbc kit kln ken kla c46 kea kns kbl kr0 kr1 kr2 kr3 kr4 kr5 klr kp0 kp1 kp2 kp3) H := hP
        have hD : va_D A (CW ad cI kc ksv kbc kit kln ken kla c46 kea kns kbl kr0 kr1 kr2 kr3 kr4 kr5 klr kp0 kp1 kp2 kp3) := hD
        refine lv_aload_n hx hb dX5_lookAt_106 rfl (lv_at hl 0 rfl) ?_
        refine gf_X5_21 hx hb hts hown hK hP 5 rfl rfl dX5_lookAt_107 ?_
        refine lv_iload_n hx hb dX5_lookAt_110 rfl (lv_at hl 2 rfl) ?_
        refine lv_iload_n hx hb dX5_lookAt_111 rfl (lv_at hl 3 rfl) ?_
        refine lv_if_le (tgt := 127) hx hb dX5_lookAt_112 (by decide) (fun b47 => ?_) (fun b47 => ?_)
        · have hs := ite_t hs b47
          refine lv_sipush (v := (10000 : Int32)) hx hb dX5_lookAt_127 (by decide) ?_
          obtain ⟨c48, ec48, hs⟩ := ob hs
          refine nd_iast hx hb hK hP hD hS 14 0 rfl rfl ec48 dX5_lookAt_130 (fun H locs hP hD hS => ?_)
          have hP : va_P D vwCl (CW ad cI kc ksv kbc kit kln ken kla c46 c48 kns kbl kr0 kr1 kr2 kr3 kr4 kr5 klr kp0 kp1 kp2 kp3) H := hP
          have hD : va_D A (CW ad cI kc ksv kbc kit kln ken kla c46 c48 kns kbl kr0 kr1 kr2 kr3 kr4 kr5 klr kp0 kp1 kp2 kp3) := hD
          refine lv_iconst (v := (1 : Int32)) hx hb dX5_lookAt_131 (by decide) ?_
          refine lv_iload_n hx hb dX5_lookAt_132 rfl (lv_at hl 2 rfl) ?_
          refine lv_ishl hx hb dX5_lookAt_133 ?_
          refine lv_istore (lv' := [(7, .int ((1 : Int32) <<< (x2 &&& 31))), (0, .ref (ad 5)), (1, .ref (ad 1)), (2, .int x2), (3, .int q1), (4, .int q2), (5, .int q34), (6, .int u6_39)]) hx hb dX5_lookAt_134 hl (by decide) rfl (fun ls hl => ?_)
          refine lv_iconst (v := (0 : Int32)) hx hb dX5_lookAt_136 (by decide) ?_
          refine lv_istore (lv' := [(8, .int (0 : Int32)), (7, .int ((1 : Int32) <<< (x2 &&& 31))), (0, .ref (ad 5)), (1, .ref (ad 1)), (2, .int x2), (3, .int q1), (4, .int q2), (5, .int q34), (6, .int u6_39)]) hx hb dX5_lookAt_137 hl (by decide) rfl (fun ls hl => ?_)
          have L139 : ∀ (n139 : Nat) (k139 : (Nat → Int32) → Option ((Nat → Int32) × (Nat → Int32) × (Nat → Int32))) (v8_52 : Int32) (kla_52 : (Nat → Int32)) (H : Heap) (locs : List Loc) (ls : Array Slot), lv_has ls 9 [(0, .ref (ad 5)), (5, .int q34), (7, .int ((1 : Int32) <<< (x2 &&& 31))), (8, .int v8_52)] → va_P D vwCl (CW ad cI kc ksv kbc kit kln ken kla_52 c46 c48 kns kbl kr0 kr1 kr2 kr3 kr4 kr5 klr kp0 kp1 kp2 kp3) H → va_S A s.heap H locs → fX5_lookAt_139a k139 q34 ((1 : Int32) <<< (x2 &&& 31)) n139 v8_52 kla_52 = some (kla', kfi', kea') → (∀ (kla_u52 : (Nat → Int32)) (H : Heap) (locs : List Loc) (ls : Array Slot), lv_has ls 9 [] → va_P D vwCl (CW ad cI kc ksv kbc kit kln ken kla_u52 c46 c48 kns kbl kr0 kr1 kr2 kr3 kr4 kr5 klr kp0 kp1 kp2 kp3) H → va_S A s.heap H locs → k139 kla_u52 = some (kla', kfi', kea') → W p l e ⟨2, 0, 0, 42⟩ s m args below meth c_ H locs 0 0 Q (F0 m 174 ls [])) → W p l e ⟨2, 0, 0, 42⟩ s m args below meth c_ H locs 0 0 Q (F0 m 139 ls []) := by
            intro n139
            induction n139 with
            | zero =>
              intro k139 v8_52 kla_52 H locs ls hl hP hS hs hk139
              rw [fX5_lookAt_139a] at hs
              cases hs
            | succ n139 ih139 =>
              intro k139 v8_52 kla_52 H locs ls hl hP hS hs hk139
              rw [fX5_lookAt_139a] at hs
              have hD : va_D A (CW ad cI kc ksv kbc kit kln ken kla_52 c46 c48 kns kbl kr0 kr1 kr2 kr3 kr4 kr5 klr kp0 kp1 kp2 kp3) := nd_DD hD rfl
              refine lv_iload hx hb dX5_lookAt_139 (lv_at hl 3 rfl) ?_
              refine lv_iload hx hb dX5_lookAt_141 (lv_at hl 2 rfl) ?_
              refine lv_icmp_ge (tgt := 174) hx hb dX5_lookAt_143 (by decide) (fun b53 => ?_) (fun b53 => ?_)
              · have hs := ite_t hs b53
                exact hk139 kla_52 _ _ _ (lv_sub hl [] rfl) hP hS hs
              · have hs := ite_f hs b53
                refine lv_aload_n hx hb dX5_lookAt_146 rfl (lv_at hl 0 rfl) ?_
                refine gf_X5_15 hx hb hts hown hK hP 5 rfl rfl dX5_lookAt_147 ?_
                refine lv_iload hx hb dX5_lookAt_150 (lv_at hl 2 rfl) ?_
                refine lv_iload hx hb dX5_lookAt_152 (lv_at hl 3 rfl) ?_
                refine lv_iadd hx hb dX5_lookAt_154 ?_
                refine lv_aload_n hx hb dX5_lookAt_155 rfl (lv_at hl 0 rfl) ?_
                refine gf_X5_15 hx hb hts hown hK hP 5 rfl rfl dX5_lookAt_156 ?_
                refine lv_iload hx hb dX5_lookAt_159 (lv_at hl 3 rfl) ?_
                obtain ⟨t54, et54, hs⟩ := ob hs
                refine nd_iald hx hb hK hP 12 0 rfl rfl et54 dX5_lookAt_161 ?_
                refine lv_iload hx hb dX5_lookAt_162 (lv_at hl 1 rfl) ?_
                refine va_mmax hx hb (hml.trans hl.1.symm) hown (hts _ wd_821) (hts _ wd_822) (hts _ wd_665) (hts _ wd_823) (Nat.le_of_ble_eq_true rfl) (Nat.le_of_ble_eq_true rfl) (Nat.zero_le _) (Nat.zero_le _) dX5_lookAt_164 ?_
                obtain ⟨c55, ec55, hs⟩ := ob hs
                refine nd_iast hx hb hK hP hD hS 12 0 rfl rfl ec55 dX5_lookAt_167 (fun H locs hP hD hS => ?_)
                have hP : va_P D vwCl (CW ad cI kc ksv kbc kit kln ken c55 c46 c48 kns kbl kr0 kr1 kr2 kr3 kr4 kr5 klr kp0 kp1 kp2 kp3) H := hP
                have hD : va_D A (CW ad cI kc ksv kbc kit kln ken c55 c46 c48 kns kbl kr0 kr1 kr2 kr3 kr4 kr5 klr kp0 kp1 kp2 kp3) := hD
                refine lv_iinc (v := v8_52 + (1 : Int32)) (lv' := [(8, .int (v8_52 + (1 : Int32))), (0, .ref (ad 5)), (5, .int q34), (7, .int ((1 : Int32) <<< (x2 &&& 31)))]) hx hb dX5_lookAt_168 hl (k := 3) rfl rfl (by decide) rfl (fun ls hl => ?_)
                refine lv_goto (tgt := 139) hx hb dX5_lookAt_171 (by decide) ?_
                exact ih139 k139 (v8_52 + (1 : Int32)) c55 _ _ _ (lv_sub hl [1, 2, 3, 0] rfl) hP hS hs hk139
          refine L139 LF _ (0 : Int32) kla _ _ _ (lv_sub hl [2, 7, 1, 0] rfl) hP hS hs (fun kla_u52 H locs ls hl hP hS hs => ?_)
          have hD : va_D A (CW ad cI kc ksv kbc kit kln ken kla_u52 c46 c48 kns kbl kr0 kr1 kr2 kr3 kr4 kr5 klr kp0 kp1 kp2 kp3) := nd_DD hD rfl
          exact hret _ _ _ hs hP hS dX5_lookAt_174
        · have hs := ite_f hs b47
          refine lv_aload_n hx hb dX5_lookAt_115 rfl (lv_at hl 1 rfl) ?_
          refine lv_bipush (v := (51 : Int32)) hx hb dX5_lookAt_116 (by decide) ?_
          refine lv_iload hx hb dX5_lookAt_118 (lv_at hl 4 rfl) ?_
          refine lv_iadd hx hb dX5_lookAt_120 ?_
          obtain ⟨q56, eq56, hs⟩ := ob hs
          refine nd_callV (As := [.int ((51 : Int32) + q2)]) (rest := [.int x2, .ref (ad 14)]) (st1 := [.int q56, .int x2, .ref (ad 14)]) hx hb hml hown hts hl hP hK hD hS hA hN (mX0_get eq56) iv_X0_get wd_826 1 rfl rfl rfl rfl ⟨Nat.le_of_ble_eq_true rfl, Nat.le_of_ble_eq_true rfl⟩ (Nat.le_of_ble_eq_true rfl) ⟨Nat.zero_le _, Nat.zero_le _⟩ dX5_lookAt_121 rfl rfl (fun H locs hP hD hS => ?_)
          refine lv_goto (tgt := 130) hx hb dX5_lookAt_124 (by decide) ?_
          obtain ⟨c57, ec57, hs⟩ := ob hs
          refine nd_iast hx hb hK hP hD hS 14 0 rfl rfl ec57 dX5_lookAt_130 (fun H locs hP hD hS => ?_)
          have hP : va_P D vwCl (CW ad cI kc ksv kbc kit kln ken kla c46 c57 kns kbl kr0 kr1 kr2 kr3 kr4 kr5 klr kp0 kp1 kp2 kp3) H := hP
          have hD : va_D A (CW ad cI kc ksv kbc kit kln ken kla c46 c57 kns kbl kr0 kr1 kr2 kr3 kr4 kr5 klr kp0 kp1 kp2 kp3) := hD
          refine lv_iconst (v := (1 : Int32)) hx hb dX5_lookAt_131 (by decide) ?_
          refine lv_iload_n hx hb dX5_lookAt_132 rfl (lv_at hl 2 rfl) ?_
          refine lv_ishl hx hb dX5_lookAt_133 ?_
          refine lv_istore (lv' := [(7, .int ((1 : Int32) <<< (x2 &&& 31))), (0, .ref (ad 5)), (1, .ref (ad 1)), (2, .int x2), (3, .int q1), (4, .int q2), (5, .int q34), (6, .int u6_39)]) hx hb dX5_lookAt_134 hl (by decide) rfl (fun ls hl => ?_)
          refine lv_iconst (v := (0 : Int32)) hx hb dX5_lookAt_136 (by decide) ?_
          refine lv_istore (lv' := [(8, .int (0 : Int32)), (7, .int ((1 : Int32) <<< (x2 &&& 31))), (0, .ref (ad 5)), (1, .ref (ad 1)), (2, .int x2), (3, .int q1), (4, .int q2), (5, .int q34), (6, .int u6_39)]) hx hb dX5_lookAt_137 hl (by decide) rfl (fun ls hl => ?_)
          have L139 : ∀ (n139 : Nat) (k139 : (Nat → Int32) → Option ((Nat → Int32) × (Nat → Int32) × (Nat → Int32))) (v8_61 : Int32) (kla_61 : (Nat → Int32)) (H : Heap) (locs : List Loc) (ls : Array Slot), lv_has ls 9 [(0, .ref (ad 5)), (5, .int q34), (7, .int ((1 : Int32) <<< (x2 &&& 31))), (8, .int v8_61)] → va_P D vwCl (CW ad cI kc ksv kbc kit kln ken kla_61 c46 c57 kns kbl kr0 kr1 kr2 kr3 kr4 kr5 klr kp0 kp1 kp2 kp3) H → va_S A s.heap H locs → fX5_lookAt_139a k139 q34 ((1 : Int32) <<< (x2 &&& 31)) n139 v8_61 kla_61 = some (kla', kfi', kea') → (∀ (kla_u61 : (Nat → Int32)) (H : Heap) (locs : List Loc) (ls : Array Slot), lv_has ls 9 [] → va_P D vwCl (CW ad cI kc ksv kbc kit kln ken kla_u61 c46 c57 kns kbl kr0 kr1 kr2 kr3 kr4 kr5 klr kp0 kp1 kp2 kp3) H → va_S A s.heap H locs → k139 kla_u61 = some (kla', kfi', kea') → W p l e ⟨2, 0, 0, 42⟩ s m args below meth c_ H locs 0 0 Q (F0 m 174 ls [])) → W p l e ⟨2, 0, 0, 42⟩ s m args below meth c_ H locs 0 0 Q (F0 m 139 ls []) := by
            intro n139
            induction n139 with
            | zero =>
              intro k139 v8_61 kla_61 H locs ls hl hP hS hs hk139
              rw [fX5_lookAt_139a] at hs
              cases hs
            | succ n139 ih139 =>
              intro k139 v8_61 kla_61 H locs ls hl hP hS hs hk139
              rw [fX5_lookAt_139a] at hs
              have hD : va_D A (CW ad cI kc ksv kbc kit kln ken kla_61 c46 c57 kns kbl kr0 kr1 kr2 kr3 kr4 kr5 klr kp0 kp1 kp2 kp3) := nd_DD hD rfl
              refine lv_iload hx hb dX5_lookAt_139 (lv_at hl 3 rfl) ?_
              refine lv_iload hx hb dX5_lookAt_141 (lv_at hl 2 rfl) ?_
              refine lv_icmp_ge (tgt := 174) hx hb dX5_lookAt_143 (by decide) (fun b62 => ?_) (fun b62 => ?_)
              · have hs := ite_t hs b62
                exact hk139 kla_61 _ _ _ (lv_sub hl [] rfl) hP hS hs
              · have hs := ite_f hs b62
                refine lv_aload_n hx hb dX5_lookAt_146 rfl (lv_at hl 0 rfl) ?_
                refine gf_X5_15 hx hb hts hown hK hP 5 rfl rfl dX5_lookAt_147 ?_
                refine lv_iload hx hb dX5_lookAt_150 (lv_at hl 2 rfl) ?_
                refine lv_iload hx hb dX5_lookAt_152 (lv_at hl 3 rfl) ?_
                refine lv_iadd hx hb dX5_lookAt_154 ?_
                refine lv_aload_n hx hb dX5_lookAt_155 rfl (lv_at hl 0 rfl) ?_
                refine gf_X5_15 hx hb hts hown hK hP 5 rfl rfl dX5_lookAt_156 ?_
                refine lv_iload hx hb dX5_lookAt_159 (lv_at hl 3 rfl) ?_
                obtain ⟨t63, et63, hs⟩ := ob hs
                refine nd_iald hx hb hK hP 12 0 rfl rfl et63 dX5_lookAt_161 ?_
                refine lv_iload hx hb dX5_lookAt_162 (lv_at hl 1 rfl) ?_
                refine va_mmax hx hb (hml.trans hl.1.symm) hown (hts _ wd_821) (hts _ wd_822) (hts _ wd_665) (hts _ wd_823) (Nat.le_of_ble_eq_true rfl) (Nat.le_of_ble_eq_true rfl) (Nat.zero_le _) (Nat.zero_le _) dX5_lookAt_164 ?_
                obtain ⟨c64, ec64, hs⟩ := ob hs
                refine nd_iast hx hb hK hP hD hS 12 0 rfl rfl ec64 dX5_lookAt_167 (fun H locs hP hD hS => ?_)
                have hP : va_P D vwCl (CW ad cI kc ksv kbc kit kln ken c64 c46 c57 kns kbl kr0 kr1 kr2 kr3 kr4 kr5 klr kp0 kp1 kp2 kp3) H := hP
                have hD : va_D A (CW ad cI kc ksv kbc kit kln ken c64 c46 c57 kns kbl kr0 kr1 kr2 kr3 kr4 kr5 klr kp0 kp1 kp2 kp3) := hD
                refine lv_iinc (v := v8_61 + (1 : Int32)) (lv' := [(8, .int (v8_61 + (1 : Int32))), (0, .ref (ad 5)), (5, .int q34), (7, .int ((1 : Int32) <<< (x2 &&& 31)))]) hx hb dX5_lookAt_168 hl (k := 3) rfl rfl (by decide) rfl (fun ls hl => ?_)
                refine lv_goto (tgt := 139) hx hb dX5_lookAt_171 (by decide) ?_
                exact ih139 k139 (v8_61 + (1 : Int32)) c64 _ _ _ (lv_sub hl [1, 2, 3, 0] rfl) hP hS hs hk139
          refine L139 LF _ (0 : Int32) kla _ _ _ (lv_sub hl [2, 7, 1, 0] rfl) hP hS hs (fun kla_u61 H locs ls hl hP hS hs => ?_)
          have hD : va_D A (CW ad cI kc ksv kbc kit kln ken kla_u61 c46 c57 kns kbl kr0 kr1 kr2 kr3 kr4 kr5 klr kp0 kp1 kp2 kp3) := nd_DD hD rfl
          exact hret _ _ _ hs hP hS dX5_lookAt_174
def tJ7_fill_53178_0 : List (Nat × Instr × Nat) := [(0, .iconst 0, 1), (1, .istore_n 2, 1), (2, .aload_n 0, 1), (3, .arraylength, 1), (4, .istore_n 3, 1), (5, .iload_n 2, 1), (6, .iload_n 3, 1), (7, .if_icmp .ge 13, 3), (10, .aload_n 0, 1), (11, .iload_n 2, 1), (12, .iload_n 1, 1), (13, .iastore, 1), (14, .iinc 2 1, 3), (17, .goto (-12), 3), (20, .return_, 1)]
theorem tJ7_fill_53178_0_ok : tJ7_fill_53178_0.all (fun q => decide (decode cJ7_fill_53178 q.1 = .ok q.2)) = true := by decide +kernel
theorem dJ7_fill_53178_0 : decode cJ7_fill_53178 0 = .ok (.iconst 0, 1) := td tJ7_fill_53178_0_ok 0 (q := (0, .iconst 0, 1)) rfl
theorem dJ7_fill_53178_1 : decode cJ7_fill_53178 1 = .ok (.istore_n 2, 1) := td tJ7_fill_53178_0_ok 1 (q := (1, .istore_n 2, 1)) rfl
theorem dJ7_fill_53178_2 : decode cJ7_fill_53178 2 = .ok (.aload_n 0, 1) := td tJ7_fill_53178_0_ok 2 (q := (2, .aload_n 0, 1)) rfl
theorem dJ7_fill_53178_3 : decode cJ7_fill_53178 3 = .ok (.arraylength, 1) := td tJ7_fill_53178_0_ok 3 (q := (3, .arraylength, 1)) rfl
theorem dJ7_fill_53178_4 : decode cJ7_fill_53178 4 = .ok (.istore_n 3, 1) := td tJ7_fill_53178_0_ok 4 (q := (4, .istore_n 3, 1)) rfl
theorem dJ7_fill_53178_5 : decode cJ7_fill_53178 5 = .ok (.iload_n 2, 1) := td tJ7_fill_53178_0_ok 5 (q := (5, .iload_n 2, 1)) rfl
theorem dJ7_fill_53178_6 : decode cJ7_fill_53178 6 = .ok (.iload_n 3, 1) := td tJ7_fill_53178_0_ok 6 (q := (6, .iload_n 3, 1)) rfl
theorem dJ7_fill_53178_7 : decode cJ7_fill_53178 7 = .ok (.if_icmp .ge 13, 3) := td tJ7_fill_53178_0_ok 7 (q := (7, .if_icmp .ge 13, 3)) rfl
theorem dJ7_fill_53178_10 : decode cJ7_fill_53178 10 = .ok (.aload_n 0, 1) := td tJ7_fill_53178_0_ok 8 (q := (10, .aload_n 0, 1)) rfl
theorem dJ7_fill_53178_11 : decode cJ7_fill_53178 11 = .ok (.iload_n 2, 1) := td tJ7_fill_53178_0_ok 9 (q := (11, .iload_n 2, 1)) rfl
theorem dJ7_fill_53178_12 : decode cJ7_fill_53178 12 = .ok (.iload_n 1, 1) := td tJ7_fill_53178_0_ok 10 (q := (12, .iload_n 1, 1)) rfl
theorem dJ7_fill_53178_13 : decode cJ7_fill_53178 13 = .ok (.iastore, 1) := td tJ7_fill_53178_0_ok 11 (q := (13, .iastore, 1)) rfl
theorem dJ7_fill_53178_14 : decode cJ7_fill_53178 14 = .ok (.iinc 2 1, 3) := td tJ7_fill_53178_0_ok 12 (q := (14, .iinc 2 1, 3)) rfl
theorem dJ7_fill_53178_17 : decode cJ7_fill_53178 17 = .ok (.goto (-12), 3) := td tJ7_fill_53178_0_ok 13 (q := (17, .goto (-12), 3)) rfl
theorem dJ7_fill_53178_20 : decode cJ7_fill_53178 20 = .ok (.return_, 1) := td tJ7_fill_53178_0_ok 14 (q := (20, .return_, 1)) rfl
def fJ7_fill_53178_5 (k5 : (Nat → Int32) → Option ((Nat → Int32))) (x1 : Int32) : Nat → Int32 → (Nat → Int32) → Option ((Nat → Int32))
  | 0, _, _ => none
  | n5 + 1, x2, ken => (if (1024 : Int32) ≤ x2 then (k5 ken) else (Option.bind (aput ken 1024 x2 x1) (fun c2 => (fJ7_fill_53178_5 k5 x1 n5 (x2 + (1 : Int32)) c2))))
def fJ7_fill_53178 (ken : (Nat → Int32)) (x1 : Int32) : Option ((Nat → Int32)) :=
  (fJ7_fill_53178_5 (fun (ken_u3 : (Nat → Int32)) => (some ken_u3)) x1 LF (0 : Int32) ken)
set_option maxHeartbeats 4000000 in
set_option maxRecDepth 100000 in
theorem mJ7_fill_53178 {l : Launch} {D : va_G} {ad : Nat → Nat} {cI : ClassId} {kc : (Nat → Int32)} {ksv : (Nat → Int32)} {kbc : (Nat → Int32)} {kit : (Nat → Int32)} {kln : (Nat → Int32)} {ken : (Nat → Int32)} {kla : (Nat → Int32)} {kfi : (Nat → Int32)} {kea : (Nat → Int32)} {kns : Int32} {kbl : Int32} {kr0 : Int32} {kr1 : Int32} {kr2 : Int32} {kr3 : Int32} {kr4 : Int32} {kr5 : Int32} {klr : Int32} {kp0 : Int32} {kp1 : Int32} {kp2 : Int32} {kp3 : Int32} {x1 : Int32} {ken' : (Nat → Int32)} (hs : fJ7_fill_53178 ken x1 = some ken') : nd_C l yJ7_fill_53178 cJ7_fill_53178 4 none 0 0 D [(cI, .int)] [.ref (ad 11), .int x1] (CW ad cI kc ksv kbc kit kln ken kla kfi kea kns kbl kr0 kr1 kr2 kr3 kr4 kr5 klr kp0 kp1 kp2 kp3) (CW ad cI kc ksv kbc kit kln ken' kla kfi kea kns kbl kr0 kr1 kr2 kr3 kr4 kr5 klr kp0 kp1 kp2 kp3) none := by
  refine nd_ofCv (by decide) (Nat.le_of_ble_eq_true rfl) (fun p e s m args below meth c_ ls A Q hx hb hml hown hts hl hP hK hD hS hA hN hret => ?_)
  have hown : s.vm.findClass RJ7 = some m.cls := hown
  have hl : lv_has ls 4 [(0, .ref (ad 11)), (1, .int x1)] := hl
  have hret : ∀ (z0 : (Nat → Int32)) {H : Heap} {locs : List Loc} {pc : Nat} {ls : Array Slot}, some z0 = some ken' → va_P D vwCl (CW ad cI kc ksv kbc kit kln z0 kla kfi kea kns kbl kr0 kr1 kr2 kr3 kr4 kr5 klr kp0 kp1 kp2 kp3) H → va_S A s.heap H locs → decode cJ7_fill_53178 pc = .ok (.return_, 1) → W p l e ⟨0, 0, 0, 0⟩ s m args below meth c_ H locs 0 0 Q (F0 m pc ls []) := by
    intro z0 H locs pc ls h hP hS hd
    cases h
    exact hret hP hS hd
  rw [fJ7_fill_53178] at hs
  refine lv_iconst (v := (0 : Int32)) hx hb dJ7_fill_53178_0 (by decide) ?_
  refine lv_istore_n (lv' := [(2, .int (0 : Int32)), (0, .ref (ad 11)), (1, .int x1)]) hx hb dJ7_fill_53178_1 rfl hl (by decide) rfl (fun ls hl => ?_)
  refine lv_aload_n hx hb dJ7_fill_53178_2 rfl (lv_at hl 1 rfl) ?_
  refine va_alen hx hb hK hP 11 0 rfl rfl (v := (1024 : Int32)) rfl dJ7_fill_53178_3 ?_
  refine lv_istore_n (lv' := [(3, .int (1024 : Int32)), (2, .int (0 : Int32)), (0, .ref (ad 11)), (1, .int x1)]) hx hb dJ7_fill_53178_4 rfl hl (by decide) rfl (fun ls hl => ?_)
  have L5 : ∀ (n5 : Nat) (k5 : (Nat → Int32) → Option ((Nat → Int32))) (v2_3 : Int32) (ken_3 : (Nat → Int32)) (H : Heap) (locs : List Loc) (ls : Array Slot), lv_has ls 4 [(0, .ref (ad 11)), (1, .int x1), (2, .int v2_3), (3, .int (1024 : Int32))] → va_P D vwCl (CW ad cI kc ksv kbc kit kln ken_3 kla kfi kea kns kbl kr0 kr1 kr2 kr3 kr4 kr5 klr kp0 kp1 kp2 kp3) H → va_S A s.heap H locs → fJ7_fill_53178_5 k5 x1 n5 v2_3 ken_3 = some ken' → (∀ (ken_u3 : (Nat → Int32)) (H : Heap) (locs : List Loc) (ls : Array Slot), lv_has ls 4 [] → va_P D vwCl (CW ad cI kc ksv kbc kit kln ken_u3 kla kfi kea kns kbl kr0 kr1 kr2 kr3 kr4 kr5 klr kp0 kp1 kp2 kp3) H → va_S A s.heap H locs → k5 ken_u3 = some ken' → W p l e ⟨0, 0, 0, 0⟩ s m args below meth c_ H locs 0 0 Q (F0 m 20 ls [])) → W p l e ⟨0, 0, 0, 0⟩ s m args below meth c_ H locs 0 0 Q (F0 m 5 ls []) := by
    intro n5
    induction n5 with
    | zero =>
      intro k5 v2_3 ken_3 H locs ls hl hP hS hs hk5
      rw [fJ7_fill_53178_5] at hs
      cases hs
    | succ n5 ih5 =>
      intro k5 v2_3 ken_3 H locs ls hl hP hS hs hk5
      rw [fJ7_fill_53178_5] at hs
      have hD : va_D A (CW ad cI kc ksv kbc kit kln ken_3 kla kfi kea kns kbl kr0 kr1 kr2 kr3 kr4 kr5 klr kp0 kp1 kp2 kp3) := nd_DD hD rfl
      refine lv_iload_n hx hb dJ7_fill_53178_5 rfl (lv_at hl 2 rfl) ?_
      refine lv_iload_n hx hb dJ7_fill_53178_6 rfl (lv_at hl 3 rfl) ?_
      refine lv_icmp_ge (tgt := 20) hx hb dJ7_fill_53178_7 (by decide) (fun b4 => ?_) (fun b4 => ?_)
      · have hs := ite_t hs b4
        exact hk5 ken_3 _ _ _ (lv_sub hl [] rfl) hP hS hs
      · have hs := ite_f hs b4
        refine lv_aload_n hx hb dJ7_fill_53178_10 rfl (lv_at hl 0 rfl) ?_
        refine lv_iload_n hx hb dJ7_fill_53178_11 rfl (lv_at hl 2 rfl) ?_
        refine lv_iload_n hx hb dJ7_fill_53178_12 rfl (lv_at hl 1 rfl) ?_
        obtain ⟨c5, ec5, hs⟩ := ob hs
        refine nd_iast hx hb hK hP hD hS 11 0 rfl rfl ec5 dJ7_fill_53178_13 (fun H locs hP hD hS => ?_)
        have hP : va_P D vwCl (CW ad cI kc ksv kbc kit kln c5 kla kfi kea kns kbl kr0 kr1 kr2 kr3 kr4 kr5 klr kp0 kp1 kp2 kp3) H := hP
        have hD : va_D A (CW ad cI kc ksv kbc kit kln c5 kla kfi kea kns kbl kr0 kr1 kr2 kr3 kr4 kr5 klr kp0 kp1 kp2 kp3) := hD
        refine lv_iinc (v := v2_3 + (1 : Int32)) (lv' := [(2, .int (v2_3 + (1 : Int32))), (0, .ref (ad 11)), (1, .int x1), (3, .int (1024 : Int32))]) hx hb dJ7_fill_53178_14 hl (k := 2) rfl rfl (by decide) rfl (fun ls hl => ?_)
        refine lv_goto (tgt := 5) hx hb dJ7_fill_53178_17 (by decide) ?_
        exact ih5 k5 (v2_3 + (1 : Int32)) c5 _ _ _ (lv_sub hl [1, 2, 0, 3] rfl) hP hS hs hk5
  refine L5 LF _ (0 : Int32) ken _ _ _ (lv_sub hl [2, 3, 1, 0] rfl) hP hS hs (fun ken_u3 H locs ls hl hP hS hs => ?_)
  have hD : va_D A (CW ad cI kc ksv kbc kit kln ken_u3 kla kfi kea kns kbl kr0 kr1 kr2 kr3 kr4 kr5 klr kp0 kp1 kp2 kp3) := nd_DD hD rfl
  exact hret _ hs hP hS dJ7_fill_53178_20
def tX5_take_0 : List (Nat × Instr × Nat) := [(0, .iload_n 2, 1), (1, .invokestatic 82, 3), (4, .istore_n 3, 1), (5, .aload_n 0, 1), (6, .getfield 11, 3), (9, .iload_n 2, 1), (10, .iaload, 1), (11, .invokestatic 87, 3), (14, .istore 4, 2), (16, .iload_n 3, 1), (17, .aload_n 0, 1), (18, .getfield 28, 3), (21, .if_icmp .gt 28, 3), (24, .iload_n 3, 1), (25, .aload_n 0, 1), (26, .getfield 28, 3), (29, .if_icmp .ne 36, 3), (32, .iload_n 1, 1), (33, .aload_n 0, 1), (34, .getfield 31, 3), (37, .if_icmp .ne 28, 3), (40, .iload 4, 2), (42, .aload_n 0, 1), (43, .getfield 34, 3), (46, .if_icmp .ge 19, 3), (49, .aload_n 0, 1), (50, .iload_n 3, 1), (51, .putfield 28, 3), (54, .aload_n 0, 1), (55, .iload_n 1, 1), (56, .putfield 31, 3), (59, .aload_n 0, 1), (60, .iload 4, 2), (62, .putfield 34, 3), (65, .return_, 1)]
theorem tX5_take_0_ok : tX5_take_0.all (fun q => decide (decode cX5_take q.1 = .ok q.2)) = true := by decide +kernel
theorem dX5_take_0 : decode cX5_take 0 = .ok (.iload_n 2, 1) := td tX5_take_0_ok 0 (q := (0, .iload_n 2, 1)) rfl
theorem dX5_take_1 : decode cX5_take 1 = .ok (.invokestatic 82, 3) := td tX5_take_0_ok 1 (q := (1, .invokestatic 82, 3)) rfl
theorem dX5_take_4 : decode cX5_take 4 = .ok (.istore_n 3, 1) := td tX5_take_0_ok 2 (q := (4, .istore_n 3, 1)) rfl
theorem dX5_take_5 : decode cX5_take 5 = .ok (.aload_n 0, 1) := td tX5_take_0_ok 3 (q := (5, .aload_n 0, 1)) rfl
theorem dX5_take_6 : decode cX5_take 6 = .ok (.getfield 11, 3) := td tX5_take_0_ok 4 (q := (6, .getfield 11, 3)) rfl
theorem dX5_take_9 : decode cX5_take 9 = .ok (.iload_n 2, 1) := td tX5_take_0_ok 5 (q := (9, .iload_n 2, 1)) rfl
theorem dX5_take_10 : decode cX5_take 10 = .ok (.iaload, 1) := td tX5_take_0_ok 6 (q := (10, .iaload, 1)) rfl
theorem dX5_take_11 : decode cX5_take 11 = .ok (.invokestatic 87, 3) := td tX5_take_0_ok 7 (q := (11, .invokestatic 87, 3)) rfl
theorem dX5_take_14 : decode cX5_take 14 = .ok (.istore 4, 2) := td tX5_take_0_ok 8 (q := (14, .istore 4, 2)) rfl
theorem dX5_take_16 : decode cX5_take 16 = .ok (.iload_n 3, 1) := td tX5_take_0_ok 9 (q := (16, .iload_n 3, 1)) rfl
theorem dX5_take_17 : decode cX5_take 17 = .ok (.aload_n 0, 1) := td tX5_take_0_ok 10 (q := (17, .aload_n 0, 1)) rfl
theorem dX5_take_18 : decode cX5_take 18 = .ok (.getfield 28, 3) := td tX5_take_0_ok 11 (q := (18, .getfield 28, 3)) rfl
theorem dX5_take_21 : decode cX5_take 21 = .ok (.if_icmp .gt 28, 3) := td tX5_take_0_ok 12 (q := (21, .if_icmp .gt 28, 3)) rfl
theorem dX5_take_24 : decode cX5_take 24 = .ok (.iload_n 3, 1) := td tX5_take_0_ok 13 (q := (24, .iload_n 3, 1)) rfl
theorem dX5_take_25 : decode cX5_take 25 = .ok (.aload_n 0, 1) := td tX5_take_0_ok 14 (q := (25, .aload_n 0, 1)) rfl
theorem dX5_take_26 : decode cX5_take 26 = .ok (.getfield 28, 3) := td tX5_take_0_ok 15 (q := (26, .getfield 28, 3)) rfl
theorem dX5_take_29 : decode cX5_take 29 = .ok (.if_icmp .ne 36, 3) := td tX5_take_0_ok 16 (q := (29, .if_icmp .ne 36, 3)) rfl
theorem dX5_take_32 : decode cX5_take 32 = .ok (.iload_n 1, 1) := td tX5_take_0_ok 17 (q := (32, .iload_n 1, 1)) rfl
theorem dX5_take_33 : decode cX5_take 33 = .ok (.aload_n 0, 1) := td tX5_take_0_ok 18 (q := (33, .aload_n 0, 1)) rfl
theorem dX5_take_34 : decode cX5_take 34 = .ok (.getfield 31, 3) := td tX5_take_0_ok 19 (q := (34, .getfield 31, 3)) rfl
theorem dX5_take_37 : decode cX5_take 37 = .ok (.if_icmp .ne 28, 3) := td tX5_take_0_ok 20 (q := (37, .if_icmp .ne 28, 3)) rfl
theorem dX5_take_40 : decode cX5_take 40 = .ok (.iload 4, 2) := td tX5_take_0_ok 21 (q := (40, .iload 4, 2)) rfl
theorem dX5_take_42 : decode cX5_take 42 = .ok (.aload_n 0, 1) := td tX5_take_0_ok 22 (q := (42, .aload_n 0, 1)) rfl
theorem dX5_take_43 : decode cX5_take 43 = .ok (.getfield 34, 3) := td tX5_take_0_ok 23 (q := (43, .getfield 34, 3)) rfl
theorem dX5_take_46 : decode cX5_take 46 = .ok (.if_icmp .ge 19, 3) := td tX5_take_0_ok 24 (q := (46, .if_icmp .ge 19, 3)) rfl
theorem dX5_take_49 : decode cX5_take 49 = .ok (.aload_n 0, 1) := td tX5_take_0_ok 25 (q := (49, .aload_n 0, 1)) rfl
theorem dX5_take_50 : decode cX5_take 50 = .ok (.iload_n 3, 1) := td tX5_take_0_ok 26 (q := (50, .iload_n 3, 1)) rfl
theorem dX5_take_51 : decode cX5_take 51 = .ok (.putfield 28, 3) := td tX5_take_0_ok 27 (q := (51, .putfield 28, 3)) rfl
theorem dX5_take_54 : decode cX5_take 54 = .ok (.aload_n 0, 1) := td tX5_take_0_ok 28 (q := (54, .aload_n 0, 1)) rfl
theorem dX5_take_55 : decode cX5_take 55 = .ok (.iload_n 1, 1) := td tX5_take_0_ok 29 (q := (55, .iload_n 1, 1)) rfl
theorem dX5_take_56 : decode cX5_take 56 = .ok (.putfield 31, 3) := td tX5_take_0_ok 30 (q := (56, .putfield 31, 3)) rfl
theorem dX5_take_59 : decode cX5_take 59 = .ok (.aload_n 0, 1) := td tX5_take_0_ok 31 (q := (59, .aload_n 0, 1)) rfl
theorem dX5_take_60 : decode cX5_take 60 = .ok (.iload 4, 2) := td tX5_take_0_ok 32 (q := (60, .iload 4, 2)) rfl
theorem dX5_take_62 : decode cX5_take 62 = .ok (.putfield 34, 3) := td tX5_take_0_ok 33 (q := (62, .putfield 34, 3)) rfl
theorem dX5_take_65 : decode cX5_take 65 = .ok (.return_, 1) := td tX5_take_0_ok 34 (q := (65, .return_, 1)) rfl
def fX5_take (ken : (Nat → Int32)) (kp1 : Int32) (kp2 : Int32) (kp3 : Int32) (x1 : Int32) (x2 : Int32) : Option (Int32 × Int32 × Int32) :=
  (Option.bind (fJ6_bitCount_0f7a4 x2) (fun q1 => (Option.bind (aget ken 1024 x2) (fun t2 => (Option.bind (fX8_lowestOf t2) (fun q3 => (if kp1 < q1 then (some (q1, x1, q3)) else (if q1 = kp1 then (if x1 = kp2 then (if kp3 ≤ q3 then (some (kp1, kp2, kp3)) else (some (q1, x1, q3))) else (some (kp1, kp2, kp3))) else (some (kp1, kp2, kp3))))))))))
set_option maxHeartbeats 4000000 in
set_option maxRecDepth 100000 in
theorem mX5_take {l : Launch} {D : va_G} {ad : Nat → Nat} {cI : ClassId} {kc : (Nat → Int32)} {ksv : (Nat → Int32)} {kbc : (Nat → Int32)} {kit : (Nat → Int32)} {kln : (Nat → Int32)} {ken : (Nat → Int32)} {kla : (Nat → Int32)} {kfi : (Nat → Int32)} {kea : (Nat → Int32)} {kns : Int32} {kbl : Int32} {kr0 : Int32} {kr1 : Int32} {kr2 : Int32} {kr3 : Int32} {kr4 : Int32} {kr5 : Int32} {klr : Int32} {kp0 : Int32} {kp1 : Int32} {kp2 : Int32} {kp3 : Int32} {x1 : Int32} {x2 : Int32} {kp1' : Int32} {kp2' : Int32} {kp3' : Int32} (hs : fX5_take ken kp1 kp2 kp3 x1 x2 = some (kp1', kp2', kp3')) : nd_C l yX5_take cX5_take 5 none 2 40 D [(cI, .int)] [.ref (ad 5), .int x1, .int x2] (CW ad cI kc ksv kbc kit kln ken kla kfi kea kns kbl kr0 kr1 kr2 kr3 kr4 kr5 klr kp0 kp1 kp2 kp3) (CW ad cI kc ksv kbc kit kln ken kla kfi kea kns kbl kr0 kr1 kr2 kr3 kr4 kr5 klr kp0 kp1' kp2' kp3') none := by
  refine nd_ofCv (by decide) (Nat.le_of_ble_eq_true rfl) (fun p e s m args below meth c_ ls A Q hx hb hml hown hts hl hP hK hD hS hA hN hret => ?_)
  have hown : s.vm.findClass RX5 = some m.cls := hown
  have hl : lv_has ls 5 [(0, .ref (ad 5)), (1, .int x1), (2, .int x2)] := hl
  have hret : ∀ (z0 : Int32) (z1 : Int32) (z2 : Int32) {H : Heap} {locs : List Loc} {pc : Nat} {ls : Array Slot}, some (z0, z1, z2) = some (kp1', kp2', kp3') → va_P D vwCl (CW ad cI kc ksv kbc kit kln ken kla kfi kea kns kbl kr0 kr1 kr2 kr3 kr4 kr5 klr kp0 z0 z1 z2) H → va_S A s.heap H locs → decode cX5_take pc = .ok (.return_, 1) → W p l e ⟨2, 0, 0, 40⟩ s m args below meth c_ H locs 0 0 Q (F0 m pc ls []) := by
    intro z0 z1 z2 H locs pc ls h hP hS hd
    cases h
    exact hret hP hS hd
  rw [fX5_take] at hs
  refine lv_iload_n hx hb dX5_take_0 rfl (lv_at hl 2 rfl) ?_
  obtain ⟨q1, eq1, hs⟩ := ob hs
  refine nd_callS (As := [.int x2]) (rest := []) (st1 := [.int q1]) hx hb hml hown hts hl hP hK hD hS hA hN (mJ6_bitCount_0f7a4 eq1) is_J6_bitCount_0f7a4 wd_839 rfl rfl ⟨Nat.le_of_ble_eq_true rfl, Nat.le_of_ble_eq_true rfl⟩ (Nat.le_of_ble_eq_true rfl) ⟨Nat.zero_le _, Nat.zero_le _⟩ dX5_take_1 rfl rfl (fun H locs hP hD hS => ?_)
  refine lv_istore_n (lv' := [(3, .int q1), (0, .ref (ad 5)), (1, .int x1), (2, .int x2)]) hx hb dX5_take_4 rfl hl (by decide) rfl (fun ls hl => ?_)
  refine lv_aload_n hx hb dX5_take_5 rfl (lv_at hl 1 rfl) ?_
  refine gf_X5_11 hx hb hts hown hK hP 5 rfl rfl dX5_take_6 ?_
  refine lv_iload_n hx hb dX5_take_9 rfl (lv_at hl 3 rfl) ?_
  obtain ⟨t2, et2, hs⟩ := ob hs
  refine nd_iald hx hb hK hP 11 0 rfl rfl et2 dX5_take_10 ?_
  obtain ⟨q3, eq3, hs⟩ := ob hs
  refine nd_callN (As := [.int t2]) (rest := []) (st1 := [.int q3]) hx hb hml hown hts hl hP hK hD hS hA hN (mX8_lowestOf eq3) is_X8_lowestOf hN.2 rfl rfl ⟨Nat.le_of_ble_eq_true rfl, Nat.le_of_ble_eq_true rfl⟩ (Nat.le_of_ble_eq_true rfl) ⟨Nat.zero_le _, Nat.zero_le _⟩ dX5_take_11 rfl rfl (fun H locs hP hD hS => ?_)
  refine lv_istore (lv' := [(4, .int q3), (3, .int q1), (0, .ref (ad 5)), (1, .int x1), (2, .int x2)]) hx hb dX5_take_14 hl (by decide) rfl (fun ls hl => ?_)
  refine lv_iload_n hx hb dX5_take_16 rfl (lv_at hl 1 rfl) ?_
  refine lv_aload_n hx hb dX5_take_17 rfl (lv_at hl 2 rfl) ?_
  refine gf_X5_28 hx hb hts hown hK hP 5 rfl rfl dX5_take_18 ?_
  refine lv_icmp_gt (tgt := 49) hx hb dX5_take_21 (by decide) (fun b4 => ?_) (fun b4 => ?_)
  · have hs := ite_t hs b4
    refine lv_aload_n hx hb dX5_take_49 rfl (lv_at hl 2 rfl) ?_
    refine lv_iload_n hx hb dX5_take_50 rfl (lv_at hl 1 rfl) ?_
    refine pf_X5_28 hx hb hts hown hK hP hD hS 5 rfl rfl dX5_take_51 (fun H locs hP hD hS => ?_)
    have hP : va_P D vwCl (CW ad cI kc ksv kbc kit kln ken kla kfi kea kns kbl kr0 kr1 kr2 kr3 kr4 kr5 klr kp0 q1 kp2 kp3) H := hP
    have hD : va_D A (CW ad cI kc ksv kbc kit kln ken kla kfi kea kns kbl kr0 kr1 kr2 kr3 kr4 kr5 klr kp0 q1 kp2 kp3) := hD
    refine lv_aload_n hx hb dX5_take_54 rfl (lv_at hl 2 rfl) ?_
    refine lv_iload_n hx hb dX5_take_55 rfl (lv_at hl 3 rfl) ?_
    refine pf_X5_31 hx hb hts hown hK hP hD hS 5 rfl rfl dX5_take_56 (fun H locs hP hD hS => ?_)
    have hP : va_P D vwCl (CW ad cI kc ksv kbc kit kln ken kla kfi kea kns kbl kr0 kr1 kr2 kr3 kr4 kr5 klr kp0 q1 x1 kp3) H := hP
    have hD : va_D A (CW ad cI kc ksv kbc kit kln ken kla kfi kea kns kbl kr0 kr1 kr2 kr3 kr4 kr5 klr kp0 q1 x1 kp3) := hD
    refine lv_aload_n hx hb dX5_take_59 rfl (lv_at hl 2 rfl) ?_
    refine lv_iload hx hb dX5_take_60 (lv_at hl 0 rfl) ?_
    refine pf_X5_34 hx hb hts hown hK hP hD hS 5 rfl rfl dX5_take_62 (fun H locs hP hD hS => ?_)
    have hP : va_P D vwCl (CW ad cI kc ksv kbc kit kln ken kla kfi kea kns kbl kr0 kr1 kr2 kr3 kr4 kr5 klr kp0 q1 x1 q3) H := hP
    have hD : va_D A (CW ad cI kc ksv kbc kit kln ken kla kfi kea kns kbl kr0 kr1 kr2 kr3 kr4 kr5 klr kp0 q1 x1 q3) := hD
    exact hret _ _ _ hs hP hS dX5_take_65
  · have hs := ite_f hs b4
    refine lv_iload_n hx hb dX5_take_24 rfl (lv_at hl 1 rfl) ?_
    refine lv_aload_n hx hb dX5_take_25 rfl (lv_at hl 2 rfl) ?_
    refine gf_X5_28 hx hb hts hown hK hP 5 rfl rfl dX5_take_26 ?_
    refine lv_icmp_ne (tgt := 65) hx hb dX5_take_29 (by decide) (fun b5 => ?_) (fun b5 => ?_)
    · have hs := ite_f hs b5
      exact hret _ _ _ hs hP hS dX5_take_65
    · have hs := ite_t hs b5
      refine lv_iload_n hx hb dX5_take_32 rfl (lv_at hl 3 rfl) ?_
      refine lv_aload_n hx hb dX5_take_33 rfl (lv_at hl 2 rfl) ?_
      refine gf_X5_31 hx hb hts hown hK hP 5 rfl rfl dX5_take_34 ?_
      refine lv_icmp_ne (tgt := 65) hx hb dX5_take_37 (by decide) (fun b6 => ?_) (fun b6 => ?_)
      · have hs := ite_f hs b6
        exact hret _ _ _ hs hP hS dX5_take_65
      · have hs := ite_t hs b6
        refine lv_iload hx hb dX5_take_40 (lv_at hl 0 rfl) ?_
        refine lv_aload_n hx hb dX5_take_42 rfl (lv_at hl 2 rfl) ?_
        refine gf_X5_34 hx hb hts hown hK hP 5 rfl rfl dX5_take_43 ?_
        refine lv_icmp_ge (tgt := 65) hx hb dX5_take_46 (by decide) (fun b7 => ?_) (fun b7 => ?_)
        · have hs := ite_t hs b7
          exact hret _ _ _ hs hP hS dX5_take_65
        · have hs := ite_f hs b7
          refine lv_aload_n hx hb dX5_take_49 rfl (lv_at hl 2 rfl) ?_
          refine lv_iload_n hx hb dX5_take_50 rfl (lv_at hl 1 rfl) ?_
          refine pf_X5_28 hx hb hts hown hK hP hD hS 5 rfl rfl dX5_take_51 (fun H locs hP hD hS => ?_)
          have hP : va_P D vwCl (CW ad cI kc ksv kbc kit kln ken kla kfi kea kns kbl kr0 kr1 kr2 kr3 kr4 kr5 klr kp0 q1 kp2 kp3) H := hP
          have hD : va_D A (CW ad cI kc ksv kbc kit kln ken kla kfi kea kns kbl kr0 kr1 kr2 kr3 kr4 kr5 klr kp0 q1 kp2 kp3) := hD
          refine lv_aload_n hx hb dX5_take_54 rfl (lv_at hl 2 rfl) ?_
          refine lv_iload_n hx hb dX5_take_55 rfl (lv_at hl 3 rfl) ?_
          refine pf_X5_31 hx hb hts hown hK hP hD hS 5 rfl rfl dX5_take_56 (fun H locs hP hD hS => ?_)
          have hP : va_P D vwCl (CW ad cI kc ksv kbc kit kln ken kla kfi kea kns kbl kr0 kr1 kr2 kr3 kr4 kr5 klr kp0 q1 x1 kp3) H := hP
          have hD : va_D A (CW ad cI kc ksv kbc kit kln ken kla kfi kea kns kbl kr0 kr1 kr2 kr3 kr4 kr5 klr kp0 q1 x1 kp3) := hD
          refine lv_aload_n hx hb dX5_take_59 rfl (lv_at hl 2 rfl) ?_
          refine lv_iload hx hb dX5_take_60 (lv_at hl 0 rfl) ?_
          refine pf_X5_34 hx hb hts hown hK hP hD hS 5 rfl rfl dX5_take_62 (fun H locs hP hD hS => ?_)
          have hP : va_P D vwCl (CW ad cI kc ksv kbc kit kln ken kla kfi kea kns kbl kr0 kr1 kr2 kr3 kr4 kr5 klr kp0 q1 x1 q3) H := hP
          have hD : va_D A (CW ad cI kc ksv kbc kit kln ken kla kfi kea kns kbl kr0 kr1 kr2 kr3 kr4 kr5 klr kp0 q1 x1 q3) := hD
          exact hret _ _ _ hs hP hS dX5_take_65
def tX5_grow_0 : List (Nat × Instr × Nat) := [(0, .iconst 0, 1), (1, .istore_n 2, 1), (2, .iconst 0, 1), (3, .istore_n 3, 1), (4, .iload_n 3, 1), (5, .aload_n 0, 1), (6, .getfield 24, 3), (9, .if_icmp .ge 31, 3), (12, .aload_n 0, 1), (13, .getfield 11, 3), (16, .iload_n 1, 1), (17, .iaload, 1), (18, .iconst 1, 1), (19, .iload_n 3, 1), (20, .ishl, 1), (21, .iand, 1), (22, .ifCond .eq 12, 3), (25, .iload_n 2, 1), (26, .aload_n 0, 1), (27, .getfield 18, 3), (30, .iload_n 3, 1), (31, .iaload, 1), (32, .ior, 1), (33, .istore_n 2, 1), (34, .iinc 3 1, 3), (37, .goto (-33), 3), (40, .iload_n 2, 1), (41, .iload_n 1, 1), (42, .iconst (-1), 1), (43, .ixor, 1), (44, .iand, 1), (45, .istore_n 2, 1), (46, .iconst 0, 1), (47, .istore_n 3, 1), (48, .iload_n 3, 1), (49, .aload_n 0, 1), (50, .getfield 24, 3), (53, .if_icmp .ge 48, 3), (56, .iload_n 2, 1), (57, .iconst 1, 1), (58, .iload_n 3, 1), (59, .ishl, 1), (60, .iand, 1), (61, .ifCond .eq 34, 3), (64, .aload_n 0, 1), (65, .getfield 15, 3), (68, .iload_n 1, 1), (69, .iaload, 1), (70, .aload_n 0, 1), (71, .getfield 21, 3), (74, .iload_n 3, 1), (75, .iaload, 1), (76, .if_icmp .gt 19, 3), (79, .aload_n 0, 1), (80, .getfield 11, 3), (83, .iload_n 1, 1), (84, .iconst 1, 1), (85, .iload_n 3, 1), (86, .ishl, 1), (87, .ior, 1)]
theorem tX5_grow_0_ok : tX5_grow_0.all (fun q => decide (decode cX5_grow q.1 = .ok q.2)) = true := by decide +kernel
theorem dX5_grow_0 : decode cX5_grow 0 = .ok (.iconst 0, 1) := td tX5_grow_0_ok 0 (q := (0, .iconst 0, 1)) rfl
theorem dX5_grow_1 : decode cX5_grow 1 = .ok (.istore_n 2, 1) := td tX5_grow_0_ok 1 (q := (1, .istore_n 2, 1)) rfl
theorem dX5_grow_2 : decode cX5_grow 2 = .ok (.iconst 0, 1) := td tX5_grow_0_ok 2 (q := (2, .iconst 0, 1)) rfl
theorem dX5_grow_3 : decode cX5_grow 3 = .ok (.istore_n 3, 1) := td tX5_grow_0_ok 3 (q := (3, .istore_n 3, 1)) rfl
theorem dX5_grow_4 : decode cX5_grow 4 = .ok (.iload_n 3, 1) := td tX5_grow_0_ok 4 (q := (4, .iload_n 3, 1)) rfl
theorem dX5_grow_5 : decode cX5_grow 5 = .ok (.aload_n 0, 1) := td tX5_grow_0_ok 5 (q := (5, .aload_n 0, 1)) rfl
theorem dX5_grow_6 : decode cX5_grow 6 = .ok (.getfield 24, 3) := td tX5_grow_0_ok 6 (q := (6, .getfield 24, 3)) rfl
theorem dX5_grow_9 : decode cX5_grow 9 = .ok (.if_icmp .ge 31, 3) := td tX5_grow_0_ok 7 (q := (9, .if_icmp .ge 31, 3)) rfl
theorem dX5_grow_12 : decode cX5_grow 12 = .ok (.aload_n 0, 1) := td tX5_grow_0_ok 8 (q := (12, .aload_n 0, 1)) rfl
theorem dX5_grow_13 : decode cX5_grow 13 = .ok (.getfield 11, 3) := td tX5_grow_0_ok 9 (q := (13, .getfield 11, 3)) rfl
theorem dX5_grow_16 : decode cX5_grow 16 = .ok (.iload_n 1, 1) := td tX5_grow_0_ok 10 (q := (16, .iload_n 1, 1)) rfl
theorem dX5_grow_17 : decode cX5_grow 17 = .ok (.iaload, 1) := td tX5_grow_0_ok 11 (q := (17, .iaload, 1)) rfl
theorem dX5_grow_18 : decode cX5_grow 18 = .ok (.iconst 1, 1) := td tX5_grow_0_ok 12 (q := (18, .iconst 1, 1)) rfl
theorem dX5_grow_19 : decode cX5_grow 19 = .ok (.iload_n 3, 1) := td tX5_grow_0_ok 13 (q := (19, .iload_n 3, 1)) rfl
theorem dX5_grow_20 : decode cX5_grow 20 = .ok (.ishl, 1) := td tX5_grow_0_ok 14 (q := (20, .ishl, 1)) rfl
theorem dX5_grow_21 : decode cX5_grow 21 = .ok (.iand, 1) := td tX5_grow_0_ok 15 (q := (21, .iand, 1)) rfl
theorem dX5_grow_22 : decode cX5_grow 22 = .ok (.ifCond .eq 12, 3) := td tX5_grow_0_ok 16 (q := (22, .ifCond .eq 12, 3)) rfl
theorem dX5_grow_25 : decode cX5_grow 25 = .ok (.iload_n 2, 1) := td tX5_grow_0_ok 17 (q := (25, .iload_n 2, 1)) rfl
theorem dX5_grow_26 : decode cX5_grow 26 = .ok (.aload_n 0, 1) := td tX5_grow_0_ok 18 (q := (26, .aload_n 0, 1)) rfl
theorem dX5_grow_27 : decode cX5_grow 27 = .ok (.getfield 18, 3) := td tX5_grow_0_ok 19 (q := (27, .getfield 18, 3)) rfl
theorem dX5_grow_30 : decode cX5_grow 30 = .ok (.iload_n 3, 1) := td tX5_grow_0_ok 20 (q := (30, .iload_n 3, 1)) rfl
theorem dX5_grow_31 : decode cX5_grow 31 = .ok (.iaload, 1) := td tX5_grow_0_ok 21 (q := (31, .iaload, 1)) rfl
theorem dX5_grow_32 : decode cX5_grow 32 = .ok (.ior, 1) := td tX5_grow_0_ok 22 (q := (32, .ior, 1)) rfl
theorem dX5_grow_33 : decode cX5_grow 33 = .ok (.istore_n 2, 1) := td tX5_grow_0_ok 23 (q := (33, .istore_n 2, 1)) rfl
theorem dX5_grow_34 : decode cX5_grow 34 = .ok (.iinc 3 1, 3) := td tX5_grow_0_ok 24 (q := (34, .iinc 3 1, 3)) rfl
theorem dX5_grow_37 : decode cX5_grow 37 = .ok (.goto (-33), 3) := td tX5_grow_0_ok 25 (q := (37, .goto (-33), 3)) rfl
theorem dX5_grow_40 : decode cX5_grow 40 = .ok (.iload_n 2, 1) := td tX5_grow_0_ok 26 (q := (40, .iload_n 2, 1)) rfl
theorem dX5_grow_41 : decode cX5_grow 41 = .ok (.iload_n 1, 1) := td tX5_grow_0_ok 27 (q := (41, .iload_n 1, 1)) rfl
theorem dX5_grow_42 : decode cX5_grow 42 = .ok (.iconst (-1), 1) := td tX5_grow_0_ok 28 (q := (42, .iconst (-1), 1)) rfl
theorem dX5_grow_43 : decode cX5_grow 43 = .ok (.ixor, 1) := td tX5_grow_0_ok 29 (q := (43, .ixor, 1)) rfl
theorem dX5_grow_44 : decode cX5_grow 44 = .ok (.iand, 1) := td tX5_grow_0_ok 30 (q := (44, .iand, 1)) rfl
theorem dX5_grow_45 : decode cX5_grow 45 = .ok (.istore_n 2, 1) := td tX5_grow_0_ok 31 (q := (45, .istore_n 2, 1)) rfl
theorem dX5_grow_46 : decode cX5_grow 46 = .ok (.iconst 0, 1) := td tX5_grow_0_ok 32 (q := (46, .iconst 0, 1)) rfl
theorem dX5_grow_47 : decode cX5_grow 47 = .ok (.istore_n 3, 1) := td tX5_grow_0_ok 33 (q := (47, .istore_n 3, 1)) rfl
theorem dX5_grow_48 : decode cX5_grow 48 = .ok (.iload_n 3, 1) := td tX5_grow_0_ok 34 (q := (48, .iload_n 3, 1)) rfl
theorem dX5_grow_49 : decode cX5_grow 49 = .ok (.aload_n 0, 1) := td tX5_grow_0_ok 35 (q := (49, .aload_n 0, 1)) rfl
theorem dX5_grow_50 : decode cX5_grow 50 = .ok (.getfield 24, 3) := td tX5_grow_0_ok 36 (q := (50, .getfield 24, 3)) rfl
theorem dX5_grow_53 : decode cX5_grow 53 = .ok (.if_icmp .ge 48, 3) := td tX5_grow_0_ok 37 (q := (53, .if_icmp .ge 48, 3)) rfl
theorem dX5_grow_56 : decode cX5_grow 56 = .ok (.iload_n 2, 1) := td tX5_grow_0_ok 38 (q := (56, .iload_n 2, 1)) rfl
theorem dX5_grow_57 : decode cX5_grow 57 = .ok (.iconst 1, 1) := td tX5_grow_0_ok 39 (q := (57, .iconst 1, 1)) rfl
theorem dX5_grow_58 : decode cX5_grow 58 = .ok (.iload_n 3, 1) := td tX5_grow_0_ok 40 (q := (58, .iload_n 3, 1)) rfl
theorem dX5_grow_59 : decode cX5_grow 59 = .ok (.ishl, 1) := td tX5_grow_0_ok 41 (q := (59, .ishl, 1)) rfl
theorem dX5_grow_60 : decode cX5_grow 60 = .ok (.iand, 1) := td tX5_grow_0_ok 42 (q := (60, .iand, 1)) rfl
theorem dX5_grow_61 : decode cX5_grow 61 = .ok (.ifCond .eq 34, 3) := td tX5_grow_0_ok 43 (q := (61, .ifCond .eq 34, 3)) rfl
theorem dX5_grow_64 : decode cX5_grow 64 = .ok (.aload_n 0, 1) := td tX5_grow_0_ok 44 (q := (64, .aload_n 0, 1)) rfl
theorem dX5_grow_65 : decode cX5_grow 65 = .ok (.getfield 15, 3) := td tX5_grow_0_ok 45 (q := (65, .getfield 15, 3)) rfl
theorem dX5_grow_68 : decode cX5_grow 68 = .ok (.iload_n 1, 1) := td tX5_grow_0_ok 46 (q := (68, .iload_n 1, 1)) rfl
theorem dX5_grow_69 : decode cX5_grow 69 = .ok (.iaload, 1) := td tX5_grow_0_ok 47 (q := (69, .iaload, 1)) rfl
theorem dX5_grow_70 : decode cX5_grow 70 = .ok (.aload_n 0, 1) := td tX5_grow_0_ok 48 (q := (70, .aload_n 0, 1)) rfl
theorem dX5_grow_71 : decode cX5_grow 71 = .ok (.getfield 21, 3) := td tX5_grow_0_ok 49 (q := (71, .getfield 21, 3)) rfl
theorem dX5_grow_74 : decode cX5_grow 74 = .ok (.iload_n 3, 1) := td tX5_grow_0_ok 50 (q := (74, .iload_n 3, 1)) rfl
theorem dX5_grow_75 : decode cX5_grow 75 = .ok (.iaload, 1) := td tX5_grow_0_ok 51 (q := (75, .iaload, 1)) rfl
theorem dX5_grow_76 : decode cX5_grow 76 = .ok (.if_icmp .gt 19, 3) := td tX5_grow_0_ok 52 (q := (76, .if_icmp .gt 19, 3)) rfl
theorem dX5_grow_79 : decode cX5_grow 79 = .ok (.aload_n 0, 1) := td tX5_grow_0_ok 53 (q := (79, .aload_n 0, 1)) rfl
theorem dX5_grow_80 : decode cX5_grow 80 = .ok (.getfield 11, 3) := td tX5_grow_0_ok 54 (q := (80, .getfield 11, 3)) rfl
theorem dX5_grow_83 : decode cX5_grow 83 = .ok (.iload_n 1, 1) := td tX5_grow_0_ok 55 (q := (83, .iload_n 1, 1)) rfl
theorem dX5_grow_84 : decode cX5_grow 84 = .ok (.iconst 1, 1) := td tX5_grow_0_ok 56 (q := (84, .iconst 1, 1)) rfl
theorem dX5_grow_85 : decode cX5_grow 85 = .ok (.iload_n 3, 1) := td tX5_grow_0_ok 57 (q := (85, .iload_n 3, 1)) rfl
theorem dX5_grow_86 : decode cX5_grow 86 = .ok (.ishl, 1) := td tX5_grow_0_ok 58 (q := (86, .ishl, 1)) rfl
theorem dX5_grow_87 : decode cX5_grow 87 = .ok (.ior, 1) := td tX5_grow_0_ok 59 (q := (87, .ior, 1)) rfl
def tX5_grow_1 : List (Nat × Instr × Nat) := [(88, .dup2, 1), (89, .iaload, 1), (90, .iconst 1, 1), (91, .iload_n 3, 1), (92, .ishl, 1), (93, .ior, 1), (94, .iastore, 1), (95, .iinc 3 1, 3), (98, .goto (-50), 3), (101, .return_, 1)]
theorem tX5_grow_1_ok : tX5_grow_1.all (fun q => decide (decode cX5_grow q.1 = .ok q.2)) = true := by decide +kernel
theorem dX5_grow_88 : decode cX5_grow 88 = .ok (.dup2, 1) := td tX5_grow_1_ok 0 (q := (88, .dup2, 1)) rfl
theorem dX5_grow_89 : decode cX5_grow 89 = .ok (.iaload, 1) := td tX5_grow_1_ok 1 (q := (89, .iaload, 1)) rfl
theorem dX5_grow_90 : decode cX5_grow 90 = .ok (.iconst 1, 1) := td tX5_grow_1_ok 2 (q := (90, .iconst 1, 1)) rfl
theorem dX5_grow_91 : decode cX5_grow 91 = .ok (.iload_n 3, 1) := td tX5_grow_1_ok 3 (q := (91, .iload_n 3, 1)) rfl
theorem dX5_grow_92 : decode cX5_grow 92 = .ok (.ishl, 1) := td tX5_grow_1_ok 4 (q := (92, .ishl, 1)) rfl
theorem dX5_grow_93 : decode cX5_grow 93 = .ok (.ior, 1) := td tX5_grow_1_ok 5 (q := (93, .ior, 1)) rfl
theorem dX5_grow_94 : decode cX5_grow 94 = .ok (.iastore, 1) := td tX5_grow_1_ok 6 (q := (94, .iastore, 1)) rfl
theorem dX5_grow_95 : decode cX5_grow 95 = .ok (.iinc 3 1, 3) := td tX5_grow_1_ok 7 (q := (95, .iinc 3 1, 3)) rfl
theorem dX5_grow_98 : decode cX5_grow 98 = .ok (.goto (-50), 3) := td tX5_grow_1_ok 8 (q := (98, .goto (-50), 3)) rfl
theorem dX5_grow_101 : decode cX5_grow 101 = .ok (.return_, 1) := td tX5_grow_1_ok 9 (q := (101, .return_, 1)) rfl
def fX5_grow_4 (k4 : Int32 → Option ((Nat → Int32))) (ken : (Nat → Int32)) (kfi : (Nat → Int32)) (kp0 : Int32) (x1 : Int32) : Nat → Int32 → Int32 → Option ((Nat → Int32))
  | 0, _, _ => none
  | n4 + 1, x2, x3 => (if kp0 ≤ x3 then (k4 x2) else (Option.bind (aget ken 1024 x1) (fun t2 => (if (t2 &&& ((1 : Int32) <<< (x3 &&& 31))) = 0 then (fX5_grow_4 k4 ken kfi kp0 x1 n4 x2 (x3 + (1 : Int32))) else (Option.bind (aget kfi 10 x3) (fun t4 => (fX5_grow_4 k4 ken kfi kp0 x1 n4 (x2 ||| t4) (x3 + (1 : Int32)))))))))
def fX5_grow_48 (k48 : (Nat → Int32) → Option ((Nat → Int32))) (kla : (Nat → Int32)) (kea : (Nat → Int32)) (kp0 : Int32) (x1 : Int32) (x2 : Int32) : Nat → Int32 → (Nat → Int32) → Option ((Nat → Int32))
  | 0, _, _ => none
  | n48 + 1, x3, ken => (if kp0 ≤ x3 then (k48 ken) else (if (x2 &&& ((1 : Int32) <<< (x3 &&& 31))) = 0 then (fX5_grow_48 k48 kla kea kp0 x1 x2 n48 (x3 + (1 : Int32)) ken) else (Option.bind (aget kla 1024 x1) (fun t12 => (Option.bind (aget kea 10 x3) (fun t13 => (if t13 < t12 then (fX5_grow_48 k48 kla kea kp0 x1 x2 n48 (x3 + (1 : Int32)) ken) else (Option.bind (aget ken 1024 (x1 ||| ((1 : Int32) <<< (x3 &&& 31)))) (fun t15 => (Option.bind (aput ken 1024 (x1 ||| ((1 : Int32) <<< (x3 &&& 31))) (t15 ||| ((1 : Int32) <<< (x3 &&& 31)))) (fun c16 => (fX5_grow_48 k48 kla kea kp0 x1 x2 n48 (x3 + (1 : Int32)) c16))))))))))))
def fX5_grow (ken : (Nat → Int32)) (kla : (Nat → Int32)) (kfi : (Nat → Int32)) (kea : (Nat → Int32)) (kp0 : Int32) (x1 : Int32) : Option ((Nat → Int32)) :=
  (fX5_grow_4 (fun (u2_5 : Int32) => (fX5_grow_48 (fun (ken_u17 : (Nat → Int32)) => (some ken_u17)) kla kea kp0 x1 (u2_5 &&& (x1 ^^^ (-1 : Int32))) LF (0 : Int32) ken)) ken kfi kp0 x1 LF (0 : Int32) (0 : Int32))
set_option maxHeartbeats 4000000 in
set_option maxRecDepth 100000 in
theorem mX5_grow {l : Launch} {D : va_G} {ad : Nat → Nat} {cI : ClassId} {kc : (Nat → Int32)} {ksv : (Nat → Int32)} {kbc : (Nat → Int32)} {kit : (Nat → Int32)} {kln : (Nat → Int32)} {ken : (Nat → Int32)} {kla : (Nat → Int32)} {kfi : (Nat → Int32)} {kea : (Nat → Int32)} {kns : Int32} {kbl : Int32} {kr0 : Int32} {kr1 : Int32} {kr2 : Int32} {kr3 : Int32} {kr4 : Int32} {kr5 : Int32} {klr : Int32} {kp0 : Int32} {kp1 : Int32} {kp2 : Int32} {kp3 : Int32} {x1 : Int32} {ken' : (Nat → Int32)} (hs : fX5_grow ken kla kfi kea kp0 x1 = some ken') : nd_C l yX5_grow cX5_grow 4 none 0 0 D [(cI, .int)] [.ref (ad 5), .int x1] (CW ad cI kc ksv kbc kit kln ken kla kfi kea kns kbl kr0 kr1 kr2 kr3 kr4 kr5 klr kp0 kp1 kp2 kp3) (CW ad cI kc ksv kbc kit kln ken' kla kfi kea kns kbl kr0 kr1 kr2 kr3 kr4 kr5 klr kp0 kp1 kp2 kp3) none := by
  refine nd_ofCv (by decide) (Nat.le_of_ble_eq_true rfl) (fun p e s m args below meth c_ ls A Q hx hb hml hown hts hl hP hK hD hS hA hN hret => ?_)
  have hown : s.vm.findClass RX5 = some m.cls := hown
  have hl : lv_has ls 4 [(0, .ref (ad 5)), (1, .int x1)] := hl
  have hret : ∀ (z0 : (Nat → Int32)) {H : Heap} {locs : List Loc} {pc : Nat} {ls : Array Slot}, some z0 = some ken' → va_P D vwCl (CW ad cI kc ksv kbc kit kln z0 kla kfi kea kns kbl kr0 kr1 kr2 kr3 kr4 kr5 klr kp0 kp1 kp2 kp3) H → va_S A s.heap H locs → decode cX5_grow pc = .ok (.return_, 1) → W p l e ⟨0, 0, 0, 0⟩ s m args below meth c_ H locs 0 0 Q (F0 m pc ls []) := by
    intro z0 H locs pc ls h hP hS hd
    cases h
    exact hret hP hS hd
  rw [fX5_grow] at hs
  refine lv_iconst (v := (0 : Int32)) hx hb dX5_grow_0 (by decide) ?_
  refine lv_istore_n (lv' := [(2, .int (0 : Int32)), (0, .ref (ad 5)), (1, .int x1)]) hx hb dX5_grow_1 rfl hl (by decide) rfl (fun ls hl => ?_)
  refine lv_iconst (v := (0 : Int32)) hx hb dX5_grow_2 (by decide) ?_
  refine lv_istore_n (lv' := [(3, .int (0 : Int32)), (2, .int (0 : Int32)), (0, .ref (ad 5)), (1, .int x1)]) hx hb dX5_grow_3 rfl hl (by decide) rfl (fun ls hl => ?_)
  have L4 : ∀ (n4 : Nat) (k4 : Int32 → Option ((Nat → Int32))) (v2_5 : Int32) (v3_5 : Int32) (H : Heap) (locs : List Loc) (ls : Array Slot), lv_has ls 4 [(0, .ref (ad 5)), (1, .int x1), (2, .int v2_5), (3, .int v3_5)] → va_P D vwCl (CW ad cI kc ksv kbc kit kln ken kla kfi kea kns kbl kr0 kr1 kr2 kr3 kr4 kr5 klr kp0 kp1 kp2 kp3) H → va_S A s.heap H locs → fX5_grow_4 k4 ken kfi kp0 x1 n4 v2_5 v3_5 = some ken' → (∀ (u2_5 : Int32) (H : Heap) (locs : List Loc) (ls : Array Slot), lv_has ls 4 [(0, .ref (ad 5)), (1, .int x1), (2, .int u2_5)] → va_P D vwCl (CW ad cI kc ksv kbc kit kln ken kla kfi kea kns kbl kr0 kr1 kr2 kr3 kr4 kr5 klr kp0 kp1 kp2 kp3) H → va_S A s.heap H locs → k4 u2_5 = some ken' → W p l e ⟨0, 0, 0, 0⟩ s m args below meth c_ H locs 0 0 Q (F0 m 40 ls [])) → W p l e ⟨0, 0, 0, 0⟩ s m args below meth c_ H locs 0 0 Q (F0 m 4 ls []) := by
    intro n4
    induction n4 with
    | zero =>
      intro k4 v2_5 v3_5 H locs ls hl hP hS hs hk4
      rw [fX5_grow_4] at hs
      cases hs
    | succ n4 ih4 =>
      intro k4 v2_5 v3_5 H locs ls hl hP hS hs hk4
      rw [fX5_grow_4] at hs
      refine lv_iload_n hx hb dX5_grow_4 rfl (lv_at hl 3 rfl) ?_
      refine lv_aload_n hx hb dX5_grow_5 rfl (lv_at hl 0 rfl) ?_
      refine gf_X5_24 hx hb hts hown hK hP 5 rfl rfl dX5_grow_6 ?_
      refine lv_icmp_ge (tgt := 40) hx hb dX5_grow_9 (by decide) (fun b6 => ?_) (fun b6 => ?_)
      · have hs := ite_t hs b6
        exact hk4 v2_5 _ _ _ (lv_sub hl [0, 1, 2] rfl) hP hS hs
      · have hs := ite_f hs b6
        refine lv_aload_n hx hb dX5_grow_12 rfl (lv_at hl 0 rfl) ?_
        refine gf_X5_11 hx hb hts hown hK hP 5 rfl rfl dX5_grow_13 ?_
        refine lv_iload_n hx hb dX5_grow_16 rfl (lv_at hl 1 rfl) ?_
        obtain ⟨t7, et7, hs⟩ := ob hs
        refine nd_iald hx hb hK hP 11 0 rfl rfl et7 dX5_grow_17 ?_
        refine lv_iconst (v := (1 : Int32)) hx hb dX5_grow_18 (by decide) ?_
        refine lv_iload_n hx hb dX5_grow_19 rfl (lv_at hl 3 rfl) ?_
        refine lv_ishl hx hb dX5_grow_20 ?_
        refine lv_iand hx hb dX5_grow_21 ?_
        refine lv_if_eq (tgt := 34) hx hb dX5_grow_22 (by decide) (fun b8 => ?_) (fun b8 => ?_)
        · have hs := ite_t hs b8
          refine lv_iinc (v := v3_5 + (1 : Int32)) (lv' := [(3, .int (v3_5 + (1 : Int32))), (0, .ref (ad 5)), (1, .int x1), (2, .int v2_5)]) hx hb dX5_grow_34 hl (k := 3) rfl rfl (by decide) rfl (fun ls hl => ?_)
          refine lv_goto (tgt := 4) hx hb dX5_grow_37 (by decide) ?_
          exact ih4 k4 v2_5 (v3_5 + (1 : Int32)) _ _ _ (lv_sub hl [1, 2, 3, 0] rfl) hP hS hs hk4
        · have hs := ite_f hs b8
          refine lv_iload_n hx hb dX5_grow_25 rfl (lv_at hl 2 rfl) ?_
          refine lv_aload_n hx hb dX5_grow_26 rfl (lv_at hl 0 rfl) ?_
          refine gf_X5_18 hx hb hts hown hK hP 5 rfl rfl dX5_grow_27 ?_
          refine lv_iload_n hx hb dX5_grow_30 rfl (lv_at hl 3 rfl) ?_
          obtain ⟨t9, et9, hs⟩ := ob hs
          refine nd_iald hx hb hK hP 13 0 rfl rfl et9 dX5_grow_31 ?_
          refine lv_ior hx hb dX5_grow_32 ?_
          refine lv_istore_n (lv' := [(2, .int (v2_5 ||| t9)), (0, .ref (ad 5)), (1, .int x1), (3, .int v3_5)]) hx hb dX5_grow_33 rfl hl (by decide) rfl (fun ls hl => ?_)
          refine lv_iinc (v := v3_5 + (1 : Int32)) (lv' := [(3, .int (v3_5 + (1 : Int32))), (2, .int (v2_5 ||| t9)), (0, .ref (ad 5)), (1, .int x1)]) hx hb dX5_grow_34 hl (k := 3) rfl rfl (by decide) rfl (fun ls hl => ?_)
          refine lv_goto (tgt := 4) hx hb dX5_grow_37 (by decide) ?_
          exact ih4 k4 (v2_5 ||| t9) (v3_5 + (1 : Int32)) _ _ _ (lv_sub hl [2, 3, 1, 0] rfl) hP hS hs hk4
  refine L4 LF _ (0 : Int32) (0 : Int32) _ _ _ (lv_sub hl [2, 3, 1, 0] rfl) hP hS hs (fun u2_5 H locs ls hl hP hS hs => ?_)
  refine lv_iload_n hx hb dX5_grow_40 rfl (lv_at hl 2 rfl) ?_
  refine lv_iload_n hx hb dX5_grow_41 rfl (lv_at hl 1 rfl) ?_
  refine lv_iconst (v := (-1 : Int32)) hx hb dX5_grow_42 (by decide) ?_
  refine lv_ixor hx hb dX5_grow_43 ?_
  refine lv_iand hx hb dX5_grow_44 ?_
  refine lv_istore_n (lv' := [(2, .int (u2_5 &&& (x1 ^^^ (-1 : Int32)))), (0, .ref (ad 5)), (1, .int x1)]) hx hb dX5_grow_45 rfl hl (by decide) rfl (fun ls hl => ?_)
  refine lv_iconst (v := (0 : Int32)) hx hb dX5_grow_46 (by decide) ?_
  refine lv_istore_n (lv' := [(3, .int (0 : Int32)), (2, .int (u2_5 &&& (x1 ^^^ (-1 : Int32)))), (0, .ref (ad 5)), (1, .int x1)]) hx hb dX5_grow_47 rfl hl (by decide) rfl (fun ls hl => ?_)
  have L48 : ∀ (n48 : Nat) (k48 : (Nat → Int32) → Option ((Nat → Int32))) (v3_17 : Int32) (ken_17 : (Nat → Int32)) (H : Heap) (locs : List Loc) (ls : Array Slot), lv_has ls 4 [(0, .ref (ad 5)), (1, .int x1), (2, .int (u2_5 &&& (x1 ^^^ (-1 : Int32)))), (3, .int v3_17)] → va_P D vwCl (CW ad cI kc ksv kbc kit kln ken_17 kla kfi kea kns kbl kr0 kr1 kr2 kr3 kr4 kr5 klr kp0 kp1 kp2 kp3) H → va_S A s.heap H locs → fX5_grow_48 k48 kla kea kp0 x1 (u2_5 &&& (x1 ^^^ (-1 : Int32))) n48 v3_17 ken_17 = some ken' → (∀ (ken_u17 : (Nat → Int32)) (H : Heap) (locs : List Loc) (ls : Array Slot), lv_has ls 4 [] → va_P D vwCl (CW ad cI kc ksv kbc kit kln ken_u17 kla kfi kea kns kbl kr0 kr1 kr2 kr3 kr4 kr5 klr kp0 kp1 kp2 kp3) H → va_S A s.heap H locs → k48 ken_u17 = some ken' → W p l e ⟨0, 0, 0, 0⟩ s m args below meth c_ H locs 0 0 Q (F0 m 101 ls [])) → W p l e ⟨0, 0, 0, 0⟩ s m args below meth c_ H locs 0 0 Q (F0 m 48 ls []) := by
    intro n48
    induction n48 with
    | zero =>
      intro k48 v3_17 ken_17 H locs ls hl hP hS hs hk48
      rw [fX5_grow_48] at hs
      cases hs
    | succ n48 ih48 =>
      intro k48 v3_17 ken_17 H locs ls hl hP hS hs hk48
      rw [fX5_grow_48] at hs
      have hD : va_D A (CW ad cI kc ksv kbc kit kln ken_17 kla kfi kea kns kbl kr0 kr1 kr2 kr3 kr4 kr5 klr kp0 kp1 kp2 kp3) := nd_DD hD rfl
      refine lv_iload_n hx hb dX5_grow_48 rfl (lv_at hl 3 rfl) ?_
      refine lv_aload_n hx hb dX5_grow_49 rfl (lv_at hl 0 rfl) ?_
      refine gf_X5_24 hx hb hts hown hK hP 5 rfl rfl dX5_grow_50 ?_
      refine lv_icmp_ge (tgt := 101) hx hb dX5_grow_53 (by decide) (fun b18 => ?_) (fun b18 => ?_)
      · have hs := ite_t hs b18
        exact hk48 ken_17 _ _ _ (lv_sub hl [] rfl) hP hS hs
      · have hs := ite_f hs b18
        refine lv_iload_n hx hb dX5_grow_56 rfl (lv_at hl 2 rfl) ?_
        refine lv_iconst (v := (1 : Int32)) hx hb dX5_grow_57 (by decide) ?_
        refine lv_iload_n hx hb dX5_grow_58 rfl (lv_at hl 3 rfl) ?_
        refine lv_ishl hx hb dX5_grow_59 ?_
        refine lv_iand hx hb dX5_grow_60 ?_
        refine lv_if_eq (tgt := 95) hx hb dX5_grow_61 (by decide) (fun b19 => ?_) (fun b19 => ?_)
        · have hs := ite_t hs b19
          refine lv_iinc (v := v3_17 + (1 : Int32)) (lv' := [(3, .int (v3_17 + (1 : Int32))), (0, .ref (ad 5)), (1, .int x1), (2, .int (u2_5 &&& (x1 ^^^ (-1 : Int32))))]) hx hb dX5_grow_95 hl (k := 3) rfl rfl (by decide) rfl (fun ls hl => ?_)
          refine lv_goto (tgt := 48) hx hb dX5_grow_98 (by decide) ?_
          exact ih48 k48 (v3_17 + (1 : Int32)) ken_17 _ _ _ (lv_sub hl [1, 2, 3, 0] rfl) hP hS hs hk48
        · have hs := ite_f hs b19
          refine lv_aload_n hx hb dX5_grow_64 rfl (lv_at hl 0 rfl) ?_
          refine gf_X5_15 hx hb hts hown hK hP 5 rfl rfl dX5_grow_65 ?_
          refine lv_iload_n hx hb dX5_grow_68 rfl (lv_at hl 1 rfl) ?_
          obtain ⟨t20, et20, hs⟩ := ob hs
          refine nd_iald hx hb hK hP 12 0 rfl rfl et20 dX5_grow_69 ?_
          refine lv_aload_n hx hb dX5_grow_70 rfl (lv_at hl 0 rfl) ?_
          refine gf_X5_21 hx hb hts hown hK hP 5 rfl rfl dX5_grow_71 ?_
          refine lv_iload_n hx hb dX5_grow_74 rfl (lv_at hl 3 rfl) ?_
          obtain ⟨t21, et21, hs⟩ := ob hs
          refine nd_iald hx hb hK hP 14 0 rfl rfl et21 dX5_grow_75 ?_
          refine lv_icmp_gt (tgt := 95) hx hb dX5_grow_76 (by decide) (fun b22 => ?_) (fun b22 => ?_)
          · have hs := ite_t hs b22
            refine lv_iinc (v := v3_17 + (1 : Int32)) (lv' := [(3, .int (v3_17 + (1 : Int32))), (0, .ref (ad 5)), (1, .int x1), (2, .int (u2_5 &&& (x1 ^^^ (-1 : Int32))))]) hx hb dX5_grow_95 hl (k := 3) rfl rfl (by decide) rfl (fun ls hl => ?_)
            refine lv_goto (tgt := 48) hx hb dX5_grow_98 (by decide) ?_
            exact ih48 k48 (v3_17 + (1 : Int32)) ken_17 _ _ _ (lv_sub hl [1, 2, 3, 0] rfl) hP hS hs hk48
          · have hs := ite_f hs b22
            refine lv_aload_n hx hb dX5_grow_79 rfl (lv_at hl 0 rfl) ?_
            refine gf_X5_11 hx hb hts hown hK hP 5 rfl rfl dX5_grow_80 ?_
            refine lv_iload_n hx hb dX5_grow_83 rfl (lv_at hl 1 rfl) ?_
            refine lv_iconst (v := (1 : Int32)) hx hb dX5_grow_84 (by decide) ?_
            refine lv_iload_n hx hb dX5_grow_85 rfl (lv_at hl 3 rfl) ?_
            refine lv_ishl hx hb dX5_grow_86 ?_
            refine lv_ior hx hb dX5_grow_87 ?_
            refine lv_dup2_11 hx hb dX5_grow_88 rfl rfl ?_
            obtain ⟨t23, et23, hs⟩ := ob hs
            refine nd_iald hx hb hK hP 11 0 rfl rfl et23 dX5_grow_89 ?_
            refine lv_iconst (v := (1 : Int32)) hx hb dX5_grow_90 (by decide) ?_
            refine lv_iload_n hx hb dX5_grow_91 rfl (lv_at hl 3 rfl) ?_
            refine lv_ishl hx hb dX5_grow_92 ?_
            refine lv_ior hx hb dX5_grow_93 ?_
            obtain ⟨c24, ec24, hs⟩ := ob hs
            refine nd_iast hx hb hK hP hD hS 11 0 rfl rfl ec24 dX5_grow_94 (fun H locs hP hD hS => ?_)
            have hP : va_P D vwCl (CW ad cI kc ksv kbc kit kln c24 kla kfi kea kns kbl kr0 kr1 kr2 kr3 kr4 kr5 klr kp0 kp1 kp2 kp3) H := hP
            have hD : va_D A (CW ad cI kc ksv kbc kit kln c24 kla kfi kea kns kbl kr0 kr1 kr2 kr3 kr4 kr5 klr kp0 kp1 kp2 kp3) := hD
            refine lv_iinc (v := v3_17 + (1 : Int32)) (lv' := [(3, .int (v3_17 + (1 : Int32))), (0, .ref (ad 5)), (1, .int x1), (2, .int (u2_5 &&& (x1 ^^^ (-1 : Int32))))]) hx hb dX5_grow_95 hl (k := 3) rfl rfl (by decide) rfl (fun ls hl => ?_)
            refine lv_goto (tgt := 48) hx hb dX5_grow_98 (by decide) ?_
            exact ih48 k48 (v3_17 + (1 : Int32)) c24 _ _ _ (lv_sub hl [1, 2, 3, 0] rfl) hP hS hs hk48
  refine L48 LF _ (0 : Int32) ken _ _ _ (lv_sub hl [2, 3, 1, 0] rfl) hP hS hs (fun ken_u17 H locs ls hl hP hS hs => ?_)
  have hD : va_D A (CW ad cI kc ksv kbc kit kln ken_u17 kla kfi kea kns kbl kr0 kr1 kr2 kr3 kr4 kr5 klr kp0 kp1 kp2 kp3) := nd_DD hD rfl
  exact hret _ hs hP hS dX5_grow_101
def tX5_searchFrom_0 : List (Nat × Instr × Nat) := [(0, .iconst 1, 1), (1, .aload_n 0, 1), (2, .getfield 24, 3), (5, .ishl, 1), (6, .istore_n 2, 1), (7, .aload_n 0, 1), (8, .getfield 11, 3), (11, .iconst 0, 1), (12, .invokestatic 69, 3), (15, .iload_n 1, 1), (16, .ifCond .lt 18, 3), (19, .iload_n 1, 1), (20, .aload_n 0, 1), (21, .getfield 24, 3), (24, .if_icmp .ge 10, 3), (27, .iload_n 2, 1), (28, .sipush 1024, 3), (31, .if_icmp .le 4, 3), (34, .return_, 1), (35, .aload_n 0, 1), (36, .getfield 11, 3), (39, .iconst 1, 1), (40, .iload_n 1, 1), (41, .ishl, 1), (42, .iconst 1, 1), (43, .iload_n 1, 1), (44, .ishl, 1), (45, .iastore, 1), (46, .iconst 1, 1), (47, .iload_n 1, 1), (48, .ishl, 1), (49, .istore_n 3, 1), (50, .iload_n 3, 1), (51, .iload_n 2, 1), (52, .if_icmp .ge 29, 3), (55, .aload_n 0, 1), (56, .getfield 11, 3), (59, .iload_n 3, 1), (60, .iaload, 1), (61, .ifCond .eq 14, 3), (64, .aload_n 0, 1), (65, .iload_n 1, 1), (66, .iload_n 3, 1), (67, .invokevirtual 75, 3), (70, .aload_n 0, 1), (71, .iload_n 3, 1), (72, .invokevirtual 79, 3), (75, .iinc 3 1, 3), (78, .goto (-28), 3), (81, .return_, 1)]
theorem tX5_searchFrom_0_ok : tX5_searchFrom_0.all (fun q => decide (decode cX5_searchFrom q.1 = .ok q.2)) = true := by decide +kernel
theorem dX5_searchFrom_0 : decode cX5_searchFrom 0 = .ok (.iconst 1, 1) := td tX5_searchFrom_0_ok 0 (q := (0, .iconst 1, 1)) rfl
theorem dX5_searchFrom_1 : decode cX5_searchFrom 1 = .ok (.aload_n 0, 1) := td tX5_searchFrom_0_ok 1 (q := (1, .aload_n 0, 1)) rfl
theorem dX5_searchFrom_2 : decode cX5_searchFrom 2 = .ok (.getfield 24, 3) := td tX5_searchFrom_0_ok 2 (q := (2, .getfield 24, 3)) rfl
theorem dX5_searchFrom_5 : decode cX5_searchFrom 5 = .ok (.ishl, 1) := td tX5_searchFrom_0_ok 3 (q := (5, .ishl, 1)) rfl
theorem dX5_searchFrom_6 : decode cX5_searchFrom 6 = .ok (.istore_n 2, 1) := td tX5_searchFrom_0_ok 4 (q := (6, .istore_n 2, 1)) rfl
theorem dX5_searchFrom_7 : decode cX5_searchFrom 7 = .ok (.aload_n 0, 1) := td tX5_searchFrom_0_ok 5 (q := (7, .aload_n 0, 1)) rfl
theorem dX5_searchFrom_8 : decode cX5_searchFrom 8 = .ok (.getfield 11, 3) := td tX5_searchFrom_0_ok 6 (q := (8, .getfield 11, 3)) rfl
theorem dX5_searchFrom_11 : decode cX5_searchFrom 11 = .ok (.iconst 0, 1) := td tX5_searchFrom_0_ok 7 (q := (11, .iconst 0, 1)) rfl
theorem dX5_searchFrom_12 : decode cX5_searchFrom 12 = .ok (.invokestatic 69, 3) := td tX5_searchFrom_0_ok 8 (q := (12, .invokestatic 69, 3)) rfl
theorem dX5_searchFrom_15 : decode cX5_searchFrom 15 = .ok (.iload_n 1, 1) := td tX5_searchFrom_0_ok 9 (q := (15, .iload_n 1, 1)) rfl
theorem dX5_searchFrom_16 : decode cX5_searchFrom 16 = .ok (.ifCond .lt 18, 3) := td tX5_searchFrom_0_ok 10 (q := (16, .ifCond .lt 18, 3)) rfl
theorem dX5_searchFrom_19 : decode cX5_searchFrom 19 = .ok (.iload_n 1, 1) := td tX5_searchFrom_0_ok 11 (q := (19, .iload_n 1, 1)) rfl
theorem dX5_searchFrom_20 : decode cX5_searchFrom 20 = .ok (.aload_n 0, 1) := td tX5_searchFrom_0_ok 12 (q := (20, .aload_n 0, 1)) rfl
theorem dX5_searchFrom_21 : decode cX5_searchFrom 21 = .ok (.getfield 24, 3) := td tX5_searchFrom_0_ok 13 (q := (21, .getfield 24, 3)) rfl
theorem dX5_searchFrom_24 : decode cX5_searchFrom 24 = .ok (.if_icmp .ge 10, 3) := td tX5_searchFrom_0_ok 14 (q := (24, .if_icmp .ge 10, 3)) rfl
theorem dX5_searchFrom_27 : decode cX5_searchFrom 27 = .ok (.iload_n 2, 1) := td tX5_searchFrom_0_ok 15 (q := (27, .iload_n 2, 1)) rfl
theorem dX5_searchFrom_28 : decode cX5_searchFrom 28 = .ok (.sipush 1024, 3) := td tX5_searchFrom_0_ok 16 (q := (28, .sipush 1024, 3)) rfl
theorem dX5_searchFrom_31 : decode cX5_searchFrom 31 = .ok (.if_icmp .le 4, 3) := td tX5_searchFrom_0_ok 17 (q := (31, .if_icmp .le 4, 3)) rfl
theorem dX5_searchFrom_34 : decode cX5_searchFrom 34 = .ok (.return_, 1) := td tX5_searchFrom_0_ok 18 (q := (34, .return_, 1)) rfl
theorem dX5_searchFrom_35 : decode cX5_searchFrom 35 = .ok (.aload_n 0, 1) := td tX5_searchFrom_0_ok 19 (q := (35, .aload_n 0, 1)) rfl
theorem dX5_searchFrom_36 : decode cX5_searchFrom 36 = .ok (.getfield 11, 3) := td tX5_searchFrom_0_ok 20 (q := (36, .getfield 11, 3)) rfl
theorem dX5_searchFrom_39 : decode cX5_searchFrom 39 = .ok (.iconst 1, 1) := td tX5_searchFrom_0_ok 21 (q := (39, .iconst 1, 1)) rfl
theorem dX5_searchFrom_40 : decode cX5_searchFrom 40 = .ok (.iload_n 1, 1) := td tX5_searchFrom_0_ok 22 (q := (40, .iload_n 1, 1)) rfl
theorem dX5_searchFrom_41 : decode cX5_searchFrom 41 = .ok (.ishl, 1) := td tX5_searchFrom_0_ok 23 (q := (41, .ishl, 1)) rfl
theorem dX5_searchFrom_42 : decode cX5_searchFrom 42 = .ok (.iconst 1, 1) := td tX5_searchFrom_0_ok 24 (q := (42, .iconst 1, 1)) rfl
theorem dX5_searchFrom_43 : decode cX5_searchFrom 43 = .ok (.iload_n 1, 1) := td tX5_searchFrom_0_ok 25 (q := (43, .iload_n 1, 1)) rfl
theorem dX5_searchFrom_44 : decode cX5_searchFrom 44 = .ok (.ishl, 1) := td tX5_searchFrom_0_ok 26 (q := (44, .ishl, 1)) rfl
theorem dX5_searchFrom_45 : decode cX5_searchFrom 45 = .ok (.iastore, 1) := td tX5_searchFrom_0_ok 27 (q := (45, .iastore, 1)) rfl
theorem dX5_searchFrom_46 : decode cX5_searchFrom 46 = .ok (.iconst 1, 1) := td tX5_searchFrom_0_ok 28 (q := (46, .iconst 1, 1)) rfl
theorem dX5_searchFrom_47 : decode cX5_searchFrom 47 = .ok (.iload_n 1, 1) := td tX5_searchFrom_0_ok 29 (q := (47, .iload_n 1, 1)) rfl
theorem dX5_searchFrom_48 : decode cX5_searchFrom 48 = .ok (.ishl, 1) := td tX5_searchFrom_0_ok 30 (q := (48, .ishl, 1)) rfl
theorem dX5_searchFrom_49 : decode cX5_searchFrom 49 = .ok (.istore_n 3, 1) := td tX5_searchFrom_0_ok 31 (q := (49, .istore_n 3, 1)) rfl
theorem dX5_searchFrom_50 : decode cX5_searchFrom 50 = .ok (.iload_n 3, 1) := td tX5_searchFrom_0_ok 32 (q := (50, .iload_n 3, 1)) rfl
theorem dX5_searchFrom_51 : decode cX5_searchFrom 51 = .ok (.iload_n 2, 1) := td tX5_searchFrom_0_ok 33 (q := (51, .iload_n 2, 1)) rfl
theorem dX5_searchFrom_52 : decode cX5_searchFrom 52 = .ok (.if_icmp .ge 29, 3) := td tX5_searchFrom_0_ok 34 (q := (52, .if_icmp .ge 29, 3)) rfl
theorem dX5_searchFrom_55 : decode cX5_searchFrom 55 = .ok (.aload_n 0, 1) := td tX5_searchFrom_0_ok 35 (q := (55, .aload_n 0, 1)) rfl
theorem dX5_searchFrom_56 : decode cX5_searchFrom 56 = .ok (.getfield 11, 3) := td tX5_searchFrom_0_ok 36 (q := (56, .getfield 11, 3)) rfl
theorem dX5_searchFrom_59 : decode cX5_searchFrom 59 = .ok (.iload_n 3, 1) := td tX5_searchFrom_0_ok 37 (q := (59, .iload_n 3, 1)) rfl
theorem dX5_searchFrom_60 : decode cX5_searchFrom 60 = .ok (.iaload, 1) := td tX5_searchFrom_0_ok 38 (q := (60, .iaload, 1)) rfl
theorem dX5_searchFrom_61 : decode cX5_searchFrom 61 = .ok (.ifCond .eq 14, 3) := td tX5_searchFrom_0_ok 39 (q := (61, .ifCond .eq 14, 3)) rfl
theorem dX5_searchFrom_64 : decode cX5_searchFrom 64 = .ok (.aload_n 0, 1) := td tX5_searchFrom_0_ok 40 (q := (64, .aload_n 0, 1)) rfl
theorem dX5_searchFrom_65 : decode cX5_searchFrom 65 = .ok (.iload_n 1, 1) := td tX5_searchFrom_0_ok 41 (q := (65, .iload_n 1, 1)) rfl
theorem dX5_searchFrom_66 : decode cX5_searchFrom 66 = .ok (.iload_n 3, 1) := td tX5_searchFrom_0_ok 42 (q := (66, .iload_n 3, 1)) rfl
theorem dX5_searchFrom_67 : decode cX5_searchFrom 67 = .ok (.invokevirtual 75, 3) := td tX5_searchFrom_0_ok 43 (q := (67, .invokevirtual 75, 3)) rfl
theorem dX5_searchFrom_70 : decode cX5_searchFrom 70 = .ok (.aload_n 0, 1) := td tX5_searchFrom_0_ok 44 (q := (70, .aload_n 0, 1)) rfl
theorem dX5_searchFrom_71 : decode cX5_searchFrom 71 = .ok (.iload_n 3, 1) := td tX5_searchFrom_0_ok 45 (q := (71, .iload_n 3, 1)) rfl
theorem dX5_searchFrom_72 : decode cX5_searchFrom 72 = .ok (.invokevirtual 79, 3) := td tX5_searchFrom_0_ok 46 (q := (72, .invokevirtual 79, 3)) rfl
theorem dX5_searchFrom_75 : decode cX5_searchFrom 75 = .ok (.iinc 3 1, 3) := td tX5_searchFrom_0_ok 47 (q := (75, .iinc 3 1, 3)) rfl
theorem dX5_searchFrom_78 : decode cX5_searchFrom 78 = .ok (.goto (-28), 3) := td tX5_searchFrom_0_ok 48 (q := (78, .goto (-28), 3)) rfl
theorem dX5_searchFrom_81 : decode cX5_searchFrom 81 = .ok (.return_, 1) := td tX5_searchFrom_0_ok 49 (q := (81, .return_, 1)) rfl
def fX5_searchFrom_50 (k50 : (Nat → Int32) → Int32 → Int32 → Int32 → Option ((Nat → Int32) × Int32 × Int32 × Int32)) (kla : (Nat → Int32)) (kfi : (Nat → Int32)) (kea : (Nat → Int32)) (kp0 : Int32) (x1 : Int32) (x2 : Int32) : Nat → Int32 → (Nat → Int32) → Int32 → Int32 → Int32 → Option ((Nat → Int32) × Int32 × Int32 × Int32)
  | 0, _, _, _, _, _ => none
  | n50 + 1, x3, ken, kp1, kp2, kp3 => (if x2 ≤ x3 then (k50 ken kp1 kp2 kp3) else (Option.bind (aget ken 1024 x3) (fun t7 => (if t7 = 0 then (fX5_searchFrom_50 k50 kla kfi kea kp0 x1 x2 n50 (x3 + (1 : Int32)) ken kp1 kp2 kp3) else (Option.bind (fX5_take ken kp1 kp2 kp3 x1 x3) (fun q9 => (Option.bind (fX5_grow ken kla kfi kea kp0 x3) (fun q10 => (fX5_searchFrom_50 k50 kla kfi kea kp0 x1 x2 n50 (x3 + (1 : Int32)) q10 q9.1 q9.2.1 q9.2.2)))))))))
def fX5_searchFrom (ken : (Nat → Int32)) (kla : (Nat → Int32)) (kfi : (Nat → Int32)) (kea : (Nat → Int32)) (kp0 : Int32) (kp1 : Int32) (kp2 : Int32) (kp3 : Int32) (x1 : Int32) : Option ((Nat → Int32) × Int32 × Int32 × Int32) :=
  (Option.bind (fJ7_fill_53178 ken (0 : Int32)) (fun q1 => (if x1 < 0 then (some (q1, kp1, kp2, kp3)) else (if kp0 ≤ x1 then (some (q1, kp1, kp2, kp3)) else (if ((1 : Int32) <<< (kp0 &&& 31)) ≤ (1024 : Int32) then (Option.bind (aput q1 1024 ((1 : Int32) <<< (x1 &&& 31)) ((1 : Int32) <<< (x1 &&& 31))) (fun c5 => (fX5_searchFrom_50 (fun (ken_u11 : (Nat → Int32)) (kp1_u11 : Int32) (kp2_u11 : Int32) (kp3_u11 : Int32) => (some (ken_u11, kp1_u11, kp2_u11, kp3_u11))) kla kfi kea kp0 x1 ((1 : Int32) <<< (kp0 &&& 31)) LF ((1 : Int32) <<< (x1 &&& 31)) c5 kp1 kp2 kp3))) else (some (q1, kp1, kp2, kp3)))))))
set_option maxHeartbeats 4000000 in
set_option maxRecDepth 100000 in
theorem mX5_searchFrom {l : Launch} {D : va_G} {ad : Nat → Nat} {cI : ClassId} {kc : (Nat → Int32)} {ksv : (Nat → Int32)} {kbc : (Nat → Int32)} {kit : (Nat → Int32)} {kln : (Nat → Int32)} {ken : (Nat → Int32)} {kla : (Nat → Int32)} {kfi : (Nat → Int32)} {kea : (Nat → Int32)} {kns : Int32} {kbl : Int32} {kr0 : Int32} {kr1 : Int32} {kr2 : Int32} {kr3 : Int32} {kr4 : Int32} {kr5 : Int32} {klr : Int32} {kp0 : Int32} {kp1 : Int32} {kp2 : Int32} {kp3 : Int32} {x1 : Int32} {ken' : (Nat → Int32)} {kp1' : Int32} {kp2' : Int32} {kp3' : Int32} (hs : fX5_searchFrom ken kla kfi kea kp0 kp1 kp2 kp3 x1 = some (ken', kp1', kp2', kp3')) : nd_C l yX5_searchFrom cX5_searchFrom 4 none 3 64 D [(cI, .int)] [.ref (ad 5), .int x1] (CW ad cI kc ksv kbc kit kln ken kla kfi kea kns kbl kr0 kr1 kr2 kr3 kr4 kr5 klr kp0 kp1 kp2 kp3) (CW ad cI kc ksv kbc kit kln ken' kla kfi kea kns kbl kr0 kr1 kr2 kr3 kr4 kr5 klr kp0 kp1' kp2' kp3') none := by
  refine nd_ofCv (by decide) (Nat.le_of_ble_eq_true rfl) (fun p e s m args below meth c_ ls A Q hx hb hml hown hts hl hP hK hD hS hA hN hret => ?_)
  have hown : s.vm.findClass RX5 = some m.cls := hown
  have hl : lv_has ls 4 [(0, .ref (ad 5)), (1, .int x1)] := hl
  have hret : ∀ (z0 : (Nat → Int32)) (z1 : Int32) (z2 : Int32) (z3 : Int32) {H : Heap} {locs : List Loc} {pc : Nat} {ls : Array Slot}, some (z0, z1, z2, z3) = some (ken', kp1', kp2', kp3') → va_P D vwCl (CW ad cI kc ksv kbc kit kln z0 kla kfi kea kns kbl kr0 kr1 kr2 kr3 kr4 kr5 klr kp0 z1 z2 z3) H → va_S A s.heap H locs → decode cX5_searchFrom pc = .ok (.return_, 1) → W p l e ⟨3, 0, 0, 64⟩ s m args below meth c_ H locs 0 0 Q (F0 m pc ls []) := by
    intro z0 z1 z2 z3 H locs pc ls h hP hS hd
    cases h
    exact hret hP hS hd
  rw [fX5_searchFrom] at hs
  refine lv_iconst (v := (1 : Int32)) hx hb dX5_searchFrom_0 (by decide) ?_
  refine lv_aload_n hx hb dX5_searchFrom_1 rfl (lv_at hl 0 rfl) ?_
  refine gf_X5_24 hx hb hts hown hK hP 5 rfl rfl dX5_searchFrom_2 ?_
  refine lv_ishl hx hb dX5_searchFrom_5 ?_
  refine lv_istore_n (lv' := [(2, .int ((1 : Int32) <<< (kp0 &&& 31))), (0, .ref (ad 5)), (1, .int x1)]) hx hb dX5_searchFrom_6 rfl hl (by decide) rfl (fun ls hl => ?_)
  refine lv_aload_n hx hb dX5_searchFrom_7 rfl (lv_at hl 1 rfl) ?_
  refine gf_X5_11 hx hb hts hown hK hP 5 rfl rfl dX5_searchFrom_8 ?_
  refine lv_iconst (v := (0 : Int32)) hx hb dX5_searchFrom_11 (by decide) ?_
  obtain ⟨q1, eq1, hs⟩ := ob hs
  refine nd_callS (As := [.ref (ad 11), .int (0 : Int32)]) (rest := []) (st1 := []) hx hb hml hown hts hl hP hK hD hS hA hN (mJ7_fill_53178 eq1) is_J7_fill_53178 wd_831 rfl rfl ⟨Nat.le_of_ble_eq_true rfl, Nat.le_of_ble_eq_true rfl⟩ (Nat.le_of_ble_eq_true rfl) ⟨Nat.zero_le _, Nat.zero_le _⟩ dX5_searchFrom_12 rfl rfl (fun H locs hP hD hS => ?_)
  refine lv_iload_n hx hb dX5_searchFrom_15 rfl (lv_at hl 2 rfl) ?_
  refine lv_if_lt (tgt := 34) hx hb dX5_searchFrom_16 (by decide) (fun b2 => ?_) (fun b2 => ?_)
  · have hs := ite_t hs b2
    exact hret _ _ _ _ hs hP hS dX5_searchFrom_34
  · have hs := ite_f hs b2
    refine lv_iload_n hx hb dX5_searchFrom_19 rfl (lv_at hl 2 rfl) ?_
    refine lv_aload_n hx hb dX5_searchFrom_20 rfl (lv_at hl 1 rfl) ?_
    refine gf_X5_24 hx hb hts hown hK hP 5 rfl rfl dX5_searchFrom_21 ?_
    refine lv_icmp_ge (tgt := 34) hx hb dX5_searchFrom_24 (by decide) (fun b3 => ?_) (fun b3 => ?_)
    · have hs := ite_t hs b3
      exact hret _ _ _ _ hs hP hS dX5_searchFrom_34
    · have hs := ite_f hs b3
      refine lv_iload_n hx hb dX5_searchFrom_27 rfl (lv_at hl 0 rfl) ?_
      refine lv_sipush (v := (1024 : Int32)) hx hb dX5_searchFrom_28 (by decide) ?_
      refine lv_icmp_le (tgt := 35) hx hb dX5_searchFrom_31 (by decide) (fun b4 => ?_) (fun b4 => ?_)
      · have hs := ite_t hs b4
        refine lv_aload_n hx hb dX5_searchFrom_35 rfl (lv_at hl 1 rfl) ?_
        refine gf_X5_11 hx hb hts hown hK hP 5 rfl rfl dX5_searchFrom_36 ?_
        refine lv_iconst (v := (1 : Int32)) hx hb dX5_searchFrom_39 (by decide) ?_
        refine lv_iload_n hx hb dX5_searchFrom_40 rfl (lv_at hl 2 rfl) ?_
        refine lv_ishl hx hb dX5_searchFrom_41 ?_
        refine lv_iconst (v := (1 : Int32)) hx hb dX5_searchFrom_42 (by decide) ?_
        refine lv_iload_n hx hb dX5_searchFrom_43 rfl (lv_at hl 2 rfl) ?_
        refine lv_ishl hx hb dX5_searchFrom_44 ?_
        obtain ⟨c5, ec5, hs⟩ := ob hs
        refine nd_iast hx hb hK hP hD hS 11 0 rfl rfl ec5 dX5_searchFrom_45 (fun H locs hP hD hS => ?_)
        have hP : va_P D vwCl (CW ad cI kc ksv kbc kit kln c5 kla kfi kea kns kbl kr0 kr1 kr2 kr3 kr4 kr5 klr kp0 kp1 kp2 kp3) H := hP
        have hD : va_D A (CW ad cI kc ksv kbc kit kln c5 kla kfi kea kns kbl kr0 kr1 kr2 kr3 kr4 kr5 klr kp0 kp1 kp2 kp3) := hD
        refine lv_iconst (v := (1 : Int32)) hx hb dX5_searchFrom_46 (by decide) ?_
        refine lv_iload_n hx hb dX5_searchFrom_47 rfl (lv_at hl 2 rfl) ?_
        refine lv_ishl hx hb dX5_searchFrom_48 ?_
        refine lv_istore_n (lv' := [(3, .int ((1 : Int32) <<< (x1 &&& 31))), (2, .int ((1 : Int32) <<< (kp0 &&& 31))), (0, .ref (ad 5)), (1, .int x1)]) hx hb dX5_searchFrom_49 rfl hl (by decide) rfl (fun ls hl => ?_)
        have L50 : ∀ (n50 : Nat) (k50 : (Nat → Int32) → Int32 → Int32 → Int32 → Option ((Nat → Int32) × Int32 × Int32 × Int32)) (v3_11 : Int32) (ken_11 : (Nat → Int32)) (kp1_11 : Int32) (kp2_11 : Int32) (kp3_11 : Int32) (H : Heap) (locs : List Loc) (ls : Array Slot), lv_has ls 4 [(0, .ref (ad 5)), (1, .int x1), (2, .int ((1 : Int32) <<< (kp0 &&& 31))), (3, .int v3_11)] → va_P D vwCl (CW ad cI kc ksv kbc kit kln ken_11 kla kfi kea kns kbl kr0 kr1 kr2 kr3 kr4 kr5 klr kp0 kp1_11 kp2_11 kp3_11) H → va_S A s.heap H locs → fX5_searchFrom_50 k50 kla kfi kea kp0 x1 ((1 : Int32) <<< (kp0 &&& 31)) n50 v3_11 ken_11 kp1_11 kp2_11 kp3_11 = some (ken', kp1', kp2', kp3') → (∀ (ken_u11 : (Nat → Int32)) (kp1_u11 : Int32) (kp2_u11 : Int32) (kp3_u11 : Int32) (H : Heap) (locs : List Loc) (ls : Array Slot), lv_has ls 4 [] → va_P D vwCl (CW ad cI kc ksv kbc kit kln ken_u11 kla kfi kea kns kbl kr0 kr1 kr2 kr3 kr4 kr5 klr kp0 kp1_u11 kp2_u11 kp3_u11) H → va_S A s.heap H locs → k50 ken_u11 kp1_u11 kp2_u11 kp3_u11 = some (ken', kp1', kp2', kp3') → W p l e ⟨3, 0, 0, 64⟩ s m args below meth c_ H locs 0 0 Q (F0 m 81 ls [])) → W p l e ⟨3, 0, 0, 64⟩ s m args below meth c_ H locs 0 0 Q (F0 m 50 ls []) := by
          intro n50
          induction n50 with
          | zero =>
            intro k50 v3_11 ken_11 kp1_11 kp2_11 kp3_11 H locs ls hl hP hS hs hk50
            rw [fX5_searchFrom_50] at hs
            cases hs
          | succ n50 ih50 =>
            intro k50 v3_11 ken_11 kp1_11 kp2_11 kp3_11 H locs ls hl hP hS hs hk50
            rw [fX5_searchFrom_50] at hs
            have hD : va_D A (CW ad cI kc ksv kbc kit kln ken_11 kla kfi kea kns kbl kr0 kr1 kr2 kr3 kr4 kr5 klr kp0 kp1_11 kp2_11 kp3_11) := nd_DD hD rfl
            refine lv_iload_n hx hb dX5_searchFrom_50 rfl (lv_at hl 3 rfl) ?_
            refine lv_iload_n hx hb dX5_searchFrom_51 rfl (lv_at hl 2 rfl) ?_
            refine lv_icmp_ge (tgt := 81) hx hb dX5_searchFrom_52 (by decide) (fun b12 => ?_) (fun b12 => ?_)
            · have hs := ite_t hs b12
              exact hk50 ken_11 kp1_11 kp2_11 kp3_11 _ _ _ (lv_sub hl [] rfl) hP hS hs
            · have hs := ite_f hs b12
              refine lv_aload_n hx hb dX5_searchFrom_55 rfl (lv_at hl 0 rfl) ?_
              refine gf_X5_11 hx hb hts hown hK hP 5 rfl rfl dX5_searchFrom_56 ?_
              refine lv_iload_n hx hb dX5_searchFrom_59 rfl (lv_at hl 3 rfl) ?_
              obtain ⟨t13, et13, hs⟩ := ob hs
              refine nd_iald hx hb hK hP 11 0 rfl rfl et13 dX5_searchFrom_60 ?_
              refine lv_if_eq (tgt := 75) hx hb dX5_searchFrom_61 (by decide) (fun b14 => ?_) (fun b14 => ?_)
              · have hs := ite_t hs b14
                refine lv_iinc (v := v3_11 + (1 : Int32)) (lv' := [(3, .int (v3_11 + (1 : Int32))), (0, .ref (ad 5)), (1, .int x1), (2, .int ((1 : Int32) <<< (kp0 &&& 31)))]) hx hb dX5_searchFrom_75 hl (k := 3) rfl rfl (by decide) rfl (fun ls hl => ?_)
                refine lv_goto (tgt := 50) hx hb dX5_searchFrom_78 (by decide) ?_
                exact ih50 k50 (v3_11 + (1 : Int32)) ken_11 kp1_11 kp2_11 kp3_11 _ _ _ (lv_sub hl [1, 2, 3, 0] rfl) hP hS hs hk50
              · have hs := ite_f hs b14
                refine lv_aload_n hx hb dX5_searchFrom_64 rfl (lv_at hl 0 rfl) ?_
                refine lv_iload_n hx hb dX5_searchFrom_65 rfl (lv_at hl 1 rfl) ?_
                refine lv_iload_n hx hb dX5_searchFrom_66 rfl (lv_at hl 3 rfl) ?_
                obtain ⟨q15, eq15, hs⟩ := ob hs
                refine nd_callV (As := [.int x1, .int v3_11]) (rest := []) (st1 := []) hx hb hml hown hts hl hP hK hD hS hA hN (mX5_take eq15) iv_X5_take wd_835 5 rfl rfl rfl rfl ⟨Nat.le_of_ble_eq_true rfl, Nat.le_of_ble_eq_true rfl⟩ (Nat.le_of_ble_eq_true rfl) ⟨Nat.zero_le _, Nat.zero_le _⟩ dX5_searchFrom_67 rfl rfl (fun H locs hP hD hS => ?_)
                refine lv_aload_n hx hb dX5_searchFrom_70 rfl (lv_at hl 0 rfl) ?_
                refine lv_iload_n hx hb dX5_searchFrom_71 rfl (lv_at hl 3 rfl) ?_
                obtain ⟨q16, eq16, hs⟩ := ob hs
                refine nd_callV (As := [.int v3_11]) (rest := []) (st1 := []) hx hb hml hown hts hl hP hK hD hS hA hN (mX5_grow eq16) iv_X5_grow wd_840 5 rfl rfl rfl rfl ⟨Nat.le_of_ble_eq_true rfl, Nat.le_of_ble_eq_true rfl⟩ (Nat.le_of_ble_eq_true rfl) ⟨Nat.zero_le _, Nat.zero_le _⟩ dX5_searchFrom_72 rfl rfl (fun H locs hP hD hS => ?_)
                refine lv_iinc (v := v3_11 + (1 : Int32)) (lv' := [(3, .int (v3_11 + (1 : Int32))), (0, .ref (ad 5)), (1, .int x1), (2, .int ((1 : Int32) <<< (kp0 &&& 31)))]) hx hb dX5_searchFrom_75 hl (k := 3) rfl rfl (by decide) rfl (fun ls hl => ?_)
                refine lv_goto (tgt := 50) hx hb dX5_searchFrom_78 (by decide) ?_
                exact ih50 k50 (v3_11 + (1 : Int32)) q16 q15.1 q15.2.1 q15.2.2 _ _ _ (lv_sub hl [1, 2, 3, 0] rfl) hP hS hs hk50
        refine L50 LF _ ((1 : Int32) <<< (x1 &&& 31)) c5 kp1 kp2 kp3 _ _ _ (lv_sub hl [2, 3, 1, 0] rfl) hP hS hs (fun ken_u11 kp1_u11 kp2_u11 kp3_u11 H locs ls hl hP hS hs => ?_)
        have hD : va_D A (CW ad cI kc ksv kbc kit kln ken_u11 kla kfi kea kns kbl kr0 kr1 kr2 kr3 kr4 kr5 klr kp0 kp1_u11 kp2_u11 kp3_u11) := nd_DD hD rfl
        exact hret _ _ _ _ hs hP hS dX5_searchFrom_81
      · have hs := ite_f hs b4
        exact hret _ _ _ _ hs hP hS dX5_searchFrom_34
