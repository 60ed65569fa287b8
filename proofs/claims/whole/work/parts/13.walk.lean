def tX7_hiddenBy_0 : List (Nat × Instr × Nat) := [(0, .iconst 0, 1), (1, .istore_n 2, 1), (2, .iconst 0, 1), (3, .istore_n 3, 1), (4, .iload_n 3, 1), (5, .bipush 60, 2), (7, .if_icmp .ge 42, 3), (10, .aload_n 0, 1), (11, .iload_n 3, 1), (12, .invokevirtual 19, 3), (15, .ifCond .eq 28, 3), (18, .iload_n 1, 1), (19, .iconst (-1), 1), (20, .if_icmp .eq 15, 3), (23, .aload_n 0, 1), (24, .bipush 111, 2), (26, .iload_n 3, 1), (27, .iadd, 1), (28, .invokevirtual 36, 3), (31, .iload_n 1, 1), (32, .if_icmp .ne 11, 3), (35, .iload_n 2, 1), (36, .aload_n 0, 1), (37, .iload_n 3, 1), (38, .invokestatic 55, 3), (41, .iadd, 1), (42, .istore_n 2, 1), (43, .iinc 3 1, 3), (46, .goto (-42), 3), (49, .iload_n 2, 1), (50, .ireturn, 1)]
theorem tX7_hiddenBy_0_ok : tX7_hiddenBy_0.all (fun q => decide (decode cX7_hiddenBy q.1 = .ok q.2)) = true := by decide +kernel
theorem dX7_hiddenBy_0 : decode cX7_hiddenBy 0 = .ok (.iconst 0, 1) := td tX7_hiddenBy_0_ok 0 (q := (0, .iconst 0, 1)) rfl
theorem dX7_hiddenBy_1 : decode cX7_hiddenBy 1 = .ok (.istore_n 2, 1) := td tX7_hiddenBy_0_ok 1 (q := (1, .istore_n 2, 1)) rfl
theorem dX7_hiddenBy_2 : decode cX7_hiddenBy 2 = .ok (.iconst 0, 1) := td tX7_hiddenBy_0_ok 2 (q := (2, .iconst 0, 1)) rfl
theorem dX7_hiddenBy_3 : decode cX7_hiddenBy 3 = .ok (.istore_n 3, 1) := td tX7_hiddenBy_0_ok 3 (q := (3, .istore_n 3, 1)) rfl
theorem dX7_hiddenBy_4 : decode cX7_hiddenBy 4 = .ok (.iload_n 3, 1) := td tX7_hiddenBy_0_ok 4 (q := (4, .iload_n 3, 1)) rfl
theorem dX7_hiddenBy_5 : decode cX7_hiddenBy 5 = .ok (.bipush 60, 2) := td tX7_hiddenBy_0_ok 5 (q := (5, .bipush 60, 2)) rfl
theorem dX7_hiddenBy_7 : decode cX7_hiddenBy 7 = .ok (.if_icmp .ge 42, 3) := td tX7_hiddenBy_0_ok 6 (q := (7, .if_icmp .ge 42, 3)) rfl
theorem dX7_hiddenBy_10 : decode cX7_hiddenBy 10 = .ok (.aload_n 0, 1) := td tX7_hiddenBy_0_ok 7 (q := (10, .aload_n 0, 1)) rfl
theorem dX7_hiddenBy_11 : decode cX7_hiddenBy 11 = .ok (.iload_n 3, 1) := td tX7_hiddenBy_0_ok 8 (q := (11, .iload_n 3, 1)) rfl
theorem dX7_hiddenBy_12 : decode cX7_hiddenBy 12 = .ok (.invokevirtual 19, 3) := td tX7_hiddenBy_0_ok 9 (q := (12, .invokevirtual 19, 3)) rfl
theorem dX7_hiddenBy_15 : decode cX7_hiddenBy 15 = .ok (.ifCond .eq 28, 3) := td tX7_hiddenBy_0_ok 10 (q := (15, .ifCond .eq 28, 3)) rfl
theorem dX7_hiddenBy_18 : decode cX7_hiddenBy 18 = .ok (.iload_n 1, 1) := td tX7_hiddenBy_0_ok 11 (q := (18, .iload_n 1, 1)) rfl
theorem dX7_hiddenBy_19 : decode cX7_hiddenBy 19 = .ok (.iconst (-1), 1) := td tX7_hiddenBy_0_ok 12 (q := (19, .iconst (-1), 1)) rfl
theorem dX7_hiddenBy_20 : decode cX7_hiddenBy 20 = .ok (.if_icmp .eq 15, 3) := td tX7_hiddenBy_0_ok 13 (q := (20, .if_icmp .eq 15, 3)) rfl
theorem dX7_hiddenBy_23 : decode cX7_hiddenBy 23 = .ok (.aload_n 0, 1) := td tX7_hiddenBy_0_ok 14 (q := (23, .aload_n 0, 1)) rfl
theorem dX7_hiddenBy_24 : decode cX7_hiddenBy 24 = .ok (.bipush 111, 2) := td tX7_hiddenBy_0_ok 15 (q := (24, .bipush 111, 2)) rfl
theorem dX7_hiddenBy_26 : decode cX7_hiddenBy 26 = .ok (.iload_n 3, 1) := td tX7_hiddenBy_0_ok 16 (q := (26, .iload_n 3, 1)) rfl
theorem dX7_hiddenBy_27 : decode cX7_hiddenBy 27 = .ok (.iadd, 1) := td tX7_hiddenBy_0_ok 17 (q := (27, .iadd, 1)) rfl
theorem dX7_hiddenBy_28 : decode cX7_hiddenBy 28 = .ok (.invokevirtual 36, 3) := td tX7_hiddenBy_0_ok 18 (q := (28, .invokevirtual 36, 3)) rfl
theorem dX7_hiddenBy_31 : decode cX7_hiddenBy 31 = .ok (.iload_n 1, 1) := td tX7_hiddenBy_0_ok 19 (q := (31, .iload_n 1, 1)) rfl
theorem dX7_hiddenBy_32 : decode cX7_hiddenBy 32 = .ok (.if_icmp .ne 11, 3) := td tX7_hiddenBy_0_ok 20 (q := (32, .if_icmp .ne 11, 3)) rfl
theorem dX7_hiddenBy_35 : decode cX7_hiddenBy 35 = .ok (.iload_n 2, 1) := td tX7_hiddenBy_0_ok 21 (q := (35, .iload_n 2, 1)) rfl
theorem dX7_hiddenBy_36 : decode cX7_hiddenBy 36 = .ok (.aload_n 0, 1) := td tX7_hiddenBy_0_ok 22 (q := (36, .aload_n 0, 1)) rfl
theorem dX7_hiddenBy_37 : decode cX7_hiddenBy 37 = .ok (.iload_n 3, 1) := td tX7_hiddenBy_0_ok 23 (q := (37, .iload_n 3, 1)) rfl
theorem dX7_hiddenBy_38 : decode cX7_hiddenBy 38 = .ok (.invokestatic 55, 3) := td tX7_hiddenBy_0_ok 24 (q := (38, .invokestatic 55, 3)) rfl
theorem dX7_hiddenBy_41 : decode cX7_hiddenBy 41 = .ok (.iadd, 1) := td tX7_hiddenBy_0_ok 25 (q := (41, .iadd, 1)) rfl
theorem dX7_hiddenBy_42 : decode cX7_hiddenBy 42 = .ok (.istore_n 2, 1) := td tX7_hiddenBy_0_ok 26 (q := (42, .istore_n 2, 1)) rfl
theorem dX7_hiddenBy_43 : decode cX7_hiddenBy 43 = .ok (.iinc 3 1, 3) := td tX7_hiddenBy_0_ok 27 (q := (43, .iinc 3 1, 3)) rfl
theorem dX7_hiddenBy_46 : decode cX7_hiddenBy 46 = .ok (.goto (-42), 3) := td tX7_hiddenBy_0_ok 28 (q := (46, .goto (-42), 3)) rfl
theorem dX7_hiddenBy_49 : decode cX7_hiddenBy 49 = .ok (.iload_n 2, 1) := td tX7_hiddenBy_0_ok 29 (q := (49, .iload_n 2, 1)) rfl
theorem dX7_hiddenBy_50 : decode cX7_hiddenBy 50 = .ok (.ireturn, 1) := td tX7_hiddenBy_0_ok 30 (q := (50, .ireturn, 1)) rfl
def fX7_hiddenBy_4 (k4 : Int32 → Option (Int32)) (kc : (Nat → Int32)) (x1 : Int32) : Nat → Int32 → Int32 → Option (Int32)
  | 0, _, _ => none
  | n4 + 1, x2, x3 => (if (60 : Int32) ≤ x3 then (k4 x2) else (Option.bind (fX0_isUsed kc x3) (fun q2 => (if q2 = 0 then (fX7_hiddenBy_4 k4 kc x1 n4 x2 (x3 + (1 : Int32))) else (if x1 = (-1 : Int32) then (Option.bind (fX7_sizeHidden kc x3) (fun q5 => (fX7_hiddenBy_4 k4 kc x1 n4 (x2 + q5) (x3 + (1 : Int32))))) else (Option.bind (fX0_get kc ((111 : Int32) + x3)) (fun q6 => (if q6 = x1 then (Option.bind (fX7_sizeHidden kc x3) (fun q8 => (fX7_hiddenBy_4 k4 kc x1 n4 (x2 + q8) (x3 + (1 : Int32))))) else (fX7_hiddenBy_4 k4 kc x1 n4 x2 (x3 + (1 : Int32)))))))))))
def fX7_hiddenBy (kc : (Nat → Int32)) (x1 : Int32) : Option (Int32) :=
  (fX7_hiddenBy_4 (fun (u2_9 : Int32) => (some u2_9)) kc x1 LF (0 : Int32) (0 : Int32))
set_option maxHeartbeats 4000000 in
set_option maxRecDepth 100000 in
theorem mX7_hiddenBy {l : Launch} {D : va_G} {ad : Nat → Nat} {cI : ClassId} {kc : (Nat → Int32)} {ksv : (Nat → Int32)} {kbc : (Nat → Int32)} {kit : (Nat → Int32)} {kln : (Nat → Int32)} {ken : (Nat → Int32)} {kla : (Nat → Int32)} {kfi : (Nat → Int32)} {kea : (Nat → Int32)} {kns : Int32} {kbl : Int32} {kr0 : Int32} {kr1 : Int32} {kr2 : Int32} {kr3 : Int32} {kr4 : Int32} {kr5 : Int32} {klr : Int32} {kp0 : Int32} {kp1 : Int32} {kp2 : Int32} {kp3 : Int32} {x1 : Int32} {r : Int32} (hs : fX7_hiddenBy kc x1 = some r) : nd_C l yX7_hiddenBy cX7_hiddenBy 4 (some .int) 3 66 D [(cI, .int)] [.ref (ad 1), .int x1] (CW ad cI kc ksv kbc kit kln ken kla kfi kea kns kbl kr0 kr1 kr2 kr3 kr4 kr5 klr kp0 kp1 kp2 kp3) (CW ad cI kc ksv kbc kit kln ken kla kfi kea kns kbl kr0 kr1 kr2 kr3 kr4 kr5 klr kp0 kp1 kp2 kp3) (some (.int r)) := by
  refine nd_ofCi (by decide) (Nat.le_of_ble_eq_true rfl) (fun p e s m args below meth c_ ls A Q hx hb hml hown hts hl hP hK hD hS hA hN hret => ?_)
  have hown : s.vm.findClass RX7 = some m.cls := hown
  have hl : lv_has ls 4 [(0, .ref (ad 1)), (1, .int x1)] := hl
  have hret : ∀ (z0 : Int32) {H : Heap} {locs : List Loc} {pc : Nat} {ls : Array Slot}, some z0 = some r → va_P D vwCl (CW ad cI kc ksv kbc kit kln ken kla kfi kea kns kbl kr0 kr1 kr2 kr3 kr4 kr5 klr kp0 kp1 kp2 kp3) H → va_S A s.heap H locs → decode cX7_hiddenBy pc = .ok (.ireturn, 1) → W p l e ⟨3, 0, 0, 66⟩ s m args below meth c_ H locs 0 0 Q (F0 m pc ls [.int z0]) := by
    intro z0 H locs pc ls h hP hS hd
    cases h
    exact hret hP hS hd
  rw [fX7_hiddenBy] at hs
  refine lv_iconst (v := (0 : Int32)) hx hb dX7_hiddenBy_0 (by decide) ?_
  refine lv_istore_n (lv' := [(2, .int (0 : Int32)), (0, .ref (ad 1)), (1, .int x1)]) hx hb dX7_hiddenBy_1 rfl hl (by decide) rfl (fun ls hl => ?_)
  refine lv_iconst (v := (0 : Int32)) hx hb dX7_hiddenBy_2 (by decide) ?_
  refine lv_istore_n (lv' := [(3, .int (0 : Int32)), (2, .int (0 : Int32)), (0, .ref (ad 1)), (1, .int x1)]) hx hb dX7_hiddenBy_3 rfl hl (by decide) rfl (fun ls hl => ?_)
  have L4 : ∀ (n4 : Nat) (k4 : Int32 → Option (Int32)) (v2_9 : Int32) (v3_9 : Int32) (H : Heap) (locs : List Loc) (ls : Array Slot), lv_has ls 4 [(0, .ref (ad 1)), (1, .int x1), (2, .int v2_9), (3, .int v3_9)] → va_P D vwCl (CW ad cI kc ksv kbc kit kln ken kla kfi kea kns kbl kr0 kr1 kr2 kr3 kr4 kr5 klr kp0 kp1 kp2 kp3) H → va_S A s.heap H locs → fX7_hiddenBy_4 k4 kc x1 n4 v2_9 v3_9 = some r → (∀ (u2_9 : Int32) (H : Heap) (locs : List Loc) (ls : Array Slot), lv_has ls 4 [(2, .int u2_9)] → va_P D vwCl (CW ad cI kc ksv kbc kit kln ken kla kfi kea kns kbl kr0 kr1 kr2 kr3 kr4 kr5 klr kp0 kp1 kp2 kp3) H → va_S A s.heap H locs → k4 u2_9 = some r → W p l e ⟨3, 0, 0, 66⟩ s m args below meth c_ H locs 0 0 Q (F0 m 49 ls [])) → W p l e ⟨3, 0, 0, 66⟩ s m args below meth c_ H locs 0 0 Q (F0 m 4 ls []) := by
    intro n4
    induction n4 with
    | zero =>
      intro k4 v2_9 v3_9 H locs ls hl hP hS hs hk4
      rw [fX7_hiddenBy_4] at hs
      cases hs
    | succ n4 ih4 =>
      intro k4 v2_9 v3_9 H locs ls hl hP hS hs hk4
      rw [fX7_hiddenBy_4] at hs
      refine lv_iload_n hx hb dX7_hiddenBy_4 rfl (lv_at hl 3 rfl) ?_
      refine lv_bipush (v := (60 : Int32)) hx hb dX7_hiddenBy_5 (by decide) ?_
      refine lv_icmp_ge (tgt := 49) hx hb dX7_hiddenBy_7 (by decide) (fun b10 => ?_) (fun b10 => ?_)
      · have hs := ite_t hs b10
        exact hk4 v2_9 _ _ _ (lv_sub hl [2] rfl) hP hS hs
      · have hs := ite_f hs b10
        refine lv_aload_n hx hb dX7_hiddenBy_10 rfl (lv_at hl 0 rfl) ?_
        refine lv_iload_n hx hb dX7_hiddenBy_11 rfl (lv_at hl 3 rfl) ?_
        obtain ⟨q11, eq11, hs⟩ := ob hs
        refine nd_callV (As := [.int v3_9]) (rest := []) (st1 := [.int q11]) hx hb hml hown hts hl hP hK hD hS hA hN (mX0_isUsed eq11) iv_X0_isUsed wd_608 1 rfl rfl rfl rfl ⟨Nat.le_of_ble_eq_true rfl, Nat.le_of_ble_eq_true rfl⟩ (Nat.le_of_ble_eq_true rfl) ⟨Nat.zero_le _, Nat.zero_le _⟩ dX7_hiddenBy_12 rfl rfl (fun H locs hP hD hS => ?_)
        refine lv_if_eq (tgt := 43) hx hb dX7_hiddenBy_15 (by decide) (fun b12 => ?_) (fun b12 => ?_)
        · have hs := ite_t hs b12
          refine lv_iinc (v := v3_9 + (1 : Int32)) (lv' := [(3, .int (v3_9 + (1 : Int32))), (0, .ref (ad 1)), (1, .int x1), (2, .int v2_9)]) hx hb dX7_hiddenBy_43 hl (k := 3) rfl rfl (by decide) rfl (fun ls hl => ?_)
          refine lv_goto (tgt := 4) hx hb dX7_hiddenBy_46 (by decide) ?_
          exact ih4 k4 v2_9 (v3_9 + (1 : Int32)) _ _ _ (lv_sub hl [1, 2, 3, 0] rfl) hP hS hs hk4
        · have hs := ite_f hs b12
          refine lv_iload_n hx hb dX7_hiddenBy_18 rfl (lv_at hl 1 rfl) ?_
          refine lv_iconst (v := (-1 : Int32)) hx hb dX7_hiddenBy_19 (by decide) ?_
          refine lv_icmp_eq (tgt := 35) hx hb dX7_hiddenBy_20 (by decide) (fun b13 => ?_) (fun b13 => ?_)
          · have hs := ite_t hs b13
            refine lv_iload_n hx hb dX7_hiddenBy_35 rfl (lv_at hl 2 rfl) ?_
            refine lv_aload_n hx hb dX7_hiddenBy_36 rfl (lv_at hl 0 rfl) ?_
            refine lv_iload_n hx hb dX7_hiddenBy_37 rfl (lv_at hl 3 rfl) ?_
            obtain ⟨q14, eq14, hs⟩ := ob hs
            refine nd_callS (As := [.ref (ad 1), .int v3_9]) (rest := [.int v2_9]) (st1 := [.int q14, .int v2_9]) hx hb hml hown hts hl hP hK hD hS hA hN (mX7_sizeHidden eq14) is_X7_sizeHidden wd_660 rfl rfl ⟨Nat.le_of_ble_eq_true rfl, Nat.le_of_ble_eq_true rfl⟩ (Nat.le_of_ble_eq_true rfl) ⟨Nat.zero_le _, Nat.zero_le _⟩ dX7_hiddenBy_38 rfl rfl (fun H locs hP hD hS => ?_)
            refine lv_iadd hx hb dX7_hiddenBy_41 ?_
            refine lv_istore_n (lv' := [(2, .int (v2_9 + q14)), (0, .ref (ad 1)), (1, .int x1), (3, .int v3_9)]) hx hb dX7_hiddenBy_42 rfl hl (by decide) rfl (fun ls hl => ?_)
            refine lv_iinc (v := v3_9 + (1 : Int32)) (lv' := [(3, .int (v3_9 + (1 : Int32))), (2, .int (v2_9 + q14)), (0, .ref (ad 1)), (1, .int x1)]) hx hb dX7_hiddenBy_43 hl (k := 3) rfl rfl (by decide) rfl (fun ls hl => ?_)
            refine lv_goto (tgt := 4) hx hb dX7_hiddenBy_46 (by decide) ?_
            exact ih4 k4 (v2_9 + q14) (v3_9 + (1 : Int32)) _ _ _ (lv_sub hl [2, 3, 1, 0] rfl) hP hS hs hk4
          · have hs := ite_f hs b13
            refine lv_aload_n hx hb dX7_hiddenBy_23 rfl (lv_at hl 0 rfl) ?_
            refine lv_bipush (v := (111 : Int32)) hx hb dX7_hiddenBy_24 (by decide) ?_
            refine lv_iload_n hx hb dX7_hiddenBy_26 rfl (lv_at hl 3 rfl) ?_
            refine lv_iadd hx hb dX7_hiddenBy_27 ?_
            obtain ⟨q15, eq15, hs⟩ := ob hs
            refine nd_callV (As := [.int ((111 : Int32) + v3_9)]) (rest := []) (st1 := [.int q15]) hx hb hml hown hts hl hP hK hD hS hA hN (mX0_get eq15) iv_X0_get wd_607 1 rfl rfl rfl rfl ⟨Nat.le_of_ble_eq_true rfl, Nat.le_of_ble_eq_true rfl⟩ (Nat.le_of_ble_eq_true rfl) ⟨Nat.zero_le _, Nat.zero_le _⟩ dX7_hiddenBy_28 rfl rfl (fun H locs hP hD hS => ?_)
            refine lv_iload_n hx hb dX7_hiddenBy_31 rfl (lv_at hl 1 rfl) ?_
            refine lv_icmp_ne (tgt := 43) hx hb dX7_hiddenBy_32 (by decide) (fun b16 => ?_) (fun b16 => ?_)
            · have hs := ite_f hs b16
              refine lv_iinc (v := v3_9 + (1 : Int32)) (lv' := [(3, .int (v3_9 + (1 : Int32))), (0, .ref (ad 1)), (1, .int x1), (2, .int v2_9)]) hx hb dX7_hiddenBy_43 hl (k := 3) rfl rfl (by decide) rfl (fun ls hl => ?_)
              refine lv_goto (tgt := 4) hx hb dX7_hiddenBy_46 (by decide) ?_
              exact ih4 k4 v2_9 (v3_9 + (1 : Int32)) _ _ _ (lv_sub hl [1, 2, 3, 0] rfl) hP hS hs hk4
            · have hs := ite_t hs b16
              refine lv_iload_n hx hb dX7_hiddenBy_35 rfl (lv_at hl 2 rfl) ?_
              refine lv_aload_n hx hb dX7_hiddenBy_36 rfl (lv_at hl 0 rfl) ?_
              refine lv_iload_n hx hb dX7_hiddenBy_37 rfl (lv_at hl 3 rfl) ?_
              obtain ⟨q17, eq17, hs⟩ := ob hs
              refine nd_callS (As := [.ref (ad 1), .int v3_9]) (rest := [.int v2_9]) (st1 := [.int q17, .int v2_9]) hx hb hml hown hts hl hP hK hD hS hA hN (mX7_sizeHidden eq17) is_X7_sizeHidden wd_660 rfl rfl ⟨Nat.le_of_ble_eq_true rfl, Nat.le_of_ble_eq_true rfl⟩ (Nat.le_of_ble_eq_true rfl) ⟨Nat.zero_le _, Nat.zero_le _⟩ dX7_hiddenBy_38 rfl rfl (fun H locs hP hD hS => ?_)
              refine lv_iadd hx hb dX7_hiddenBy_41 ?_
              refine lv_istore_n (lv' := [(2, .int (v2_9 + q17)), (0, .ref (ad 1)), (1, .int x1), (3, .int v3_9)]) hx hb dX7_hiddenBy_42 rfl hl (by decide) rfl (fun ls hl => ?_)
              refine lv_iinc (v := v3_9 + (1 : Int32)) (lv' := [(3, .int (v3_9 + (1 : Int32))), (2, .int (v2_9 + q17)), (0, .ref (ad 1)), (1, .int x1)]) hx hb dX7_hiddenBy_43 hl (k := 3) rfl rfl (by decide) rfl (fun ls hl => ?_)
              refine lv_goto (tgt := 4) hx hb dX7_hiddenBy_46 (by decide) ?_
              exact ih4 k4 (v2_9 + q17) (v3_9 + (1 : Int32)) _ _ _ (lv_sub hl [2, 3, 1, 0] rfl) hP hS hs hk4
  refine L4 LF _ (0 : Int32) (0 : Int32) _ _ _ (lv_sub hl [2, 3, 1, 0] rfl) hP hS hs (fun u2_9 H locs ls hl hP hS hs => ?_)
  refine lv_iload_n hx hb dX7_hiddenBy_49 rfl (lv_at hl 0 rfl) ?_
  exact hret _ hs hP hS dX7_hiddenBy_50
def tX7_notRightOf_0 : List (Nat × Instr × Nat) := [(0, .iconst 0, 1), (1, .istore_n 2, 1), (2, .iconst 0, 1), (3, .istore_n 3, 1), (4, .iload_n 3, 1), (5, .bipush 60, 2), (7, .if_icmp .ge 40, 3), (10, .aload_n 0, 1), (11, .iload_n 3, 1), (12, .invokevirtual 19, 3), (15, .ifCond .eq 26, 3), (18, .aload_n 0, 1), (19, .bipush 111, 2), (21, .iload_n 3, 1), (22, .iadd, 1), (23, .invokevirtual 36, 3), (26, .iload_n 1, 1), (27, .if_icmp .ne 14, 3), (30, .aload_n 0, 1), (31, .iload_n 3, 1), (32, .invokestatic 55, 3), (35, .ifCond .le 6, 3), (38, .iinc 2 1, 3), (41, .iinc 3 1, 3), (44, .goto (-40), 3), (47, .iload_n 2, 1), (48, .ireturn, 1)]
theorem tX7_notRightOf_0_ok : tX7_notRightOf_0.all (fun q => decide (decode cX7_notRightOf q.1 = .ok q.2)) = true := by decide +kernel
theorem dX7_notRightOf_0 : decode cX7_notRightOf 0 = .ok (.iconst 0, 1) := td tX7_notRightOf_0_ok 0 (q := (0, .iconst 0, 1)) rfl
theorem dX7_notRightOf_1 : decode cX7_notRightOf 1 = .ok (.istore_n 2, 1) := td tX7_notRightOf_0_ok 1 (q := (1, .istore_n 2, 1)) rfl
theorem dX7_notRightOf_2 : decode cX7_notRightOf 2 = .ok (.iconst 0, 1) := td tX7_notRightOf_0_ok 2 (q := (2, .iconst 0, 1)) rfl
theorem dX7_notRightOf_3 : decode cX7_notRightOf 3 = .ok (.istore_n 3, 1) := td tX7_notRightOf_0_ok 3 (q := (3, .istore_n 3, 1)) rfl
theorem dX7_notRightOf_4 : decode cX7_notRightOf 4 = .ok (.iload_n 3, 1) := td tX7_notRightOf_0_ok 4 (q := (4, .iload_n 3, 1)) rfl
theorem dX7_notRightOf_5 : decode cX7_notRightOf 5 = .ok (.bipush 60, 2) := td tX7_notRightOf_0_ok 5 (q := (5, .bipush 60, 2)) rfl
theorem dX7_notRightOf_7 : decode cX7_notRightOf 7 = .ok (.if_icmp .ge 40, 3) := td tX7_notRightOf_0_ok 6 (q := (7, .if_icmp .ge 40, 3)) rfl
theorem dX7_notRightOf_10 : decode cX7_notRightOf 10 = .ok (.aload_n 0, 1) := td tX7_notRightOf_0_ok 7 (q := (10, .aload_n 0, 1)) rfl
theorem dX7_notRightOf_11 : decode cX7_notRightOf 11 = .ok (.iload_n 3, 1) := td tX7_notRightOf_0_ok 8 (q := (11, .iload_n 3, 1)) rfl
theorem dX7_notRightOf_12 : decode cX7_notRightOf 12 = .ok (.invokevirtual 19, 3) := td tX7_notRightOf_0_ok 9 (q := (12, .invokevirtual 19, 3)) rfl
theorem dX7_notRightOf_15 : decode cX7_notRightOf 15 = .ok (.ifCond .eq 26, 3) := td tX7_notRightOf_0_ok 10 (q := (15, .ifCond .eq 26, 3)) rfl
theorem dX7_notRightOf_18 : decode cX7_notRightOf 18 = .ok (.aload_n 0, 1) := td tX7_notRightOf_0_ok 11 (q := (18, .aload_n 0, 1)) rfl
theorem dX7_notRightOf_19 : decode cX7_notRightOf 19 = .ok (.bipush 111, 2) := td tX7_notRightOf_0_ok 12 (q := (19, .bipush 111, 2)) rfl
theorem dX7_notRightOf_21 : decode cX7_notRightOf 21 = .ok (.iload_n 3, 1) := td tX7_notRightOf_0_ok 13 (q := (21, .iload_n 3, 1)) rfl
theorem dX7_notRightOf_22 : decode cX7_notRightOf 22 = .ok (.iadd, 1) := td tX7_notRightOf_0_ok 14 (q := (22, .iadd, 1)) rfl
theorem dX7_notRightOf_23 : decode cX7_notRightOf 23 = .ok (.invokevirtual 36, 3) := td tX7_notRightOf_0_ok 15 (q := (23, .invokevirtual 36, 3)) rfl
theorem dX7_notRightOf_26 : decode cX7_notRightOf 26 = .ok (.iload_n 1, 1) := td tX7_notRightOf_0_ok 16 (q := (26, .iload_n 1, 1)) rfl
theorem dX7_notRightOf_27 : decode cX7_notRightOf 27 = .ok (.if_icmp .ne 14, 3) := td tX7_notRightOf_0_ok 17 (q := (27, .if_icmp .ne 14, 3)) rfl
theorem dX7_notRightOf_30 : decode cX7_notRightOf 30 = .ok (.aload_n 0, 1) := td tX7_notRightOf_0_ok 18 (q := (30, .aload_n 0, 1)) rfl
theorem dX7_notRightOf_31 : decode cX7_notRightOf 31 = .ok (.iload_n 3, 1) := td tX7_notRightOf_0_ok 19 (q := (31, .iload_n 3, 1)) rfl
theorem dX7_notRightOf_32 : decode cX7_notRightOf 32 = .ok (.invokestatic 55, 3) := td tX7_notRightOf_0_ok 20 (q := (32, .invokestatic 55, 3)) rfl
theorem dX7_notRightOf_35 : decode cX7_notRightOf 35 = .ok (.ifCond .le 6, 3) := td tX7_notRightOf_0_ok 21 (q := (35, .ifCond .le 6, 3)) rfl
theorem dX7_notRightOf_38 : decode cX7_notRightOf 38 = .ok (.iinc 2 1, 3) := td tX7_notRightOf_0_ok 22 (q := (38, .iinc 2 1, 3)) rfl
theorem dX7_notRightOf_41 : decode cX7_notRightOf 41 = .ok (.iinc 3 1, 3) := td tX7_notRightOf_0_ok 23 (q := (41, .iinc 3 1, 3)) rfl
theorem dX7_notRightOf_44 : decode cX7_notRightOf 44 = .ok (.goto (-40), 3) := td tX7_notRightOf_0_ok 24 (q := (44, .goto (-40), 3)) rfl
theorem dX7_notRightOf_47 : decode cX7_notRightOf 47 = .ok (.iload_n 2, 1) := td tX7_notRightOf_0_ok 25 (q := (47, .iload_n 2, 1)) rfl
theorem dX7_notRightOf_48 : decode cX7_notRightOf 48 = .ok (.ireturn, 1) := td tX7_notRightOf_0_ok 26 (q := (48, .ireturn, 1)) rfl
def fX7_notRightOf_4 (k4 : Int32 → Option (Int32)) (kc : (Nat → Int32)) (x1 : Int32) : Nat → Int32 → Int32 → Option (Int32)
  | 0, _, _ => none
  | n4 + 1, x2, x3 => (if (60 : Int32) ≤ x3 then (k4 x2) else (Option.bind (fX0_isUsed kc x3) (fun q2 => (if q2 = 0 then (fX7_notRightOf_4 k4 kc x1 n4 x2 (x3 + (1 : Int32))) else (Option.bind (fX0_get kc ((111 : Int32) + x3)) (fun q4 => (if q4 = x1 then (Option.bind (fX7_sizeHidden kc x3) (fun q6 => (if q6 ≤ 0 then (fX7_notRightOf_4 k4 kc x1 n4 x2 (x3 + (1 : Int32))) else (fX7_notRightOf_4 k4 kc x1 n4 (x2 + (1 : Int32)) (x3 + (1 : Int32)))))) else (fX7_notRightOf_4 k4 kc x1 n4 x2 (x3 + (1 : Int32))))))))))
def fX7_notRightOf (kc : (Nat → Int32)) (x1 : Int32) : Option (Int32) :=
  (fX7_notRightOf_4 (fun (u2_8 : Int32) => (some u2_8)) kc x1 LF (0 : Int32) (0 : Int32))
set_option maxHeartbeats 4000000 in
set_option maxRecDepth 100000 in
theorem mX7_notRightOf {l : Launch} {D : va_G} {ad : Nat → Nat} {cI : ClassId} {kc : (Nat → Int32)} {ksv : (Nat → Int32)} {kbc : (Nat → Int32)} {kit : (Nat → Int32)} {kln : (Nat → Int32)} {ken : (Nat → Int32)} {kla : (Nat → Int32)} {kfi : (Nat → Int32)} {kea : (Nat → Int32)} {kns : Int32} {kbl : Int32} {kr0 : Int32} {kr1 : Int32} {kr2 : Int32} {kr3 : Int32} {kr4 : Int32} {kr5 : Int32} {klr : Int32} {kp0 : Int32} {kp1 : Int32} {kp2 : Int32} {kp3 : Int32} {x1 : Int32} {r : Int32} (hs : fX7_notRightOf kc x1 = some r) : nd_C l yX7_notRightOf cX7_notRightOf 4 (some .int) 3 66 D [(cI, .int)] [.ref (ad 1), .int x1] (CW ad cI kc ksv kbc kit kln ken kla kfi kea kns kbl kr0 kr1 kr2 kr3 kr4 kr5 klr kp0 kp1 kp2 kp3) (CW ad cI kc ksv kbc kit kln ken kla kfi kea kns kbl kr0 kr1 kr2 kr3 kr4 kr5 klr kp0 kp1 kp2 kp3) (some (.int r)) := by
  refine nd_ofCi (by decide) (Nat.le_of_ble_eq_true rfl) (fun p e s m args below meth c_ ls A Q hx hb hml hown hts hl hP hK hD hS hA hN hret => ?_)
  have hown : s.vm.findClass RX7 = some m.cls := hown
  have hl : lv_has ls 4 [(0, .ref (ad 1)), (1, .int x1)] := hl
  have hret : ∀ (z0 : Int32) {H : Heap} {locs : List Loc} {pc : Nat} {ls : Array Slot}, some z0 = some r → va_P D vwCl (CW ad cI kc ksv kbc kit kln ken kla kfi kea kns kbl kr0 kr1 kr2 kr3 kr4 kr5 klr kp0 kp1 kp2 kp3) H → va_S A s.heap H locs → decode cX7_notRightOf pc = .ok (.ireturn, 1) → W p l e ⟨3, 0, 0, 66⟩ s m args below meth c_ H locs 0 0 Q (F0 m pc ls [.int z0]) := by
    intro z0 H locs pc ls h hP hS hd
    cases h
    exact hret hP hS hd
  rw [fX7_notRightOf] at hs
  refine lv_iconst (v := (0 : Int32)) hx hb dX7_notRightOf_0 (by decide) ?_
  refine lv_istore_n (lv' := [(2, .int (0 : Int32)), (0, .ref (ad 1)), (1, .int x1)]) hx hb dX7_notRightOf_1 rfl hl (by decide) rfl (fun ls hl => ?_)
  refine lv_iconst (v := (0 : Int32)) hx hb dX7_notRightOf_2 (by decide) ?_
  refine lv_istore_n (lv' := [(3, .int (0 : Int32)), (2, .int (0 : Int32)), (0, .ref (ad 1)), (1, .int x1)]) hx hb dX7_notRightOf_3 rfl hl (by decide) rfl (fun ls hl => ?_)
  have L4 : ∀ (n4 : Nat) (k4 : Int32 → Option (Int32)) (v2_8 : Int32) (v3_8 : Int32) (H : Heap) (locs : List Loc) (ls : Array Slot), lv_has ls 4 [(0, .ref (ad 1)), (1, .int x1), (2, .int v2_8), (3, .int v3_8)] → va_P D vwCl (CW ad cI kc ksv kbc kit kln ken kla kfi kea kns kbl kr0 kr1 kr2 kr3 kr4 kr5 klr kp0 kp1 kp2 kp3) H → va_S A s.heap H locs → fX7_notRightOf_4 k4 kc x1 n4 v2_8 v3_8 = some r → (∀ (u2_8 : Int32) (H : Heap) (locs : List Loc) (ls : Array Slot), lv_has ls 4 [(2, .int u2_8)] → va_P D vwCl (CW ad cI kc ksv kbc kit kln ken kla kfi kea kns kbl kr0 kr1 kr2 kr3 kr4 kr5 klr kp0 kp1 kp2 kp3) H → va_S A s.heap H locs → k4 u2_8 = some r → W p l e ⟨3, 0, 0, 66⟩ s m args below meth c_ H locs 0 0 Q (F0 m 47 ls [])) → W p l e ⟨3, 0, 0, 66⟩ s m args below meth c_ H locs 0 0 Q (F0 m 4 ls []) := by
    intro n4
    induction n4 with
    | zero =>
      intro k4 v2_8 v3_8 H locs ls hl hP hS hs hk4
      rw [fX7_notRightOf_4] at hs
      cases hs
    | succ n4 ih4 =>
      intro k4 v2_8 v3_8 H locs ls hl hP hS hs hk4
      rw [fX7_notRightOf_4] at hs
      refine lv_iload_n hx hb dX7_notRightOf_4 rfl (lv_at hl 3 rfl) ?_
      refine lv_bipush (v := (60 : Int32)) hx hb dX7_notRightOf_5 (by decide) ?_
      refine lv_icmp_ge (tgt := 47) hx hb dX7_notRightOf_7 (by decide) (fun b9 => ?_) (fun b9 => ?_)
      · have hs := ite_t hs b9
        exact hk4 v2_8 _ _ _ (lv_sub hl [2] rfl) hP hS hs
      · have hs := ite_f hs b9
        refine lv_aload_n hx hb dX7_notRightOf_10 rfl (lv_at hl 0 rfl) ?_
        refine lv_iload_n hx hb dX7_notRightOf_11 rfl (lv_at hl 3 rfl) ?_
        obtain ⟨q10, eq10, hs⟩ := ob hs
        refine nd_callV (As := [.int v3_8]) (rest := []) (st1 := [.int q10]) hx hb hml hown hts hl hP hK hD hS hA hN (mX0_isUsed eq10) iv_X0_isUsed wd_608 1 rfl rfl rfl rfl ⟨Nat.le_of_ble_eq_true rfl, Nat.le_of_ble_eq_true rfl⟩ (Nat.le_of_ble_eq_true rfl) ⟨Nat.zero_le _, Nat.zero_le _⟩ dX7_notRightOf_12 rfl rfl (fun H locs hP hD hS => ?_)
        refine lv_if_eq (tgt := 41) hx hb dX7_notRightOf_15 (by decide) (fun b11 => ?_) (fun b11 => ?_)
        · have hs := ite_t hs b11
          refine lv_iinc (v := v3_8 + (1 : Int32)) (lv' := [(3, .int (v3_8 + (1 : Int32))), (0, .ref (ad 1)), (1, .int x1), (2, .int v2_8)]) hx hb dX7_notRightOf_41 hl (k := 3) rfl rfl (by decide) rfl (fun ls hl => ?_)
          refine lv_goto (tgt := 4) hx hb dX7_notRightOf_44 (by decide) ?_
          exact ih4 k4 v2_8 (v3_8 + (1 : Int32)) _ _ _ (lv_sub hl [1, 2, 3, 0] rfl) hP hS hs hk4
        · have hs := ite_f hs b11
          refine lv_aload_n hx hb dX7_notRightOf_18 rfl (lv_at hl 0 rfl) ?_
          refine lv_bipush (v := (111 : Int32)) hx hb dX7_notRightOf_19 (by decide) ?_
          refine lv_iload_n hx hb dX7_notRightOf_21 rfl (lv_at hl 3 rfl) ?_
          refine lv_iadd hx hb dX7_notRightOf_22 ?_
          obtain ⟨q12, eq12, hs⟩ := ob hs
          refine nd_callV (As := [.int ((111 : Int32) + v3_8)]) (rest := []) (st1 := [.int q12]) hx hb hml hown hts hl hP hK hD hS hA hN (mX0_get eq12) iv_X0_get wd_607 1 rfl rfl rfl rfl ⟨Nat.le_of_ble_eq_true rfl, Nat.le_of_ble_eq_true rfl⟩ (Nat.le_of_ble_eq_true rfl) ⟨Nat.zero_le _, Nat.zero_le _⟩ dX7_notRightOf_23 rfl rfl (fun H locs hP hD hS => ?_)
          refine lv_iload_n hx hb dX7_notRightOf_26 rfl (lv_at hl 1 rfl) ?_
          refine lv_icmp_ne (tgt := 41) hx hb dX7_notRightOf_27 (by decide) (fun b13 => ?_) (fun b13 => ?_)
          · have hs := ite_f hs b13
            refine lv_iinc (v := v3_8 + (1 : Int32)) (lv' := [(3, .int (v3_8 + (1 : Int32))), (0, .ref (ad 1)), (1, .int x1), (2, .int v2_8)]) hx hb dX7_notRightOf_41 hl (k := 3) rfl rfl (by decide) rfl (fun ls hl => ?_)
            refine lv_goto (tgt := 4) hx hb dX7_notRightOf_44 (by decide) ?_
            exact ih4 k4 v2_8 (v3_8 + (1 : Int32)) _ _ _ (lv_sub hl [1, 2, 3, 0] rfl) hP hS hs hk4
          · have hs := ite_t hs b13
            refine lv_aload_n hx hb dX7_notRightOf_30 rfl (lv_at hl 0 rfl) ?_
            refine lv_iload_n hx hb dX7_notRightOf_31 rfl (lv_at hl 3 rfl) ?_
            obtain ⟨q14, eq14, hs⟩ := ob hs
            refine nd_callS (As := [.ref (ad 1), .int v3_8]) (rest := []) (st1 := [.int q14]) hx hb hml hown hts hl hP hK hD hS hA hN (mX7_sizeHidden eq14) is_X7_sizeHidden wd_660 rfl rfl ⟨Nat.le_of_ble_eq_true rfl, Nat.le_of_ble_eq_true rfl⟩ (Nat.le_of_ble_eq_true rfl) ⟨Nat.zero_le _, Nat.zero_le _⟩ dX7_notRightOf_32 rfl rfl (fun H locs hP hD hS => ?_)
            refine lv_if_le (tgt := 41) hx hb dX7_notRightOf_35 (by decide) (fun b15 => ?_) (fun b15 => ?_)
            · have hs := ite_t hs b15
              refine lv_iinc (v := v3_8 + (1 : Int32)) (lv' := [(3, .int (v3_8 + (1 : Int32))), (0, .ref (ad 1)), (1, .int x1), (2, .int v2_8)]) hx hb dX7_notRightOf_41 hl (k := 3) rfl rfl (by decide) rfl (fun ls hl => ?_)
              refine lv_goto (tgt := 4) hx hb dX7_notRightOf_44 (by decide) ?_
              exact ih4 k4 v2_8 (v3_8 + (1 : Int32)) _ _ _ (lv_sub hl [1, 2, 3, 0] rfl) hP hS hs hk4
            · have hs := ite_f hs b15
              refine lv_iinc (v := v2_8 + (1 : Int32)) (lv' := [(2, .int (v2_8 + (1 : Int32))), (0, .ref (ad 1)), (1, .int x1), (3, .int v3_8)]) hx hb dX7_notRightOf_38 hl (k := 2) rfl rfl (by decide) rfl (fun ls hl => ?_)
              refine lv_iinc (v := v3_8 + (1 : Int32)) (lv' := [(3, .int (v3_8 + (1 : Int32))), (2, .int (v2_8 + (1 : Int32))), (0, .ref (ad 1)), (1, .int x1)]) hx hb dX7_notRightOf_41 hl (k := 3) rfl rfl (by decide) rfl (fun ls hl => ?_)
              refine lv_goto (tgt := 4) hx hb dX7_notRightOf_44 (by decide) ?_
              exact ih4 k4 (v2_8 + (1 : Int32)) (v3_8 + (1 : Int32)) _ _ _ (lv_sub hl [2, 3, 1, 0] rfl) hP hS hs hk4
  refine L4 LF _ (0 : Int32) (0 : Int32) _ _ _ (lv_sub hl [2, 3, 1, 0] rfl) hP hS hs (fun u2_8 H locs ls hl hP hS hs => ?_)
  refine lv_iload_n hx hb dX7_notRightOf_47 rfl (lv_at hl 0 rfl) ?_
  exact hret _ hs hP hS dX7_notRightOf_48
def tX7_leastTrusted_0 : List (Nat × Instr × Nat) := [(0, .iconst (-1), 1), (1, .istore_n 1, 1), (2, .iconst 0, 1), (3, .istore_n 2, 1), (4, .iconst 0, 1), (5, .istore_n 3, 1), (6, .iconst 0, 1), (7, .istore 4, 2), (9, .iload 4, 2), (11, .bipush 10, 2), (13, .if_icmp .ge 52, 3), (16, .aload_n 0, 1), (17, .iload 4, 2), (19, .invokestatic 66, 3), (22, .istore 5, 2), (24, .aload_n 0, 1), (25, .iload 4, 2), (27, .invokestatic 69, 3), (30, .istore 6, 2), (32, .iload 5, 2), (34, .iload_n 2, 1), (35, .if_icmp .gt 15, 3), (38, .iload 5, 2), (40, .iload_n 2, 1), (41, .if_icmp .ne 18, 3), (44, .iload 6, 2), (46, .iload_n 3, 1), (47, .if_icmp .le 12, 3), (50, .iload 4, 2), (52, .istore_n 1, 1), (53, .iload 5, 2), (55, .istore_n 2, 1), (56, .iload 6, 2), (58, .istore_n 3, 1), (59, .iinc 4 1, 3), (62, .goto (-53), 3), (65, .iload_n 1, 1), (66, .ireturn, 1)]
theorem tX7_leastTrusted_0_ok : tX7_leastTrusted_0.all (fun q => decide (decode cX7_leastTrusted q.1 = .ok q.2)) = true := by decide +kernel
theorem dX7_leastTrusted_0 : decode cX7_leastTrusted 0 = .ok (.iconst (-1), 1) := td tX7_leastTrusted_0_ok 0 (q := (0, .iconst (-1), 1)) rfl
theorem dX7_leastTrusted_1 : decode cX7_leastTrusted 1 = .ok (.istore_n 1, 1) := td tX7_leastTrusted_0_ok 1 (q := (1, .istore_n 1, 1)) rfl
theorem dX7_leastTrusted_2 : decode cX7_leastTrusted 2 = .ok (.iconst 0, 1) := td tX7_leastTrusted_0_ok 2 (q := (2, .iconst 0, 1)) rfl
theorem dX7_leastTrusted_3 : decode cX7_leastTrusted 3 = .ok (.istore_n 2, 1) := td tX7_leastTrusted_0_ok 3 (q := (3, .istore_n 2, 1)) rfl
theorem dX7_leastTrusted_4 : decode cX7_leastTrusted 4 = .ok (.iconst 0, 1) := td tX7_leastTrusted_0_ok 4 (q := (4, .iconst 0, 1)) rfl
theorem dX7_leastTrusted_5 : decode cX7_leastTrusted 5 = .ok (.istore_n 3, 1) := td tX7_leastTrusted_0_ok 5 (q := (5, .istore_n 3, 1)) rfl
theorem dX7_leastTrusted_6 : decode cX7_leastTrusted 6 = .ok (.iconst 0, 1) := td tX7_leastTrusted_0_ok 6 (q := (6, .iconst 0, 1)) rfl
theorem dX7_leastTrusted_7 : decode cX7_leastTrusted 7 = .ok (.istore 4, 2) := td tX7_leastTrusted_0_ok 7 (q := (7, .istore 4, 2)) rfl
theorem dX7_leastTrusted_9 : decode cX7_leastTrusted 9 = .ok (.iload 4, 2) := td tX7_leastTrusted_0_ok 8 (q := (9, .iload 4, 2)) rfl
theorem dX7_leastTrusted_11 : decode cX7_leastTrusted 11 = .ok (.bipush 10, 2) := td tX7_leastTrusted_0_ok 9 (q := (11, .bipush 10, 2)) rfl
theorem dX7_leastTrusted_13 : decode cX7_leastTrusted 13 = .ok (.if_icmp .ge 52, 3) := td tX7_leastTrusted_0_ok 10 (q := (13, .if_icmp .ge 52, 3)) rfl
theorem dX7_leastTrusted_16 : decode cX7_leastTrusted 16 = .ok (.aload_n 0, 1) := td tX7_leastTrusted_0_ok 11 (q := (16, .aload_n 0, 1)) rfl
theorem dX7_leastTrusted_17 : decode cX7_leastTrusted 17 = .ok (.iload 4, 2) := td tX7_leastTrusted_0_ok 12 (q := (17, .iload 4, 2)) rfl
theorem dX7_leastTrusted_19 : decode cX7_leastTrusted 19 = .ok (.invokestatic 66, 3) := td tX7_leastTrusted_0_ok 13 (q := (19, .invokestatic 66, 3)) rfl
theorem dX7_leastTrusted_22 : decode cX7_leastTrusted 22 = .ok (.istore 5, 2) := td tX7_leastTrusted_0_ok 14 (q := (22, .istore 5, 2)) rfl
theorem dX7_leastTrusted_24 : decode cX7_leastTrusted 24 = .ok (.aload_n 0, 1) := td tX7_leastTrusted_0_ok 15 (q := (24, .aload_n 0, 1)) rfl
theorem dX7_leastTrusted_25 : decode cX7_leastTrusted 25 = .ok (.iload 4, 2) := td tX7_leastTrusted_0_ok 16 (q := (25, .iload 4, 2)) rfl
theorem dX7_leastTrusted_27 : decode cX7_leastTrusted 27 = .ok (.invokestatic 69, 3) := td tX7_leastTrusted_0_ok 17 (q := (27, .invokestatic 69, 3)) rfl
theorem dX7_leastTrusted_30 : decode cX7_leastTrusted 30 = .ok (.istore 6, 2) := td tX7_leastTrusted_0_ok 18 (q := (30, .istore 6, 2)) rfl
theorem dX7_leastTrusted_32 : decode cX7_leastTrusted 32 = .ok (.iload 5, 2) := td tX7_leastTrusted_0_ok 19 (q := (32, .iload 5, 2)) rfl
theorem dX7_leastTrusted_34 : decode cX7_leastTrusted 34 = .ok (.iload_n 2, 1) := td tX7_leastTrusted_0_ok 20 (q := (34, .iload_n 2, 1)) rfl
theorem dX7_leastTrusted_35 : decode cX7_leastTrusted 35 = .ok (.if_icmp .gt 15, 3) := td tX7_leastTrusted_0_ok 21 (q := (35, .if_icmp .gt 15, 3)) rfl
theorem dX7_leastTrusted_38 : decode cX7_leastTrusted 38 = .ok (.iload 5, 2) := td tX7_leastTrusted_0_ok 22 (q := (38, .iload 5, 2)) rfl
theorem dX7_leastTrusted_40 : decode cX7_leastTrusted 40 = .ok (.iload_n 2, 1) := td tX7_leastTrusted_0_ok 23 (q := (40, .iload_n 2, 1)) rfl
theorem dX7_leastTrusted_41 : decode cX7_leastTrusted 41 = .ok (.if_icmp .ne 18, 3) := td tX7_leastTrusted_0_ok 24 (q := (41, .if_icmp .ne 18, 3)) rfl
theorem dX7_leastTrusted_44 : decode cX7_leastTrusted 44 = .ok (.iload 6, 2) := td tX7_leastTrusted_0_ok 25 (q := (44, .iload 6, 2)) rfl
theorem dX7_leastTrusted_46 : decode cX7_leastTrusted 46 = .ok (.iload_n 3, 1) := td tX7_leastTrusted_0_ok 26 (q := (46, .iload_n 3, 1)) rfl
theorem dX7_leastTrusted_47 : decode cX7_leastTrusted 47 = .ok (.if_icmp .le 12, 3) := td tX7_leastTrusted_0_ok 27 (q := (47, .if_icmp .le 12, 3)) rfl
theorem dX7_leastTrusted_50 : decode cX7_leastTrusted 50 = .ok (.iload 4, 2) := td tX7_leastTrusted_0_ok 28 (q := (50, .iload 4, 2)) rfl
theorem dX7_leastTrusted_52 : decode cX7_leastTrusted 52 = .ok (.istore_n 1, 1) := td tX7_leastTrusted_0_ok 29 (q := (52, .istore_n 1, 1)) rfl
theorem dX7_leastTrusted_53 : decode cX7_leastTrusted 53 = .ok (.iload 5, 2) := td tX7_leastTrusted_0_ok 30 (q := (53, .iload 5, 2)) rfl
theorem dX7_leastTrusted_55 : decode cX7_leastTrusted 55 = .ok (.istore_n 2, 1) := td tX7_leastTrusted_0_ok 31 (q := (55, .istore_n 2, 1)) rfl
theorem dX7_leastTrusted_56 : decode cX7_leastTrusted 56 = .ok (.iload 6, 2) := td tX7_leastTrusted_0_ok 32 (q := (56, .iload 6, 2)) rfl
theorem dX7_leastTrusted_58 : decode cX7_leastTrusted 58 = .ok (.istore_n 3, 1) := td tX7_leastTrusted_0_ok 33 (q := (58, .istore_n 3, 1)) rfl
theorem dX7_leastTrusted_59 : decode cX7_leastTrusted 59 = .ok (.iinc 4 1, 3) := td tX7_leastTrusted_0_ok 34 (q := (59, .iinc 4 1, 3)) rfl
theorem dX7_leastTrusted_62 : decode cX7_leastTrusted 62 = .ok (.goto (-53), 3) := td tX7_leastTrusted_0_ok 35 (q := (62, .goto (-53), 3)) rfl
theorem dX7_leastTrusted_65 : decode cX7_leastTrusted 65 = .ok (.iload_n 1, 1) := td tX7_leastTrusted_0_ok 36 (q := (65, .iload_n 1, 1)) rfl
theorem dX7_leastTrusted_66 : decode cX7_leastTrusted 66 = .ok (.ireturn, 1) := td tX7_leastTrusted_0_ok 37 (q := (66, .ireturn, 1)) rfl
def fX7_leastTrusted_9 (k9 : Int32 → Option (Int32)) (kc : (Nat → Int32)) : Nat → Int32 → Int32 → Int32 → Int32 → Option (Int32)
  | 0, _, _, _, _ => none
  | n9 + 1, x1, x2, x3, x4 => (if (10 : Int32) ≤ x4 then (k9 x1) else (Option.bind (fX7_notRightOf kc x4) (fun q2 => (Option.bind (fX7_hiddenBy kc x4) (fun q3 => (if x2 < q2 then (fX7_leastTrusted_9 k9 kc n9 x4 q2 q3 (x4 + (1 : Int32))) else (if q2 = x2 then (if q3 ≤ x3 then (fX7_leastTrusted_9 k9 kc n9 x1 x2 x3 (x4 + (1 : Int32))) else (fX7_leastTrusted_9 k9 kc n9 x4 q2 q3 (x4 + (1 : Int32)))) else (fX7_leastTrusted_9 k9 kc n9 x1 x2 x3 (x4 + (1 : Int32))))))))))
def fX7_leastTrusted (kc : (Nat → Int32)) : Option (Int32) :=
  (fX7_leastTrusted_9 (fun (u1_7 : Int32) => (some u1_7)) kc LF (-1 : Int32) (0 : Int32) (0 : Int32) (0 : Int32))
set_option maxHeartbeats 4000000 in
set_option maxRecDepth 100000 in
theorem mX7_leastTrusted {l : Launch} {D : va_G} {ad : Nat → Nat} {cI : ClassId} {kc : (Nat → Int32)} {ksv : (Nat → Int32)} {kbc : (Nat → Int32)} {kit : (Nat → Int32)} {kln : (Nat → Int32)} {ken : (Nat → Int32)} {kla : (Nat → Int32)} {kfi : (Nat → Int32)} {kea : (Nat → Int32)} {kns : Int32} {kbl : Int32} {kr0 : Int32} {kr1 : Int32} {kr2 : Int32} {kr3 : Int32} {kr4 : Int32} {kr5 : Int32} {klr : Int32} {kp0 : Int32} {kp1 : Int32} {kp2 : Int32} {kp3 : Int32} {r : Int32} (hs : fX7_leastTrusted kc = some r) : nd_C l yX7_leastTrusted cX7_leastTrusted 7 (some .int) 4 89 D [(cI, .int)] [.ref (ad 1)] (CW ad cI kc ksv kbc kit kln ken kla kfi kea kns kbl kr0 kr1 kr2 kr3 kr4 kr5 klr kp0 kp1 kp2 kp3) (CW ad cI kc ksv kbc kit kln ken kla kfi kea kns kbl kr0 kr1 kr2 kr3 kr4 kr5 klr kp0 kp1 kp2 kp3) (some (.int r)) := by
  refine nd_ofCi (by decide) (Nat.le_of_ble_eq_true rfl) (fun p e s m args below meth c_ ls A Q hx hb hml hown hts hl hP hK hD hS hA hN hret => ?_)
  have hown : s.vm.findClass RX7 = some m.cls := hown
  have hl : lv_has ls 7 [(0, .ref (ad 1))] := hl
  have hret : ∀ (z0 : Int32) {H : Heap} {locs : List Loc} {pc : Nat} {ls : Array Slot}, some z0 = some r → va_P D vwCl (CW ad cI kc ksv kbc kit kln ken kla kfi kea kns kbl kr0 kr1 kr2 kr3 kr4 kr5 klr kp0 kp1 kp2 kp3) H → va_S A s.heap H locs → decode cX7_leastTrusted pc = .ok (.ireturn, 1) → W p l e ⟨4, 0, 0, 89⟩ s m args below meth c_ H locs 0 0 Q (F0 m pc ls [.int z0]) := by
    intro z0 H locs pc ls h hP hS hd
    cases h
    exact hret hP hS hd
  rw [fX7_leastTrusted] at hs
  refine lv_iconst (v := (-1 : Int32)) hx hb dX7_leastTrusted_0 (by decide) ?_
  refine lv_istore_n (lv' := [(1, .int (-1 : Int32)), (0, .ref (ad 1))]) hx hb dX7_leastTrusted_1 rfl hl (by decide) rfl (fun ls hl => ?_)
  refine lv_iconst (v := (0 : Int32)) hx hb dX7_leastTrusted_2 (by decide) ?_
  refine lv_istore_n (lv' := [(2, .int (0 : Int32)), (1, .int (-1 : Int32)), (0, .ref (ad 1))]) hx hb dX7_leastTrusted_3 rfl hl (by decide) rfl (fun ls hl => ?_)
  refine lv_iconst (v := (0 : Int32)) hx hb dX7_leastTrusted_4 (by decide) ?_
  refine lv_istore_n (lv' := [(3, .int (0 : Int32)), (2, .int (0 : Int32)), (1, .int (-1 : Int32)), (0, .ref (ad 1))]) hx hb dX7_leastTrusted_5 rfl hl (by decide) rfl (fun ls hl => ?_)
  refine lv_iconst (v := (0 : Int32)) hx hb dX7_leastTrusted_6 (by decide) ?_
  refine lv_istore (lv' := [(4, .int (0 : Int32)), (3, .int (0 : Int32)), (2, .int (0 : Int32)), (1, .int (-1 : Int32)), (0, .ref (ad 1))]) hx hb dX7_leastTrusted_7 hl (by decide) rfl (fun ls hl => ?_)
  have L9 : ∀ (n9 : Nat) (k9 : Int32 → Option (Int32)) (v1_7 : Int32) (v2_7 : Int32) (v3_7 : Int32) (v4_7 : Int32) (H : Heap) (locs : List Loc) (ls : Array Slot), lv_has ls 7 [(0, .ref (ad 1)), (1, .int v1_7), (2, .int v2_7), (3, .int v3_7), (4, .int v4_7)] → va_P D vwCl (CW ad cI kc ksv kbc kit kln ken kla kfi kea kns kbl kr0 kr1 kr2 kr3 kr4 kr5 klr kp0 kp1 kp2 kp3) H → va_S A s.heap H locs → fX7_leastTrusted_9 k9 kc n9 v1_7 v2_7 v3_7 v4_7 = some r → (∀ (u1_7 : Int32) (H : Heap) (locs : List Loc) (ls : Array Slot), lv_has ls 7 [(1, .int u1_7)] → va_P D vwCl (CW ad cI kc ksv kbc kit kln ken kla kfi kea kns kbl kr0 kr1 kr2 kr3 kr4 kr5 klr kp0 kp1 kp2 kp3) H → va_S A s.heap H locs → k9 u1_7 = some r → W p l e ⟨4, 0, 0, 89⟩ s m args below meth c_ H locs 0 0 Q (F0 m 65 ls [])) → W p l e ⟨4, 0, 0, 89⟩ s m args below meth c_ H locs 0 0 Q (F0 m 9 ls []) := by
    intro n9
    induction n9 with
    | zero =>
      intro k9 v1_7 v2_7 v3_7 v4_7 H locs ls hl hP hS hs hk9
      rw [fX7_leastTrusted_9] at hs
      cases hs
    | succ n9 ih9 =>
      intro k9 v1_7 v2_7 v3_7 v4_7 H locs ls hl hP hS hs hk9
      rw [fX7_leastTrusted_9] at hs
      refine lv_iload hx hb dX7_leastTrusted_9 (lv_at hl 4 rfl) ?_
      refine lv_bipush (v := (10 : Int32)) hx hb dX7_leastTrusted_11 (by decide) ?_
      refine lv_icmp_ge (tgt := 65) hx hb dX7_leastTrusted_13 (by decide) (fun b8 => ?_) (fun b8 => ?_)
      · have hs := ite_t hs b8
        exact hk9 v1_7 _ _ _ (lv_sub hl [1] rfl) hP hS hs
      · have hs := ite_f hs b8
        refine lv_aload_n hx hb dX7_leastTrusted_16 rfl (lv_at hl 0 rfl) ?_
        refine lv_iload hx hb dX7_leastTrusted_17 (lv_at hl 4 rfl) ?_
        obtain ⟨q9, eq9, hs⟩ := ob hs
        refine nd_callS (As := [.ref (ad 1), .int v4_7]) (rest := []) (st1 := [.int q9]) hx hb hml hown hts hl hP hK hD hS hA hN (mX7_notRightOf eq9) is_X7_notRightOf wd_897 rfl rfl ⟨Nat.le_of_ble_eq_true rfl, Nat.le_of_ble_eq_true rfl⟩ (Nat.le_of_ble_eq_true rfl) ⟨Nat.zero_le _, Nat.zero_le _⟩ dX7_leastTrusted_19 rfl rfl (fun H locs hP hD hS => ?_)
        refine lv_istore (lv' := [(5, .int q9), (0, .ref (ad 1)), (1, .int v1_7), (2, .int v2_7), (3, .int v3_7), (4, .int v4_7)]) hx hb dX7_leastTrusted_22 hl (by decide) rfl (fun ls hl => ?_)
        refine lv_aload_n hx hb dX7_leastTrusted_24 rfl (lv_at hl 1 rfl) ?_
        refine lv_iload hx hb dX7_leastTrusted_25 (lv_at hl 5 rfl) ?_
        obtain ⟨q10, eq10, hs⟩ := ob hs
        refine nd_callS (As := [.ref (ad 1), .int v4_7]) (rest := []) (st1 := [.int q10]) hx hb hml hown hts hl hP hK hD hS hA hN (mX7_hiddenBy eq10) is_X7_hiddenBy wd_900 rfl rfl ⟨Nat.le_of_ble_eq_true rfl, Nat.le_of_ble_eq_true rfl⟩ (Nat.le_of_ble_eq_true rfl) ⟨Nat.zero_le _, Nat.zero_le _⟩ dX7_leastTrusted_27 rfl rfl (fun H locs hP hD hS => ?_)
        refine lv_istore (lv' := [(6, .int q10), (5, .int q9), (0, .ref (ad 1)), (1, .int v1_7), (2, .int v2_7), (3, .int v3_7), (4, .int v4_7)]) hx hb dX7_leastTrusted_30 hl (by decide) rfl (fun ls hl => ?_)
        refine lv_iload hx hb dX7_leastTrusted_32 (lv_at hl 1 rfl) ?_
        refine lv_iload_n hx hb dX7_leastTrusted_34 rfl (lv_at hl 4 rfl) ?_
        refine lv_icmp_gt (tgt := 50) hx hb dX7_leastTrusted_35 (by decide) (fun b11 => ?_) (fun b11 => ?_)
        · have hs := ite_t hs b11
          refine lv_iload hx hb dX7_leastTrusted_50 (lv_at hl 6 rfl) ?_
          refine lv_istore_n (lv' := [(1, .int v4_7), (6, .int q10), (5, .int q9), (0, .ref (ad 1)), (2, .int v2_7), (3, .int v3_7), (4, .int v4_7)]) hx hb dX7_leastTrusted_52 rfl hl (by decide) rfl (fun ls hl => ?_)
          refine lv_iload hx hb dX7_leastTrusted_53 (lv_at hl 2 rfl) ?_
          refine lv_istore_n (lv' := [(2, .int q9), (1, .int v4_7), (6, .int q10), (5, .int q9), (0, .ref (ad 1)), (3, .int v3_7), (4, .int v4_7)]) hx hb dX7_leastTrusted_55 rfl hl (by decide) rfl (fun ls hl => ?_)
          refine lv_iload hx hb dX7_leastTrusted_56 (lv_at hl 2 rfl) ?_
          refine lv_istore_n (lv' := [(3, .int q10), (2, .int q9), (1, .int v4_7), (6, .int q10), (5, .int q9), (0, .ref (ad 1)), (4, .int v4_7)]) hx hb dX7_leastTrusted_58 rfl hl (by decide) rfl (fun ls hl => ?_)
          refine lv_iinc (v := v4_7 + (1 : Int32)) (lv' := [(4, .int (v4_7 + (1 : Int32))), (3, .int q10), (2, .int q9), (1, .int v4_7), (6, .int q10), (5, .int q9), (0, .ref (ad 1))]) hx hb dX7_leastTrusted_59 hl (k := 6) rfl rfl (by decide) rfl (fun ls hl => ?_)
          refine lv_goto (tgt := 9) hx hb dX7_leastTrusted_62 (by decide) ?_
          exact ih9 k9 v4_7 q9 q10 (v4_7 + (1 : Int32)) _ _ _ (lv_sub hl [6, 3, 2, 1, 0] rfl) hP hS hs hk9
        · have hs := ite_f hs b11
          refine lv_iload hx hb dX7_leastTrusted_38 (lv_at hl 1 rfl) ?_
          refine lv_iload_n hx hb dX7_leastTrusted_40 rfl (lv_at hl 4 rfl) ?_
          refine lv_icmp_ne (tgt := 59) hx hb dX7_leastTrusted_41 (by decide) (fun b12 => ?_) (fun b12 => ?_)
          · have hs := ite_f hs b12
            refine lv_iinc (v := v4_7 + (1 : Int32)) (lv' := [(4, .int (v4_7 + (1 : Int32))), (6, .int q10), (5, .int q9), (0, .ref (ad 1)), (1, .int v1_7), (2, .int v2_7), (3, .int v3_7)]) hx hb dX7_leastTrusted_59 hl (k := 6) rfl rfl (by decide) rfl (fun ls hl => ?_)
            refine lv_goto (tgt := 9) hx hb dX7_leastTrusted_62 (by decide) ?_
            exact ih9 k9 v1_7 v2_7 v3_7 (v4_7 + (1 : Int32)) _ _ _ (lv_sub hl [3, 4, 5, 6, 0] rfl) hP hS hs hk9
          · have hs := ite_t hs b12
            refine lv_iload hx hb dX7_leastTrusted_44 (lv_at hl 0 rfl) ?_
            refine lv_iload_n hx hb dX7_leastTrusted_46 rfl (lv_at hl 5 rfl) ?_
            refine lv_icmp_le (tgt := 59) hx hb dX7_leastTrusted_47 (by decide) (fun b13 => ?_) (fun b13 => ?_)
            · have hs := ite_t hs b13
              refine lv_iinc (v := v4_7 + (1 : Int32)) (lv' := [(4, .int (v4_7 + (1 : Int32))), (6, .int q10), (5, .int q9), (0, .ref (ad 1)), (1, .int v1_7), (2, .int v2_7), (3, .int v3_7)]) hx hb dX7_leastTrusted_59 hl (k := 6) rfl rfl (by decide) rfl (fun ls hl => ?_)
              refine lv_goto (tgt := 9) hx hb dX7_leastTrusted_62 (by decide) ?_
              exact ih9 k9 v1_7 v2_7 v3_7 (v4_7 + (1 : Int32)) _ _ _ (lv_sub hl [3, 4, 5, 6, 0] rfl) hP hS hs hk9
            · have hs := ite_f hs b13
              refine lv_iload hx hb dX7_leastTrusted_50 (lv_at hl 6 rfl) ?_
              refine lv_istore_n (lv' := [(1, .int v4_7), (6, .int q10), (5, .int q9), (0, .ref (ad 1)), (2, .int v2_7), (3, .int v3_7), (4, .int v4_7)]) hx hb dX7_leastTrusted_52 rfl hl (by decide) rfl (fun ls hl => ?_)
              refine lv_iload hx hb dX7_leastTrusted_53 (lv_at hl 2 rfl) ?_
              refine lv_istore_n (lv' := [(2, .int q9), (1, .int v4_7), (6, .int q10), (5, .int q9), (0, .ref (ad 1)), (3, .int v3_7), (4, .int v4_7)]) hx hb dX7_leastTrusted_55 rfl hl (by decide) rfl (fun ls hl => ?_)
              refine lv_iload hx hb dX7_leastTrusted_56 (lv_at hl 2 rfl) ?_
              refine lv_istore_n (lv' := [(3, .int q10), (2, .int q9), (1, .int v4_7), (6, .int q10), (5, .int q9), (0, .ref (ad 1)), (4, .int v4_7)]) hx hb dX7_leastTrusted_58 rfl hl (by decide) rfl (fun ls hl => ?_)
              refine lv_iinc (v := v4_7 + (1 : Int32)) (lv' := [(4, .int (v4_7 + (1 : Int32))), (3, .int q10), (2, .int q9), (1, .int v4_7), (6, .int q10), (5, .int q9), (0, .ref (ad 1))]) hx hb dX7_leastTrusted_59 hl (k := 6) rfl rfl (by decide) rfl (fun ls hl => ?_)
              refine lv_goto (tgt := 9) hx hb dX7_leastTrusted_62 (by decide) ?_
              exact ih9 k9 v4_7 q9 q10 (v4_7 + (1 : Int32)) _ _ _ (lv_sub hl [6, 3, 2, 1, 0] rfl) hP hS hs hk9
  refine L9 LF _ (-1 : Int32) (0 : Int32) (0 : Int32) (0 : Int32) _ _ _ (lv_sub hl [4, 3, 2, 1, 0] rfl) hP hS hs (fun u1_7 H locs ls hl hP hS hs => ?_)
  refine lv_iload_n hx hb dX7_leastTrusted_65 rfl (lv_at hl 0 rfl) ?_
  exact hret _ hs hP hS dX7_leastTrusted_66
def tX7_shareOfRight_0 : List (Nat × Instr × Nat) := [(0, .aload_n 0, 1), (1, .invokestatic 72, 3), (4, .istore_n 1, 1), (5, .iload_n 1, 1), (6, .ifCond .ne 5, 3), (9, .dconst 1, 1), (10, .dreturn, 1), (11, .aload_n 0, 1), (12, .iconst 0, 1), (13, .invokestatic 75, 3), (16, .i2d, 1), (17, .iload_n 1, 1), (18, .i2d, 1), (19, .ddiv, 1), (20, .dreturn, 1)]
theorem tX7_shareOfRight_0_ok : tX7_shareOfRight_0.all (fun q => decide (decode cX7_shareOfRight q.1 = .ok q.2)) = true := by decide +kernel
theorem dX7_shareOfRight_0 : decode cX7_shareOfRight 0 = .ok (.aload_n 0, 1) := td tX7_shareOfRight_0_ok 0 (q := (0, .aload_n 0, 1)) rfl
theorem dX7_shareOfRight_1 : decode cX7_shareOfRight 1 = .ok (.invokestatic 72, 3) := td tX7_shareOfRight_0_ok 1 (q := (1, .invokestatic 72, 3)) rfl
theorem dX7_shareOfRight_4 : decode cX7_shareOfRight 4 = .ok (.istore_n 1, 1) := td tX7_shareOfRight_0_ok 2 (q := (4, .istore_n 1, 1)) rfl
theorem dX7_shareOfRight_5 : decode cX7_shareOfRight 5 = .ok (.iload_n 1, 1) := td tX7_shareOfRight_0_ok 3 (q := (5, .iload_n 1, 1)) rfl
theorem dX7_shareOfRight_6 : decode cX7_shareOfRight 6 = .ok (.ifCond .ne 5, 3) := td tX7_shareOfRight_0_ok 4 (q := (6, .ifCond .ne 5, 3)) rfl
theorem dX7_shareOfRight_9 : decode cX7_shareOfRight 9 = .ok (.dconst 1, 1) := td tX7_shareOfRight_0_ok 5 (q := (9, .dconst 1, 1)) rfl
theorem dX7_shareOfRight_10 : decode cX7_shareOfRight 10 = .ok (.dreturn, 1) := td tX7_shareOfRight_0_ok 6 (q := (10, .dreturn, 1)) rfl
theorem dX7_shareOfRight_11 : decode cX7_shareOfRight 11 = .ok (.aload_n 0, 1) := td tX7_shareOfRight_0_ok 7 (q := (11, .aload_n 0, 1)) rfl
theorem dX7_shareOfRight_12 : decode cX7_shareOfRight 12 = .ok (.iconst 0, 1) := td tX7_shareOfRight_0_ok 8 (q := (12, .iconst 0, 1)) rfl
theorem dX7_shareOfRight_13 : decode cX7_shareOfRight 13 = .ok (.invokestatic 75, 3) := td tX7_shareOfRight_0_ok 9 (q := (13, .invokestatic 75, 3)) rfl
theorem dX7_shareOfRight_16 : decode cX7_shareOfRight 16 = .ok (.i2d, 1) := td tX7_shareOfRight_0_ok 10 (q := (16, .i2d, 1)) rfl
theorem dX7_shareOfRight_17 : decode cX7_shareOfRight 17 = .ok (.iload_n 1, 1) := td tX7_shareOfRight_0_ok 11 (q := (17, .iload_n 1, 1)) rfl
theorem dX7_shareOfRight_18 : decode cX7_shareOfRight 18 = .ok (.i2d, 1) := td tX7_shareOfRight_0_ok 12 (q := (18, .i2d, 1)) rfl
theorem dX7_shareOfRight_19 : decode cX7_shareOfRight 19 = .ok (.ddiv, 1) := td tX7_shareOfRight_0_ok 13 (q := (19, .ddiv, 1)) rfl
theorem dX7_shareOfRight_20 : decode cX7_shareOfRight 20 = .ok (.dreturn, 1) := td tX7_shareOfRight_0_ok 14 (q := (20, .dreturn, 1)) rfl
def fX7_shareOfRight (kc : (Nat → Int32)) : Option (UInt64) :=
  (Option.bind (fX7_receiptsOf kc) (fun q1 => (if q1 = 0 then (some FP.dconst1) else (Option.bind (fX7_receiptsOfKind kc (0 : Int32)) (fun q3 => (Option.bind (dok (FP.ddiv (FP.i2d q3) (FP.i2d q1))) (fun t4 => (some t4))))))))
set_option maxHeartbeats 4000000 in
set_option maxRecDepth 100000 in
theorem mX7_shareOfRight {l : Launch} {D : va_G} {ad : Nat → Nat} {cI : ClassId} {kc : (Nat → Int32)} {ksv : (Nat → Int32)} {kbc : (Nat → Int32)} {kit : (Nat → Int32)} {kln : (Nat → Int32)} {ken : (Nat → Int32)} {kla : (Nat → Int32)} {kfi : (Nat → Int32)} {kea : (Nat → Int32)} {kns : Int32} {kbl : Int32} {kr0 : Int32} {kr1 : Int32} {kr2 : Int32} {kr3 : Int32} {kr4 : Int32} {kr5 : Int32} {klr : Int32} {kp0 : Int32} {kp1 : Int32} {kp2 : Int32} {kp3 : Int32} {r : UInt64} (hs : fX7_shareOfRight kc = some r) : nd_C l yX7_shareOfRight cX7_shareOfRight 2 (some .double) 4 92 D [(cI, .int)] [.ref (ad 1)] (CW ad cI kc ksv kbc kit kln ken kla kfi kea kns kbl kr0 kr1 kr2 kr3 kr4 kr5 klr kp0 kp1 kp2 kp3) (CW ad cI kc ksv kbc kit kln ken kla kfi kea kns kbl kr0 kr1 kr2 kr3 kr4 kr5 klr kp0 kp1 kp2 kp3) (some (.double r)) := by
  refine nd_ofCd (by decide) (Nat.le_of_ble_eq_true rfl) (fun p e s m args below meth c_ ls A Q hx hb hml hown hts hl hP hK hD hS hA hN hret => ?_)
  have hown : s.vm.findClass RX7 = some m.cls := hown
  have hl : lv_has ls 2 [(0, .ref (ad 1))] := hl
  have hret : ∀ (z0 : UInt64) {H : Heap} {locs : List Loc} {pc : Nat} {ls : Array Slot}, some z0 = some r → va_P D vwCl (CW ad cI kc ksv kbc kit kln ken kla kfi kea kns kbl kr0 kr1 kr2 kr3 kr4 kr5 klr kp0 kp1 kp2 kp3) H → va_S A s.heap H locs → decode cX7_shareOfRight pc = .ok (.dreturn, 1) → W p l e ⟨4, 0, 0, 92⟩ s m args below meth c_ H locs 0 0 Q (F0 m pc ls [.double z0]) := by
    intro z0 H locs pc ls h hP hS hd
    cases h
    exact hret hP hS hd
  rw [fX7_shareOfRight] at hs
  refine lv_aload_n hx hb dX7_shareOfRight_0 rfl (lv_at hl 0 rfl) ?_
  obtain ⟨q1, eq1, hs⟩ := ob hs
  refine nd_callS (As := [.ref (ad 1)]) (rest := []) (st1 := [.int q1]) hx hb hml hown hts hl hP hK hD hS hA hN (mX7_receiptsOf eq1) is_X7_receiptsOf wd_916 rfl rfl ⟨Nat.le_of_ble_eq_true rfl, Nat.le_of_ble_eq_true rfl⟩ (Nat.le_of_ble_eq_true rfl) ⟨Nat.zero_le _, Nat.zero_le _⟩ dX7_shareOfRight_1 rfl rfl (fun H locs hP hD hS => ?_)
  refine lv_istore_n (lv' := [(1, .int q1), (0, .ref (ad 1))]) hx hb dX7_shareOfRight_4 rfl hl (by decide) rfl (fun ls hl => ?_)
  refine lv_iload_n hx hb dX7_shareOfRight_5 rfl (lv_at hl 0 rfl) ?_
  refine lv_if_ne (tgt := 11) hx hb dX7_shareOfRight_6 (by decide) (fun b2 => ?_) (fun b2 => ?_)
  · have hs := ite_f hs b2
    refine lv_aload_n hx hb dX7_shareOfRight_11 rfl (lv_at hl 1 rfl) ?_
    refine lv_iconst (v := (0 : Int32)) hx hb dX7_shareOfRight_12 (by decide) ?_
    obtain ⟨q3, eq3, hs⟩ := ob hs
    refine nd_callS (As := [.ref (ad 1), .int (0 : Int32)]) (rest := []) (st1 := [.int q3]) hx hb hml hown hts hl hP hK hD hS hA hN (mX7_receiptsOfKind eq3) is_X7_receiptsOfKind wd_917 rfl rfl ⟨Nat.le_of_ble_eq_true rfl, Nat.le_of_ble_eq_true rfl⟩ (Nat.le_of_ble_eq_true rfl) ⟨Nat.zero_le _, Nat.zero_le _⟩ dX7_shareOfRight_13 rfl rfl (fun H locs hP hD hS => ?_)
    refine lv_i2d hx hb dX7_shareOfRight_16 ?_
    refine lv_iload_n hx hb dX7_shareOfRight_17 rfl (lv_at hl 0 rfl) ?_
    refine lv_i2d hx hb dX7_shareOfRight_18 ?_
    obtain ⟨t4, et4, hs⟩ := ob hs
    refine nd_ddiv hx hb dX7_shareOfRight_19 et4 ?_
    exact hret _ hs hP hS dX7_shareOfRight_20
  · have hs := ite_t hs b2
    refine lv_dconst1 hx hb dX7_shareOfRight_9 ?_
    exact hret _ hs hP hS dX7_shareOfRight_10
def tX7_bitsOf_0 : List (Nat × Instr × Nat) := [(0, .dload_n 0, 1), (1, .dstore_n 2, 1), (2, .dload_n 2, 1), (3, .dconst 0, 1), (4, .dcmp .g, 1), (5, .ifCond .gt 5, 3), (8, .lconst 0, 1), (9, .lreturn, 1), (10, .ldc2_w 78, 3), (13, .lstore 4, 2), (15, .lload 4, 2), (17, .lconst 0, 1), (18, .lcmp, 1), (19, .ifCond .le 39, 3), (22, .dload_n 2, 1), (23, .dconst 1, 1), (24, .dcmp .l, 1), (25, .ifCond .lt 18, 3), (28, .lload 4, 2), (30, .bipush 52, 2), (32, .lshl, 1), (33, .dload_n 2, 1), (34, .dconst 1, 1), (35, .dsub, 1), (36, .ldc2_w 80, 3), (39, .dmul, 1), (40, .d2l, 1), (41, .ladd, 1), (42, .lreturn, 1), (43, .dload_n 2, 1), (44, .ldc2_w 82, 3), (47, .dmul, 1), (48, .dstore_n 2, 1), (49, .lload 4, 2), (51, .lconst 1, 1), (52, .lsub, 1), (53, .lstore 4, 2), (55, .goto (-40), 3), (58, .lconst 0, 1), (59, .lreturn, 1)]
theorem tX7_bitsOf_0_ok : tX7_bitsOf_0.all (fun q => decide (decode cX7_bitsOf q.1 = .ok q.2)) = true := by decide +kernel
theorem dX7_bitsOf_0 : decode cX7_bitsOf 0 = .ok (.dload_n 0, 1) := td tX7_bitsOf_0_ok 0 (q := (0, .dload_n 0, 1)) rfl
theorem dX7_bitsOf_1 : decode cX7_bitsOf 1 = .ok (.dstore_n 2, 1) := td tX7_bitsOf_0_ok 1 (q := (1, .dstore_n 2, 1)) rfl
theorem dX7_bitsOf_2 : decode cX7_bitsOf 2 = .ok (.dload_n 2, 1) := td tX7_bitsOf_0_ok 2 (q := (2, .dload_n 2, 1)) rfl
theorem dX7_bitsOf_3 : decode cX7_bitsOf 3 = .ok (.dconst 0, 1) := td tX7_bitsOf_0_ok 3 (q := (3, .dconst 0, 1)) rfl
theorem dX7_bitsOf_4 : decode cX7_bitsOf 4 = .ok (.dcmp .g, 1) := td tX7_bitsOf_0_ok 4 (q := (4, .dcmp .g, 1)) rfl
theorem dX7_bitsOf_5 : decode cX7_bitsOf 5 = .ok (.ifCond .gt 5, 3) := td tX7_bitsOf_0_ok 5 (q := (5, .ifCond .gt 5, 3)) rfl
theorem dX7_bitsOf_8 : decode cX7_bitsOf 8 = .ok (.lconst 0, 1) := td tX7_bitsOf_0_ok 6 (q := (8, .lconst 0, 1)) rfl
theorem dX7_bitsOf_9 : decode cX7_bitsOf 9 = .ok (.lreturn, 1) := td tX7_bitsOf_0_ok 7 (q := (9, .lreturn, 1)) rfl
theorem dX7_bitsOf_10 : decode cX7_bitsOf 10 = .ok (.ldc2_w 78, 3) := td tX7_bitsOf_0_ok 8 (q := (10, .ldc2_w 78, 3)) rfl
theorem dX7_bitsOf_13 : decode cX7_bitsOf 13 = .ok (.lstore 4, 2) := td tX7_bitsOf_0_ok 9 (q := (13, .lstore 4, 2)) rfl
theorem dX7_bitsOf_15 : decode cX7_bitsOf 15 = .ok (.lload 4, 2) := td tX7_bitsOf_0_ok 10 (q := (15, .lload 4, 2)) rfl
theorem dX7_bitsOf_17 : decode cX7_bitsOf 17 = .ok (.lconst 0, 1) := td tX7_bitsOf_0_ok 11 (q := (17, .lconst 0, 1)) rfl
theorem dX7_bitsOf_18 : decode cX7_bitsOf 18 = .ok (.lcmp, 1) := td tX7_bitsOf_0_ok 12 (q := (18, .lcmp, 1)) rfl
theorem dX7_bitsOf_19 : decode cX7_bitsOf 19 = .ok (.ifCond .le 39, 3) := td tX7_bitsOf_0_ok 13 (q := (19, .ifCond .le 39, 3)) rfl
theorem dX7_bitsOf_22 : decode cX7_bitsOf 22 = .ok (.dload_n 2, 1) := td tX7_bitsOf_0_ok 14 (q := (22, .dload_n 2, 1)) rfl
theorem dX7_bitsOf_23 : decode cX7_bitsOf 23 = .ok (.dconst 1, 1) := td tX7_bitsOf_0_ok 15 (q := (23, .dconst 1, 1)) rfl
theorem dX7_bitsOf_24 : decode cX7_bitsOf 24 = .ok (.dcmp .l, 1) := td tX7_bitsOf_0_ok 16 (q := (24, .dcmp .l, 1)) rfl
theorem dX7_bitsOf_25 : decode cX7_bitsOf 25 = .ok (.ifCond .lt 18, 3) := td tX7_bitsOf_0_ok 17 (q := (25, .ifCond .lt 18, 3)) rfl
theorem dX7_bitsOf_28 : decode cX7_bitsOf 28 = .ok (.lload 4, 2) := td tX7_bitsOf_0_ok 18 (q := (28, .lload 4, 2)) rfl
theorem dX7_bitsOf_30 : decode cX7_bitsOf 30 = .ok (.bipush 52, 2) := td tX7_bitsOf_0_ok 19 (q := (30, .bipush 52, 2)) rfl
theorem dX7_bitsOf_32 : decode cX7_bitsOf 32 = .ok (.lshl, 1) := td tX7_bitsOf_0_ok 20 (q := (32, .lshl, 1)) rfl
theorem dX7_bitsOf_33 : decode cX7_bitsOf 33 = .ok (.dload_n 2, 1) := td tX7_bitsOf_0_ok 21 (q := (33, .dload_n 2, 1)) rfl
theorem dX7_bitsOf_34 : decode cX7_bitsOf 34 = .ok (.dconst 1, 1) := td tX7_bitsOf_0_ok 22 (q := (34, .dconst 1, 1)) rfl
theorem dX7_bitsOf_35 : decode cX7_bitsOf 35 = .ok (.dsub, 1) := td tX7_bitsOf_0_ok 23 (q := (35, .dsub, 1)) rfl
theorem dX7_bitsOf_36 : decode cX7_bitsOf 36 = .ok (.ldc2_w 80, 3) := td tX7_bitsOf_0_ok 24 (q := (36, .ldc2_w 80, 3)) rfl
theorem dX7_bitsOf_39 : decode cX7_bitsOf 39 = .ok (.dmul, 1) := td tX7_bitsOf_0_ok 25 (q := (39, .dmul, 1)) rfl
theorem dX7_bitsOf_40 : decode cX7_bitsOf 40 = .ok (.d2l, 1) := td tX7_bitsOf_0_ok 26 (q := (40, .d2l, 1)) rfl
theorem dX7_bitsOf_41 : decode cX7_bitsOf 41 = .ok (.ladd, 1) := td tX7_bitsOf_0_ok 27 (q := (41, .ladd, 1)) rfl
theorem dX7_bitsOf_42 : decode cX7_bitsOf 42 = .ok (.lreturn, 1) := td tX7_bitsOf_0_ok 28 (q := (42, .lreturn, 1)) rfl
theorem dX7_bitsOf_43 : decode cX7_bitsOf 43 = .ok (.dload_n 2, 1) := td tX7_bitsOf_0_ok 29 (q := (43, .dload_n 2, 1)) rfl
theorem dX7_bitsOf_44 : decode cX7_bitsOf 44 = .ok (.ldc2_w 82, 3) := td tX7_bitsOf_0_ok 30 (q := (44, .ldc2_w 82, 3)) rfl
theorem dX7_bitsOf_47 : decode cX7_bitsOf 47 = .ok (.dmul, 1) := td tX7_bitsOf_0_ok 31 (q := (47, .dmul, 1)) rfl
theorem dX7_bitsOf_48 : decode cX7_bitsOf 48 = .ok (.dstore_n 2, 1) := td tX7_bitsOf_0_ok 32 (q := (48, .dstore_n 2, 1)) rfl
theorem dX7_bitsOf_49 : decode cX7_bitsOf 49 = .ok (.lload 4, 2) := td tX7_bitsOf_0_ok 33 (q := (49, .lload 4, 2)) rfl
theorem dX7_bitsOf_51 : decode cX7_bitsOf 51 = .ok (.lconst 1, 1) := td tX7_bitsOf_0_ok 34 (q := (51, .lconst 1, 1)) rfl
theorem dX7_bitsOf_52 : decode cX7_bitsOf 52 = .ok (.lsub, 1) := td tX7_bitsOf_0_ok 35 (q := (52, .lsub, 1)) rfl
theorem dX7_bitsOf_53 : decode cX7_bitsOf 53 = .ok (.lstore 4, 2) := td tX7_bitsOf_0_ok 36 (q := (53, .lstore 4, 2)) rfl
theorem dX7_bitsOf_55 : decode cX7_bitsOf 55 = .ok (.goto (-40), 3) := td tX7_bitsOf_0_ok 37 (q := (55, .goto (-40), 3)) rfl
theorem dX7_bitsOf_58 : decode cX7_bitsOf 58 = .ok (.lconst 0, 1) := td tX7_bitsOf_0_ok 38 (q := (58, .lconst 0, 1)) rfl
theorem dX7_bitsOf_59 : decode cX7_bitsOf 59 = .ok (.lreturn, 1) := td tX7_bitsOf_0_ok 39 (q := (59, .lreturn, 1)) rfl
def fX7_bitsOf_15 (k15 : Unit → Option (Int64)) : Nat → UInt64 → Int64 → Option (Int64)
  | 0, _, _ => none
  | n15 + 1, x2, x4 => (if (lg_cmp x4 (0 : Int64)) ≤ 0 then (k15 ()) else (if (Op.cmpValue (FP.dcmp x2 FP.dconst1) CmpOp.l) < 0 then (Option.bind (dok (FP.dmul x2 (4611686018427387904 : UInt64))) (fun t4 => (fX7_bitsOf_15 k15 n15 t4 (x4 - (1 : Int64))))) else (Option.bind (dok (FP.dsub x2 FP.dconst1)) (fun t5 => (Option.bind (dok (FP.dmul t5 (4841369599423283200 : UInt64))) (fun t6 => (some ((x4 <<< ((52 : Int32).toInt64 &&& 63)) + (FP.d2l t6)))))))))
def fX7_bitsOf (x0 : UInt64) : Option (Int64) :=
  (if 0 < (Op.cmpValue (FP.dcmp x0 FP.dconst0) CmpOp.g) then (fX7_bitsOf_15 (fun (_ : Unit) => (some (0 : Int64))) LF x0 (1023 : Int64)) else (some (0 : Int64)))
set_option maxHeartbeats 4000000 in
set_option maxRecDepth 100000 in
theorem mX7_bitsOf {l : Launch} {D : va_G} {W0 : va_W} {tys : nd_T} {x0 : UInt64} {r : Int64} (hs : fX7_bitsOf x0 = some r) : nd_C l yX7_bitsOf cX7_bitsOf 6 (some .long) 0 0 D tys [.double x0] W0 W0 (some (.long r)) := by
  refine nd_ofCl (by decide) (Nat.le_of_ble_eq_true rfl) (fun p e s m args below meth c_ ls A Q hx hb hml hown hts hl hP hK hD hS hA hN hret => ?_)
  have hown : s.vm.findClass RX7 = some m.cls := hown
  have hl : lv_has ls 6 [(0, .double x0)] := hl
  have hret : ∀ (z0 : Int64) {H : Heap} {locs : List Loc} {pc : Nat} {ls : Array Slot}, some z0 = some r → va_P D vwCl W0 H → va_S A s.heap H locs → decode cX7_bitsOf pc = .ok (.lreturn, 1) → W p l e ⟨0, 0, 0, 0⟩ s m args below meth c_ H locs 0 0 Q (F0 m pc ls [.long z0]) := by
    intro z0 H locs pc ls h hP hS hd
    cases h
    exact hret hP hS hd
  rw [fX7_bitsOf] at hs
  refine lv_dload_n hx hb dX7_bitsOf_0 rfl (lv_at hl 0 rfl) ?_
  refine lv_dstore_n (lv' := [(2, .double x0), (0, .double x0)]) hx hb dX7_bitsOf_1 rfl hl (by decide) rfl (fun ls hl => ?_)
  refine lv_dload_n hx hb dX7_bitsOf_2 rfl (lv_at hl 0 rfl) ?_
  refine lv_dconst0 hx hb dX7_bitsOf_3 ?_
  refine lv_dcmp hx hb dX7_bitsOf_4 ?_
  refine lv_if_gt (tgt := 10) hx hb dX7_bitsOf_5 (by decide) (fun b1 => ?_) (fun b1 => ?_)
  · have hs := ite_t hs b1
    refine lv_ldc2 hx hb hown (hts _ wd_967) dX7_bitsOf_10 ?_
    refine lv_lstore (lv' := [(4, .long (1023 : Int64)), (2, .double x0), (0, .double x0)]) hx hb dX7_bitsOf_13 hl (by decide) rfl (fun ls hl => ?_)
    have L15 : ∀ (n15 : Nat) (k15 : Unit → Option (Int64)) (v2_7 : UInt64) (v4_7 : Int64) (H : Heap) (locs : List Loc) (ls : Array Slot), lv_has ls 6 [(2, .double v2_7), (4, .long v4_7)] → va_P D vwCl W0 H → va_S A s.heap H locs → fX7_bitsOf_15 k15 n15 v2_7 v4_7 = some r → (∀ (H : Heap) (locs : List Loc) (ls : Array Slot), lv_has ls 6 [] → va_P D vwCl W0 H → va_S A s.heap H locs → k15 () = some r → W p l e ⟨0, 0, 0, 0⟩ s m args below meth c_ H locs 0 0 Q (F0 m 58 ls [])) → W p l e ⟨0, 0, 0, 0⟩ s m args below meth c_ H locs 0 0 Q (F0 m 15 ls []) := by
      intro n15
      induction n15 with
      | zero =>
        intro k15 v2_7 v4_7 H locs ls hl hP hS hs hk15
        rw [fX7_bitsOf_15] at hs
        cases hs
      | succ n15 ih15 =>
        intro k15 v2_7 v4_7 H locs ls hl hP hS hs hk15
        rw [fX7_bitsOf_15] at hs
        refine lv_lload hx hb dX7_bitsOf_15 (lv_at hl 1 rfl) ?_
        refine lv_lconst (v := (0 : Int64)) hx hb dX7_bitsOf_17 rfl ?_
        refine W.lcmp hx hb dX7_bitsOf_18 ?_
        refine lv_if_le (tgt := 58) hx hb dX7_bitsOf_19 (by decide) (fun b8 => ?_) (fun b8 => ?_)
        · have hs := ite_t hs b8
          exact hk15  _ _ _ (lv_sub hl [] rfl) hP hS hs
        · have hs := ite_f hs b8
          refine lv_dload_n hx hb dX7_bitsOf_22 rfl (lv_at hl 0 rfl) ?_
          refine lv_dconst1 hx hb dX7_bitsOf_23 ?_
          refine lv_dcmp hx hb dX7_bitsOf_24 ?_
          refine lv_if_lt (tgt := 43) hx hb dX7_bitsOf_25 (by decide) (fun b9 => ?_) (fun b9 => ?_)
          · have hs := ite_t hs b9
            refine lv_dload_n hx hb dX7_bitsOf_43 rfl (lv_at hl 0 rfl) ?_
            refine lv_ldc2d hx hb hown (hts _ wd_969) dX7_bitsOf_44 ?_
            obtain ⟨t10, et10, hs⟩ := ob hs
            refine nd_dmul hx hb dX7_bitsOf_47 et10 ?_
            refine lv_dstore_n (lv' := [(2, .double t10), (4, .long v4_7)]) hx hb dX7_bitsOf_48 rfl hl (by decide) rfl (fun ls hl => ?_)
            refine lv_lload hx hb dX7_bitsOf_49 (lv_at hl 1 rfl) ?_
            refine lv_lconst (v := (1 : Int64)) hx hb dX7_bitsOf_51 rfl ?_
            refine lv_lsub hx hb dX7_bitsOf_52 ?_
            refine lv_lstore (lv' := [(4, .long (v4_7 - (1 : Int64))), (2, .double t10)]) hx hb dX7_bitsOf_53 hl (by decide) rfl (fun ls hl => ?_)
            refine lv_goto (tgt := 15) hx hb dX7_bitsOf_55 (by decide) ?_
            exact ih15 k15 t10 (v4_7 - (1 : Int64)) _ _ _ (lv_sub hl [1, 0] rfl) hP hS hs hk15
          · have hs := ite_f hs b9
            refine lv_lload hx hb dX7_bitsOf_28 (lv_at hl 1 rfl) ?_
            refine lv_bipush (v := (52 : Int32)) hx hb dX7_bitsOf_30 (by decide) ?_
            refine lv_lshl hx hb dX7_bitsOf_32 rfl ?_
            refine lv_dload_n hx hb dX7_bitsOf_33 rfl (lv_at hl 0 rfl) ?_
            refine lv_dconst1 hx hb dX7_bitsOf_34 ?_
            obtain ⟨t11, et11, hs⟩ := ob hs
            refine nd_dsub hx hb dX7_bitsOf_35 et11 ?_
            refine lv_ldc2d hx hb hown (hts _ wd_968) dX7_bitsOf_36 ?_
            obtain ⟨t12, et12, hs⟩ := ob hs
            refine nd_dmul hx hb dX7_bitsOf_39 et12 ?_
            refine lv_d2l hx hb dX7_bitsOf_40 ?_
            refine lv_ladd hx hb dX7_bitsOf_41 ?_
            exact hret _ hs hP hS dX7_bitsOf_42
    refine L15 LF _ x0 (1023 : Int64) _ _ _ (lv_sub hl [1, 0] rfl) hP hS hs (fun  H locs ls hl hP hS hs => ?_)
    refine lv_lconst (v := (0 : Int64)) hx hb dX7_bitsOf_58 rfl ?_
    exact hret _ hs hP hS dX7_bitsOf_59
  · have hs := ite_f hs b1
    refine lv_lconst (v := (0 : Int64)) hx hb dX7_bitsOf_8 rfl ?_
    exact hret _ hs hP hS dX7_bitsOf_9
def tX8_isIn_0 : List (Nat × Instr × Nat) := [(0, .iload_n 0, 1), (1, .ifCond .lt 12, 3), (4, .iload_n 0, 1), (5, .iload_n 1, 1), (6, .if_icmp .ge 7, 3), (9, .iconst 1, 1), (10, .goto 4, 3), (13, .iconst 0, 1), (14, .ireturn, 1)]
theorem tX8_isIn_0_ok : tX8_isIn_0.all (fun q => decide (decode cX8_isIn q.1 = .ok q.2)) = true := by decide +kernel
theorem dX8_isIn_0 : decode cX8_isIn 0 = .ok (.iload_n 0, 1) := td tX8_isIn_0_ok 0 (q := (0, .iload_n 0, 1)) rfl
theorem dX8_isIn_1 : decode cX8_isIn 1 = .ok (.ifCond .lt 12, 3) := td tX8_isIn_0_ok 1 (q := (1, .ifCond .lt 12, 3)) rfl
theorem dX8_isIn_4 : decode cX8_isIn 4 = .ok (.iload_n 0, 1) := td tX8_isIn_0_ok 2 (q := (4, .iload_n 0, 1)) rfl
theorem dX8_isIn_5 : decode cX8_isIn 5 = .ok (.iload_n 1, 1) := td tX8_isIn_0_ok 3 (q := (5, .iload_n 1, 1)) rfl
theorem dX8_isIn_6 : decode cX8_isIn 6 = .ok (.if_icmp .ge 7, 3) := td tX8_isIn_0_ok 4 (q := (6, .if_icmp .ge 7, 3)) rfl
theorem dX8_isIn_9 : decode cX8_isIn 9 = .ok (.iconst 1, 1) := td tX8_isIn_0_ok 5 (q := (9, .iconst 1, 1)) rfl
theorem dX8_isIn_10 : decode cX8_isIn 10 = .ok (.goto 4, 3) := td tX8_isIn_0_ok 6 (q := (10, .goto 4, 3)) rfl
theorem dX8_isIn_13 : decode cX8_isIn 13 = .ok (.iconst 0, 1) := td tX8_isIn_0_ok 7 (q := (13, .iconst 0, 1)) rfl
theorem dX8_isIn_14 : decode cX8_isIn 14 = .ok (.ireturn, 1) := td tX8_isIn_0_ok 8 (q := (14, .ireturn, 1)) rfl
def fX8_isIn (x0 : Int32) (x1 : Int32) : Option (Int32) :=
  (if x0 < 0 then (some (0 : Int32)) else (if x1 ≤ x0 then (some (0 : Int32)) else (some (1 : Int32))))
set_option maxHeartbeats 4000000 in
set_option maxRecDepth 100000 in
theorem mX8_isIn {l : Launch} {D : va_G} {W0 : va_W} {tys : nd_T} {x0 : Int32} {x1 : Int32} {r : Int32} (hs : fX8_isIn x0 x1 = some r) : nd_C l yX8_isIn cX8_isIn 2 (some .boolean) 0 0 D tys [.int x0, .int x1] W0 W0 (some (.int r)) := by
  refine nd_ofCz (by decide) (Nat.le_of_ble_eq_true rfl) (fun p e s m args below meth c_ ls A Q hx hb hml hown hts hl hP hK hD hS hA hN hret => ?_)
  have hown : s.vm.findClass RX8 = some m.cls := hown
  have hl : lv_has ls 2 [(0, .int x0), (1, .int x1)] := hl
  have hret : ∀ (z0 : Int32) {H : Heap} {locs : List Loc} {pc : Nat} {ls : Array Slot}, some z0 = some r → (z0 = 0 ∨ z0 = 1) → va_P D vwCl W0 H → va_S A s.heap H locs → decode cX8_isIn pc = .ok (.ireturn, 1) → W p l e ⟨0, 0, 0, 0⟩ s m args below meth c_ H locs 0 0 Q (F0 m pc ls [.int z0]) := by
    intro z0 H locs pc ls h hz hP hS hd
    cases h
    exact hret hz hP hS hd
  rw [fX8_isIn] at hs
  refine lv_iload_n hx hb dX8_isIn_0 rfl (lv_at hl 0 rfl) ?_
  refine lv_if_lt (tgt := 13) hx hb dX8_isIn_1 (by decide) (fun b1 => ?_) (fun b1 => ?_)
  · have hs := ite_t hs b1
    refine lv_iconst (v := (0 : Int32)) hx hb dX8_isIn_13 (by decide) ?_
    exact hret _ hs (Or.inl rfl) hP hS dX8_isIn_14
  · have hs := ite_f hs b1
    refine lv_iload_n hx hb dX8_isIn_4 rfl (lv_at hl 0 rfl) ?_
    refine lv_iload_n hx hb dX8_isIn_5 rfl (lv_at hl 1 rfl) ?_
    refine lv_icmp_ge (tgt := 13) hx hb dX8_isIn_6 (by decide) (fun b2 => ?_) (fun b2 => ?_)
    · have hs := ite_t hs b2
      refine lv_iconst (v := (0 : Int32)) hx hb dX8_isIn_13 (by decide) ?_
      exact hret _ hs (Or.inl rfl) hP hS dX8_isIn_14
    · have hs := ite_f hs b2
      refine lv_iconst (v := (1 : Int32)) hx hb dX8_isIn_9 (by decide) ?_
      refine lv_goto (tgt := 14) hx hb dX8_isIn_10 (by decide) ?_
      exact hret _ hs (Or.inr rfl) hP hS dX8_isIn_14
def tX8_piece_0 : List (Nat × Instr × Nat) := [(0, .iload_n 1, 1), (1, .bipush 100, 2), (3, .invokestatic 44, 3), (6, .ifCond .eq 12, 3), (9, .iload_n 2, 1), (10, .bipush 100, 2), (12, .invokestatic 44, 3), (15, .ifCond .ne 13, 3), (18, .new 48, 3), (21, .dup, 1), (22, .ldc 50, 2), (24, .invokespecial 52, 3), (27, .athrow, 1), (28, .aload_n 0, 1), (29, .getfield 12, 3), (32, .invokevirtual 55, 3), (35, .bipush 10, 2), (37, .if_icmp .lt 13, 3), (40, .new 59, 3), (43, .dup, 1), (44, .ldc 61, 2), (46, .invokespecial 63, 3), (49, .athrow, 1), (50, .aload_n 0, 1), (51, .getfield 12, 3), (54, .invokevirtual 64, 3), (57, .aload_n 0, 1), (58, .getfield 12, 3), (61, .iload_n 1, 1), (62, .iload_n 2, 1), (63, .invokevirtual 67, 3), (66, .ireturn, 1)]
theorem tX8_piece_0_ok : tX8_piece_0.all (fun q => decide (decode cX8_piece q.1 = .ok q.2)) = true := by decide +kernel
theorem dX8_piece_0 : decode cX8_piece 0 = .ok (.iload_n 1, 1) := td tX8_piece_0_ok 0 (q := (0, .iload_n 1, 1)) rfl
theorem dX8_piece_1 : decode cX8_piece 1 = .ok (.bipush 100, 2) := td tX8_piece_0_ok 1 (q := (1, .bipush 100, 2)) rfl
theorem dX8_piece_3 : decode cX8_piece 3 = .ok (.invokestatic 44, 3) := td tX8_piece_0_ok 2 (q := (3, .invokestatic 44, 3)) rfl
theorem dX8_piece_6 : decode cX8_piece 6 = .ok (.ifCond .eq 12, 3) := td tX8_piece_0_ok 3 (q := (6, .ifCond .eq 12, 3)) rfl
theorem dX8_piece_9 : decode cX8_piece 9 = .ok (.iload_n 2, 1) := td tX8_piece_0_ok 4 (q := (9, .iload_n 2, 1)) rfl
theorem dX8_piece_10 : decode cX8_piece 10 = .ok (.bipush 100, 2) := td tX8_piece_0_ok 5 (q := (10, .bipush 100, 2)) rfl
theorem dX8_piece_12 : decode cX8_piece 12 = .ok (.invokestatic 44, 3) := td tX8_piece_0_ok 6 (q := (12, .invokestatic 44, 3)) rfl
theorem dX8_piece_15 : decode cX8_piece 15 = .ok (.ifCond .ne 13, 3) := td tX8_piece_0_ok 7 (q := (15, .ifCond .ne 13, 3)) rfl
theorem dX8_piece_18 : decode cX8_piece 18 = .ok (.new 48, 3) := td tX8_piece_0_ok 8 (q := (18, .new 48, 3)) rfl
theorem dX8_piece_21 : decode cX8_piece 21 = .ok (.dup, 1) := td tX8_piece_0_ok 9 (q := (21, .dup, 1)) rfl
theorem dX8_piece_22 : decode cX8_piece 22 = .ok (.ldc 50, 2) := td tX8_piece_0_ok 10 (q := (22, .ldc 50, 2)) rfl
theorem dX8_piece_24 : decode cX8_piece 24 = .ok (.invokespecial 52, 3) := td tX8_piece_0_ok 11 (q := (24, .invokespecial 52, 3)) rfl
theorem dX8_piece_27 : decode cX8_piece 27 = .ok (.athrow, 1) := td tX8_piece_0_ok 12 (q := (27, .athrow, 1)) rfl
theorem dX8_piece_28 : decode cX8_piece 28 = .ok (.aload_n 0, 1) := td tX8_piece_0_ok 13 (q := (28, .aload_n 0, 1)) rfl
theorem dX8_piece_29 : decode cX8_piece 29 = .ok (.getfield 12, 3) := td tX8_piece_0_ok 14 (q := (29, .getfield 12, 3)) rfl
theorem dX8_piece_32 : decode cX8_piece 32 = .ok (.invokevirtual 55, 3) := td tX8_piece_0_ok 15 (q := (32, .invokevirtual 55, 3)) rfl
theorem dX8_piece_35 : decode cX8_piece 35 = .ok (.bipush 10, 2) := td tX8_piece_0_ok 16 (q := (35, .bipush 10, 2)) rfl
theorem dX8_piece_37 : decode cX8_piece 37 = .ok (.if_icmp .lt 13, 3) := td tX8_piece_0_ok 17 (q := (37, .if_icmp .lt 13, 3)) rfl
theorem dX8_piece_40 : decode cX8_piece 40 = .ok (.new 59, 3) := td tX8_piece_0_ok 18 (q := (40, .new 59, 3)) rfl
theorem dX8_piece_43 : decode cX8_piece 43 = .ok (.dup, 1) := td tX8_piece_0_ok 19 (q := (43, .dup, 1)) rfl
theorem dX8_piece_44 : decode cX8_piece 44 = .ok (.ldc 61, 2) := td tX8_piece_0_ok 20 (q := (44, .ldc 61, 2)) rfl
theorem dX8_piece_46 : decode cX8_piece 46 = .ok (.invokespecial 63, 3) := td tX8_piece_0_ok 21 (q := (46, .invokespecial 63, 3)) rfl
theorem dX8_piece_49 : decode cX8_piece 49 = .ok (.athrow, 1) := td tX8_piece_0_ok 22 (q := (49, .athrow, 1)) rfl
theorem dX8_piece_50 : decode cX8_piece 50 = .ok (.aload_n 0, 1) := td tX8_piece_0_ok 23 (q := (50, .aload_n 0, 1)) rfl
theorem dX8_piece_51 : decode cX8_piece 51 = .ok (.getfield 12, 3) := td tX8_piece_0_ok 24 (q := (51, .getfield 12, 3)) rfl
theorem dX8_piece_54 : decode cX8_piece 54 = .ok (.invokevirtual 64, 3) := td tX8_piece_0_ok 25 (q := (54, .invokevirtual 64, 3)) rfl
theorem dX8_piece_57 : decode cX8_piece 57 = .ok (.aload_n 0, 1) := td tX8_piece_0_ok 26 (q := (57, .aload_n 0, 1)) rfl
theorem dX8_piece_58 : decode cX8_piece 58 = .ok (.getfield 12, 3) := td tX8_piece_0_ok 27 (q := (58, .getfield 12, 3)) rfl
theorem dX8_piece_61 : decode cX8_piece 61 = .ok (.iload_n 1, 1) := td tX8_piece_0_ok 28 (q := (61, .iload_n 1, 1)) rfl
theorem dX8_piece_62 : decode cX8_piece 62 = .ok (.iload_n 2, 1) := td tX8_piece_0_ok 29 (q := (62, .iload_n 2, 1)) rfl
theorem dX8_piece_63 : decode cX8_piece 63 = .ok (.invokevirtual 67, 3) := td tX8_piece_0_ok 30 (q := (63, .invokevirtual 67, 3)) rfl
theorem dX8_piece_66 : decode cX8_piece 66 = .ok (.ireturn, 1) := td tX8_piece_0_ok 31 (q := (66, .ireturn, 1)) rfl
def fX8_piece (kc : (Nat → Int32)) (ksv : (Nat → Int32)) (kns : Int32) (x1 : Int32) (x2 : Int32) : Option (Nat ⊕ (Int32 × (Nat → Int32) × (Nat → Int32) × Int32)) :=
  (Option.bind (fX8_isIn x1 (100 : Int32)) (fun q1 => (if q1 = 0 then (some (.inl 1)) else (Option.bind (fX8_isIn x2 (100 : Int32)) (fun q3 => (if q3 = 0 then (some (.inl 1)) else (Option.bind (fX0_pieces kc) (fun q5 => (if q5 < (10 : Int32) then (Option.bind (fX0_save kc ksv kns) (fun q7 => (Option.bind (fX0_addPiece kc x1 x2) (fun q8 => (some (.inr (q8.1, q8.2, q7.1, q7.2))))))) else (some (.inl 2)))))))))))
set_option maxHeartbeats 4000000 in
set_option maxRecDepth 100000 in
theorem mX8_piece {l : Launch} {D : va_G} {ad : Nat → Nat} {cI : ClassId} {kc : (Nat → Int32)} {ksv : (Nat → Int32)} {kbc : (Nat → Int32)} {kit : (Nat → Int32)} {kln : (Nat → Int32)} {ken : (Nat → Int32)} {kla : (Nat → Int32)} {kfi : (Nat → Int32)} {kea : (Nat → Int32)} {kns : Int32} {kbl : Int32} {kr0 : Int32} {kr1 : Int32} {kr2 : Int32} {kr3 : Int32} {kr4 : Int32} {kr5 : Int32} {klr : Int32} {kp0 : Int32} {kp1 : Int32} {kp2 : Int32} {kp3 : Int32} {x1 : Int32} {x2 : Int32} {r : Int32} {kc' : (Nat → Int32)} {ksv' : (Nat → Int32)} {kns' : Int32} (hs : fX8_piece kc ksv kns x1 x2 = some (.inr (r, kc', ksv', kns'))) : nd_C l yX8_piece cX8_piece 3 (some .int) 3 80 D [(cI, .int)] [.ref (ad 0), .int x1, .int x2] (CW ad cI kc ksv kbc kit kln ken kla kfi kea kns kbl kr0 kr1 kr2 kr3 kr4 kr5 klr kp0 kp1 kp2 kp3) (CW ad cI kc' ksv' kbc kit kln ken kla kfi kea kns' kbl kr0 kr1 kr2 kr3 kr4 kr5 klr kp0 kp1 kp2 kp3) (some (.int r)) := by
  refine nd_ofCi (by decide) (Nat.le_of_ble_eq_true rfl) (fun p e s m args below meth c_ ls A Q hx hb hml hown hts hl hP hK hD hS hA hN hret => ?_)
  have hown : s.vm.findClass RX8 = some m.cls := hown
  have hl : lv_has ls 3 [(0, .ref (ad 0)), (1, .int x1), (2, .int x2)] := hl
  have hret : ∀ (z0 : Int32) (z1 : (Nat → Int32)) (z2 : (Nat → Int32)) (z3 : Int32) {H : Heap} {locs : List Loc} {pc : Nat} {ls : Array Slot}, some (Sum.inr (α := Nat) (z0, z1, z2, z3)) = some (.inr (r, kc', ksv', kns')) → va_P D vwCl (CW ad cI z1 z2 kbc kit kln ken kla kfi kea z3 kbl kr0 kr1 kr2 kr3 kr4 kr5 klr kp0 kp1 kp2 kp3) H → va_S A s.heap H locs → decode cX8_piece pc = .ok (.ireturn, 1) → W p l e ⟨3, 0, 0, 80⟩ s m args below meth c_ H locs 0 0 Q (F0 m pc ls [.int z0]) := by
    intro z0 z1 z2 z3 H locs pc ls h hP hS hd
    cases h
    exact hret hP hS hd
  rw [fX8_piece] at hs
  refine lv_iload_n hx hb dX8_piece_0 rfl (lv_at hl 1 rfl) ?_
  refine lv_bipush (v := (100 : Int32)) hx hb dX8_piece_1 (by decide) ?_
  obtain ⟨q1, eq1, hs⟩ := ob hs
  refine nd_callS (As := [.int x1, .int (100 : Int32)]) (rest := []) (st1 := [.int q1]) hx hb hml hown hts hl hP hK hD hS hA hN (mX8_isIn eq1) is_X8_isIn wd_95 rfl rfl ⟨Nat.le_of_ble_eq_true rfl, Nat.le_of_ble_eq_true rfl⟩ (Nat.le_of_ble_eq_true rfl) ⟨Nat.zero_le _, Nat.zero_le _⟩ dX8_piece_3 rfl rfl (fun H locs hP hD hS => ?_)
  refine lv_if_eq (tgt := 18) hx hb dX8_piece_6 (by decide) (fun b2 => ?_) (fun b2 => ?_)
  · have hs := ite_t hs b2
    cases hs
  · have hs := ite_f hs b2
    refine lv_iload_n hx hb dX8_piece_9 rfl (lv_at hl 2 rfl) ?_
    refine lv_bipush (v := (100 : Int32)) hx hb dX8_piece_10 (by decide) ?_
    obtain ⟨q3, eq3, hs⟩ := ob hs
    refine nd_callS (As := [.int x2, .int (100 : Int32)]) (rest := []) (st1 := [.int q3]) hx hb hml hown hts hl hP hK hD hS hA hN (mX8_isIn eq3) is_X8_isIn wd_95 rfl rfl ⟨Nat.le_of_ble_eq_true rfl, Nat.le_of_ble_eq_true rfl⟩ (Nat.le_of_ble_eq_true rfl) ⟨Nat.zero_le _, Nat.zero_le _⟩ dX8_piece_12 rfl rfl (fun H locs hP hD hS => ?_)
    refine lv_if_ne (tgt := 28) hx hb dX8_piece_15 (by decide) (fun b4 => ?_) (fun b4 => ?_)
    · have hs := ite_f hs b4
      refine lv_aload_n hx hb dX8_piece_28 rfl (lv_at hl 0 rfl) ?_
      refine gf_X8_12 hx hb hts hown hK hP 0 rfl rfl dX8_piece_29 ?_
      obtain ⟨q5, eq5, hs⟩ := ob hs
      refine nd_callV (As := []) (rest := []) (st1 := [.int q5]) hx hb hml hown hts hl hP hK hD hS hA hN (mX0_pieces eq5) iv_X0_pieces wd_98 1 rfl rfl rfl rfl ⟨Nat.le_of_ble_eq_true rfl, Nat.le_of_ble_eq_true rfl⟩ (Nat.le_of_ble_eq_true rfl) ⟨Nat.zero_le _, Nat.zero_le _⟩ dX8_piece_32 rfl rfl (fun H locs hP hD hS => ?_)
      refine lv_bipush (v := (10 : Int32)) hx hb dX8_piece_35 (by decide) ?_
      refine lv_icmp_lt (tgt := 50) hx hb dX8_piece_37 (by decide) (fun b6 => ?_) (fun b6 => ?_)
      · have hs := ite_t hs b6
        refine lv_aload_n hx hb dX8_piece_50 rfl (lv_at hl 0 rfl) ?_
        refine gf_X8_12 hx hb hts hown hK hP 0 rfl rfl dX8_piece_51 ?_
        obtain ⟨q7, eq7, hs⟩ := ob hs
        refine nd_callV (As := []) (rest := []) (st1 := []) hx hb hml hown hts hl hP hK hD hS hA hN (mX0_save eq7) iv_X0_save wd_106 1 rfl rfl rfl rfl ⟨Nat.le_of_ble_eq_true rfl, Nat.le_of_ble_eq_true rfl⟩ (Nat.le_of_ble_eq_true rfl) ⟨Nat.zero_le _, Nat.zero_le _⟩ dX8_piece_54 rfl rfl (fun H locs hP hD hS => ?_)
        refine lv_aload_n hx hb dX8_piece_57 rfl (lv_at hl 0 rfl) ?_
        refine gf_X8_12 hx hb hts hown hK hP 0 rfl rfl dX8_piece_58 ?_
        refine lv_iload_n hx hb dX8_piece_61 rfl (lv_at hl 1 rfl) ?_
        refine lv_iload_n hx hb dX8_piece_62 rfl (lv_at hl 2 rfl) ?_
        obtain ⟨q8, eq8, hs⟩ := ob hs
        refine nd_callV (As := [.int x1, .int x2]) (rest := []) (st1 := [.int q8.1]) hx hb hml hown hts hl hP hK hD hS hA hN (mX0_addPiece eq8) iv_X0_addPiece wd_114 1 rfl rfl rfl rfl ⟨Nat.le_of_ble_eq_true rfl, Nat.le_of_ble_eq_true rfl⟩ (Nat.le_of_ble_eq_true rfl) ⟨Nat.zero_le _, Nat.zero_le _⟩ dX8_piece_63 rfl rfl (fun H locs hP hD hS => ?_)
        exact hret _ _ _ _ hs hP hS dX8_piece_66
      · have hs := ite_f hs b6
        cases hs
    · have hs := ite_t hs b4
      cases hs
set_option maxHeartbeats 4000000 in
set_option maxRecDepth 100000 in
theorem xX8_piece {l : Launch} (hnt : l.stackTraces = false) {D : va_G} {ad : Nat → Nat} {cI : ClassId} {kc : (Nat → Int32)} {ksv : (Nat → Int32)} {kbc : (Nat → Int32)} {kit : (Nat → Int32)} {kln : (Nat → Int32)} {ken : (Nat → Int32)} {kla : (Nat → Int32)} {kfi : (Nat → Int32)} {kea : (Nat → Int32)} {kns : Int32} {kbl : Int32} {kr0 : Int32} {kr1 : Int32} {kr2 : Int32} {kr3 : Int32} {kr4 : Int32} {kr5 : Int32} {klr : Int32} {kp0 : Int32} {kp1 : Int32} {kp2 : Int32} {kp3 : Int32} {x1 : Int32} {x2 : Int32} {k : Nat} (hs : fX8_piece kc ksv kns x1 x2 = some (.inl k)) : nd_CX l yX8_piece cX8_piece 3 (some .int) 6 82 D [(cI, .int)] [.ref (ad 0), .int x1, .int x2] (CW ad cI kc ksv kbc kit kln ken kla kfi kea kns kbl kr0 kr1 kr2 kr3 kr4 kr5 klr kp0 kp1 kp2 kp3) (fun W1 => W1 = (CW ad cI kc ksv kbc kit kln ken kla kfi kea kns kbl kr0 kr1 kr2 kr3 kr4 kr5 klr kp0 kp1 kp2 kp3)) k := by
  refine nd_ofX (by decide) (Nat.le_of_ble_eq_true rfl) (fun p e s m args below meth c_ ls A hx hb hml hown hts hl hP hK hD hS hA hN hX hxt hlocks hAe => ?_)
  have hown : s.vm.findClass RX8 = some m.cls := hown
  have hl : lv_has ls 3 [(0, .ref (ad 0)), (1, .int x1), (2, .int x2)] := hl
  rw [fX8_piece] at hs
  refine lv_iload_n hx hb dX8_piece_0 rfl (lv_at hl 1 rfl) ?_
  refine lv_bipush (v := (100 : Int32)) hx hb dX8_piece_1 (by decide) ?_
  obtain ⟨q1, eq1, hs⟩ := ob hs
  refine nd_callS (As := [.int x1, .int (100 : Int32)]) (rest := []) (st1 := [.int q1]) hx hb hml hown hts hl hP hK hD hS hA hN (mX8_isIn eq1) is_X8_isIn wd_95 rfl rfl ⟨Nat.le_of_ble_eq_true rfl, Nat.le_of_ble_eq_true rfl⟩ (Nat.le_of_ble_eq_true rfl) ⟨Nat.zero_le _, Nat.zero_le _⟩ dX8_piece_3 rfl rfl (fun H locs hP hD hS => ?_)
  refine lv_if_eq (tgt := 18) hx hb dX8_piece_6 (by decide) (fun b2 => ?_) (fun b2 => ?_)
  · have hs := ite_t hs b2
    cases hs
    exact nd_thr1 hx hb hnt hown hts hX hS (hl.1.trans hml.symm) (is := 50) str_50 dX8_piece_18 dX8_piece_21 dX8_piece_22 dX8_piece_24 dX8_piece_27 hxt hlocks rfl hP hAe (Nat.le_of_ble_eq_true rfl) (Nat.le_of_ble_eq_true rfl)
  · have hs := ite_f hs b2
    refine lv_iload_n hx hb dX8_piece_9 rfl (lv_at hl 2 rfl) ?_
    refine lv_bipush (v := (100 : Int32)) hx hb dX8_piece_10 (by decide) ?_
    obtain ⟨q3, eq3, hs⟩ := ob hs
    refine nd_callS (As := [.int x2, .int (100 : Int32)]) (rest := []) (st1 := [.int q3]) hx hb hml hown hts hl hP hK hD hS hA hN (mX8_isIn eq3) is_X8_isIn wd_95 rfl rfl ⟨Nat.le_of_ble_eq_true rfl, Nat.le_of_ble_eq_true rfl⟩ (Nat.le_of_ble_eq_true rfl) ⟨Nat.zero_le _, Nat.zero_le _⟩ dX8_piece_12 rfl rfl (fun H locs hP hD hS => ?_)
    refine lv_if_ne (tgt := 28) hx hb dX8_piece_15 (by decide) (fun b4 => ?_) (fun b4 => ?_)
    · have hs := ite_f hs b4
      refine lv_aload_n hx hb dX8_piece_28 rfl (lv_at hl 0 rfl) ?_
      refine gf_X8_12 hx hb hts hown hK hP 0 rfl rfl dX8_piece_29 ?_
      obtain ⟨q5, eq5, hs⟩ := ob hs
      refine nd_callV (As := []) (rest := []) (st1 := [.int q5]) hx hb hml hown hts hl hP hK hD hS hA hN (mX0_pieces eq5) iv_X0_pieces wd_98 1 rfl rfl rfl rfl ⟨Nat.le_of_ble_eq_true rfl, Nat.le_of_ble_eq_true rfl⟩ (Nat.le_of_ble_eq_true rfl) ⟨Nat.zero_le _, Nat.zero_le _⟩ dX8_piece_32 rfl rfl (fun H locs hP hD hS => ?_)
      refine lv_bipush (v := (10 : Int32)) hx hb dX8_piece_35 (by decide) ?_
      refine lv_icmp_lt (tgt := 50) hx hb dX8_piece_37 (by decide) (fun b6 => ?_) (fun b6 => ?_)
      · have hs := ite_t hs b6
        refine lv_aload_n hx hb dX8_piece_50 rfl (lv_at hl 0 rfl) ?_
        refine gf_X8_12 hx hb hts hown hK hP 0 rfl rfl dX8_piece_51 ?_
        obtain ⟨q7, eq7, hs⟩ := ob hs
        refine nd_callV (As := []) (rest := []) (st1 := []) hx hb hml hown hts hl hP hK hD hS hA hN (mX0_save eq7) iv_X0_save wd_106 1 rfl rfl rfl rfl ⟨Nat.le_of_ble_eq_true rfl, Nat.le_of_ble_eq_true rfl⟩ (Nat.le_of_ble_eq_true rfl) ⟨Nat.zero_le _, Nat.zero_le _⟩ dX8_piece_54 rfl rfl (fun H locs hP hD hS => ?_)
        refine lv_aload_n hx hb dX8_piece_57 rfl (lv_at hl 0 rfl) ?_
        refine gf_X8_12 hx hb hts hown hK hP 0 rfl rfl dX8_piece_58 ?_
        refine lv_iload_n hx hb dX8_piece_61 rfl (lv_at hl 1 rfl) ?_
        refine lv_iload_n hx hb dX8_piece_62 rfl (lv_at hl 2 rfl) ?_
        obtain ⟨q8, eq8, hs⟩ := ob hs
        refine nd_callV (As := [.int x1, .int x2]) (rest := []) (st1 := [.int q8.1]) hx hb hml hown hts hl hP hK hD hS hA hN (mX0_addPiece eq8) iv_X0_addPiece wd_114 1 rfl rfl rfl rfl ⟨Nat.le_of_ble_eq_true rfl, Nat.le_of_ble_eq_true rfl⟩ (Nat.le_of_ble_eq_true rfl) ⟨Nat.zero_le _, Nat.zero_le _⟩ dX8_piece_63 rfl rfl (fun H locs hP hD hS => ?_)
        cases hs
      · have hs := ite_f hs b6
        cases hs
        exact nd_thr2 hx hb hnt hown hts hX hS (hl.1.trans hml.symm) (is := 61) str_61 dX8_piece_40 dX8_piece_43 dX8_piece_44 dX8_piece_46 dX8_piece_49 hxt hlocks rfl hP hAe (Nat.le_of_ble_eq_true rfl) (Nat.le_of_ble_eq_true rfl)
    · have hs := ite_t hs b4
      cases hs
      exact nd_thr1 hx hb hnt hown hts hX hS (hl.1.trans hml.symm) (is := 50) str_50 dX8_piece_18 dX8_piece_21 dX8_piece_22 dX8_piece_24 dX8_piece_27 hxt hlocks rfl hP hAe (Nat.le_of_ble_eq_true rfl) (Nat.le_of_ble_eq_true rfl)
def tX8_requirePiece_0 : List (Nat × Instr × Nat) := [(0, .iload_n 1, 1), (1, .aload_n 0, 1), (2, .getfield 12, 3), (5, .invokevirtual 55, 3), (8, .invokestatic 44, 3), (11, .ifCond .ne 13, 3), (14, .new 248, 3), (17, .dup, 1), (18, .ldc 250, 2), (20, .invokespecial 252, 3), (23, .athrow, 1), (24, .return_, 1)]
theorem tX8_requirePiece_0_ok : tX8_requirePiece_0.all (fun q => decide (decode cX8_requirePiece q.1 = .ok q.2)) = true := by decide +kernel
theorem dX8_requirePiece_0 : decode cX8_requirePiece 0 = .ok (.iload_n 1, 1) := td tX8_requirePiece_0_ok 0 (q := (0, .iload_n 1, 1)) rfl
theorem dX8_requirePiece_1 : decode cX8_requirePiece 1 = .ok (.aload_n 0, 1) := td tX8_requirePiece_0_ok 1 (q := (1, .aload_n 0, 1)) rfl
theorem dX8_requirePiece_2 : decode cX8_requirePiece 2 = .ok (.getfield 12, 3) := td tX8_requirePiece_0_ok 2 (q := (2, .getfield 12, 3)) rfl
theorem dX8_requirePiece_5 : decode cX8_requirePiece 5 = .ok (.invokevirtual 55, 3) := td tX8_requirePiece_0_ok 3 (q := (5, .invokevirtual 55, 3)) rfl
theorem dX8_requirePiece_8 : decode cX8_requirePiece 8 = .ok (.invokestatic 44, 3) := td tX8_requirePiece_0_ok 4 (q := (8, .invokestatic 44, 3)) rfl
theorem dX8_requirePiece_11 : decode cX8_requirePiece 11 = .ok (.ifCond .ne 13, 3) := td tX8_requirePiece_0_ok 5 (q := (11, .ifCond .ne 13, 3)) rfl
theorem dX8_requirePiece_14 : decode cX8_requirePiece 14 = .ok (.new 248, 3) := td tX8_requirePiece_0_ok 6 (q := (14, .new 248, 3)) rfl
theorem dX8_requirePiece_17 : decode cX8_requirePiece 17 = .ok (.dup, 1) := td tX8_requirePiece_0_ok 7 (q := (17, .dup, 1)) rfl
theorem dX8_requirePiece_18 : decode cX8_requirePiece 18 = .ok (.ldc 250, 2) := td tX8_requirePiece_0_ok 8 (q := (18, .ldc 250, 2)) rfl
theorem dX8_requirePiece_20 : decode cX8_requirePiece 20 = .ok (.invokespecial 252, 3) := td tX8_requirePiece_0_ok 9 (q := (20, .invokespecial 252, 3)) rfl
theorem dX8_requirePiece_23 : decode cX8_requirePiece 23 = .ok (.athrow, 1) := td tX8_requirePiece_0_ok 10 (q := (23, .athrow, 1)) rfl
theorem dX8_requirePiece_24 : decode cX8_requirePiece 24 = .ok (.return_, 1) := td tX8_requirePiece_0_ok 11 (q := (24, .return_, 1)) rfl
def fX8_requirePiece (kc : (Nat → Int32)) (x1 : Int32) : Option (Nat ⊕ (Unit)) :=
  (Option.bind (fX0_pieces kc) (fun q1 => (Option.bind (fX8_isIn x1 q1) (fun q2 => (if q2 = 0 then (some (.inl 3)) else (some (.inr ())))))))
set_option maxHeartbeats 4000000 in
set_option maxRecDepth 100000 in
theorem mX8_requirePiece {l : Launch} {D : va_G} {ad : Nat → Nat} {cI : ClassId} {kc : (Nat → Int32)} {ksv : (Nat → Int32)} {kbc : (Nat → Int32)} {kit : (Nat → Int32)} {kln : (Nat → Int32)} {ken : (Nat → Int32)} {kla : (Nat → Int32)} {kfi : (Nat → Int32)} {kea : (Nat → Int32)} {kns : Int32} {kbl : Int32} {kr0 : Int32} {kr1 : Int32} {kr2 : Int32} {kr3 : Int32} {kr4 : Int32} {kr5 : Int32} {klr : Int32} {kp0 : Int32} {kp1 : Int32} {kp2 : Int32} {kp3 : Int32} {x1 : Int32} (hs : fX8_requirePiece kc x1 = some (.inr ())) : nd_C l yX8_requirePiece cX8_requirePiece 2 none 2 41 D [(cI, .int)] [.ref (ad 0), .int x1] (CW ad cI kc ksv kbc kit kln ken kla kfi kea kns kbl kr0 kr1 kr2 kr3 kr4 kr5 klr kp0 kp1 kp2 kp3) (CW ad cI kc ksv kbc kit kln ken kla kfi kea kns kbl kr0 kr1 kr2 kr3 kr4 kr5 klr kp0 kp1 kp2 kp3) none := by
  refine nd_ofCv (by decide) (Nat.le_of_ble_eq_true rfl) (fun p e s m args below meth c_ ls A Q hx hb hml hown hts hl hP hK hD hS hA hN hret => ?_)
  have hown : s.vm.findClass RX8 = some m.cls := hown
  have hl : lv_has ls 2 [(0, .ref (ad 0)), (1, .int x1)] := hl
  have hret : ∀ {H : Heap} {locs : List Loc} {pc : Nat} {ls : Array Slot}, some (Sum.inr (α := Nat) ()) = some (.inr ()) → va_P D vwCl (CW ad cI kc ksv kbc kit kln ken kla kfi kea kns kbl kr0 kr1 kr2 kr3 kr4 kr5 klr kp0 kp1 kp2 kp3) H → va_S A s.heap H locs → decode cX8_requirePiece pc = .ok (.return_, 1) → W p l e ⟨2, 0, 0, 41⟩ s m args below meth c_ H locs 0 0 Q (F0 m pc ls []) := by
    intro  H locs pc ls h hP hS hd
    cases h
    exact hret hP hS hd
  rw [fX8_requirePiece] at hs
  refine lv_iload_n hx hb dX8_requirePiece_0 rfl (lv_at hl 1 rfl) ?_
  refine lv_aload_n hx hb dX8_requirePiece_1 rfl (lv_at hl 0 rfl) ?_
  refine gf_X8_12 hx hb hts hown hK hP 0 rfl rfl dX8_requirePiece_2 ?_
  obtain ⟨q1, eq1, hs⟩ := ob hs
  refine nd_callV (As := []) (rest := [.int x1]) (st1 := [.int q1, .int x1]) hx hb hml hown hts hl hP hK hD hS hA hN (mX0_pieces eq1) iv_X0_pieces wd_98 1 rfl rfl rfl rfl ⟨Nat.le_of_ble_eq_true rfl, Nat.le_of_ble_eq_true rfl⟩ (Nat.le_of_ble_eq_true rfl) ⟨Nat.zero_le _, Nat.zero_le _⟩ dX8_requirePiece_5 rfl rfl (fun H locs hP hD hS => ?_)
  obtain ⟨q2, eq2, hs⟩ := ob hs
  refine nd_callS (As := [.int x1, .int q1]) (rest := []) (st1 := [.int q2]) hx hb hml hown hts hl hP hK hD hS hA hN (mX8_isIn eq2) is_X8_isIn wd_95 rfl rfl ⟨Nat.le_of_ble_eq_true rfl, Nat.le_of_ble_eq_true rfl⟩ (Nat.le_of_ble_eq_true rfl) ⟨Nat.zero_le _, Nat.zero_le _⟩ dX8_requirePiece_8 rfl rfl (fun H locs hP hD hS => ?_)
  refine lv_if_ne (tgt := 24) hx hb dX8_requirePiece_11 (by decide) (fun b3 => ?_) (fun b3 => ?_)
  · have hs := ite_f hs b3
    exact hret  hs hP hS dX8_requirePiece_24
  · have hs := ite_t hs b3
    cases hs
set_option maxHeartbeats 4000000 in
set_option maxRecDepth 100000 in
theorem xX8_requirePiece {l : Launch} (hnt : l.stackTraces = false) {D : va_G} {ad : Nat → Nat} {cI : ClassId} {kc : (Nat → Int32)} {ksv : (Nat → Int32)} {kbc : (Nat → Int32)} {kit : (Nat → Int32)} {kln : (Nat → Int32)} {ken : (Nat → Int32)} {kla : (Nat → Int32)} {kfi : (Nat → Int32)} {kea : (Nat → Int32)} {kns : Int32} {kbl : Int32} {kr0 : Int32} {kr1 : Int32} {kr2 : Int32} {kr3 : Int32} {kr4 : Int32} {kr5 : Int32} {klr : Int32} {kp0 : Int32} {kp1 : Int32} {kp2 : Int32} {kp3 : Int32} {x1 : Int32} {k : Nat} (hs : fX8_requirePiece kc x1 = some (.inl k)) : nd_CX l yX8_requirePiece cX8_requirePiece 2 none 6 82 D [(cI, .int)] [.ref (ad 0), .int x1] (CW ad cI kc ksv kbc kit kln ken kla kfi kea kns kbl kr0 kr1 kr2 kr3 kr4 kr5 klr kp0 kp1 kp2 kp3) (fun W1 => W1 = (CW ad cI kc ksv kbc kit kln ken kla kfi kea kns kbl kr0 kr1 kr2 kr3 kr4 kr5 klr kp0 kp1 kp2 kp3)) k := by
  refine nd_ofX (by decide) (Nat.le_of_ble_eq_true rfl) (fun p e s m args below meth c_ ls A hx hb hml hown hts hl hP hK hD hS hA hN hX hxt hlocks hAe => ?_)
  have hown : s.vm.findClass RX8 = some m.cls := hown
  have hl : lv_has ls 2 [(0, .ref (ad 0)), (1, .int x1)] := hl
  rw [fX8_requirePiece] at hs
  refine lv_iload_n hx hb dX8_requirePiece_0 rfl (lv_at hl 1 rfl) ?_
  refine lv_aload_n hx hb dX8_requirePiece_1 rfl (lv_at hl 0 rfl) ?_
  refine gf_X8_12 hx hb hts hown hK hP 0 rfl rfl dX8_requirePiece_2 ?_
  obtain ⟨q1, eq1, hs⟩ := ob hs
  refine nd_callV (As := []) (rest := [.int x1]) (st1 := [.int q1, .int x1]) hx hb hml hown hts hl hP hK hD hS hA hN (mX0_pieces eq1) iv_X0_pieces wd_98 1 rfl rfl rfl rfl ⟨Nat.le_of_ble_eq_true rfl, Nat.le_of_ble_eq_true rfl⟩ (Nat.le_of_ble_eq_true rfl) ⟨Nat.zero_le _, Nat.zero_le _⟩ dX8_requirePiece_5 rfl rfl (fun H locs hP hD hS => ?_)
  obtain ⟨q2, eq2, hs⟩ := ob hs
  refine nd_callS (As := [.int x1, .int q1]) (rest := []) (st1 := [.int q2]) hx hb hml hown hts hl hP hK hD hS hA hN (mX8_isIn eq2) is_X8_isIn wd_95 rfl rfl ⟨Nat.le_of_ble_eq_true rfl, Nat.le_of_ble_eq_true rfl⟩ (Nat.le_of_ble_eq_true rfl) ⟨Nat.zero_le _, Nat.zero_le _⟩ dX8_requirePiece_8 rfl rfl (fun H locs hP hD hS => ?_)
  refine lv_if_ne (tgt := 24) hx hb dX8_requirePiece_11 (by decide) (fun b3 => ?_) (fun b3 => ?_)
  · have hs := ite_f hs b3
    cases hs
  · have hs := ite_t hs b3
    cases hs
    exact nd_thr3 hx hb hnt hown hts hX hS (hl.1.trans hml.symm) (is := 250) str_250 dX8_requirePiece_14 dX8_requirePiece_17 dX8_requirePiece_18 dX8_requirePiece_20 dX8_requirePiece_23 hxt hlocks rfl hP hAe (Nat.le_of_ble_eq_true rfl) (Nat.le_of_ble_eq_true rfl)
def tX8_readBuffer_0 : List (Nat × Instr × Nat) := [(0, .aload_n 0, 1), (1, .getfield 26, 3), (4, .invokevirtual 255, 3), (7, .iconst 0, 1), (8, .istore_n 1, 1), (9, .iload_n 1, 1), (10, .aload_n 0, 1), (11, .getfield 19, 3), (14, .invokevirtual 134, 3), (17, .if_icmp .ge 29, 3), (20, .aload_n 0, 1), (21, .getfield 26, 3), (24, .aload_n 0, 1), (25, .getfield 19, 3), (28, .iload_n 1, 1), (29, .invokevirtual 258, 3), (32, .invokevirtual 261, 3), (35, .ifCond .ne 5, 3), (38, .iload_n 1, 1), (39, .ireturn, 1), (40, .iinc 1 1, 3), (43, .goto (-34), 3), (46, .aload_n 0, 1), (47, .getfield 19, 3), (50, .invokevirtual 134, 3), (53, .ireturn, 1)]
theorem tX8_readBuffer_0_ok : tX8_readBuffer_0.all (fun q => decide (decode cX8_readBuffer q.1 = .ok q.2)) = true := by decide +kernel
theorem dX8_readBuffer_0 : decode cX8_readBuffer 0 = .ok (.aload_n 0, 1) := td tX8_readBuffer_0_ok 0 (q := (0, .aload_n 0, 1)) rfl
theorem dX8_readBuffer_1 : decode cX8_readBuffer 1 = .ok (.getfield 26, 3) := td tX8_readBuffer_0_ok 1 (q := (1, .getfield 26, 3)) rfl
theorem dX8_readBuffer_4 : decode cX8_readBuffer 4 = .ok (.invokevirtual 255, 3) := td tX8_readBuffer_0_ok 2 (q := (4, .invokevirtual 255, 3)) rfl
theorem dX8_readBuffer_7 : decode cX8_readBuffer 7 = .ok (.iconst 0, 1) := td tX8_readBuffer_0_ok 3 (q := (7, .iconst 0, 1)) rfl
theorem dX8_readBuffer_8 : decode cX8_readBuffer 8 = .ok (.istore_n 1, 1) := td tX8_readBuffer_0_ok 4 (q := (8, .istore_n 1, 1)) rfl
theorem dX8_readBuffer_9 : decode cX8_readBuffer 9 = .ok (.iload_n 1, 1) := td tX8_readBuffer_0_ok 5 (q := (9, .iload_n 1, 1)) rfl
theorem dX8_readBuffer_10 : decode cX8_readBuffer 10 = .ok (.aload_n 0, 1) := td tX8_readBuffer_0_ok 6 (q := (10, .aload_n 0, 1)) rfl
theorem dX8_readBuffer_11 : decode cX8_readBuffer 11 = .ok (.getfield 19, 3) := td tX8_readBuffer_0_ok 7 (q := (11, .getfield 19, 3)) rfl
theorem dX8_readBuffer_14 : decode cX8_readBuffer 14 = .ok (.invokevirtual 134, 3) := td tX8_readBuffer_0_ok 8 (q := (14, .invokevirtual 134, 3)) rfl
theorem dX8_readBuffer_17 : decode cX8_readBuffer 17 = .ok (.if_icmp .ge 29, 3) := td tX8_readBuffer_0_ok 9 (q := (17, .if_icmp .ge 29, 3)) rfl
theorem dX8_readBuffer_20 : decode cX8_readBuffer 20 = .ok (.aload_n 0, 1) := td tX8_readBuffer_0_ok 10 (q := (20, .aload_n 0, 1)) rfl
theorem dX8_readBuffer_21 : decode cX8_readBuffer 21 = .ok (.getfield 26, 3) := td tX8_readBuffer_0_ok 11 (q := (21, .getfield 26, 3)) rfl
theorem dX8_readBuffer_24 : decode cX8_readBuffer 24 = .ok (.aload_n 0, 1) := td tX8_readBuffer_0_ok 12 (q := (24, .aload_n 0, 1)) rfl
theorem dX8_readBuffer_25 : decode cX8_readBuffer 25 = .ok (.getfield 19, 3) := td tX8_readBuffer_0_ok 13 (q := (25, .getfield 19, 3)) rfl
theorem dX8_readBuffer_28 : decode cX8_readBuffer 28 = .ok (.iload_n 1, 1) := td tX8_readBuffer_0_ok 14 (q := (28, .iload_n 1, 1)) rfl
theorem dX8_readBuffer_29 : decode cX8_readBuffer 29 = .ok (.invokevirtual 258, 3) := td tX8_readBuffer_0_ok 15 (q := (29, .invokevirtual 258, 3)) rfl
theorem dX8_readBuffer_32 : decode cX8_readBuffer 32 = .ok (.invokevirtual 261, 3) := td tX8_readBuffer_0_ok 16 (q := (32, .invokevirtual 261, 3)) rfl
theorem dX8_readBuffer_35 : decode cX8_readBuffer 35 = .ok (.ifCond .ne 5, 3) := td tX8_readBuffer_0_ok 17 (q := (35, .ifCond .ne 5, 3)) rfl
theorem dX8_readBuffer_38 : decode cX8_readBuffer 38 = .ok (.iload_n 1, 1) := td tX8_readBuffer_0_ok 18 (q := (38, .iload_n 1, 1)) rfl
theorem dX8_readBuffer_39 : decode cX8_readBuffer 39 = .ok (.ireturn, 1) := td tX8_readBuffer_0_ok 19 (q := (39, .ireturn, 1)) rfl
theorem dX8_readBuffer_40 : decode cX8_readBuffer 40 = .ok (.iinc 1 1, 3) := td tX8_readBuffer_0_ok 20 (q := (40, .iinc 1 1, 3)) rfl
theorem dX8_readBuffer_43 : decode cX8_readBuffer 43 = .ok (.goto (-34), 3) := td tX8_readBuffer_0_ok 21 (q := (43, .goto (-34), 3)) rfl
theorem dX8_readBuffer_46 : decode cX8_readBuffer 46 = .ok (.aload_n 0, 1) := td tX8_readBuffer_0_ok 22 (q := (46, .aload_n 0, 1)) rfl
theorem dX8_readBuffer_47 : decode cX8_readBuffer 47 = .ok (.getfield 19, 3) := td tX8_readBuffer_0_ok 23 (q := (47, .getfield 19, 3)) rfl
theorem dX8_readBuffer_50 : decode cX8_readBuffer 50 = .ok (.invokevirtual 134, 3) := td tX8_readBuffer_0_ok 24 (q := (50, .invokevirtual 134, 3)) rfl
theorem dX8_readBuffer_53 : decode cX8_readBuffer 53 = .ok (.ireturn, 1) := td tX8_readBuffer_0_ok 25 (q := (53, .ireturn, 1)) rfl
def fX8_readBuffer_9 (k9 : (Nat → Int32) → Int32 → Int32 → Int32 → Int32 → Int32 → Int32 → Option (Int32 × (Nat → Int32) × Int32 × Int32 × Int32 × Int32 × Int32 × Int32)) (kbc : (Nat → Int32)) (kbl : Int32) : Nat → Int32 → (Nat → Int32) → Int32 → Int32 → Int32 → Int32 → Int32 → Int32 → Option (Int32 × (Nat → Int32) × Int32 × Int32 × Int32 × Int32 × Int32 × Int32)
  | 0, _, _, _, _, _, _, _, _ => none
  | n9 + 1, x1, kit, kr0, kr1, kr2, kr3, kr4, kr5 => (Option.bind (fX1_length kbl) (fun q2 => (if q2 ≤ x1 then (k9 kit kr0 kr1 kr2 kr3 kr4 kr5) else (Option.bind (fX1_codeAt kbc x1) (fun q4 => (Option.bind (fX6_accept kit kr0 kr1 kr2 kr3 kr4 kr5 q4) (fun q5 => (if q5.1 = 0 then (some (x1, q5.2.1, q5.2.2.1, q5.2.2.2.1, q5.2.2.2.2.1, q5.2.2.2.2.2.1, q5.2.2.2.2.2.2.1, q5.2.2.2.2.2.2.2)) else (fX8_readBuffer_9 k9 kbc kbl n9 (x1 + (1 : Int32)) q5.2.1 q5.2.2.1 q5.2.2.2.1 q5.2.2.2.2.1 q5.2.2.2.2.2.1 q5.2.2.2.2.2.2.1 q5.2.2.2.2.2.2.2)))))))))
def fX8_readBuffer (kbc : (Nat → Int32)) (kit : (Nat → Int32)) (kbl : Int32) (kr0 : Int32) (kr1 : Int32) (kr2 : Int32) (kr3 : Int32) (kr4 : Int32) (kr5 : Int32) : Option (Int32 × (Nat → Int32) × Int32 × Int32 × Int32 × Int32 × Int32 × Int32) :=
  (Option.bind (fX6_restart kr0 kr1 kr2 kr5) (fun q1 => (fX8_readBuffer_9 (fun (kit_u7 : (Nat → Int32)) (kr0_u7 : Int32) (kr1_u7 : Int32) (kr2_u7 : Int32) (kr3_u7 : Int32) (kr4_u7 : Int32) (kr5_u7 : Int32) => (Option.bind (fX1_length kbl) (fun q13 => (some (q13, kit_u7, kr0_u7, kr1_u7, kr2_u7, kr3_u7, kr4_u7, kr5_u7))))) kbc kbl LF (0 : Int32) kit q1.1 q1.2.1 q1.2.2.1 kr3 kr4 q1.2.2.2)))
set_option maxHeartbeats 4000000 in
set_option maxRecDepth 100000 in
theorem mX8_readBuffer {l : Launch} {D : va_G} {ad : Nat → Nat} {cI : ClassId} {kc : (Nat → Int32)} {ksv : (Nat → Int32)} {kbc : (Nat → Int32)} {kit : (Nat → Int32)} {kln : (Nat → Int32)} {ken : (Nat → Int32)} {kla : (Nat → Int32)} {kfi : (Nat → Int32)} {kea : (Nat → Int32)} {kns : Int32} {kbl : Int32} {kr0 : Int32} {kr1 : Int32} {kr2 : Int32} {kr3 : Int32} {kr4 : Int32} {kr5 : Int32} {klr : Int32} {kp0 : Int32} {kp1 : Int32} {kp2 : Int32} {kp3 : Int32} {r : Int32} {kit' : (Nat → Int32)} {kr0' : Int32} {kr1' : Int32} {kr2' : Int32} {kr3' : Int32} {kr4' : Int32} {kr5' : Int32} (hs : fX8_readBuffer kbc kit kbl kr0 kr1 kr2 kr3 kr4 kr5 = some (r, kit', kr0', kr1', kr2', kr3', kr4', kr5')) : nd_C l yX8_readBuffer cX8_readBuffer 2 (some .int) 4 84 D [(cI, .int)] [.ref (ad 0)] (CW ad cI kc ksv kbc kit kln ken kla kfi kea kns kbl kr0 kr1 kr2 kr3 kr4 kr5 klr kp0 kp1 kp2 kp3) (CW ad cI kc ksv kbc kit' kln ken kla kfi kea kns kbl kr0' kr1' kr2' kr3' kr4' kr5' klr kp0 kp1 kp2 kp3) (some (.int r)) := by
  refine nd_ofCi (by decide) (Nat.le_of_ble_eq_true rfl) (fun p e s m args below meth c_ ls A Q hx hb hml hown hts hl hP hK hD hS hA hN hret => ?_)
  have hown : s.vm.findClass RX8 = some m.cls := hown
  have hl : lv_has ls 2 [(0, .ref (ad 0))] := hl
  have hret : ∀ (z0 : Int32) (z1 : (Nat → Int32)) (z2 : Int32) (z3 : Int32) (z4 : Int32) (z5 : Int32) (z6 : Int32) (z7 : Int32) {H : Heap} {locs : List Loc} {pc : Nat} {ls : Array Slot}, some (z0, z1, z2, z3, z4, z5, z6, z7) = some (r, kit', kr0', kr1', kr2', kr3', kr4', kr5') → va_P D vwCl (CW ad cI kc ksv kbc z1 kln ken kla kfi kea kns kbl z2 z3 z4 z5 z6 z7 klr kp0 kp1 kp2 kp3) H → va_S A s.heap H locs → decode cX8_readBuffer pc = .ok (.ireturn, 1) → W p l e ⟨4, 0, 0, 84⟩ s m args below meth c_ H locs 0 0 Q (F0 m pc ls [.int z0]) := by
    intro z0 z1 z2 z3 z4 z5 z6 z7 H locs pc ls h hP hS hd
    cases h
    exact hret hP hS hd
  rw [fX8_readBuffer] at hs
  refine lv_aload_n hx hb dX8_readBuffer_0 rfl (lv_at hl 0 rfl) ?_
  refine gf_X8_26 hx hb hts hown hK hP 0 rfl rfl dX8_readBuffer_1 ?_
  obtain ⟨q1, eq1, hs⟩ := ob hs
  refine nd_callV (As := []) (rest := []) (st1 := []) hx hb hml hown hts hl hP hK hD hS hA hN (mX6_restart eq1) iv_X6_restart wd_169 3 rfl rfl rfl rfl ⟨Nat.le_of_ble_eq_true rfl, Nat.le_of_ble_eq_true rfl⟩ (Nat.le_of_ble_eq_true rfl) ⟨Nat.zero_le _, Nat.zero_le _⟩ dX8_readBuffer_4 rfl rfl (fun H locs hP hD hS => ?_)
  refine lv_iconst (v := (0 : Int32)) hx hb dX8_readBuffer_7 (by decide) ?_
  refine lv_istore_n (lv' := [(1, .int (0 : Int32)), (0, .ref (ad 0))]) hx hb dX8_readBuffer_8 rfl hl (by decide) rfl (fun ls hl => ?_)
  have L9 : ∀ (n9 : Nat) (k9 : (Nat → Int32) → Int32 → Int32 → Int32 → Int32 → Int32 → Int32 → Option (Int32 × (Nat → Int32) × Int32 × Int32 × Int32 × Int32 × Int32 × Int32)) (v1_7 : Int32) (kit_7 : (Nat → Int32)) (kr0_7 : Int32) (kr1_7 : Int32) (kr2_7 : Int32) (kr3_7 : Int32) (kr4_7 : Int32) (kr5_7 : Int32) (H : Heap) (locs : List Loc) (ls : Array Slot), lv_has ls 2 [(0, .ref (ad 0)), (1, .int v1_7)] → va_P D vwCl (CW ad cI kc ksv kbc kit_7 kln ken kla kfi kea kns kbl kr0_7 kr1_7 kr2_7 kr3_7 kr4_7 kr5_7 klr kp0 kp1 kp2 kp3) H → va_S A s.heap H locs → fX8_readBuffer_9 k9 kbc kbl n9 v1_7 kit_7 kr0_7 kr1_7 kr2_7 kr3_7 kr4_7 kr5_7 = some (r, kit', kr0', kr1', kr2', kr3', kr4', kr5') → (∀ (kit_u7 : (Nat → Int32)) (kr0_u7 : Int32) (kr1_u7 : Int32) (kr2_u7 : Int32) (kr3_u7 : Int32) (kr4_u7 : Int32) (kr5_u7 : Int32) (H : Heap) (locs : List Loc) (ls : Array Slot), lv_has ls 2 [(0, .ref (ad 0))] → va_P D vwCl (CW ad cI kc ksv kbc kit_u7 kln ken kla kfi kea kns kbl kr0_u7 kr1_u7 kr2_u7 kr3_u7 kr4_u7 kr5_u7 klr kp0 kp1 kp2 kp3) H → va_S A s.heap H locs → k9 kit_u7 kr0_u7 kr1_u7 kr2_u7 kr3_u7 kr4_u7 kr5_u7 = some (r, kit', kr0', kr1', kr2', kr3', kr4', kr5') → W p l e ⟨4, 0, 0, 84⟩ s m args below meth c_ H locs 0 0 Q (F0 m 46 ls [])) → W p l e ⟨4, 0, 0, 84⟩ s m args below meth c_ H locs 0 0 Q (F0 m 9 ls []) := by
    intro n9
    induction n9 with
    | zero =>
      intro k9 v1_7 kit_7 kr0_7 kr1_7 kr2_7 kr3_7 kr4_7 kr5_7 H locs ls hl hP hS hs hk9
      rw [fX8_readBuffer_9] at hs
      cases hs
    | succ n9 ih9 =>
      intro k9 v1_7 kit_7 kr0_7 kr1_7 kr2_7 kr3_7 kr4_7 kr5_7 H locs ls hl hP hS hs hk9
      rw [fX8_readBuffer_9] at hs
      have hD : va_D A (CW ad cI kc ksv kbc kit_7 kln ken kla kfi kea kns kbl kr0_7 kr1_7 kr2_7 kr3_7 kr4_7 kr5_7 klr kp0 kp1 kp2 kp3) := nd_DD hD rfl
      refine lv_iload_n hx hb dX8_readBuffer_9 rfl (lv_at hl 1 rfl) ?_
      refine lv_aload_n hx hb dX8_readBuffer_10 rfl (lv_at hl 0 rfl) ?_
      refine gf_X8_19 hx hb hts hown hK hP 0 rfl rfl dX8_readBuffer_11 ?_
      obtain ⟨q8, eq8, hs⟩ := ob hs
      refine nd_callV (As := []) (rest := [.int v1_7]) (st1 := [.int q8, .int v1_7]) hx hb hml hown hts hl hP hK hD hS hA hN (mX1_length eq8) iv_X1_length wd_177 2 rfl rfl rfl rfl ⟨Nat.le_of_ble_eq_true rfl, Nat.le_of_ble_eq_true rfl⟩ (Nat.le_of_ble_eq_true rfl) ⟨Nat.zero_le _, Nat.zero_le _⟩ dX8_readBuffer_14 rfl rfl (fun H locs hP hD hS => ?_)
      refine lv_icmp_ge (tgt := 46) hx hb dX8_readBuffer_17 (by decide) (fun b9 => ?_) (fun b9 => ?_)
      · have hs := ite_t hs b9
        exact hk9 kit_7 kr0_7 kr1_7 kr2_7 kr3_7 kr4_7 kr5_7 _ _ _ (lv_sub hl [0] rfl) hP hS hs
      · have hs := ite_f hs b9
        refine lv_aload_n hx hb dX8_readBuffer_20 rfl (lv_at hl 0 rfl) ?_
        refine gf_X8_26 hx hb hts hown hK hP 0 rfl rfl dX8_readBuffer_21 ?_
        refine lv_aload_n hx hb dX8_readBuffer_24 rfl (lv_at hl 0 rfl) ?_
        refine gf_X8_19 hx hb hts hown hK hP 0 rfl rfl dX8_readBuffer_25 ?_
        refine lv_iload_n hx hb dX8_readBuffer_28 rfl (lv_at hl 1 rfl) ?_
        obtain ⟨q10, eq10, hs⟩ := ob hs
        refine nd_callV (As := [.int v1_7]) (rest := [.ref (ad 3)]) (st1 := [.int q10, .ref (ad 3)]) hx hb hml hown hts hl hP hK hD hS hA hN (mX1_codeAt eq10) iv_X1_codeAt wd_181 2 rfl rfl rfl rfl ⟨Nat.le_of_ble_eq_true rfl, Nat.le_of_ble_eq_true rfl⟩ (Nat.le_of_ble_eq_true rfl) ⟨Nat.zero_le _, Nat.zero_le _⟩ dX8_readBuffer_29 rfl rfl (fun H locs hP hD hS => ?_)
        obtain ⟨q11, eq11, hs⟩ := ob hs
        refine nd_callV (As := [.int q10]) (rest := []) (st1 := [.int q11.1]) hx hb hml hown hts hl hP hK hD hS hA hN (mX6_accept eq11) iv_X6_accept wd_185 3 rfl rfl rfl rfl ⟨Nat.le_of_ble_eq_true rfl, Nat.le_of_ble_eq_true rfl⟩ (Nat.le_of_ble_eq_true rfl) ⟨Nat.zero_le _, Nat.zero_le _⟩ dX8_readBuffer_32 rfl rfl (fun H locs hP hD hS => ?_)
        refine lv_if_ne (tgt := 40) hx hb dX8_readBuffer_35 (by decide) (fun b12 => ?_) (fun b12 => ?_)
        · have hs := ite_f hs b12
          refine lv_iinc (v := v1_7 + (1 : Int32)) (lv' := [(1, .int (v1_7 + (1 : Int32))), (0, .ref (ad 0))]) hx hb dX8_readBuffer_40 hl (k := 1) rfl rfl (by decide) rfl (fun ls hl => ?_)
          refine lv_goto (tgt := 9) hx hb dX8_readBuffer_43 (by decide) ?_
          exact ih9 k9 (v1_7 + (1 : Int32)) q11.2.1 q11.2.2.1 q11.2.2.2.1 q11.2.2.2.2.1 q11.2.2.2.2.2.1 q11.2.2.2.2.2.2.1 q11.2.2.2.2.2.2.2 _ _ _ (lv_sub hl [1, 0] rfl) hP hS hs hk9
        · have hs := ite_t hs b12
          refine lv_iload_n hx hb dX8_readBuffer_38 rfl (lv_at hl 1 rfl) ?_
          exact hret _ _ _ _ _ _ _ _ hs hP hS dX8_readBuffer_39
  refine L9 LF _ (0 : Int32) kit q1.1 q1.2.1 q1.2.2.1 kr3 kr4 q1.2.2.2 _ _ _ (lv_sub hl [1, 0] rfl) hP hS hs (fun kit_u7 kr0_u7 kr1_u7 kr2_u7 kr3_u7 kr4_u7 kr5_u7 H locs ls hl hP hS hs => ?_)
  have hD : va_D A (CW ad cI kc ksv kbc kit_u7 kln ken kla kfi kea kns kbl kr0_u7 kr1_u7 kr2_u7 kr3_u7 kr4_u7 kr5_u7 klr kp0 kp1 kp2 kp3) := nd_DD hD rfl
  refine lv_aload_n hx hb dX8_readBuffer_46 rfl (lv_at hl 0 rfl) ?_
  refine gf_X8_19 hx hb hts hown hK hP 0 rfl rfl dX8_readBuffer_47 ?_
  obtain ⟨q13, eq13, hs⟩ := ob hs
  refine nd_callV (As := []) (rest := []) (st1 := [.int q13]) hx hb hml hown hts hl hP hK hD hS hA hN (mX1_length eq13) iv_X1_length wd_177 2 rfl rfl rfl rfl ⟨Nat.le_of_ble_eq_true rfl, Nat.le_of_ble_eq_true rfl⟩ (Nat.le_of_ble_eq_true rfl) ⟨Nat.zero_le _, Nat.zero_le _⟩ dX8_readBuffer_50 rfl rfl (fun H locs hP hD hS => ?_)
  exact hret _ _ _ _ _ _ _ _ hs hP hS dX8_readBuffer_53
def tX8_bufferTellsReceipts_0 : List (Nat × Instr × Nat) := [(0, .aload_n 0, 1), (1, .invokevirtual 142, 3), (4, .aload_n 0, 1), (5, .getfield 19, 3), (8, .invokevirtual 134, 3), (11, .if_icmp .ne 17, 3), (14, .aload_n 0, 1), (15, .getfield 26, 3), (18, .invokevirtual 265, 3), (21, .ifCond .eq 7, 3), (24, .iconst 1, 1), (25, .goto 4, 3), (28, .iconst 0, 1), (29, .ireturn, 1)]
theorem tX8_bufferTellsReceipts_0_ok : tX8_bufferTellsReceipts_0.all (fun q => decide (decode cX8_bufferTellsReceipts q.1 = .ok q.2)) = true := by decide +kernel
theorem dX8_bufferTellsReceipts_0 : decode cX8_bufferTellsReceipts 0 = .ok (.aload_n 0, 1) := td tX8_bufferTellsReceipts_0_ok 0 (q := (0, .aload_n 0, 1)) rfl
theorem dX8_bufferTellsReceipts_1 : decode cX8_bufferTellsReceipts 1 = .ok (.invokevirtual 142, 3) := td tX8_bufferTellsReceipts_0_ok 1 (q := (1, .invokevirtual 142, 3)) rfl
theorem dX8_bufferTellsReceipts_4 : decode cX8_bufferTellsReceipts 4 = .ok (.aload_n 0, 1) := td tX8_bufferTellsReceipts_0_ok 2 (q := (4, .aload_n 0, 1)) rfl
theorem dX8_bufferTellsReceipts_5 : decode cX8_bufferTellsReceipts 5 = .ok (.getfield 19, 3) := td tX8_bufferTellsReceipts_0_ok 3 (q := (5, .getfield 19, 3)) rfl
theorem dX8_bufferTellsReceipts_8 : decode cX8_bufferTellsReceipts 8 = .ok (.invokevirtual 134, 3) := td tX8_bufferTellsReceipts_0_ok 4 (q := (8, .invokevirtual 134, 3)) rfl
theorem dX8_bufferTellsReceipts_11 : decode cX8_bufferTellsReceipts 11 = .ok (.if_icmp .ne 17, 3) := td tX8_bufferTellsReceipts_0_ok 5 (q := (11, .if_icmp .ne 17, 3)) rfl
theorem dX8_bufferTellsReceipts_14 : decode cX8_bufferTellsReceipts 14 = .ok (.aload_n 0, 1) := td tX8_bufferTellsReceipts_0_ok 6 (q := (14, .aload_n 0, 1)) rfl
theorem dX8_bufferTellsReceipts_15 : decode cX8_bufferTellsReceipts 15 = .ok (.getfield 26, 3) := td tX8_bufferTellsReceipts_0_ok 7 (q := (15, .getfield 26, 3)) rfl
theorem dX8_bufferTellsReceipts_18 : decode cX8_bufferTellsReceipts 18 = .ok (.invokevirtual 265, 3) := td tX8_bufferTellsReceipts_0_ok 8 (q := (18, .invokevirtual 265, 3)) rfl
theorem dX8_bufferTellsReceipts_21 : decode cX8_bufferTellsReceipts 21 = .ok (.ifCond .eq 7, 3) := td tX8_bufferTellsReceipts_0_ok 9 (q := (21, .ifCond .eq 7, 3)) rfl
theorem dX8_bufferTellsReceipts_24 : decode cX8_bufferTellsReceipts 24 = .ok (.iconst 1, 1) := td tX8_bufferTellsReceipts_0_ok 10 (q := (24, .iconst 1, 1)) rfl
theorem dX8_bufferTellsReceipts_25 : decode cX8_bufferTellsReceipts 25 = .ok (.goto 4, 3) := td tX8_bufferTellsReceipts_0_ok 11 (q := (25, .goto 4, 3)) rfl
theorem dX8_bufferTellsReceipts_28 : decode cX8_bufferTellsReceipts 28 = .ok (.iconst 0, 1) := td tX8_bufferTellsReceipts_0_ok 12 (q := (28, .iconst 0, 1)) rfl
theorem dX8_bufferTellsReceipts_29 : decode cX8_bufferTellsReceipts 29 = .ok (.ireturn, 1) := td tX8_bufferTellsReceipts_0_ok 13 (q := (29, .ireturn, 1)) rfl
def fX8_bufferTellsReceipts (kbc : (Nat → Int32)) (kit : (Nat → Int32)) (kbl : Int32) (kr0 : Int32) (kr1 : Int32) (kr2 : Int32) (kr3 : Int32) (kr4 : Int32) (kr5 : Int32) : Option (Int32 × (Nat → Int32) × Int32 × Int32 × Int32 × Int32 × Int32 × Int32) :=
  (Option.bind (fX8_readBuffer kbc kit kbl kr0 kr1 kr2 kr3 kr4 kr5) (fun q1 => (Option.bind (fX1_length kbl) (fun q2 => (if q1.1 = q2 then (Option.bind (fX6_isAtEndOfReceipt q1.2.2.1 q1.2.2.2.2.1) (fun q4 => (if q4 = 0 then (some ((0 : Int32), q1.2.1, q1.2.2.1, q1.2.2.2.1, q1.2.2.2.2.1, q1.2.2.2.2.2.1, q1.2.2.2.2.2.2.1, q1.2.2.2.2.2.2.2)) else (some ((1 : Int32), q1.2.1, q1.2.2.1, q1.2.2.2.1, q1.2.2.2.2.1, q1.2.2.2.2.2.1, q1.2.2.2.2.2.2.1, q1.2.2.2.2.2.2.2))))) else (some ((0 : Int32), q1.2.1, q1.2.2.1, q1.2.2.2.1, q1.2.2.2.2.1, q1.2.2.2.2.2.1, q1.2.2.2.2.2.2.1, q1.2.2.2.2.2.2.2)))))))
set_option maxHeartbeats 4000000 in
set_option maxRecDepth 100000 in
theorem mX8_bufferTellsReceipts {l : Launch} {D : va_G} {ad : Nat → Nat} {cI : ClassId} {kc : (Nat → Int32)} {ksv : (Nat → Int32)} {kbc : (Nat → Int32)} {kit : (Nat → Int32)} {kln : (Nat → Int32)} {ken : (Nat → Int32)} {kla : (Nat → Int32)} {kfi : (Nat → Int32)} {kea : (Nat → Int32)} {kns : Int32} {kbl : Int32} {kr0 : Int32} {kr1 : Int32} {kr2 : Int32} {kr3 : Int32} {kr4 : Int32} {kr5 : Int32} {klr : Int32} {kp0 : Int32} {kp1 : Int32} {kp2 : Int32} {kp3 : Int32} {r : Int32} {kit' : (Nat → Int32)} {kr0' : Int32} {kr1' : Int32} {kr2' : Int32} {kr3' : Int32} {kr4' : Int32} {kr5' : Int32} (hs : fX8_bufferTellsReceipts kbc kit kbl kr0 kr1 kr2 kr3 kr4 kr5 = some (r, kit', kr0', kr1', kr2', kr3', kr4', kr5')) : nd_C l yX8_bufferTellsReceipts cX8_bufferTellsReceipts 1 (some .boolean) 5 105 D [(cI, .int)] [.ref (ad 0)] (CW ad cI kc ksv kbc kit kln ken kla kfi kea kns kbl kr0 kr1 kr2 kr3 kr4 kr5 klr kp0 kp1 kp2 kp3) (CW ad cI kc ksv kbc kit' kln ken kla kfi kea kns kbl kr0' kr1' kr2' kr3' kr4' kr5' klr kp0 kp1 kp2 kp3) (some (.int r)) := by
  refine nd_ofCz (by decide) (Nat.le_of_ble_eq_true rfl) (fun p e s m args below meth c_ ls A Q hx hb hml hown hts hl hP hK hD hS hA hN hret => ?_)
  have hown : s.vm.findClass RX8 = some m.cls := hown
  have hl : lv_has ls 1 [(0, .ref (ad 0))] := hl
  have hret : ∀ (z0 : Int32) (z1 : (Nat → Int32)) (z2 : Int32) (z3 : Int32) (z4 : Int32) (z5 : Int32) (z6 : Int32) (z7 : Int32) {H : Heap} {locs : List Loc} {pc : Nat} {ls : Array Slot}, some (z0, z1, z2, z3, z4, z5, z6, z7) = some (r, kit', kr0', kr1', kr2', kr3', kr4', kr5') → (z0 = 0 ∨ z0 = 1) → va_P D vwCl (CW ad cI kc ksv kbc z1 kln ken kla kfi kea kns kbl z2 z3 z4 z5 z6 z7 klr kp0 kp1 kp2 kp3) H → va_S A s.heap H locs → decode cX8_bufferTellsReceipts pc = .ok (.ireturn, 1) → W p l e ⟨5, 0, 0, 105⟩ s m args below meth c_ H locs 0 0 Q (F0 m pc ls [.int z0]) := by
    intro z0 z1 z2 z3 z4 z5 z6 z7 H locs pc ls h hz hP hS hd
    cases h
    exact hret hz hP hS hd
  rw [fX8_bufferTellsReceipts] at hs
  refine lv_aload_n hx hb dX8_bufferTellsReceipts_0 rfl (lv_at hl 0 rfl) ?_
  obtain ⟨q1, eq1, hs⟩ := ob hs
  refine nd_callV (As := []) (rest := []) (st1 := [.int q1.1]) hx hb hml hown hts hl hP hK hD hS hA hN (mX8_readBuffer eq1) iv_X8_readBuffer wd_165 0 rfl rfl rfl rfl ⟨Nat.le_of_ble_eq_true rfl, Nat.le_of_ble_eq_true rfl⟩ (Nat.le_of_ble_eq_true rfl) ⟨Nat.zero_le _, Nat.zero_le _⟩ dX8_bufferTellsReceipts_1 rfl rfl (fun H locs hP hD hS => ?_)
  refine lv_aload_n hx hb dX8_bufferTellsReceipts_4 rfl (lv_at hl 0 rfl) ?_
  refine gf_X8_19 hx hb hts hown hK hP 0 rfl rfl dX8_bufferTellsReceipts_5 ?_
  obtain ⟨q2, eq2, hs⟩ := ob hs
  refine nd_callV (As := []) (rest := [.int q1.1]) (st1 := [.int q2, .int q1.1]) hx hb hml hown hts hl hP hK hD hS hA hN (mX1_length eq2) iv_X1_length wd_177 2 rfl rfl rfl rfl ⟨Nat.le_of_ble_eq_true rfl, Nat.le_of_ble_eq_true rfl⟩ (Nat.le_of_ble_eq_true rfl) ⟨Nat.zero_le _, Nat.zero_le _⟩ dX8_bufferTellsReceipts_8 rfl rfl (fun H locs hP hD hS => ?_)
  refine lv_icmp_ne (tgt := 28) hx hb dX8_bufferTellsReceipts_11 (by decide) (fun b3 => ?_) (fun b3 => ?_)
  · have hs := ite_f hs b3
    refine lv_iconst (v := (0 : Int32)) hx hb dX8_bufferTellsReceipts_28 (by decide) ?_
    exact hret _ _ _ _ _ _ _ _ hs (Or.inl rfl) hP hS dX8_bufferTellsReceipts_29
  · have hs := ite_t hs b3
    refine lv_aload_n hx hb dX8_bufferTellsReceipts_14 rfl (lv_at hl 0 rfl) ?_
    refine gf_X8_26 hx hb hts hown hK hP 0 rfl rfl dX8_bufferTellsReceipts_15 ?_
    obtain ⟨q4, eq4, hs⟩ := ob hs
    refine nd_callV (As := []) (rest := []) (st1 := [.int q4]) hx hb hml hown hts hl hP hK hD hS hA hN (mX6_isAtEndOfReceipt eq4) iv_X6_isAtEndOfReceipt wd_214 3 rfl rfl rfl rfl ⟨Nat.le_of_ble_eq_true rfl, Nat.le_of_ble_eq_true rfl⟩ (Nat.le_of_ble_eq_true rfl) ⟨Nat.zero_le _, Nat.zero_le _⟩ dX8_bufferTellsReceipts_18 rfl rfl (fun H locs hP hD hS => ?_)
    refine lv_if_eq (tgt := 28) hx hb dX8_bufferTellsReceipts_21 (by decide) (fun b5 => ?_) (fun b5 => ?_)
    · have hs := ite_t hs b5
      refine lv_iconst (v := (0 : Int32)) hx hb dX8_bufferTellsReceipts_28 (by decide) ?_
      exact hret _ _ _ _ _ _ _ _ hs (Or.inl rfl) hP hS dX8_bufferTellsReceipts_29
    · have hs := ite_f hs b5
      refine lv_iconst (v := (1 : Int32)) hx hb dX8_bufferTellsReceipts_24 (by decide) ?_
      refine lv_goto (tgt := 29) hx hb dX8_bufferTellsReceipts_25 (by decide) ?_
      exact hret _ _ _ _ _ _ _ _ hs (Or.inr rfl) hP hS dX8_bufferTellsReceipts_29
def tX8_addRead_0 : List (Nat × Instr × Nat) := [(0, .aload_n 0, 1), (1, .getfield 12, 3), (4, .iload_n 1, 1), (5, .invokevirtual 88, 3), (8, .istore_n 2, 1), (9, .aload_n 0, 1), (10, .getfield 26, 3), (13, .invokevirtual 271, 3), (16, .istore_n 3, 1), (17, .iload_n 2, 1), (18, .bipush 6, 2), (20, .if_icmp .ge 37, 3), (23, .iload_n 3, 1), (24, .aload_n 0, 1), (25, .getfield 12, 3), (28, .iload_n 1, 1), (29, .invokevirtual 274, 3), (32, .if_icmp .lt 25, 3), (35, .iload_n 3, 1), (36, .aload_n 0, 1), (37, .getfield 12, 3), (40, .aload_n 0, 1), (41, .getfield 12, 3), (44, .bipush 31, 2), (46, .iload_n 1, 1), (47, .iadd, 1), (48, .invokevirtual 106, 3), (51, .invokevirtual 277, 3), (54, .if_icmp .le 5, 3), (57, .iconst 0, 1), (58, .ireturn, 1), (59, .iload_n 1, 1), (60, .iload_n 2, 1), (61, .invokestatic 97, 3), (64, .istore 4, 2), (66, .aload_n 0, 1), (67, .getfield 12, 3), (70, .bipush 51, 2), (72, .iload 4, 2), (74, .iadd, 1), (75, .iload_n 3, 1), (76, .invokevirtual 93, 3), (79, .aload_n 0, 1), (80, .getfield 12, 3), (83, .bipush 111, 2), (85, .iload 4, 2), (87, .iadd, 1), (88, .aload_n 0, 1), (89, .getfield 26, 3), (92, .invokevirtual 280, 3), (95, .invokevirtual 93, 3), (98, .aload_n 0, 1), (99, .getfield 12, 3), (102, .sipush 171, 3), (105, .iload 4, 2), (107, .iadd, 1), (108, .aload_n 0, 1), (109, .getfield 26, 3), (112, .invokevirtual 283, 3), (115, .invokevirtual 93, 3)]
theorem tX8_addRead_0_ok : tX8_addRead_0.all (fun q => decide (decode cX8_addRead q.1 = .ok q.2)) = true := by decide +kernel
theorem dX8_addRead_0 : decode cX8_addRead 0 = .ok (.aload_n 0, 1) := td tX8_addRead_0_ok 0 (q := (0, .aload_n 0, 1)) rfl
theorem dX8_addRead_1 : decode cX8_addRead 1 = .ok (.getfield 12, 3) := td tX8_addRead_0_ok 1 (q := (1, .getfield 12, 3)) rfl
theorem dX8_addRead_4 : decode cX8_addRead 4 = .ok (.iload_n 1, 1) := td tX8_addRead_0_ok 2 (q := (4, .iload_n 1, 1)) rfl
theorem dX8_addRead_5 : decode cX8_addRead 5 = .ok (.invokevirtual 88, 3) := td tX8_addRead_0_ok 3 (q := (5, .invokevirtual 88, 3)) rfl
theorem dX8_addRead_8 : decode cX8_addRead 8 = .ok (.istore_n 2, 1) := td tX8_addRead_0_ok 4 (q := (8, .istore_n 2, 1)) rfl
theorem dX8_addRead_9 : decode cX8_addRead 9 = .ok (.aload_n 0, 1) := td tX8_addRead_0_ok 5 (q := (9, .aload_n 0, 1)) rfl
theorem dX8_addRead_10 : decode cX8_addRead 10 = .ok (.getfield 26, 3) := td tX8_addRead_0_ok 6 (q := (10, .getfield 26, 3)) rfl
theorem dX8_addRead_13 : decode cX8_addRead 13 = .ok (.invokevirtual 271, 3) := td tX8_addRead_0_ok 7 (q := (13, .invokevirtual 271, 3)) rfl
theorem dX8_addRead_16 : decode cX8_addRead 16 = .ok (.istore_n 3, 1) := td tX8_addRead_0_ok 8 (q := (16, .istore_n 3, 1)) rfl
theorem dX8_addRead_17 : decode cX8_addRead 17 = .ok (.iload_n 2, 1) := td tX8_addRead_0_ok 9 (q := (17, .iload_n 2, 1)) rfl
theorem dX8_addRead_18 : decode cX8_addRead 18 = .ok (.bipush 6, 2) := td tX8_addRead_0_ok 10 (q := (18, .bipush 6, 2)) rfl
theorem dX8_addRead_20 : decode cX8_addRead 20 = .ok (.if_icmp .ge 37, 3) := td tX8_addRead_0_ok 11 (q := (20, .if_icmp .ge 37, 3)) rfl
theorem dX8_addRead_23 : decode cX8_addRead 23 = .ok (.iload_n 3, 1) := td tX8_addRead_0_ok 12 (q := (23, .iload_n 3, 1)) rfl
theorem dX8_addRead_24 : decode cX8_addRead 24 = .ok (.aload_n 0, 1) := td tX8_addRead_0_ok 13 (q := (24, .aload_n 0, 1)) rfl
theorem dX8_addRead_25 : decode cX8_addRead 25 = .ok (.getfield 12, 3) := td tX8_addRead_0_ok 14 (q := (25, .getfield 12, 3)) rfl
theorem dX8_addRead_28 : decode cX8_addRead 28 = .ok (.iload_n 1, 1) := td tX8_addRead_0_ok 15 (q := (28, .iload_n 1, 1)) rfl
theorem dX8_addRead_29 : decode cX8_addRead 29 = .ok (.invokevirtual 274, 3) := td tX8_addRead_0_ok 16 (q := (29, .invokevirtual 274, 3)) rfl
theorem dX8_addRead_32 : decode cX8_addRead 32 = .ok (.if_icmp .lt 25, 3) := td tX8_addRead_0_ok 17 (q := (32, .if_icmp .lt 25, 3)) rfl
theorem dX8_addRead_35 : decode cX8_addRead 35 = .ok (.iload_n 3, 1) := td tX8_addRead_0_ok 18 (q := (35, .iload_n 3, 1)) rfl
theorem dX8_addRead_36 : decode cX8_addRead 36 = .ok (.aload_n 0, 1) := td tX8_addRead_0_ok 19 (q := (36, .aload_n 0, 1)) rfl
theorem dX8_addRead_37 : decode cX8_addRead 37 = .ok (.getfield 12, 3) := td tX8_addRead_0_ok 20 (q := (37, .getfield 12, 3)) rfl
theorem dX8_addRead_40 : decode cX8_addRead 40 = .ok (.aload_n 0, 1) := td tX8_addRead_0_ok 21 (q := (40, .aload_n 0, 1)) rfl
theorem dX8_addRead_41 : decode cX8_addRead 41 = .ok (.getfield 12, 3) := td tX8_addRead_0_ok 22 (q := (41, .getfield 12, 3)) rfl
theorem dX8_addRead_44 : decode cX8_addRead 44 = .ok (.bipush 31, 2) := td tX8_addRead_0_ok 23 (q := (44, .bipush 31, 2)) rfl
theorem dX8_addRead_46 : decode cX8_addRead 46 = .ok (.iload_n 1, 1) := td tX8_addRead_0_ok 24 (q := (46, .iload_n 1, 1)) rfl
theorem dX8_addRead_47 : decode cX8_addRead 47 = .ok (.iadd, 1) := td tX8_addRead_0_ok 25 (q := (47, .iadd, 1)) rfl
theorem dX8_addRead_48 : decode cX8_addRead 48 = .ok (.invokevirtual 106, 3) := td tX8_addRead_0_ok 26 (q := (48, .invokevirtual 106, 3)) rfl
theorem dX8_addRead_51 : decode cX8_addRead 51 = .ok (.invokevirtual 277, 3) := td tX8_addRead_0_ok 27 (q := (51, .invokevirtual 277, 3)) rfl
theorem dX8_addRead_54 : decode cX8_addRead 54 = .ok (.if_icmp .le 5, 3) := td tX8_addRead_0_ok 28 (q := (54, .if_icmp .le 5, 3)) rfl
theorem dX8_addRead_57 : decode cX8_addRead 57 = .ok (.iconst 0, 1) := td tX8_addRead_0_ok 29 (q := (57, .iconst 0, 1)) rfl
theorem dX8_addRead_58 : decode cX8_addRead 58 = .ok (.ireturn, 1) := td tX8_addRead_0_ok 30 (q := (58, .ireturn, 1)) rfl
theorem dX8_addRead_59 : decode cX8_addRead 59 = .ok (.iload_n 1, 1) := td tX8_addRead_0_ok 31 (q := (59, .iload_n 1, 1)) rfl
theorem dX8_addRead_60 : decode cX8_addRead 60 = .ok (.iload_n 2, 1) := td tX8_addRead_0_ok 32 (q := (60, .iload_n 2, 1)) rfl
theorem dX8_addRead_61 : decode cX8_addRead 61 = .ok (.invokestatic 97, 3) := td tX8_addRead_0_ok 33 (q := (61, .invokestatic 97, 3)) rfl
theorem dX8_addRead_64 : decode cX8_addRead 64 = .ok (.istore 4, 2) := td tX8_addRead_0_ok 34 (q := (64, .istore 4, 2)) rfl
theorem dX8_addRead_66 : decode cX8_addRead 66 = .ok (.aload_n 0, 1) := td tX8_addRead_0_ok 35 (q := (66, .aload_n 0, 1)) rfl
theorem dX8_addRead_67 : decode cX8_addRead 67 = .ok (.getfield 12, 3) := td tX8_addRead_0_ok 36 (q := (67, .getfield 12, 3)) rfl
theorem dX8_addRead_70 : decode cX8_addRead 70 = .ok (.bipush 51, 2) := td tX8_addRead_0_ok 37 (q := (70, .bipush 51, 2)) rfl
theorem dX8_addRead_72 : decode cX8_addRead 72 = .ok (.iload 4, 2) := td tX8_addRead_0_ok 38 (q := (72, .iload 4, 2)) rfl
theorem dX8_addRead_74 : decode cX8_addRead 74 = .ok (.iadd, 1) := td tX8_addRead_0_ok 39 (q := (74, .iadd, 1)) rfl
theorem dX8_addRead_75 : decode cX8_addRead 75 = .ok (.iload_n 3, 1) := td tX8_addRead_0_ok 40 (q := (75, .iload_n 3, 1)) rfl
theorem dX8_addRead_76 : decode cX8_addRead 76 = .ok (.invokevirtual 93, 3) := td tX8_addRead_0_ok 41 (q := (76, .invokevirtual 93, 3)) rfl
theorem dX8_addRead_79 : decode cX8_addRead 79 = .ok (.aload_n 0, 1) := td tX8_addRead_0_ok 42 (q := (79, .aload_n 0, 1)) rfl
theorem dX8_addRead_80 : decode cX8_addRead 80 = .ok (.getfield 12, 3) := td tX8_addRead_0_ok 43 (q := (80, .getfield 12, 3)) rfl
theorem dX8_addRead_83 : decode cX8_addRead 83 = .ok (.bipush 111, 2) := td tX8_addRead_0_ok 44 (q := (83, .bipush 111, 2)) rfl
theorem dX8_addRead_85 : decode cX8_addRead 85 = .ok (.iload 4, 2) := td tX8_addRead_0_ok 45 (q := (85, .iload 4, 2)) rfl
theorem dX8_addRead_87 : decode cX8_addRead 87 = .ok (.iadd, 1) := td tX8_addRead_0_ok 46 (q := (87, .iadd, 1)) rfl
theorem dX8_addRead_88 : decode cX8_addRead 88 = .ok (.aload_n 0, 1) := td tX8_addRead_0_ok 47 (q := (88, .aload_n 0, 1)) rfl
theorem dX8_addRead_89 : decode cX8_addRead 89 = .ok (.getfield 26, 3) := td tX8_addRead_0_ok 48 (q := (89, .getfield 26, 3)) rfl
theorem dX8_addRead_92 : decode cX8_addRead 92 = .ok (.invokevirtual 280, 3) := td tX8_addRead_0_ok 49 (q := (92, .invokevirtual 280, 3)) rfl
theorem dX8_addRead_95 : decode cX8_addRead 95 = .ok (.invokevirtual 93, 3) := td tX8_addRead_0_ok 50 (q := (95, .invokevirtual 93, 3)) rfl
theorem dX8_addRead_98 : decode cX8_addRead 98 = .ok (.aload_n 0, 1) := td tX8_addRead_0_ok 51 (q := (98, .aload_n 0, 1)) rfl
theorem dX8_addRead_99 : decode cX8_addRead 99 = .ok (.getfield 12, 3) := td tX8_addRead_0_ok 52 (q := (99, .getfield 12, 3)) rfl
theorem dX8_addRead_102 : decode cX8_addRead 102 = .ok (.sipush 171, 3) := td tX8_addRead_0_ok 53 (q := (102, .sipush 171, 3)) rfl
theorem dX8_addRead_105 : decode cX8_addRead 105 = .ok (.iload 4, 2) := td tX8_addRead_0_ok 54 (q := (105, .iload 4, 2)) rfl
theorem dX8_addRead_107 : decode cX8_addRead 107 = .ok (.iadd, 1) := td tX8_addRead_0_ok 55 (q := (107, .iadd, 1)) rfl
theorem dX8_addRead_108 : decode cX8_addRead 108 = .ok (.aload_n 0, 1) := td tX8_addRead_0_ok 56 (q := (108, .aload_n 0, 1)) rfl
theorem dX8_addRead_109 : decode cX8_addRead 109 = .ok (.getfield 26, 3) := td tX8_addRead_0_ok 57 (q := (109, .getfield 26, 3)) rfl
theorem dX8_addRead_112 : decode cX8_addRead 112 = .ok (.invokevirtual 283, 3) := td tX8_addRead_0_ok 58 (q := (112, .invokevirtual 283, 3)) rfl
theorem dX8_addRead_115 : decode cX8_addRead 115 = .ok (.invokevirtual 93, 3) := td tX8_addRead_0_ok 59 (q := (115, .invokevirtual 93, 3)) rfl
def tX8_addRead_1 : List (Nat × Instr × Nat) := [(118, .aload_n 0, 1), (119, .getfield 12, 3), (122, .sipush 231, 3), (125, .iload 4, 2), (127, .iadd, 1), (128, .aload_n 0, 1), (129, .getfield 26, 3), (132, .invokevirtual 286, 3), (135, .invokevirtual 93, 3), (138, .iconst 0, 1), (139, .istore 5, 2), (141, .iload 5, 2), (143, .aload_n 0, 1), (144, .getfield 26, 3), (147, .invokevirtual 286, 3), (150, .if_icmp .ge 36, 3), (153, .aload_n 0, 1), (154, .getfield 12, 3), (157, .sipush 291, 3), (160, .iload 4, 2), (162, .iconst 4, 1), (163, .imul, 1), (164, .iadd, 1), (165, .iload 5, 2), (167, .iadd, 1), (168, .aload_n 0, 1), (169, .getfield 26, 3), (172, .iload 5, 2), (174, .invokevirtual 289, 3), (177, .invokevirtual 93, 3), (180, .iinc 5 1, 3), (183, .goto (-42), 3), (186, .aload_n 0, 1), (187, .getfield 12, 3), (190, .bipush 41, 2), (192, .iload_n 1, 1), (193, .iadd, 1), (194, .iload_n 2, 1), (195, .iconst 1, 1), (196, .iadd, 1), (197, .invokevirtual 93, 3), (200, .iconst 1, 1), (201, .ireturn, 1)]
theorem tX8_addRead_1_ok : tX8_addRead_1.all (fun q => decide (decode cX8_addRead q.1 = .ok q.2)) = true := by decide +kernel
theorem dX8_addRead_118 : decode cX8_addRead 118 = .ok (.aload_n 0, 1) := td tX8_addRead_1_ok 0 (q := (118, .aload_n 0, 1)) rfl
theorem dX8_addRead_119 : decode cX8_addRead 119 = .ok (.getfield 12, 3) := td tX8_addRead_1_ok 1 (q := (119, .getfield 12, 3)) rfl
theorem dX8_addRead_122 : decode cX8_addRead 122 = .ok (.sipush 231, 3) := td tX8_addRead_1_ok 2 (q := (122, .sipush 231, 3)) rfl
theorem dX8_addRead_125 : decode cX8_addRead 125 = .ok (.iload 4, 2) := td tX8_addRead_1_ok 3 (q := (125, .iload 4, 2)) rfl
theorem dX8_addRead_127 : decode cX8_addRead 127 = .ok (.iadd, 1) := td tX8_addRead_1_ok 4 (q := (127, .iadd, 1)) rfl
theorem dX8_addRead_128 : decode cX8_addRead 128 = .ok (.aload_n 0, 1) := td tX8_addRead_1_ok 5 (q := (128, .aload_n 0, 1)) rfl
theorem dX8_addRead_129 : decode cX8_addRead 129 = .ok (.getfield 26, 3) := td tX8_addRead_1_ok 6 (q := (129, .getfield 26, 3)) rfl
theorem dX8_addRead_132 : decode cX8_addRead 132 = .ok (.invokevirtual 286, 3) := td tX8_addRead_1_ok 7 (q := (132, .invokevirtual 286, 3)) rfl
theorem dX8_addRead_135 : decode cX8_addRead 135 = .ok (.invokevirtual 93, 3) := td tX8_addRead_1_ok 8 (q := (135, .invokevirtual 93, 3)) rfl
theorem dX8_addRead_138 : decode cX8_addRead 138 = .ok (.iconst 0, 1) := td tX8_addRead_1_ok 9 (q := (138, .iconst 0, 1)) rfl
theorem dX8_addRead_139 : decode cX8_addRead 139 = .ok (.istore 5, 2) := td tX8_addRead_1_ok 10 (q := (139, .istore 5, 2)) rfl
theorem dX8_addRead_141 : decode cX8_addRead 141 = .ok (.iload 5, 2) := td tX8_addRead_1_ok 11 (q := (141, .iload 5, 2)) rfl
theorem dX8_addRead_143 : decode cX8_addRead 143 = .ok (.aload_n 0, 1) := td tX8_addRead_1_ok 12 (q := (143, .aload_n 0, 1)) rfl
theorem dX8_addRead_144 : decode cX8_addRead 144 = .ok (.getfield 26, 3) := td tX8_addRead_1_ok 13 (q := (144, .getfield 26, 3)) rfl
theorem dX8_addRead_147 : decode cX8_addRead 147 = .ok (.invokevirtual 286, 3) := td tX8_addRead_1_ok 14 (q := (147, .invokevirtual 286, 3)) rfl
theorem dX8_addRead_150 : decode cX8_addRead 150 = .ok (.if_icmp .ge 36, 3) := td tX8_addRead_1_ok 15 (q := (150, .if_icmp .ge 36, 3)) rfl
theorem dX8_addRead_153 : decode cX8_addRead 153 = .ok (.aload_n 0, 1) := td tX8_addRead_1_ok 16 (q := (153, .aload_n 0, 1)) rfl
theorem dX8_addRead_154 : decode cX8_addRead 154 = .ok (.getfield 12, 3) := td tX8_addRead_1_ok 17 (q := (154, .getfield 12, 3)) rfl
theorem dX8_addRead_157 : decode cX8_addRead 157 = .ok (.sipush 291, 3) := td tX8_addRead_1_ok 18 (q := (157, .sipush 291, 3)) rfl
theorem dX8_addRead_160 : decode cX8_addRead 160 = .ok (.iload 4, 2) := td tX8_addRead_1_ok 19 (q := (160, .iload 4, 2)) rfl
theorem dX8_addRead_162 : decode cX8_addRead 162 = .ok (.iconst 4, 1) := td tX8_addRead_1_ok 20 (q := (162, .iconst 4, 1)) rfl
theorem dX8_addRead_163 : decode cX8_addRead 163 = .ok (.imul, 1) := td tX8_addRead_1_ok 21 (q := (163, .imul, 1)) rfl
theorem dX8_addRead_164 : decode cX8_addRead 164 = .ok (.iadd, 1) := td tX8_addRead_1_ok 22 (q := (164, .iadd, 1)) rfl
theorem dX8_addRead_165 : decode cX8_addRead 165 = .ok (.iload 5, 2) := td tX8_addRead_1_ok 23 (q := (165, .iload 5, 2)) rfl
theorem dX8_addRead_167 : decode cX8_addRead 167 = .ok (.iadd, 1) := td tX8_addRead_1_ok 24 (q := (167, .iadd, 1)) rfl
theorem dX8_addRead_168 : decode cX8_addRead 168 = .ok (.aload_n 0, 1) := td tX8_addRead_1_ok 25 (q := (168, .aload_n 0, 1)) rfl
theorem dX8_addRead_169 : decode cX8_addRead 169 = .ok (.getfield 26, 3) := td tX8_addRead_1_ok 26 (q := (169, .getfield 26, 3)) rfl
theorem dX8_addRead_172 : decode cX8_addRead 172 = .ok (.iload 5, 2) := td tX8_addRead_1_ok 27 (q := (172, .iload 5, 2)) rfl
theorem dX8_addRead_174 : decode cX8_addRead 174 = .ok (.invokevirtual 289, 3) := td tX8_addRead_1_ok 28 (q := (174, .invokevirtual 289, 3)) rfl
theorem dX8_addRead_177 : decode cX8_addRead 177 = .ok (.invokevirtual 93, 3) := td tX8_addRead_1_ok 29 (q := (177, .invokevirtual 93, 3)) rfl
theorem dX8_addRead_180 : decode cX8_addRead 180 = .ok (.iinc 5 1, 3) := td tX8_addRead_1_ok 30 (q := (180, .iinc 5 1, 3)) rfl
theorem dX8_addRead_183 : decode cX8_addRead 183 = .ok (.goto (-42), 3) := td tX8_addRead_1_ok 31 (q := (183, .goto (-42), 3)) rfl
theorem dX8_addRead_186 : decode cX8_addRead 186 = .ok (.aload_n 0, 1) := td tX8_addRead_1_ok 32 (q := (186, .aload_n 0, 1)) rfl
theorem dX8_addRead_187 : decode cX8_addRead 187 = .ok (.getfield 12, 3) := td tX8_addRead_1_ok 33 (q := (187, .getfield 12, 3)) rfl
theorem dX8_addRead_190 : decode cX8_addRead 190 = .ok (.bipush 41, 2) := td tX8_addRead_1_ok 34 (q := (190, .bipush 41, 2)) rfl
theorem dX8_addRead_192 : decode cX8_addRead 192 = .ok (.iload_n 1, 1) := td tX8_addRead_1_ok 35 (q := (192, .iload_n 1, 1)) rfl
theorem dX8_addRead_193 : decode cX8_addRead 193 = .ok (.iadd, 1) := td tX8_addRead_1_ok 36 (q := (193, .iadd, 1)) rfl
theorem dX8_addRead_194 : decode cX8_addRead 194 = .ok (.iload_n 2, 1) := td tX8_addRead_1_ok 37 (q := (194, .iload_n 2, 1)) rfl
theorem dX8_addRead_195 : decode cX8_addRead 195 = .ok (.iconst 1, 1) := td tX8_addRead_1_ok 38 (q := (195, .iconst 1, 1)) rfl
theorem dX8_addRead_196 : decode cX8_addRead 196 = .ok (.iadd, 1) := td tX8_addRead_1_ok 39 (q := (196, .iadd, 1)) rfl
theorem dX8_addRead_197 : decode cX8_addRead 197 = .ok (.invokevirtual 93, 3) := td tX8_addRead_1_ok 40 (q := (197, .invokevirtual 93, 3)) rfl
theorem dX8_addRead_200 : decode cX8_addRead 200 = .ok (.iconst 1, 1) := td tX8_addRead_1_ok 41 (q := (200, .iconst 1, 1)) rfl
theorem dX8_addRead_201 : decode cX8_addRead 201 = .ok (.ireturn, 1) := td tX8_addRead_1_ok 42 (q := (201, .ireturn, 1)) rfl
def fX8_addRead_141 (k141 : (Nat → Int32) → Option (Int32 × (Nat → Int32))) (kit : (Nat → Int32)) (kr5 : Int32) (x1 : Int32) (x2 : Int32) (x4 : Int32) : Nat → Int32 → (Nat → Int32) → Option (Int32 × (Nat → Int32))
  | 0, _, _ => none
  | n141 + 1, x5, kc => (Option.bind (fX6_items kr5) (fun q17 => (if q17 ≤ x5 then (k141 kc) else (Option.bind (fX6_itemAt kit x5) (fun q19 => (Option.bind (fX0_set kc (((291 : Int32) + (x4 * (4 : Int32))) + x5) q19) (fun q20 => (fX8_addRead_141 k141 kit kr5 x1 x2 x4 n141 (x5 + (1 : Int32)) q20))))))))
def fX8_addRead (kc : (Nat → Int32)) (kit : (Nat → Int32)) (kr1 : Int32) (kr3 : Int32) (kr4 : Int32) (kr5 : Int32) (x1 : Int32) : Option (Int32 × (Nat → Int32)) :=
  (Option.bind (fX0_receiptsOf kc x1) (fun q1 => (Option.bind (fX6_time kr3) (fun q2 => (if (6 : Int32) ≤ q1 then (some ((0 : Int32), kc)) else (Option.bind (fX0_lastTimeUpTo kc x1) (fun q4 => (if q2 < q4 then (some ((0 : Int32), kc)) else (Option.bind (fX0_get kc ((31 : Int32) + x1)) (fun q6 => (Option.bind (fX0_firstTimeFrom kc q6) (fun q7 => (if q2 ≤ q7 then (Option.bind (fX0_slotOf x1 q1) (fun q9 => (Option.bind (fX0_set kc ((51 : Int32) + q9) q2) (fun q10 => (Option.bind (fX6_shop kr4) (fun q11 => (Option.bind (fX0_set q10 ((111 : Int32) + q9) q11) (fun q12 => (Option.bind (fX6_printed kr1) (fun q13 => (Option.bind (fX0_set q12 ((171 : Int32) + q9) q13) (fun q14 => (Option.bind (fX6_items kr5) (fun q15 => (Option.bind (fX0_set q14 ((231 : Int32) + q9) q15) (fun q16 => (fX8_addRead_141 (fun (kc_u21 : (Nat → Int32)) => (Option.bind (fX0_set kc_u21 ((41 : Int32) + x1) (q1 + (1 : Int32))) (fun q26 => (some ((1 : Int32), q26))))) kit kr5 x1 q1 q9 LF (0 : Int32) q16))))))))))))))))) else (some ((0 : Int32), kc)))))))))))))))
set_option maxHeartbeats 4000000 in
set_option maxRecDepth 100000 in
theorem mX8_addRead {l : Launch} {D : va_G} {ad : Nat → Nat} {cI : ClassId} {kc : (Nat → Int32)} {ksv : (Nat → Int32)} {kbc : (Nat → Int32)} {kit : (Nat → Int32)} {kln : (Nat → Int32)} {ken : (Nat → Int32)} {kla : (Nat → Int32)} {kfi : (Nat → Int32)} {kea : (Nat → Int32)} {kns : Int32} {kbl : Int32} {kr0 : Int32} {kr1 : Int32} {kr2 : Int32} {kr3 : Int32} {kr4 : Int32} {kr5 : Int32} {klr : Int32} {kp0 : Int32} {kp1 : Int32} {kp2 : Int32} {kp3 : Int32} {x1 : Int32} {r : Int32} {kc' : (Nat → Int32)} (hs : fX8_addRead kc kit kr1 kr3 kr4 kr5 x1 = some (r, kc')) : nd_C l yX8_addRead cX8_addRead 6 (some .boolean) 2 45 D [(cI, .int)] [.ref (ad 0), .int x1] (CW ad cI kc ksv kbc kit kln ken kla kfi kea kns kbl kr0 kr1 kr2 kr3 kr4 kr5 klr kp0 kp1 kp2 kp3) (CW ad cI kc' ksv kbc kit kln ken kla kfi kea kns kbl kr0 kr1 kr2 kr3 kr4 kr5 klr kp0 kp1 kp2 kp3) (some (.int r)) := by
  refine nd_ofCz (by decide) (Nat.le_of_ble_eq_true rfl) (fun p e s m args below meth c_ ls A Q hx hb hml hown hts hl hP hK hD hS hA hN hret => ?_)
  have hown : s.vm.findClass RX8 = some m.cls := hown
  have hl : lv_has ls 6 [(0, .ref (ad 0)), (1, .int x1)] := hl
  have hret : ∀ (z0 : Int32) (z1 : (Nat → Int32)) {H : Heap} {locs : List Loc} {pc : Nat} {ls : Array Slot}, some (z0, z1) = some (r, kc') → (z0 = 0 ∨ z0 = 1) → va_P D vwCl (CW ad cI z1 ksv kbc kit kln ken kla kfi kea kns kbl kr0 kr1 kr2 kr3 kr4 kr5 klr kp0 kp1 kp2 kp3) H → va_S A s.heap H locs → decode cX8_addRead pc = .ok (.ireturn, 1) → W p l e ⟨2, 0, 0, 45⟩ s m args below meth c_ H locs 0 0 Q (F0 m pc ls [.int z0]) := by
    intro z0 z1 H locs pc ls h hz hP hS hd
    cases h
    exact hret hz hP hS hd
  rw [fX8_addRead] at hs
  refine lv_aload_n hx hb dX8_addRead_0 rfl (lv_at hl 0 rfl) ?_
  refine gf_X8_12 hx hb hts hown hK hP 0 rfl rfl dX8_addRead_1 ?_
  refine lv_iload_n hx hb dX8_addRead_4 rfl (lv_at hl 1 rfl) ?_
  obtain ⟨q1, eq1, hs⟩ := ob hs
  refine nd_callV (As := [.int x1]) (rest := []) (st1 := [.int q1]) hx hb hml hown hts hl hP hK hD hS hA hN (mX0_receiptsOf eq1) iv_X0_receiptsOf wd_226 1 rfl rfl rfl rfl ⟨Nat.le_of_ble_eq_true rfl, Nat.le_of_ble_eq_true rfl⟩ (Nat.le_of_ble_eq_true rfl) ⟨Nat.zero_le _, Nat.zero_le _⟩ dX8_addRead_5 rfl rfl (fun H locs hP hD hS => ?_)
  refine lv_istore_n (lv' := [(2, .int q1), (0, .ref (ad 0)), (1, .int x1)]) hx hb dX8_addRead_8 rfl hl (by decide) rfl (fun ls hl => ?_)
  refine lv_aload_n hx hb dX8_addRead_9 rfl (lv_at hl 1 rfl) ?_
  refine gf_X8_26 hx hb hts hown hK hP 0 rfl rfl dX8_addRead_10 ?_
  obtain ⟨q2, eq2, hs⟩ := ob hs
  refine nd_callV (As := []) (rest := []) (st1 := [.int q2]) hx hb hml hown hts hl hP hK hD hS hA hN (mX6_time eq2) iv_X6_time wd_230 3 rfl rfl rfl rfl ⟨Nat.le_of_ble_eq_true rfl, Nat.le_of_ble_eq_true rfl⟩ (Nat.le_of_ble_eq_true rfl) ⟨Nat.zero_le _, Nat.zero_le _⟩ dX8_addRead_13 rfl rfl (fun H locs hP hD hS => ?_)
  refine lv_istore_n (lv' := [(3, .int q2), (2, .int q1), (0, .ref (ad 0)), (1, .int x1)]) hx hb dX8_addRead_16 rfl hl (by decide) rfl (fun ls hl => ?_)
  refine lv_iload_n hx hb dX8_addRead_17 rfl (lv_at hl 1 rfl) ?_
  refine lv_bipush (v := (6 : Int32)) hx hb dX8_addRead_18 (by decide) ?_
  refine lv_icmp_ge (tgt := 57) hx hb dX8_addRead_20 (by decide) (fun b3 => ?_) (fun b3 => ?_)
  · have hs := ite_t hs b3
    refine lv_iconst (v := (0 : Int32)) hx hb dX8_addRead_57 (by decide) ?_
    exact hret _ _ hs (Or.inl rfl) hP hS dX8_addRead_58
  · have hs := ite_f hs b3
    refine lv_iload_n hx hb dX8_addRead_23 rfl (lv_at hl 0 rfl) ?_
    refine lv_aload_n hx hb dX8_addRead_24 rfl (lv_at hl 2 rfl) ?_
    refine gf_X8_12 hx hb hts hown hK hP 0 rfl rfl dX8_addRead_25 ?_
    refine lv_iload_n hx hb dX8_addRead_28 rfl (lv_at hl 3 rfl) ?_
    obtain ⟨q4, eq4, hs⟩ := ob hs
    refine nd_callV (As := [.int x1]) (rest := [.int q2]) (st1 := [.int q4, .int q2]) hx hb hml hown hts hl hP hK hD hS hA hN (mX0_lastTimeUpTo eq4) iv_X0_lastTimeUpTo wd_234 1 rfl rfl rfl rfl ⟨Nat.le_of_ble_eq_true rfl, Nat.le_of_ble_eq_true rfl⟩ (Nat.le_of_ble_eq_true rfl) ⟨Nat.zero_le _, Nat.zero_le _⟩ dX8_addRead_29 rfl rfl (fun H locs hP hD hS => ?_)
    refine lv_icmp_lt (tgt := 57) hx hb dX8_addRead_32 (by decide) (fun b5 => ?_) (fun b5 => ?_)
    · have hs := ite_t hs b5
      refine lv_iconst (v := (0 : Int32)) hx hb dX8_addRead_57 (by decide) ?_
      exact hret _ _ hs (Or.inl rfl) hP hS dX8_addRead_58
    · have hs := ite_f hs b5
      refine lv_iload_n hx hb dX8_addRead_35 rfl (lv_at hl 0 rfl) ?_
      refine lv_aload_n hx hb dX8_addRead_36 rfl (lv_at hl 2 rfl) ?_
      refine gf_X8_12 hx hb hts hown hK hP 0 rfl rfl dX8_addRead_37 ?_
      refine lv_aload_n hx hb dX8_addRead_40 rfl (lv_at hl 2 rfl) ?_
      refine gf_X8_12 hx hb hts hown hK hP 0 rfl rfl dX8_addRead_41 ?_
      refine lv_bipush (v := (31 : Int32)) hx hb dX8_addRead_44 (by decide) ?_
      refine lv_iload_n hx hb dX8_addRead_46 rfl (lv_at hl 3 rfl) ?_
      refine lv_iadd hx hb dX8_addRead_47 ?_
      obtain ⟨q6, eq6, hs⟩ := ob hs
      refine nd_callV (As := [.int ((31 : Int32) + x1)]) (rest := [.ref (ad 1), .int q2]) (st1 := [.int q6, .ref (ad 1), .int q2]) hx hb hml hown hts hl hP hK hD hS hA hN (mX0_get eq6) iv_X0_get wd_238 1 rfl rfl rfl rfl ⟨Nat.le_of_ble_eq_true rfl, Nat.le_of_ble_eq_true rfl⟩ (Nat.le_of_ble_eq_true rfl) ⟨Nat.zero_le _, Nat.zero_le _⟩ dX8_addRead_48 rfl rfl (fun H locs hP hD hS => ?_)
      obtain ⟨q7, eq7, hs⟩ := ob hs
      refine nd_callV (As := [.int q6]) (rest := [.int q2]) (st1 := [.int q7, .int q2]) hx hb hml hown hts hl hP hK hD hS hA hN (mX0_firstTimeFrom eq7) iv_X0_firstTimeFrom wd_239 1 rfl rfl rfl rfl ⟨Nat.le_of_ble_eq_true rfl, Nat.le_of_ble_eq_true rfl⟩ (Nat.le_of_ble_eq_true rfl) ⟨Nat.zero_le _, Nat.zero_le _⟩ dX8_addRead_51 rfl rfl (fun H locs hP hD hS => ?_)
      refine lv_icmp_le (tgt := 59) hx hb dX8_addRead_54 (by decide) (fun b8 => ?_) (fun b8 => ?_)
      · have hs := ite_t hs b8
        refine lv_iload_n hx hb dX8_addRead_59 rfl (lv_at hl 3 rfl) ?_
        refine lv_iload_n hx hb dX8_addRead_60 rfl (lv_at hl 1 rfl) ?_
        obtain ⟨q9, eq9, hs⟩ := ob hs
        refine nd_callS (As := [.int x1, .int q1]) (rest := []) (st1 := [.int q9]) hx hb hml hown hts hl hP hK hD hS hA hN (mX0_slotOf eq9) is_X0_slotOf wd_243 rfl rfl ⟨Nat.le_of_ble_eq_true rfl, Nat.le_of_ble_eq_true rfl⟩ (Nat.le_of_ble_eq_true rfl) ⟨Nat.zero_le _, Nat.zero_le _⟩ dX8_addRead_61 rfl rfl (fun H locs hP hD hS => ?_)
        refine lv_istore (lv' := [(4, .int q9), (3, .int q2), (2, .int q1), (0, .ref (ad 0)), (1, .int x1)]) hx hb dX8_addRead_64 hl (by decide) rfl (fun ls hl => ?_)
        refine lv_aload_n hx hb dX8_addRead_66 rfl (lv_at hl 3 rfl) ?_
        refine gf_X8_12 hx hb hts hown hK hP 0 rfl rfl dX8_addRead_67 ?_
        refine lv_bipush (v := (51 : Int32)) hx hb dX8_addRead_70 (by decide) ?_
        refine lv_iload hx hb dX8_addRead_72 (lv_at hl 0 rfl) ?_
        refine lv_iadd hx hb dX8_addRead_74 ?_
        refine lv_iload_n hx hb dX8_addRead_75 rfl (lv_at hl 1 rfl) ?_
        obtain ⟨q10, eq10, hs⟩ := ob hs
        refine nd_callV (As := [.int ((51 : Int32) + q9), .int q2]) (rest := []) (st1 := []) hx hb hml hown hts hl hP hK hD hS hA hN (mX0_set eq10) iv_X0_set wd_246 1 rfl rfl rfl rfl ⟨Nat.le_of_ble_eq_true rfl, Nat.le_of_ble_eq_true rfl⟩ (Nat.le_of_ble_eq_true rfl) ⟨Nat.zero_le _, Nat.zero_le _⟩ dX8_addRead_76 rfl rfl (fun H locs hP hD hS => ?_)
        refine lv_aload_n hx hb dX8_addRead_79 rfl (lv_at hl 3 rfl) ?_
        refine gf_X8_12 hx hb hts hown hK hP 0 rfl rfl dX8_addRead_80 ?_
        refine lv_bipush (v := (111 : Int32)) hx hb dX8_addRead_83 (by decide) ?_
        refine lv_iload hx hb dX8_addRead_85 (lv_at hl 0 rfl) ?_
        refine lv_iadd hx hb dX8_addRead_87 ?_
        refine lv_aload_n hx hb dX8_addRead_88 rfl (lv_at hl 3 rfl) ?_
        refine gf_X8_26 hx hb hts hown hK hP 0 rfl rfl dX8_addRead_89 ?_
        obtain ⟨q11, eq11, hs⟩ := ob hs
        refine nd_callV (As := []) (rest := [.int ((111 : Int32) + q9), .ref (ad 1)]) (st1 := [.int q11, .int ((111 : Int32) + q9), .ref (ad 1)]) hx hb hml hown hts hl hP hK hD hS hA hN (mX6_shop eq11) iv_X6_shop wd_247 3 rfl rfl rfl rfl ⟨Nat.le_of_ble_eq_true rfl, Nat.le_of_ble_eq_true rfl⟩ (Nat.le_of_ble_eq_true rfl) ⟨Nat.zero_le _, Nat.zero_le _⟩ dX8_addRead_92 rfl rfl (fun H locs hP hD hS => ?_)
        obtain ⟨q12, eq12, hs⟩ := ob hs
        refine nd_callV (As := [.int ((111 : Int32) + q9), .int q11]) (rest := []) (st1 := []) hx hb hml hown hts hl hP hK hD hS hA hN (mX0_set eq12) iv_X0_set wd_246 1 rfl rfl rfl rfl ⟨Nat.le_of_ble_eq_true rfl, Nat.le_of_ble_eq_true rfl⟩ (Nat.le_of_ble_eq_true rfl) ⟨Nat.zero_le _, Nat.zero_le _⟩ dX8_addRead_95 rfl rfl (fun H locs hP hD hS => ?_)
        refine lv_aload_n hx hb dX8_addRead_98 rfl (lv_at hl 3 rfl) ?_
        refine gf_X8_12 hx hb hts hown hK hP 0 rfl rfl dX8_addRead_99 ?_
        refine lv_sipush (v := (171 : Int32)) hx hb dX8_addRead_102 (by decide) ?_
        refine lv_iload hx hb dX8_addRead_105 (lv_at hl 0 rfl) ?_
        refine lv_iadd hx hb dX8_addRead_107 ?_
        refine lv_aload_n hx hb dX8_addRead_108 rfl (lv_at hl 3 rfl) ?_
        refine gf_X8_26 hx hb hts hown hK hP 0 rfl rfl dX8_addRead_109 ?_
        obtain ⟨q13, eq13, hs⟩ := ob hs
        refine nd_callV (As := []) (rest := [.int ((171 : Int32) + q9), .ref (ad 1)]) (st1 := [.int q13, .int ((171 : Int32) + q9), .ref (ad 1)]) hx hb hml hown hts hl hP hK hD hS hA hN (mX6_printed eq13) iv_X6_printed wd_251 3 rfl rfl rfl rfl ⟨Nat.le_of_ble_eq_true rfl, Nat.le_of_ble_eq_true rfl⟩ (Nat.le_of_ble_eq_true rfl) ⟨Nat.zero_le _, Nat.zero_le _⟩ dX8_addRead_112 rfl rfl (fun H locs hP hD hS => ?_)
        obtain ⟨q14, eq14, hs⟩ := ob hs
        refine nd_callV (As := [.int ((171 : Int32) + q9), .int q13]) (rest := []) (st1 := []) hx hb hml hown hts hl hP hK hD hS hA hN (mX0_set eq14) iv_X0_set wd_246 1 rfl rfl rfl rfl ⟨Nat.le_of_ble_eq_true rfl, Nat.le_of_ble_eq_true rfl⟩ (Nat.le_of_ble_eq_true rfl) ⟨Nat.zero_le _, Nat.zero_le _⟩ dX8_addRead_115 rfl rfl (fun H locs hP hD hS => ?_)
        refine lv_aload_n hx hb dX8_addRead_118 rfl (lv_at hl 3 rfl) ?_
        refine gf_X8_12 hx hb hts hown hK hP 0 rfl rfl dX8_addRead_119 ?_
        refine lv_sipush (v := (231 : Int32)) hx hb dX8_addRead_122 (by decide) ?_
        refine lv_iload hx hb dX8_addRead_125 (lv_at hl 0 rfl) ?_
        refine lv_iadd hx hb dX8_addRead_127 ?_
        refine lv_aload_n hx hb dX8_addRead_128 rfl (lv_at hl 3 rfl) ?_
        refine gf_X8_26 hx hb hts hown hK hP 0 rfl rfl dX8_addRead_129 ?_
        obtain ⟨q15, eq15, hs⟩ := ob hs
        refine nd_callV (As := []) (rest := [.int ((231 : Int32) + q9), .ref (ad 1)]) (st1 := [.int q15, .int ((231 : Int32) + q9), .ref (ad 1)]) hx hb hml hown hts hl hP hK hD hS hA hN (mX6_items eq15) iv_X6_items wd_255 3 rfl rfl rfl rfl ⟨Nat.le_of_ble_eq_true rfl, Nat.le_of_ble_eq_true rfl⟩ (Nat.le_of_ble_eq_true rfl) ⟨Nat.zero_le _, Nat.zero_le _⟩ dX8_addRead_132 rfl rfl (fun H locs hP hD hS => ?_)
        obtain ⟨q16, eq16, hs⟩ := ob hs
        refine nd_callV (As := [.int ((231 : Int32) + q9), .int q15]) (rest := []) (st1 := []) hx hb hml hown hts hl hP hK hD hS hA hN (mX0_set eq16) iv_X0_set wd_246 1 rfl rfl rfl rfl ⟨Nat.le_of_ble_eq_true rfl, Nat.le_of_ble_eq_true rfl⟩ (Nat.le_of_ble_eq_true rfl) ⟨Nat.zero_le _, Nat.zero_le _⟩ dX8_addRead_135 rfl rfl (fun H locs hP hD hS => ?_)
        refine lv_iconst (v := (0 : Int32)) hx hb dX8_addRead_138 (by decide) ?_
        refine lv_istore (lv' := [(5, .int (0 : Int32)), (4, .int q9), (3, .int q2), (2, .int q1), (0, .ref (ad 0)), (1, .int x1)]) hx hb dX8_addRead_139 hl (by decide) rfl (fun ls hl => ?_)
        have L141 : ∀ (n141 : Nat) (k141 : (Nat → Int32) → Option (Int32 × (Nat → Int32))) (v5_21 : Int32) (kc_21 : (Nat → Int32)) (H : Heap) (locs : List Loc) (ls : Array Slot), lv_has ls 6 [(0, .ref (ad 0)), (1, .int x1), (2, .int q1), (4, .int q9), (5, .int v5_21)] → va_P D vwCl (CW ad cI kc_21 ksv kbc kit kln ken kla kfi kea kns kbl kr0 kr1 kr2 kr3 kr4 kr5 klr kp0 kp1 kp2 kp3) H → va_S A s.heap H locs → fX8_addRead_141 k141 kit kr5 x1 q1 q9 n141 v5_21 kc_21 = some (r, kc') → (∀ (kc_u21 : (Nat → Int32)) (H : Heap) (locs : List Loc) (ls : Array Slot), lv_has ls 6 [(0, .ref (ad 0)), (1, .int x1), (2, .int q1)] → va_P D vwCl (CW ad cI kc_u21 ksv kbc kit kln ken kla kfi kea kns kbl kr0 kr1 kr2 kr3 kr4 kr5 klr kp0 kp1 kp2 kp3) H → va_S A s.heap H locs → k141 kc_u21 = some (r, kc') → W p l e ⟨2, 0, 0, 45⟩ s m args below meth c_ H locs 0 0 Q (F0 m 186 ls [])) → W p l e ⟨2, 0, 0, 45⟩ s m args below meth c_ H locs 0 0 Q (F0 m 141 ls []) := by
          intro n141
          induction n141 with
          | zero =>
            intro k141 v5_21 kc_21 H locs ls hl hP hS hs hk141
            rw [fX8_addRead_141] at hs
            cases hs
          | succ n141 ih141 =>
            intro k141 v5_21 kc_21 H locs ls hl hP hS hs hk141
            rw [fX8_addRead_141] at hs
            have hD : va_D A (CW ad cI kc_21 ksv kbc kit kln ken kla kfi kea kns kbl kr0 kr1 kr2 kr3 kr4 kr5 klr kp0 kp1 kp2 kp3) := nd_DD hD rfl
            refine lv_iload hx hb dX8_addRead_141 (lv_at hl 4 rfl) ?_
            refine lv_aload_n hx hb dX8_addRead_143 rfl (lv_at hl 0 rfl) ?_
            refine gf_X8_26 hx hb hts hown hK hP 0 rfl rfl dX8_addRead_144 ?_
            obtain ⟨q22, eq22, hs⟩ := ob hs
            refine nd_callV (As := []) (rest := [.int v5_21]) (st1 := [.int q22, .int v5_21]) hx hb hml hown hts hl hP hK hD hS hA hN (mX6_items eq22) iv_X6_items wd_255 3 rfl rfl rfl rfl ⟨Nat.le_of_ble_eq_true rfl, Nat.le_of_ble_eq_true rfl⟩ (Nat.le_of_ble_eq_true rfl) ⟨Nat.zero_le _, Nat.zero_le _⟩ dX8_addRead_147 rfl rfl (fun H locs hP hD hS => ?_)
            refine lv_icmp_ge (tgt := 186) hx hb dX8_addRead_150 (by decide) (fun b23 => ?_) (fun b23 => ?_)
            · have hs := ite_t hs b23
              exact hk141 kc_21 _ _ _ (lv_sub hl [0, 1, 2] rfl) hP hS hs
            · have hs := ite_f hs b23
              refine lv_aload_n hx hb dX8_addRead_153 rfl (lv_at hl 0 rfl) ?_
              refine gf_X8_12 hx hb hts hown hK hP 0 rfl rfl dX8_addRead_154 ?_
              refine lv_sipush (v := (291 : Int32)) hx hb dX8_addRead_157 (by decide) ?_
              refine lv_iload hx hb dX8_addRead_160 (lv_at hl 3 rfl) ?_
              refine lv_iconst (v := (4 : Int32)) hx hb dX8_addRead_162 (by decide) ?_
              refine lv_imul hx hb dX8_addRead_163 ?_
              refine lv_iadd hx hb dX8_addRead_164 ?_
              refine lv_iload hx hb dX8_addRead_165 (lv_at hl 4 rfl) ?_
              refine lv_iadd hx hb dX8_addRead_167 ?_
              refine lv_aload_n hx hb dX8_addRead_168 rfl (lv_at hl 0 rfl) ?_
              refine gf_X8_26 hx hb hts hown hK hP 0 rfl rfl dX8_addRead_169 ?_
              refine lv_iload hx hb dX8_addRead_172 (lv_at hl 4 rfl) ?_
              obtain ⟨q24, eq24, hs⟩ := ob hs
              refine nd_callV (As := [.int v5_21]) (rest := [.int (((291 : Int32) + (q9 * (4 : Int32))) + v5_21), .ref (ad 1)]) (st1 := [.int q24, .int (((291 : Int32) + (q9 * (4 : Int32))) + v5_21), .ref (ad 1)]) hx hb hml hown hts hl hP hK hD hS hA hN (mX6_itemAt eq24) iv_X6_itemAt wd_259 3 rfl rfl rfl rfl ⟨Nat.le_of_ble_eq_true rfl, Nat.le_of_ble_eq_true rfl⟩ (Nat.le_of_ble_eq_true rfl) ⟨Nat.zero_le _, Nat.zero_le _⟩ dX8_addRead_174 rfl rfl (fun H locs hP hD hS => ?_)
              obtain ⟨q25, eq25, hs⟩ := ob hs
              refine nd_callV (As := [.int (((291 : Int32) + (q9 * (4 : Int32))) + v5_21), .int q24]) (rest := []) (st1 := []) hx hb hml hown hts hl hP hK hD hS hA hN (mX0_set eq25) iv_X0_set wd_246 1 rfl rfl rfl rfl ⟨Nat.le_of_ble_eq_true rfl, Nat.le_of_ble_eq_true rfl⟩ (Nat.le_of_ble_eq_true rfl) ⟨Nat.zero_le _, Nat.zero_le _⟩ dX8_addRead_177 rfl rfl (fun H locs hP hD hS => ?_)
              refine lv_iinc (v := v5_21 + (1 : Int32)) (lv' := [(5, .int (v5_21 + (1 : Int32))), (0, .ref (ad 0)), (1, .int x1), (2, .int q1), (4, .int q9)]) hx hb dX8_addRead_180 hl (k := 4) rfl rfl (by decide) rfl (fun ls hl => ?_)
              refine lv_goto (tgt := 141) hx hb dX8_addRead_183 (by decide) ?_
              exact ih141 k141 (v5_21 + (1 : Int32)) q25 _ _ _ (lv_sub hl [1, 2, 3, 4, 0] rfl) hP hS hs hk141
        refine L141 LF _ (0 : Int32) q16 _ _ _ (lv_sub hl [4, 5, 3, 1, 0] rfl) hP hS hs (fun kc_u21 H locs ls hl hP hS hs => ?_)
        have hD : va_D A (CW ad cI kc_u21 ksv kbc kit kln ken kla kfi kea kns kbl kr0 kr1 kr2 kr3 kr4 kr5 klr kp0 kp1 kp2 kp3) := nd_DD hD rfl
        refine lv_aload_n hx hb dX8_addRead_186 rfl (lv_at hl 0 rfl) ?_
        refine gf_X8_12 hx hb hts hown hK hP 0 rfl rfl dX8_addRead_187 ?_
        refine lv_bipush (v := (41 : Int32)) hx hb dX8_addRead_190 (by decide) ?_
        refine lv_iload_n hx hb dX8_addRead_192 rfl (lv_at hl 1 rfl) ?_
        refine lv_iadd hx hb dX8_addRead_193 ?_
        refine lv_iload_n hx hb dX8_addRead_194 rfl (lv_at hl 2 rfl) ?_
        refine lv_iconst (v := (1 : Int32)) hx hb dX8_addRead_195 (by decide) ?_
        refine lv_iadd hx hb dX8_addRead_196 ?_
        obtain ⟨q26, eq26, hs⟩ := ob hs
        refine nd_callV (As := [.int ((41 : Int32) + x1), .int (q1 + (1 : Int32))]) (rest := []) (st1 := []) hx hb hml hown hts hl hP hK hD hS hA hN (mX0_set eq26) iv_X0_set wd_246 1 rfl rfl rfl rfl ⟨Nat.le_of_ble_eq_true rfl, Nat.le_of_ble_eq_true rfl⟩ (Nat.le_of_ble_eq_true rfl) ⟨Nat.zero_le _, Nat.zero_le _⟩ dX8_addRead_197 rfl rfl (fun H locs hP hD hS => ?_)
        refine lv_iconst (v := (1 : Int32)) hx hb dX8_addRead_200 (by decide) ?_
        exact hret _ _ hs (Or.inr rfl) hP hS dX8_addRead_201
      · have hs := ite_f hs b8
        refine lv_iconst (v := (0 : Int32)) hx hb dX8_addRead_57 (by decide) ?_
        exact hret _ _ hs (Or.inl rfl) hP hS dX8_addRead_58
def tX8_addFromBuffer_0 : List (Nat × Instr × Nat) := [(0, .iconst 0, 1), (1, .istore_n 2, 1), (2, .aload_n 0, 1), (3, .getfield 26, 3), (6, .invokevirtual 255, 3), (9, .iconst 0, 1), (10, .istore_n 3, 1), (11, .iload_n 3, 1), (12, .aload_n 0, 1), (13, .getfield 19, 3), (16, .invokevirtual 134, 3), (19, .if_icmp .ge 49, 3), (22, .aload_n 0, 1), (23, .getfield 19, 3), (26, .iload_n 3, 1), (27, .invokevirtual 258, 3), (30, .istore 4, 2), (32, .iload 4, 2), (34, .bipush 59, 2), (36, .if_icmp .ne 16, 3), (39, .aload_n 0, 1), (40, .iload_n 1, 1), (41, .invokevirtual 268, 3), (44, .ifCond .ne 5, 3), (47, .iload_n 2, 1), (48, .ireturn, 1), (49, .iinc 2 1, 3), (52, .aload_n 0, 1), (53, .getfield 26, 3), (56, .iload 4, 2), (58, .invokevirtual 261, 3), (61, .pop, 1), (62, .iinc 3 1, 3), (65, .goto (-54), 3), (68, .aload_n 0, 1), (69, .iload_n 1, 1), (70, .invokevirtual 268, 3), (73, .ifCond .eq 9, 3), (76, .iload_n 2, 1), (77, .iconst 1, 1), (78, .iadd, 1), (79, .goto 4, 3), (82, .iload_n 2, 1), (83, .ireturn, 1)]
theorem tX8_addFromBuffer_0_ok : tX8_addFromBuffer_0.all (fun q => decide (decode cX8_addFromBuffer q.1 = .ok q.2)) = true := by decide +kernel
theorem dX8_addFromBuffer_0 : decode cX8_addFromBuffer 0 = .ok (.iconst 0, 1) := td tX8_addFromBuffer_0_ok 0 (q := (0, .iconst 0, 1)) rfl
theorem dX8_addFromBuffer_1 : decode cX8_addFromBuffer 1 = .ok (.istore_n 2, 1) := td tX8_addFromBuffer_0_ok 1 (q := (1, .istore_n 2, 1)) rfl
theorem dX8_addFromBuffer_2 : decode cX8_addFromBuffer 2 = .ok (.aload_n 0, 1) := td tX8_addFromBuffer_0_ok 2 (q := (2, .aload_n 0, 1)) rfl
theorem dX8_addFromBuffer_3 : decode cX8_addFromBuffer 3 = .ok (.getfield 26, 3) := td tX8_addFromBuffer_0_ok 3 (q := (3, .getfield 26, 3)) rfl
theorem dX8_addFromBuffer_6 : decode cX8_addFromBuffer 6 = .ok (.invokevirtual 255, 3) := td tX8_addFromBuffer_0_ok 4 (q := (6, .invokevirtual 255, 3)) rfl
theorem dX8_addFromBuffer_9 : decode cX8_addFromBuffer 9 = .ok (.iconst 0, 1) := td tX8_addFromBuffer_0_ok 5 (q := (9, .iconst 0, 1)) rfl
theorem dX8_addFromBuffer_10 : decode cX8_addFromBuffer 10 = .ok (.istore_n 3, 1) := td tX8_addFromBuffer_0_ok 6 (q := (10, .istore_n 3, 1)) rfl
theorem dX8_addFromBuffer_11 : decode cX8_addFromBuffer 11 = .ok (.iload_n 3, 1) := td tX8_addFromBuffer_0_ok 7 (q := (11, .iload_n 3, 1)) rfl
theorem dX8_addFromBuffer_12 : decode cX8_addFromBuffer 12 = .ok (.aload_n 0, 1) := td tX8_addFromBuffer_0_ok 8 (q := (12, .aload_n 0, 1)) rfl
theorem dX8_addFromBuffer_13 : decode cX8_addFromBuffer 13 = .ok (.getfield 19, 3) := td tX8_addFromBuffer_0_ok 9 (q := (13, .getfield 19, 3)) rfl
theorem dX8_addFromBuffer_16 : decode cX8_addFromBuffer 16 = .ok (.invokevirtual 134, 3) := td tX8_addFromBuffer_0_ok 10 (q := (16, .invokevirtual 134, 3)) rfl
theorem dX8_addFromBuffer_19 : decode cX8_addFromBuffer 19 = .ok (.if_icmp .ge 49, 3) := td tX8_addFromBuffer_0_ok 11 (q := (19, .if_icmp .ge 49, 3)) rfl
theorem dX8_addFromBuffer_22 : decode cX8_addFromBuffer 22 = .ok (.aload_n 0, 1) := td tX8_addFromBuffer_0_ok 12 (q := (22, .aload_n 0, 1)) rfl
theorem dX8_addFromBuffer_23 : decode cX8_addFromBuffer 23 = .ok (.getfield 19, 3) := td tX8_addFromBuffer_0_ok 13 (q := (23, .getfield 19, 3)) rfl
theorem dX8_addFromBuffer_26 : decode cX8_addFromBuffer 26 = .ok (.iload_n 3, 1) := td tX8_addFromBuffer_0_ok 14 (q := (26, .iload_n 3, 1)) rfl
theorem dX8_addFromBuffer_27 : decode cX8_addFromBuffer 27 = .ok (.invokevirtual 258, 3) := td tX8_addFromBuffer_0_ok 15 (q := (27, .invokevirtual 258, 3)) rfl
theorem dX8_addFromBuffer_30 : decode cX8_addFromBuffer 30 = .ok (.istore 4, 2) := td tX8_addFromBuffer_0_ok 16 (q := (30, .istore 4, 2)) rfl
theorem dX8_addFromBuffer_32 : decode cX8_addFromBuffer 32 = .ok (.iload 4, 2) := td tX8_addFromBuffer_0_ok 17 (q := (32, .iload 4, 2)) rfl
theorem dX8_addFromBuffer_34 : decode cX8_addFromBuffer 34 = .ok (.bipush 59, 2) := td tX8_addFromBuffer_0_ok 18 (q := (34, .bipush 59, 2)) rfl
theorem dX8_addFromBuffer_36 : decode cX8_addFromBuffer 36 = .ok (.if_icmp .ne 16, 3) := td tX8_addFromBuffer_0_ok 19 (q := (36, .if_icmp .ne 16, 3)) rfl
theorem dX8_addFromBuffer_39 : decode cX8_addFromBuffer 39 = .ok (.aload_n 0, 1) := td tX8_addFromBuffer_0_ok 20 (q := (39, .aload_n 0, 1)) rfl
theorem dX8_addFromBuffer_40 : decode cX8_addFromBuffer 40 = .ok (.iload_n 1, 1) := td tX8_addFromBuffer_0_ok 21 (q := (40, .iload_n 1, 1)) rfl
theorem dX8_addFromBuffer_41 : decode cX8_addFromBuffer 41 = .ok (.invokevirtual 268, 3) := td tX8_addFromBuffer_0_ok 22 (q := (41, .invokevirtual 268, 3)) rfl
theorem dX8_addFromBuffer_44 : decode cX8_addFromBuffer 44 = .ok (.ifCond .ne 5, 3) := td tX8_addFromBuffer_0_ok 23 (q := (44, .ifCond .ne 5, 3)) rfl
theorem dX8_addFromBuffer_47 : decode cX8_addFromBuffer 47 = .ok (.iload_n 2, 1) := td tX8_addFromBuffer_0_ok 24 (q := (47, .iload_n 2, 1)) rfl
theorem dX8_addFromBuffer_48 : decode cX8_addFromBuffer 48 = .ok (.ireturn, 1) := td tX8_addFromBuffer_0_ok 25 (q := (48, .ireturn, 1)) rfl
theorem dX8_addFromBuffer_49 : decode cX8_addFromBuffer 49 = .ok (.iinc 2 1, 3) := td tX8_addFromBuffer_0_ok 26 (q := (49, .iinc 2 1, 3)) rfl
theorem dX8_addFromBuffer_52 : decode cX8_addFromBuffer 52 = .ok (.aload_n 0, 1) := td tX8_addFromBuffer_0_ok 27 (q := (52, .aload_n 0, 1)) rfl
theorem dX8_addFromBuffer_53 : decode cX8_addFromBuffer 53 = .ok (.getfield 26, 3) := td tX8_addFromBuffer_0_ok 28 (q := (53, .getfield 26, 3)) rfl
theorem dX8_addFromBuffer_56 : decode cX8_addFromBuffer 56 = .ok (.iload 4, 2) := td tX8_addFromBuffer_0_ok 29 (q := (56, .iload 4, 2)) rfl
theorem dX8_addFromBuffer_58 : decode cX8_addFromBuffer 58 = .ok (.invokevirtual 261, 3) := td tX8_addFromBuffer_0_ok 30 (q := (58, .invokevirtual 261, 3)) rfl
theorem dX8_addFromBuffer_61 : decode cX8_addFromBuffer 61 = .ok (.pop, 1) := td tX8_addFromBuffer_0_ok 31 (q := (61, .pop, 1)) rfl
theorem dX8_addFromBuffer_62 : decode cX8_addFromBuffer 62 = .ok (.iinc 3 1, 3) := td tX8_addFromBuffer_0_ok 32 (q := (62, .iinc 3 1, 3)) rfl
theorem dX8_addFromBuffer_65 : decode cX8_addFromBuffer 65 = .ok (.goto (-54), 3) := td tX8_addFromBuffer_0_ok 33 (q := (65, .goto (-54), 3)) rfl
theorem dX8_addFromBuffer_68 : decode cX8_addFromBuffer 68 = .ok (.aload_n 0, 1) := td tX8_addFromBuffer_0_ok 34 (q := (68, .aload_n 0, 1)) rfl
theorem dX8_addFromBuffer_69 : decode cX8_addFromBuffer 69 = .ok (.iload_n 1, 1) := td tX8_addFromBuffer_0_ok 35 (q := (69, .iload_n 1, 1)) rfl
theorem dX8_addFromBuffer_70 : decode cX8_addFromBuffer 70 = .ok (.invokevirtual 268, 3) := td tX8_addFromBuffer_0_ok 36 (q := (70, .invokevirtual 268, 3)) rfl
theorem dX8_addFromBuffer_73 : decode cX8_addFromBuffer 73 = .ok (.ifCond .eq 9, 3) := td tX8_addFromBuffer_0_ok 37 (q := (73, .ifCond .eq 9, 3)) rfl
theorem dX8_addFromBuffer_76 : decode cX8_addFromBuffer 76 = .ok (.iload_n 2, 1) := td tX8_addFromBuffer_0_ok 38 (q := (76, .iload_n 2, 1)) rfl
theorem dX8_addFromBuffer_77 : decode cX8_addFromBuffer 77 = .ok (.iconst 1, 1) := td tX8_addFromBuffer_0_ok 39 (q := (77, .iconst 1, 1)) rfl
theorem dX8_addFromBuffer_78 : decode cX8_addFromBuffer 78 = .ok (.iadd, 1) := td tX8_addFromBuffer_0_ok 40 (q := (78, .iadd, 1)) rfl
theorem dX8_addFromBuffer_79 : decode cX8_addFromBuffer 79 = .ok (.goto 4, 3) := td tX8_addFromBuffer_0_ok 41 (q := (79, .goto 4, 3)) rfl
theorem dX8_addFromBuffer_82 : decode cX8_addFromBuffer 82 = .ok (.iload_n 2, 1) := td tX8_addFromBuffer_0_ok 42 (q := (82, .iload_n 2, 1)) rfl
theorem dX8_addFromBuffer_83 : decode cX8_addFromBuffer 83 = .ok (.ireturn, 1) := td tX8_addFromBuffer_0_ok 43 (q := (83, .ireturn, 1)) rfl
def fX8_addFromBuffer_11 (k11 : Int32 → (Nat → Int32) → (Nat → Int32) → Int32 → Int32 → Int32 → Int32 → Int32 → Int32 → Option (Int32 × (Nat → Int32) × (Nat → Int32) × Int32 × Int32 × Int32 × Int32 × Int32 × Int32)) (kbc : (Nat → Int32)) (kbl : Int32) (x1 : Int32) : Nat → Int32 → Int32 → (Nat → Int32) → (Nat → Int32) → Int32 → Int32 → Int32 → Int32 → Int32 → Int32 → Option (Int32 × (Nat → Int32) × (Nat → Int32) × Int32 × Int32 × Int32 × Int32 × Int32 × Int32)
  | 0, _, _, _, _, _, _, _, _, _, _ => none
  | n11 + 1, x2, x3, kc, kit, kr0, kr1, kr2, kr3, kr4, kr5 => (Option.bind (fX1_length kbl) (fun q2 => (if q2 ≤ x3 then (k11 x2 kc kit kr0 kr1 kr2 kr3 kr4 kr5) else (Option.bind (fX1_codeAt kbc x3) (fun q4 => (if q4 = (59 : Int32) then (Option.bind (fX8_addRead kc kit kr1 kr3 kr4 kr5 x1) (fun q7 => (if q7.1 = 0 then (some (x2, q7.2, kit, kr0, kr1, kr2, kr3, kr4, kr5)) else (Option.bind (fX6_accept kit kr0 kr1 kr2 kr3 kr4 kr5 q4) (fun q9 => (fX8_addFromBuffer_11 k11 kbc kbl x1 n11 (x2 + (1 : Int32)) (x3 + (1 : Int32)) q7.2 q9.2.1 q9.2.2.1 q9.2.2.2.1 q9.2.2.2.2.1 q9.2.2.2.2.2.1 q9.2.2.2.2.2.2.1 q9.2.2.2.2.2.2.2)))))) else (Option.bind (fX6_accept kit kr0 kr1 kr2 kr3 kr4 kr5 q4) (fun q6 => (fX8_addFromBuffer_11 k11 kbc kbl x1 n11 x2 (x3 + (1 : Int32)) kc q6.2.1 q6.2.2.1 q6.2.2.2.1 q6.2.2.2.2.1 q6.2.2.2.2.2.1 q6.2.2.2.2.2.2.1 q6.2.2.2.2.2.2.2)))))))))
def fX8_addFromBuffer (kc : (Nat → Int32)) (kbc : (Nat → Int32)) (kit : (Nat → Int32)) (kbl : Int32) (kr0 : Int32) (kr1 : Int32) (kr2 : Int32) (kr3 : Int32) (kr4 : Int32) (kr5 : Int32) (x1 : Int32) : Option (Int32 × (Nat → Int32) × (Nat → Int32) × Int32 × Int32 × Int32 × Int32 × Int32 × Int32) :=
  (Option.bind (fX6_restart kr0 kr1 kr2 kr5) (fun q1 => (fX8_addFromBuffer_11 (fun (u2_10 : Int32) (kc_u10 : (Nat → Int32)) (kit_u10 : (Nat → Int32)) (kr0_u10 : Int32) (kr1_u10 : Int32) (kr2_u10 : Int32) (kr3_u10 : Int32) (kr4_u10 : Int32) (kr5_u10 : Int32) => (Option.bind (fX8_addRead kc_u10 kit_u10 kr1_u10 kr3_u10 kr4_u10 kr5_u10 x1) (fun q19 => (if q19.1 = 0 then (some (u2_10, q19.2, kit_u10, kr0_u10, kr1_u10, kr2_u10, kr3_u10, kr4_u10, kr5_u10)) else (some (u2_10 + (1 : Int32), q19.2, kit_u10, kr0_u10, kr1_u10, kr2_u10, kr3_u10, kr4_u10, kr5_u10)))))) kbc kbl x1 LF (0 : Int32) (0 : Int32) kc kit q1.1 q1.2.1 q1.2.2.1 kr3 kr4 q1.2.2.2)))
set_option maxHeartbeats 4000000 in
set_option maxRecDepth 100000 in
theorem mX8_addFromBuffer {l : Launch} {D : va_G} {ad : Nat → Nat} {cI : ClassId} {kc : (Nat → Int32)} {ksv : (Nat → Int32)} {kbc : (Nat → Int32)} {kit : (Nat → Int32)} {kln : (Nat → Int32)} {ken : (Nat → Int32)} {kla : (Nat → Int32)} {kfi : (Nat → Int32)} {kea : (Nat → Int32)} {kns : Int32} {kbl : Int32} {kr0 : Int32} {kr1 : Int32} {kr2 : Int32} {kr3 : Int32} {kr4 : Int32} {kr5 : Int32} {klr : Int32} {kp0 : Int32} {kp1 : Int32} {kp2 : Int32} {kp3 : Int32} {x1 : Int32} {r : Int32} {kc' : (Nat → Int32)} {kit' : (Nat → Int32)} {kr0' : Int32} {kr1' : Int32} {kr2' : Int32} {kr3' : Int32} {kr4' : Int32} {kr5' : Int32} (hs : fX8_addFromBuffer kc kbc kit kbl kr0 kr1 kr2 kr3 kr4 kr5 x1 = some (r, kc', kit', kr0', kr1', kr2', kr3', kr4', kr5')) : nd_C l yX8_addFromBuffer cX8_addFromBuffer 5 (some .int) 4 84 D [(cI, .int)] [.ref (ad 0), .int x1] (CW ad cI kc ksv kbc kit kln ken kla kfi kea kns kbl kr0 kr1 kr2 kr3 kr4 kr5 klr kp0 kp1 kp2 kp3) (CW ad cI kc' ksv kbc kit' kln ken kla kfi kea kns kbl kr0' kr1' kr2' kr3' kr4' kr5' klr kp0 kp1 kp2 kp3) (some (.int r)) := by
  refine nd_ofCi (by decide) (Nat.le_of_ble_eq_true rfl) (fun p e s m args below meth c_ ls A Q hx hb hml hown hts hl hP hK hD hS hA hN hret => ?_)
  have hown : s.vm.findClass RX8 = some m.cls := hown
  have hl : lv_has ls 5 [(0, .ref (ad 0)), (1, .int x1)] := hl
  have hret : ∀ (z0 : Int32) (z1 : (Nat → Int32)) (z2 : (Nat → Int32)) (z3 : Int32) (z4 : Int32) (z5 : Int32) (z6 : Int32) (z7 : Int32) (z8 : Int32) {H : Heap} {locs : List Loc} {pc : Nat} {ls : Array Slot}, some (z0, z1, z2, z3, z4, z5, z6, z7, z8) = some (r, kc', kit', kr0', kr1', kr2', kr3', kr4', kr5') → va_P D vwCl (CW ad cI z1 ksv kbc z2 kln ken kla kfi kea kns kbl z3 z4 z5 z6 z7 z8 klr kp0 kp1 kp2 kp3) H → va_S A s.heap H locs → decode cX8_addFromBuffer pc = .ok (.ireturn, 1) → W p l e ⟨4, 0, 0, 84⟩ s m args below meth c_ H locs 0 0 Q (F0 m pc ls [.int z0]) := by
    intro z0 z1 z2 z3 z4 z5 z6 z7 z8 H locs pc ls h hP hS hd
    cases h
    exact hret hP hS hd
  rw [fX8_addFromBuffer] at hs
  refine lv_iconst (v := (0 : Int32)) hx hb dX8_addFromBuffer_0 (by decide) ?_
  refine lv_istore_n (lv' := [(2, .int (0 : Int32)), (0, .ref (ad 0)), (1, .int x1)]) hx hb dX8_addFromBuffer_1 rfl hl (by decide) rfl (fun ls hl => ?_)
  refine lv_aload_n hx hb dX8_addFromBuffer_2 rfl (lv_at hl 1 rfl) ?_
  refine gf_X8_26 hx hb hts hown hK hP 0 rfl rfl dX8_addFromBuffer_3 ?_
  obtain ⟨q1, eq1, hs⟩ := ob hs
  refine nd_callV (As := []) (rest := []) (st1 := []) hx hb hml hown hts hl hP hK hD hS hA hN (mX6_restart eq1) iv_X6_restart wd_169 3 rfl rfl rfl rfl ⟨Nat.le_of_ble_eq_true rfl, Nat.le_of_ble_eq_true rfl⟩ (Nat.le_of_ble_eq_true rfl) ⟨Nat.zero_le _, Nat.zero_le _⟩ dX8_addFromBuffer_6 rfl rfl (fun H locs hP hD hS => ?_)
  refine lv_iconst (v := (0 : Int32)) hx hb dX8_addFromBuffer_9 (by decide) ?_
  refine lv_istore_n (lv' := [(3, .int (0 : Int32)), (2, .int (0 : Int32)), (0, .ref (ad 0)), (1, .int x1)]) hx hb dX8_addFromBuffer_10 rfl hl (by decide) rfl (fun ls hl => ?_)
  have L11 : ∀ (n11 : Nat) (k11 : Int32 → (Nat → Int32) → (Nat → Int32) → Int32 → Int32 → Int32 → Int32 → Int32 → Int32 → Option (Int32 × (Nat → Int32) × (Nat → Int32) × Int32 × Int32 × Int32 × Int32 × Int32 × Int32)) (v2_10 : Int32) (v3_10 : Int32) (kc_10 : (Nat → Int32)) (kit_10 : (Nat → Int32)) (kr0_10 : Int32) (kr1_10 : Int32) (kr2_10 : Int32) (kr3_10 : Int32) (kr4_10 : Int32) (kr5_10 : Int32) (H : Heap) (locs : List Loc) (ls : Array Slot), lv_has ls 5 [(0, .ref (ad 0)), (1, .int x1), (2, .int v2_10), (3, .int v3_10)] → va_P D vwCl (CW ad cI kc_10 ksv kbc kit_10 kln ken kla kfi kea kns kbl kr0_10 kr1_10 kr2_10 kr3_10 kr4_10 kr5_10 klr kp0 kp1 kp2 kp3) H → va_S A s.heap H locs → fX8_addFromBuffer_11 k11 kbc kbl x1 n11 v2_10 v3_10 kc_10 kit_10 kr0_10 kr1_10 kr2_10 kr3_10 kr4_10 kr5_10 = some (r, kc', kit', kr0', kr1', kr2', kr3', kr4', kr5') → (∀ (u2_10 : Int32) (kc_u10 : (Nat → Int32)) (kit_u10 : (Nat → Int32)) (kr0_u10 : Int32) (kr1_u10 : Int32) (kr2_u10 : Int32) (kr3_u10 : Int32) (kr4_u10 : Int32) (kr5_u10 : Int32) (H : Heap) (locs : List Loc) (ls : Array Slot), lv_has ls 5 [(0, .ref (ad 0)), (1, .int x1), (2, .int u2_10)] → va_P D vwCl (CW ad cI kc_u10 ksv kbc kit_u10 kln ken kla kfi kea kns kbl kr0_u10 kr1_u10 kr2_u10 kr3_u10 kr4_u10 kr5_u10 klr kp0 kp1 kp2 kp3) H → va_S A s.heap H locs → k11 u2_10 kc_u10 kit_u10 kr0_u10 kr1_u10 kr2_u10 kr3_u10 kr4_u10 kr5_u10 = some (r, kc', kit', kr0', kr1', kr2', kr3', kr4', kr5') → W p l e ⟨4, 0, 0, 84⟩ s m args below meth c_ H locs 0 0 Q (F0 m 68 ls [])) → W p l e ⟨4, 0, 0, 84⟩ s m args below meth c_ H locs 0 0 Q (F0 m 11 ls []) := by
    intro n11
    induction n11 with
    | zero =>
      intro k11 v2_10 v3_10 kc_10 kit_10 kr0_10 kr1_10 kr2_10 kr3_10 kr4_10 kr5_10 H locs ls hl hP hS hs hk11
      rw [fX8_addFromBuffer_11] at hs
      cases hs
    | succ n11 ih11 =>
      intro k11 v2_10 v3_10 kc_10 kit_10 kr0_10 kr1_10 kr2_10 kr3_10 kr4_10 kr5_10 H locs ls hl hP hS hs hk11
      rw [fX8_addFromBuffer_11] at hs
      have hD : va_D A (CW ad cI kc_10 ksv kbc kit_10 kln ken kla kfi kea kns kbl kr0_10 kr1_10 kr2_10 kr3_10 kr4_10 kr5_10 klr kp0 kp1 kp2 kp3) := nd_DD hD rfl
      refine lv_iload_n hx hb dX8_addFromBuffer_11 rfl (lv_at hl 3 rfl) ?_
      refine lv_aload_n hx hb dX8_addFromBuffer_12 rfl (lv_at hl 0 rfl) ?_
      refine gf_X8_19 hx hb hts hown hK hP 0 rfl rfl dX8_addFromBuffer_13 ?_
      obtain ⟨q11, eq11, hs⟩ := ob hs
      refine nd_callV (As := []) (rest := [.int v3_10]) (st1 := [.int q11, .int v3_10]) hx hb hml hown hts hl hP hK hD hS hA hN (mX1_length eq11) iv_X1_length wd_177 2 rfl rfl rfl rfl ⟨Nat.le_of_ble_eq_true rfl, Nat.le_of_ble_eq_true rfl⟩ (Nat.le_of_ble_eq_true rfl) ⟨Nat.zero_le _, Nat.zero_le _⟩ dX8_addFromBuffer_16 rfl rfl (fun H locs hP hD hS => ?_)
      refine lv_icmp_ge (tgt := 68) hx hb dX8_addFromBuffer_19 (by decide) (fun b12 => ?_) (fun b12 => ?_)
      · have hs := ite_t hs b12
        exact hk11 v2_10 kc_10 kit_10 kr0_10 kr1_10 kr2_10 kr3_10 kr4_10 kr5_10 _ _ _ (lv_sub hl [0, 1, 2] rfl) hP hS hs
      · have hs := ite_f hs b12
        refine lv_aload_n hx hb dX8_addFromBuffer_22 rfl (lv_at hl 0 rfl) ?_
        refine gf_X8_19 hx hb hts hown hK hP 0 rfl rfl dX8_addFromBuffer_23 ?_
        refine lv_iload_n hx hb dX8_addFromBuffer_26 rfl (lv_at hl 3 rfl) ?_
        obtain ⟨q13, eq13, hs⟩ := ob hs
        refine nd_callV (As := [.int v3_10]) (rest := []) (st1 := [.int q13]) hx hb hml hown hts hl hP hK hD hS hA hN (mX1_codeAt eq13) iv_X1_codeAt wd_181 2 rfl rfl rfl rfl ⟨Nat.le_of_ble_eq_true rfl, Nat.le_of_ble_eq_true rfl⟩ (Nat.le_of_ble_eq_true rfl) ⟨Nat.zero_le _, Nat.zero_le _⟩ dX8_addFromBuffer_27 rfl rfl (fun H locs hP hD hS => ?_)
        refine lv_istore (lv' := [(4, .int q13), (0, .ref (ad 0)), (1, .int x1), (2, .int v2_10), (3, .int v3_10)]) hx hb dX8_addFromBuffer_30 hl (by decide) rfl (fun ls hl => ?_)
        refine lv_iload hx hb dX8_addFromBuffer_32 (lv_at hl 0 rfl) ?_
        refine lv_bipush (v := (59 : Int32)) hx hb dX8_addFromBuffer_34 (by decide) ?_
        refine lv_icmp_ne (tgt := 52) hx hb dX8_addFromBuffer_36 (by decide) (fun b14 => ?_) (fun b14 => ?_)
        · have hs := ite_f hs b14
          refine lv_aload_n hx hb dX8_addFromBuffer_52 rfl (lv_at hl 1 rfl) ?_
          refine gf_X8_26 hx hb hts hown hK hP 0 rfl rfl dX8_addFromBuffer_53 ?_
          refine lv_iload hx hb dX8_addFromBuffer_56 (lv_at hl 0 rfl) ?_
          obtain ⟨q15, eq15, hs⟩ := ob hs
          refine nd_callV (As := [.int q13]) (rest := []) (st1 := [.int q15.1]) hx hb hml hown hts hl hP hK hD hS hA hN (mX6_accept eq15) iv_X6_accept wd_185 3 rfl rfl rfl rfl ⟨Nat.le_of_ble_eq_true rfl, Nat.le_of_ble_eq_true rfl⟩ (Nat.le_of_ble_eq_true rfl) ⟨Nat.zero_le _, Nat.zero_le _⟩ dX8_addFromBuffer_58 rfl rfl (fun H locs hP hD hS => ?_)
          refine lv_pop hx hb dX8_addFromBuffer_61 rfl ?_
          refine lv_iinc (v := v3_10 + (1 : Int32)) (lv' := [(3, .int (v3_10 + (1 : Int32))), (4, .int q13), (0, .ref (ad 0)), (1, .int x1), (2, .int v2_10)]) hx hb dX8_addFromBuffer_62 hl (k := 4) rfl rfl (by decide) rfl (fun ls hl => ?_)
          refine lv_goto (tgt := 11) hx hb dX8_addFromBuffer_65 (by decide) ?_
          exact ih11 k11 v2_10 (v3_10 + (1 : Int32)) kc_10 q15.2.1 q15.2.2.1 q15.2.2.2.1 q15.2.2.2.2.1 q15.2.2.2.2.2.1 q15.2.2.2.2.2.2.1 q15.2.2.2.2.2.2.2 _ _ _ (lv_sub hl [2, 3, 4, 0] rfl) hP hS hs hk11
        · have hs := ite_t hs b14
          refine lv_aload_n hx hb dX8_addFromBuffer_39 rfl (lv_at hl 1 rfl) ?_
          refine lv_iload_n hx hb dX8_addFromBuffer_40 rfl (lv_at hl 2 rfl) ?_
          obtain ⟨q16, eq16, hs⟩ := ob hs
          refine nd_callV (As := [.int x1]) (rest := []) (st1 := [.int q16.1]) hx hb hml hown hts hl hP hK hD hS hA hN (mX8_addRead eq16) iv_X8_addRead wd_222 0 rfl rfl rfl rfl ⟨Nat.le_of_ble_eq_true rfl, Nat.le_of_ble_eq_true rfl⟩ (Nat.le_of_ble_eq_true rfl) ⟨Nat.zero_le _, Nat.zero_le _⟩ dX8_addFromBuffer_41 rfl rfl (fun H locs hP hD hS => ?_)
          refine lv_if_ne (tgt := 49) hx hb dX8_addFromBuffer_44 (by decide) (fun b17 => ?_) (fun b17 => ?_)
          · have hs := ite_f hs b17
            refine lv_iinc (v := v2_10 + (1 : Int32)) (lv' := [(2, .int (v2_10 + (1 : Int32))), (4, .int q13), (0, .ref (ad 0)), (1, .int x1), (3, .int v3_10)]) hx hb dX8_addFromBuffer_49 hl (k := 3) rfl rfl (by decide) rfl (fun ls hl => ?_)
            refine lv_aload_n hx hb dX8_addFromBuffer_52 rfl (lv_at hl 2 rfl) ?_
            refine gf_X8_26 hx hb hts hown hK hP 0 rfl rfl dX8_addFromBuffer_53 ?_
            refine lv_iload hx hb dX8_addFromBuffer_56 (lv_at hl 1 rfl) ?_
            obtain ⟨q18, eq18, hs⟩ := ob hs
            refine nd_callV (As := [.int q13]) (rest := []) (st1 := [.int q18.1]) hx hb hml hown hts hl hP hK hD hS hA hN (mX6_accept eq18) iv_X6_accept wd_185 3 rfl rfl rfl rfl ⟨Nat.le_of_ble_eq_true rfl, Nat.le_of_ble_eq_true rfl⟩ (Nat.le_of_ble_eq_true rfl) ⟨Nat.zero_le _, Nat.zero_le _⟩ dX8_addFromBuffer_58 rfl rfl (fun H locs hP hD hS => ?_)
            refine lv_pop hx hb dX8_addFromBuffer_61 rfl ?_
            refine lv_iinc (v := v3_10 + (1 : Int32)) (lv' := [(3, .int (v3_10 + (1 : Int32))), (2, .int (v2_10 + (1 : Int32))), (4, .int q13), (0, .ref (ad 0)), (1, .int x1)]) hx hb dX8_addFromBuffer_62 hl (k := 4) rfl rfl (by decide) rfl (fun ls hl => ?_)
            refine lv_goto (tgt := 11) hx hb dX8_addFromBuffer_65 (by decide) ?_
            exact ih11 k11 (v2_10 + (1 : Int32)) (v3_10 + (1 : Int32)) q16.2 q18.2.1 q18.2.2.1 q18.2.2.2.1 q18.2.2.2.2.1 q18.2.2.2.2.2.1 q18.2.2.2.2.2.2.1 q18.2.2.2.2.2.2.2 _ _ _ (lv_sub hl [3, 4, 1, 0] rfl) hP hS hs hk11
          · have hs := ite_t hs b17
            refine lv_iload_n hx hb dX8_addFromBuffer_47 rfl (lv_at hl 3 rfl) ?_
            exact hret _ _ _ _ _ _ _ _ _ hs hP hS dX8_addFromBuffer_48
  refine L11 LF _ (0 : Int32) (0 : Int32) kc kit q1.1 q1.2.1 q1.2.2.1 kr3 kr4 q1.2.2.2 _ _ _ (lv_sub hl [2, 3, 1, 0] rfl) hP hS hs (fun u2_10 kc_u10 kit_u10 kr0_u10 kr1_u10 kr2_u10 kr3_u10 kr4_u10 kr5_u10 H locs ls hl hP hS hs => ?_)
  have hD : va_D A (CW ad cI kc_u10 ksv kbc kit_u10 kln ken kla kfi kea kns kbl kr0_u10 kr1_u10 kr2_u10 kr3_u10 kr4_u10 kr5_u10 klr kp0 kp1 kp2 kp3) := nd_DD hD rfl
  refine lv_aload_n hx hb dX8_addFromBuffer_68 rfl (lv_at hl 0 rfl) ?_
  refine lv_iload_n hx hb dX8_addFromBuffer_69 rfl (lv_at hl 1 rfl) ?_
  obtain ⟨q19, eq19, hs⟩ := ob hs
  refine nd_callV (As := [.int x1]) (rest := []) (st1 := [.int q19.1]) hx hb hml hown hts hl hP hK hD hS hA hN (mX8_addRead eq19) iv_X8_addRead wd_222 0 rfl rfl rfl rfl ⟨Nat.le_of_ble_eq_true rfl, Nat.le_of_ble_eq_true rfl⟩ (Nat.le_of_ble_eq_true rfl) ⟨Nat.zero_le _, Nat.zero_le _⟩ dX8_addFromBuffer_70 rfl rfl (fun H locs hP hD hS => ?_)
  refine lv_if_eq (tgt := 82) hx hb dX8_addFromBuffer_73 (by decide) (fun b20 => ?_) (fun b20 => ?_)
  · have hs := ite_t hs b20
    refine lv_iload_n hx hb dX8_addFromBuffer_82 rfl (lv_at hl 2 rfl) ?_
    exact hret _ _ _ _ _ _ _ _ _ hs hP hS dX8_addFromBuffer_83
  · have hs := ite_f hs b20
    refine lv_iload_n hx hb dX8_addFromBuffer_76 rfl (lv_at hl 2 rfl) ?_
    refine lv_iconst (v := (1 : Int32)) hx hb dX8_addFromBuffer_77 (by decide) ?_
    refine lv_iadd hx hb dX8_addFromBuffer_78 ?_
    refine lv_goto (tgt := 83) hx hb dX8_addFromBuffer_79 (by decide) ?_
    exact hret _ _ _ _ _ _ _ _ _ hs hP hS dX8_addFromBuffer_83
def tX8_paste_0 : List (Nat × Instr × Nat) := [(0, .aload_n 0, 1), (1, .iload_n 1, 1), (2, .invokevirtual 71, 3), (5, .aload_n 0, 1), (6, .invokevirtual 75, 3), (9, .ifCond .ne 13, 3), (12, .new 48, 3), (15, .dup, 1), (16, .ldc 79, 2), (18, .invokespecial 52, 3), (21, .athrow, 1), (22, .aload_n 0, 1), (23, .getfield 12, 3), (26, .invokevirtual 64, 3), (29, .aload_n 0, 1), (30, .iload_n 1, 1), (31, .invokevirtual 81, 3), (34, .istore_n 2, 1), (35, .aload_n 0, 1), (36, .getfield 19, 3), (39, .invokevirtual 85, 3), (42, .iload_n 2, 1), (43, .ireturn, 1)]
theorem tX8_paste_0_ok : tX8_paste_0.all (fun q => decide (decode cX8_paste q.1 = .ok q.2)) = true := by decide +kernel
theorem dX8_paste_0 : decode cX8_paste 0 = .ok (.aload_n 0, 1) := td tX8_paste_0_ok 0 (q := (0, .aload_n 0, 1)) rfl
theorem dX8_paste_1 : decode cX8_paste 1 = .ok (.iload_n 1, 1) := td tX8_paste_0_ok 1 (q := (1, .iload_n 1, 1)) rfl
theorem dX8_paste_2 : decode cX8_paste 2 = .ok (.invokevirtual 71, 3) := td tX8_paste_0_ok 2 (q := (2, .invokevirtual 71, 3)) rfl
theorem dX8_paste_5 : decode cX8_paste 5 = .ok (.aload_n 0, 1) := td tX8_paste_0_ok 3 (q := (5, .aload_n 0, 1)) rfl
theorem dX8_paste_6 : decode cX8_paste 6 = .ok (.invokevirtual 75, 3) := td tX8_paste_0_ok 4 (q := (6, .invokevirtual 75, 3)) rfl
theorem dX8_paste_9 : decode cX8_paste 9 = .ok (.ifCond .ne 13, 3) := td tX8_paste_0_ok 5 (q := (9, .ifCond .ne 13, 3)) rfl
theorem dX8_paste_12 : decode cX8_paste 12 = .ok (.new 48, 3) := td tX8_paste_0_ok 6 (q := (12, .new 48, 3)) rfl
theorem dX8_paste_15 : decode cX8_paste 15 = .ok (.dup, 1) := td tX8_paste_0_ok 7 (q := (15, .dup, 1)) rfl
theorem dX8_paste_16 : decode cX8_paste 16 = .ok (.ldc 79, 2) := td tX8_paste_0_ok 8 (q := (16, .ldc 79, 2)) rfl
theorem dX8_paste_18 : decode cX8_paste 18 = .ok (.invokespecial 52, 3) := td tX8_paste_0_ok 9 (q := (18, .invokespecial 52, 3)) rfl
theorem dX8_paste_21 : decode cX8_paste 21 = .ok (.athrow, 1) := td tX8_paste_0_ok 10 (q := (21, .athrow, 1)) rfl
theorem dX8_paste_22 : decode cX8_paste 22 = .ok (.aload_n 0, 1) := td tX8_paste_0_ok 11 (q := (22, .aload_n 0, 1)) rfl
theorem dX8_paste_23 : decode cX8_paste 23 = .ok (.getfield 12, 3) := td tX8_paste_0_ok 12 (q := (23, .getfield 12, 3)) rfl
theorem dX8_paste_26 : decode cX8_paste 26 = .ok (.invokevirtual 64, 3) := td tX8_paste_0_ok 13 (q := (26, .invokevirtual 64, 3)) rfl
theorem dX8_paste_29 : decode cX8_paste 29 = .ok (.aload_n 0, 1) := td tX8_paste_0_ok 14 (q := (29, .aload_n 0, 1)) rfl
theorem dX8_paste_30 : decode cX8_paste 30 = .ok (.iload_n 1, 1) := td tX8_paste_0_ok 15 (q := (30, .iload_n 1, 1)) rfl
theorem dX8_paste_31 : decode cX8_paste 31 = .ok (.invokevirtual 81, 3) := td tX8_paste_0_ok 16 (q := (31, .invokevirtual 81, 3)) rfl
theorem dX8_paste_34 : decode cX8_paste 34 = .ok (.istore_n 2, 1) := td tX8_paste_0_ok 17 (q := (34, .istore_n 2, 1)) rfl
theorem dX8_paste_35 : decode cX8_paste 35 = .ok (.aload_n 0, 1) := td tX8_paste_0_ok 18 (q := (35, .aload_n 0, 1)) rfl
theorem dX8_paste_36 : decode cX8_paste 36 = .ok (.getfield 19, 3) := td tX8_paste_0_ok 19 (q := (36, .getfield 19, 3)) rfl
theorem dX8_paste_39 : decode cX8_paste 39 = .ok (.invokevirtual 85, 3) := td tX8_paste_0_ok 20 (q := (39, .invokevirtual 85, 3)) rfl
theorem dX8_paste_42 : decode cX8_paste 42 = .ok (.iload_n 2, 1) := td tX8_paste_0_ok 21 (q := (42, .iload_n 2, 1)) rfl
theorem dX8_paste_43 : decode cX8_paste 43 = .ok (.ireturn, 1) := td tX8_paste_0_ok 22 (q := (43, .ireturn, 1)) rfl
def fX8_paste (kc : (Nat → Int32)) (ksv : (Nat → Int32)) (kbc : (Nat → Int32)) (kit : (Nat → Int32)) (kns : Int32) (kbl : Int32) (kr0 : Int32) (kr1 : Int32) (kr2 : Int32) (kr3 : Int32) (kr4 : Int32) (kr5 : Int32) (x1 : Int32) : Option (Nat ⊕ (Int32 × (Nat → Int32) × (Nat → Int32) × (Nat → Int32) × Int32 × Int32 × Int32 × Int32 × Int32 × Int32 × Int32 × Int32)) :=
  (Option.bind (fX8_requirePiece kc x1) (fun q1 => (xs q1 (fun _ => (Option.bind (fX8_bufferTellsReceipts kbc kit kbl kr0 kr1 kr2 kr3 kr4 kr5) (fun q3 => (if q3.1 = 0 then (some (.inl 1)) else (Option.bind (fX0_save kc ksv kns) (fun q5 => (Option.bind (fX8_addFromBuffer kc kbc q3.2.1 kbl q3.2.2.1 q3.2.2.2.1 q3.2.2.2.2.1 q3.2.2.2.2.2.1 q3.2.2.2.2.2.2.1 q3.2.2.2.2.2.2.2 x1) (fun q6 => (Option.bind (fX1_clear kbl) (fun q7 => (some (.inr (q6.1, q6.2.1, q5.1, q6.2.2.1, q5.2, q7, q6.2.2.2.1, q6.2.2.2.2.1, q6.2.2.2.2.2.1, q6.2.2.2.2.2.2.1, q6.2.2.2.2.2.2.2.1, q6.2.2.2.2.2.2.2.2))))))))))))))))
set_option maxHeartbeats 4000000 in
set_option maxRecDepth 100000 in
theorem mX8_paste {l : Launch} {D : va_G} {ad : Nat → Nat} {cI : ClassId} {kc : (Nat → Int32)} {ksv : (Nat → Int32)} {kbc : (Nat → Int32)} {kit : (Nat → Int32)} {kln : (Nat → Int32)} {ken : (Nat → Int32)} {kla : (Nat → Int32)} {kfi : (Nat → Int32)} {kea : (Nat → Int32)} {kns : Int32} {kbl : Int32} {kr0 : Int32} {kr1 : Int32} {kr2 : Int32} {kr3 : Int32} {kr4 : Int32} {kr5 : Int32} {klr : Int32} {kp0 : Int32} {kp1 : Int32} {kp2 : Int32} {kp3 : Int32} {x1 : Int32} {r : Int32} {kc' : (Nat → Int32)} {ksv' : (Nat → Int32)} {kit' : (Nat → Int32)} {kns' : Int32} {kbl' : Int32} {kr0' : Int32} {kr1' : Int32} {kr2' : Int32} {kr3' : Int32} {kr4' : Int32} {kr5' : Int32} (hs : fX8_paste kc ksv kbc kit kns kbl kr0 kr1 kr2 kr3 kr4 kr5 x1 = some (.inr (r, kc', ksv', kit', kns', kbl', kr0', kr1', kr2', kr3', kr4', kr5'))) : nd_C l yX8_paste cX8_paste 3 (some .int) 6 125 D [(cI, .int)] [.ref (ad 0), .int x1] (CW ad cI kc ksv kbc kit kln ken kla kfi kea kns kbl kr0 kr1 kr2 kr3 kr4 kr5 klr kp0 kp1 kp2 kp3) (CW ad cI kc' ksv' kbc kit' kln ken kla kfi kea kns' kbl' kr0' kr1' kr2' kr3' kr4' kr5' klr kp0 kp1 kp2 kp3) (some (.int r)) := by
  refine nd_ofCi (by decide) (Nat.le_of_ble_eq_true rfl) (fun p e s m args below meth c_ ls A Q hx hb hml hown hts hl hP hK hD hS hA hN hret => ?_)
  have hown : s.vm.findClass RX8 = some m.cls := hown
  have hl : lv_has ls 3 [(0, .ref (ad 0)), (1, .int x1)] := hl
  have hret : ∀ (z0 : Int32) (z1 : (Nat → Int32)) (z2 : (Nat → Int32)) (z3 : (Nat → Int32)) (z4 : Int32) (z5 : Int32) (z6 : Int32) (z7 : Int32) (z8 : Int32) (z9 : Int32) (z10 : Int32) (z11 : Int32) {H : Heap} {locs : List Loc} {pc : Nat} {ls : Array Slot}, some (Sum.inr (α := Nat) (z0, z1, z2, z3, z4, z5, z6, z7, z8, z9, z10, z11)) = some (.inr (r, kc', ksv', kit', kns', kbl', kr0', kr1', kr2', kr3', kr4', kr5')) → va_P D vwCl (CW ad cI z1 z2 kbc z3 kln ken kla kfi kea z4 z5 z6 z7 z8 z9 z10 z11 klr kp0 kp1 kp2 kp3) H → va_S A s.heap H locs → decode cX8_paste pc = .ok (.ireturn, 1) → W p l e ⟨6, 0, 0, 125⟩ s m args below meth c_ H locs 0 0 Q (F0 m pc ls [.int z0]) := by
    intro z0 z1 z2 z3 z4 z5 z6 z7 z8 z9 z10 z11 H locs pc ls h hP hS hd
    cases h
    exact hret hP hS hd
  rw [fX8_paste] at hs
  refine lv_aload_n hx hb dX8_paste_0 rfl (lv_at hl 0 rfl) ?_
  refine lv_iload_n hx hb dX8_paste_1 rfl (lv_at hl 1 rfl) ?_
  obtain ⟨q2, eq1, hs⟩ := xob_r hs
  refine nd_callV (As := [.int x1]) (rest := []) (st1 := []) hx hb hml hown hts hl hP hK hD hS hA hN (mX8_requirePiece eq1) iv_X8_requirePiece wd_155 0 rfl rfl rfl rfl ⟨Nat.le_of_ble_eq_true rfl, Nat.le_of_ble_eq_true rfl⟩ (Nat.le_of_ble_eq_true rfl) ⟨Nat.zero_le _, Nat.zero_le _⟩ dX8_paste_2 rfl rfl (fun H locs hP hD hS => ?_)
  refine lv_aload_n hx hb dX8_paste_5 rfl (lv_at hl 0 rfl) ?_
  obtain ⟨q3, eq3, hs⟩ := ob hs
  refine nd_callV (As := []) (rest := []) (st1 := [.int q3.1]) hx hb hml hown hts hl hP hK hD hS hA hN (mX8_bufferTellsReceipts eq3) iv_X8_bufferTellsReceipts wd_161 0 rfl rfl rfl rfl ⟨Nat.le_of_ble_eq_true rfl, Nat.le_of_ble_eq_true rfl⟩ (Nat.le_of_ble_eq_true rfl) ⟨Nat.zero_le _, Nat.zero_le _⟩ dX8_paste_6 rfl rfl (fun H locs hP hD hS => ?_)
  refine lv_if_ne (tgt := 22) hx hb dX8_paste_9 (by decide) (fun b4 => ?_) (fun b4 => ?_)
  · have hs := ite_f hs b4
    refine lv_aload_n hx hb dX8_paste_22 rfl (lv_at hl 0 rfl) ?_
    refine gf_X8_12 hx hb hts hown hK hP 0 rfl rfl dX8_paste_23 ?_
    obtain ⟨q5, eq5, hs⟩ := ob hs
    refine nd_callV (As := []) (rest := []) (st1 := []) hx hb hml hown hts hl hP hK hD hS hA hN (mX0_save eq5) iv_X0_save wd_106 1 rfl rfl rfl rfl ⟨Nat.le_of_ble_eq_true rfl, Nat.le_of_ble_eq_true rfl⟩ (Nat.le_of_ble_eq_true rfl) ⟨Nat.zero_le _, Nat.zero_le _⟩ dX8_paste_26 rfl rfl (fun H locs hP hD hS => ?_)
    refine lv_aload_n hx hb dX8_paste_29 rfl (lv_at hl 0 rfl) ?_
    refine lv_iload_n hx hb dX8_paste_30 rfl (lv_at hl 1 rfl) ?_
    obtain ⟨q6, eq6, hs⟩ := ob hs
    refine nd_callV (As := [.int x1]) (rest := []) (st1 := [.int q6.1]) hx hb hml hown hts hl hP hK hD hS hA hN (mX8_addFromBuffer eq6) iv_X8_addFromBuffer wd_218 0 rfl rfl rfl rfl ⟨Nat.le_of_ble_eq_true rfl, Nat.le_of_ble_eq_true rfl⟩ (Nat.le_of_ble_eq_true rfl) ⟨Nat.zero_le _, Nat.zero_le _⟩ dX8_paste_31 rfl rfl (fun H locs hP hD hS => ?_)
    refine lv_istore_n (lv' := [(2, .int q6.1), (0, .ref (ad 0)), (1, .int x1)]) hx hb dX8_paste_34 rfl hl (by decide) rfl (fun ls hl => ?_)
    refine lv_aload_n hx hb dX8_paste_35 rfl (lv_at hl 1 rfl) ?_
    refine gf_X8_19 hx hb hts hown hK hP 0 rfl rfl dX8_paste_36 ?_
    obtain ⟨q7, eq7, hs⟩ := ob hs
    refine nd_callV (As := []) (rest := []) (st1 := []) hx hb hml hown hts hl hP hK hD hS hA hN (mX1_clear eq7) iv_X1_clear wd_263 2 rfl rfl rfl rfl ⟨Nat.le_of_ble_eq_true rfl, Nat.le_of_ble_eq_true rfl⟩ (Nat.le_of_ble_eq_true rfl) ⟨Nat.zero_le _, Nat.zero_le _⟩ dX8_paste_39 rfl rfl (fun H locs hP hD hS => ?_)
    refine lv_iload_n hx hb dX8_paste_42 rfl (lv_at hl 0 rfl) ?_
    exact hret _ _ _ _ _ _ _ _ _ _ _ _ hs hP hS dX8_paste_43
  · have hs := ite_t hs b4
    cases hs
set_option maxHeartbeats 4000000 in
set_option maxRecDepth 100000 in
theorem xX8_paste {l : Launch} (hnt : l.stackTraces = false) {D : va_G} {ad : Nat → Nat} {cI : ClassId} {kc : (Nat → Int32)} {ksv : (Nat → Int32)} {kbc : (Nat → Int32)} {kit : (Nat → Int32)} {kln : (Nat → Int32)} {ken : (Nat → Int32)} {kla : (Nat → Int32)} {kfi : (Nat → Int32)} {kea : (Nat → Int32)} {kns : Int32} {kbl : Int32} {kr0 : Int32} {kr1 : Int32} {kr2 : Int32} {kr3 : Int32} {kr4 : Int32} {kr5 : Int32} {klr : Int32} {kp0 : Int32} {kp1 : Int32} {kp2 : Int32} {kp3 : Int32} {x1 : Int32} {k : Nat} (hs : fX8_paste kc ksv kbc kit kns kbl kr0 kr1 kr2 kr3 kr4 kr5 x1 = some (.inl k)) : nd_CX l yX8_paste cX8_paste 3 (some .int) 7 125 D [(cI, .int)] [.ref (ad 0), .int x1] (CW ad cI kc ksv kbc kit kln ken kla kfi kea kns kbl kr0 kr1 kr2 kr3 kr4 kr5 klr kp0 kp1 kp2 kp3) (fun W1 => ∃ (kit : (Nat → Int32)) (kr0 : Int32) (kr1 : Int32) (kr2 : Int32) (kr3 : Int32) (kr4 : Int32) (kr5 : Int32), W1 = (CW ad cI kc ksv kbc kit kln ken kla kfi kea kns kbl kr0 kr1 kr2 kr3 kr4 kr5 klr kp0 kp1 kp2 kp3)) k := by
  refine nd_ofX (by decide) (Nat.le_of_ble_eq_true rfl) (fun p e s m args below meth c_ ls A hx hb hml hown hts hl hP hK hD hS hA hN hX hxt hlocks hAe => ?_)
  have hown : s.vm.findClass RX8 = some m.cls := hown
  have hl : lv_has ls 3 [(0, .ref (ad 0)), (1, .int x1)] := hl
  rw [fX8_paste] at hs
  refine lv_aload_n hx hb dX8_paste_0 rfl (lv_at hl 0 rfl) ?_
  refine lv_iload_n hx hb dX8_paste_1 rfl (lv_at hl 1 rfl) ?_
  rcases xob_l hs with eq1 | ⟨q2, eq1, hs⟩
  · exact nd_callXV (fun _ h => ⟨_, _, _, _, _, _, _, h⟩) (As := [.int x1]) (rest := []) hx hb hml hown hts hl hP hK hD hS hA hN hX hxt hlocks hAe (xX8_requirePiece hnt eq1) iv_X8_requirePiece wd_155 0 rfl rfl rfl ⟨Nat.le_of_ble_eq_true rfl, Nat.le_of_ble_eq_true rfl⟩ (by decide) (Nat.le_of_ble_eq_true rfl) dX8_paste_2 rfl
  refine nd_callV (As := [.int x1]) (rest := []) (st1 := []) hx hb hml hown hts hl hP hK hD hS hA hN (mX8_requirePiece eq1) iv_X8_requirePiece wd_155 0 rfl rfl rfl rfl ⟨Nat.le_of_ble_eq_true rfl, Nat.le_of_ble_eq_true rfl⟩ (Nat.le_of_ble_eq_true rfl) ⟨Nat.zero_le _, Nat.zero_le _⟩ dX8_paste_2 rfl rfl (fun H locs hP hD hS => ?_)
  refine lv_aload_n hx hb dX8_paste_5 rfl (lv_at hl 0 rfl) ?_
  obtain ⟨q3, eq3, hs⟩ := ob hs
  refine nd_callV (As := []) (rest := []) (st1 := [.int q3.1]) hx hb hml hown hts hl hP hK hD hS hA hN (mX8_bufferTellsReceipts eq3) iv_X8_bufferTellsReceipts wd_161 0 rfl rfl rfl rfl ⟨Nat.le_of_ble_eq_true rfl, Nat.le_of_ble_eq_true rfl⟩ (Nat.le_of_ble_eq_true rfl) ⟨Nat.zero_le _, Nat.zero_le _⟩ dX8_paste_6 rfl rfl (fun H locs hP hD hS => ?_)
  refine lv_if_ne (tgt := 22) hx hb dX8_paste_9 (by decide) (fun b4 => ?_) (fun b4 => ?_)
  · have hs := ite_f hs b4
    refine lv_aload_n hx hb dX8_paste_22 rfl (lv_at hl 0 rfl) ?_
    refine gf_X8_12 hx hb hts hown hK hP 0 rfl rfl dX8_paste_23 ?_
    obtain ⟨q5, eq5, hs⟩ := ob hs
    refine nd_callV (As := []) (rest := []) (st1 := []) hx hb hml hown hts hl hP hK hD hS hA hN (mX0_save eq5) iv_X0_save wd_106 1 rfl rfl rfl rfl ⟨Nat.le_of_ble_eq_true rfl, Nat.le_of_ble_eq_true rfl⟩ (Nat.le_of_ble_eq_true rfl) ⟨Nat.zero_le _, Nat.zero_le _⟩ dX8_paste_26 rfl rfl (fun H locs hP hD hS => ?_)
    refine lv_aload_n hx hb dX8_paste_29 rfl (lv_at hl 0 rfl) ?_
    refine lv_iload_n hx hb dX8_paste_30 rfl (lv_at hl 1 rfl) ?_
    obtain ⟨q6, eq6, hs⟩ := ob hs
    refine nd_callV (As := [.int x1]) (rest := []) (st1 := [.int q6.1]) hx hb hml hown hts hl hP hK hD hS hA hN (mX8_addFromBuffer eq6) iv_X8_addFromBuffer wd_218 0 rfl rfl rfl rfl ⟨Nat.le_of_ble_eq_true rfl, Nat.le_of_ble_eq_true rfl⟩ (Nat.le_of_ble_eq_true rfl) ⟨Nat.zero_le _, Nat.zero_le _⟩ dX8_paste_31 rfl rfl (fun H locs hP hD hS => ?_)
    refine lv_istore_n (lv' := [(2, .int q6.1), (0, .ref (ad 0)), (1, .int x1)]) hx hb dX8_paste_34 rfl hl (by decide) rfl (fun ls hl => ?_)
    refine lv_aload_n hx hb dX8_paste_35 rfl (lv_at hl 1 rfl) ?_
    refine gf_X8_19 hx hb hts hown hK hP 0 rfl rfl dX8_paste_36 ?_
    obtain ⟨q7, eq7, hs⟩ := ob hs
    refine nd_callV (As := []) (rest := []) (st1 := []) hx hb hml hown hts hl hP hK hD hS hA hN (mX1_clear eq7) iv_X1_clear wd_263 2 rfl rfl rfl rfl ⟨Nat.le_of_ble_eq_true rfl, Nat.le_of_ble_eq_true rfl⟩ (Nat.le_of_ble_eq_true rfl) ⟨Nat.zero_le _, Nat.zero_le _⟩ dX8_paste_39 rfl rfl (fun H locs hP hD hS => ?_)
    refine lv_iload_n hx hb dX8_paste_42 rfl (lv_at hl 0 rfl) ?_
    cases hs
  · have hs := ite_t hs b4
    cases hs
    exact nd_thr1 hx hb hnt hown hts hX hS (hl.1.trans hml.symm) (is := 79) str_79 dX8_paste_12 dX8_paste_15 dX8_paste_16 dX8_paste_18 dX8_paste_21 hxt hlocks ⟨_, _, _, _, _, _, _, rfl⟩ hP hAe (Nat.le_of_ble_eq_true rfl) (Nat.le_of_ble_eq_true rfl)
def tX8_cut_0 : List (Nat × Instr × Nat) := [(0, .aload_n 0, 1), (1, .iload_n 1, 1), (2, .invokevirtual 71, 3), (5, .aload_n 0, 1), (6, .getfield 12, 3), (9, .iload_n 1, 1), (10, .invokevirtual 88, 3), (13, .iconst 1, 1), (14, .isub, 1), (15, .istore_n 2, 1), (16, .iload_n 2, 1), (17, .ifCond .ge 13, 3), (20, .new 59, 3), (23, .dup, 1), (24, .ldc 91, 2), (26, .invokespecial 63, 3), (29, .athrow, 1), (30, .aload_n 0, 1), (31, .getfield 12, 3), (34, .invokevirtual 64, 3), (37, .aload_n 0, 1), (38, .getfield 12, 3), (41, .bipush 41, 2), (43, .iload_n 1, 1), (44, .iadd, 1), (45, .iload_n 2, 1), (46, .invokevirtual 93, 3), (49, .aload_n 0, 1), (50, .getfield 12, 3), (53, .iload_n 1, 1), (54, .iload_n 2, 1), (55, .invokestatic 97, 3), (58, .invokevirtual 100, 3), (61, .ireturn, 1)]
theorem tX8_cut_0_ok : tX8_cut_0.all (fun q => decide (decode cX8_cut q.1 = .ok q.2)) = true := by decide +kernel
theorem dX8_cut_0 : decode cX8_cut 0 = .ok (.aload_n 0, 1) := td tX8_cut_0_ok 0 (q := (0, .aload_n 0, 1)) rfl
theorem dX8_cut_1 : decode cX8_cut 1 = .ok (.iload_n 1, 1) := td tX8_cut_0_ok 1 (q := (1, .iload_n 1, 1)) rfl
theorem dX8_cut_2 : decode cX8_cut 2 = .ok (.invokevirtual 71, 3) := td tX8_cut_0_ok 2 (q := (2, .invokevirtual 71, 3)) rfl
theorem dX8_cut_5 : decode cX8_cut 5 = .ok (.aload_n 0, 1) := td tX8_cut_0_ok 3 (q := (5, .aload_n 0, 1)) rfl
theorem dX8_cut_6 : decode cX8_cut 6 = .ok (.getfield 12, 3) := td tX8_cut_0_ok 4 (q := (6, .getfield 12, 3)) rfl
theorem dX8_cut_9 : decode cX8_cut 9 = .ok (.iload_n 1, 1) := td tX8_cut_0_ok 5 (q := (9, .iload_n 1, 1)) rfl
theorem dX8_cut_10 : decode cX8_cut 10 = .ok (.invokevirtual 88, 3) := td tX8_cut_0_ok 6 (q := (10, .invokevirtual 88, 3)) rfl
theorem dX8_cut_13 : decode cX8_cut 13 = .ok (.iconst 1, 1) := td tX8_cut_0_ok 7 (q := (13, .iconst 1, 1)) rfl
theorem dX8_cut_14 : decode cX8_cut 14 = .ok (.isub, 1) := td tX8_cut_0_ok 8 (q := (14, .isub, 1)) rfl
theorem dX8_cut_15 : decode cX8_cut 15 = .ok (.istore_n 2, 1) := td tX8_cut_0_ok 9 (q := (15, .istore_n 2, 1)) rfl
theorem dX8_cut_16 : decode cX8_cut 16 = .ok (.iload_n 2, 1) := td tX8_cut_0_ok 10 (q := (16, .iload_n 2, 1)) rfl
theorem dX8_cut_17 : decode cX8_cut 17 = .ok (.ifCond .ge 13, 3) := td tX8_cut_0_ok 11 (q := (17, .ifCond .ge 13, 3)) rfl
theorem dX8_cut_20 : decode cX8_cut 20 = .ok (.new 59, 3) := td tX8_cut_0_ok 12 (q := (20, .new 59, 3)) rfl
theorem dX8_cut_23 : decode cX8_cut 23 = .ok (.dup, 1) := td tX8_cut_0_ok 13 (q := (23, .dup, 1)) rfl
theorem dX8_cut_24 : decode cX8_cut 24 = .ok (.ldc 91, 2) := td tX8_cut_0_ok 14 (q := (24, .ldc 91, 2)) rfl
theorem dX8_cut_26 : decode cX8_cut 26 = .ok (.invokespecial 63, 3) := td tX8_cut_0_ok 15 (q := (26, .invokespecial 63, 3)) rfl
theorem dX8_cut_29 : decode cX8_cut 29 = .ok (.athrow, 1) := td tX8_cut_0_ok 16 (q := (29, .athrow, 1)) rfl
theorem dX8_cut_30 : decode cX8_cut 30 = .ok (.aload_n 0, 1) := td tX8_cut_0_ok 17 (q := (30, .aload_n 0, 1)) rfl
theorem dX8_cut_31 : decode cX8_cut 31 = .ok (.getfield 12, 3) := td tX8_cut_0_ok 18 (q := (31, .getfield 12, 3)) rfl
theorem dX8_cut_34 : decode cX8_cut 34 = .ok (.invokevirtual 64, 3) := td tX8_cut_0_ok 19 (q := (34, .invokevirtual 64, 3)) rfl
theorem dX8_cut_37 : decode cX8_cut 37 = .ok (.aload_n 0, 1) := td tX8_cut_0_ok 20 (q := (37, .aload_n 0, 1)) rfl
theorem dX8_cut_38 : decode cX8_cut 38 = .ok (.getfield 12, 3) := td tX8_cut_0_ok 21 (q := (38, .getfield 12, 3)) rfl
theorem dX8_cut_41 : decode cX8_cut 41 = .ok (.bipush 41, 2) := td tX8_cut_0_ok 22 (q := (41, .bipush 41, 2)) rfl
theorem dX8_cut_43 : decode cX8_cut 43 = .ok (.iload_n 1, 1) := td tX8_cut_0_ok 23 (q := (43, .iload_n 1, 1)) rfl
theorem dX8_cut_44 : decode cX8_cut 44 = .ok (.iadd, 1) := td tX8_cut_0_ok 24 (q := (44, .iadd, 1)) rfl
theorem dX8_cut_45 : decode cX8_cut 45 = .ok (.iload_n 2, 1) := td tX8_cut_0_ok 25 (q := (45, .iload_n 2, 1)) rfl
theorem dX8_cut_46 : decode cX8_cut 46 = .ok (.invokevirtual 93, 3) := td tX8_cut_0_ok 26 (q := (46, .invokevirtual 93, 3)) rfl
theorem dX8_cut_49 : decode cX8_cut 49 = .ok (.aload_n 0, 1) := td tX8_cut_0_ok 27 (q := (49, .aload_n 0, 1)) rfl
theorem dX8_cut_50 : decode cX8_cut 50 = .ok (.getfield 12, 3) := td tX8_cut_0_ok 28 (q := (50, .getfield 12, 3)) rfl
theorem dX8_cut_53 : decode cX8_cut 53 = .ok (.iload_n 1, 1) := td tX8_cut_0_ok 29 (q := (53, .iload_n 1, 1)) rfl
theorem dX8_cut_54 : decode cX8_cut 54 = .ok (.iload_n 2, 1) := td tX8_cut_0_ok 30 (q := (54, .iload_n 2, 1)) rfl
theorem dX8_cut_55 : decode cX8_cut 55 = .ok (.invokestatic 97, 3) := td tX8_cut_0_ok 31 (q := (55, .invokestatic 97, 3)) rfl
theorem dX8_cut_58 : decode cX8_cut 58 = .ok (.invokevirtual 100, 3) := td tX8_cut_0_ok 32 (q := (58, .invokevirtual 100, 3)) rfl
theorem dX8_cut_61 : decode cX8_cut 61 = .ok (.ireturn, 1) := td tX8_cut_0_ok 33 (q := (61, .ireturn, 1)) rfl
def fX8_cut (kc : (Nat → Int32)) (ksv : (Nat → Int32)) (kns : Int32) (x1 : Int32) : Option (Nat ⊕ (Int32 × (Nat → Int32) × (Nat → Int32) × Int32)) :=
  (Option.bind (fX8_requirePiece kc x1) (fun q1 => (xs q1 (fun _ => (Option.bind (fX0_receiptsOf kc x1) (fun q3 => (if 0 ≤ (q3 - (1 : Int32)) then (Option.bind (fX0_save kc ksv kns) (fun q5 => (Option.bind (fX0_set kc ((41 : Int32) + x1) (q3 - (1 : Int32))) (fun q6 => (Option.bind (fX0_slotOf x1 (q3 - (1 : Int32))) (fun q7 => (Option.bind (fX0_sumOf q6 q7) (fun q8 => (some (.inr (q8, q6, q5.1, q5.2))))))))))) else (some (.inl 2)))))))))
set_option maxHeartbeats 4000000 in
set_option maxRecDepth 100000 in
theorem mX8_cut {l : Launch} {D : va_G} {ad : Nat → Nat} {cI : ClassId} {kc : (Nat → Int32)} {ksv : (Nat → Int32)} {kbc : (Nat → Int32)} {kit : (Nat → Int32)} {kln : (Nat → Int32)} {ken : (Nat → Int32)} {kla : (Nat → Int32)} {kfi : (Nat → Int32)} {kea : (Nat → Int32)} {kns : Int32} {kbl : Int32} {kr0 : Int32} {kr1 : Int32} {kr2 : Int32} {kr3 : Int32} {kr4 : Int32} {kr5 : Int32} {klr : Int32} {kp0 : Int32} {kp1 : Int32} {kp2 : Int32} {kp3 : Int32} {x1 : Int32} {r : Int32} {kc' : (Nat → Int32)} {ksv' : (Nat → Int32)} {kns' : Int32} (hs : fX8_cut kc ksv kns x1 = some (.inr (r, kc', ksv', kns'))) : nd_C l yX8_cut cX8_cut 3 (some .int) 3 80 D [(cI, .int)] [.ref (ad 0), .int x1] (CW ad cI kc ksv kbc kit kln ken kla kfi kea kns kbl kr0 kr1 kr2 kr3 kr4 kr5 klr kp0 kp1 kp2 kp3) (CW ad cI kc' ksv' kbc kit kln ken kla kfi kea kns' kbl kr0 kr1 kr2 kr3 kr4 kr5 klr kp0 kp1 kp2 kp3) (some (.int r)) := by
  refine nd_ofCi (by decide) (Nat.le_of_ble_eq_true rfl) (fun p e s m args below meth c_ ls A Q hx hb hml hown hts hl hP hK hD hS hA hN hret => ?_)
  have hown : s.vm.findClass RX8 = some m.cls := hown
  have hl : lv_has ls 3 [(0, .ref (ad 0)), (1, .int x1)] := hl
  have hret : ∀ (z0 : Int32) (z1 : (Nat → Int32)) (z2 : (Nat → Int32)) (z3 : Int32) {H : Heap} {locs : List Loc} {pc : Nat} {ls : Array Slot}, some (Sum.inr (α := Nat) (z0, z1, z2, z3)) = some (.inr (r, kc', ksv', kns')) → va_P D vwCl (CW ad cI z1 z2 kbc kit kln ken kla kfi kea z3 kbl kr0 kr1 kr2 kr3 kr4 kr5 klr kp0 kp1 kp2 kp3) H → va_S A s.heap H locs → decode cX8_cut pc = .ok (.ireturn, 1) → W p l e ⟨3, 0, 0, 80⟩ s m args below meth c_ H locs 0 0 Q (F0 m pc ls [.int z0]) := by
    intro z0 z1 z2 z3 H locs pc ls h hP hS hd
    cases h
    exact hret hP hS hd
  rw [fX8_cut] at hs
  refine lv_aload_n hx hb dX8_cut_0 rfl (lv_at hl 0 rfl) ?_
  refine lv_iload_n hx hb dX8_cut_1 rfl (lv_at hl 1 rfl) ?_
  obtain ⟨q2, eq1, hs⟩ := xob_r hs
  refine nd_callV (As := [.int x1]) (rest := []) (st1 := []) hx hb hml hown hts hl hP hK hD hS hA hN (mX8_requirePiece eq1) iv_X8_requirePiece wd_155 0 rfl rfl rfl rfl ⟨Nat.le_of_ble_eq_true rfl, Nat.le_of_ble_eq_true rfl⟩ (Nat.le_of_ble_eq_true rfl) ⟨Nat.zero_le _, Nat.zero_le _⟩ dX8_cut_2 rfl rfl (fun H locs hP hD hS => ?_)
  refine lv_aload_n hx hb dX8_cut_5 rfl (lv_at hl 0 rfl) ?_
  refine gf_X8_12 hx hb hts hown hK hP 0 rfl rfl dX8_cut_6 ?_
  refine lv_iload_n hx hb dX8_cut_9 rfl (lv_at hl 1 rfl) ?_
  obtain ⟨q3, eq3, hs⟩ := ob hs
  refine nd_callV (As := [.int x1]) (rest := []) (st1 := [.int q3]) hx hb hml hown hts hl hP hK hD hS hA hN (mX0_receiptsOf eq3) iv_X0_receiptsOf wd_226 1 rfl rfl rfl rfl ⟨Nat.le_of_ble_eq_true rfl, Nat.le_of_ble_eq_true rfl⟩ (Nat.le_of_ble_eq_true rfl) ⟨Nat.zero_le _, Nat.zero_le _⟩ dX8_cut_10 rfl rfl (fun H locs hP hD hS => ?_)
  refine lv_iconst (v := (1 : Int32)) hx hb dX8_cut_13 (by decide) ?_
  refine lv_isub hx hb dX8_cut_14 ?_
  refine lv_istore_n (lv' := [(2, .int (q3 - (1 : Int32))), (0, .ref (ad 0)), (1, .int x1)]) hx hb dX8_cut_15 rfl hl (by decide) rfl (fun ls hl => ?_)
  refine lv_iload_n hx hb dX8_cut_16 rfl (lv_at hl 0 rfl) ?_
  refine lv_if_ge (tgt := 30) hx hb dX8_cut_17 (by decide) (fun b4 => ?_) (fun b4 => ?_)
  · have hs := ite_t hs b4
    refine lv_aload_n hx hb dX8_cut_30 rfl (lv_at hl 1 rfl) ?_
    refine gf_X8_12 hx hb hts hown hK hP 0 rfl rfl dX8_cut_31 ?_
    obtain ⟨q5, eq5, hs⟩ := ob hs
    refine nd_callV (As := []) (rest := []) (st1 := []) hx hb hml hown hts hl hP hK hD hS hA hN (mX0_save eq5) iv_X0_save wd_106 1 rfl rfl rfl rfl ⟨Nat.le_of_ble_eq_true rfl, Nat.le_of_ble_eq_true rfl⟩ (Nat.le_of_ble_eq_true rfl) ⟨Nat.zero_le _, Nat.zero_le _⟩ dX8_cut_34 rfl rfl (fun H locs hP hD hS => ?_)
    refine lv_aload_n hx hb dX8_cut_37 rfl (lv_at hl 1 rfl) ?_
    refine gf_X8_12 hx hb hts hown hK hP 0 rfl rfl dX8_cut_38 ?_
    refine lv_bipush (v := (41 : Int32)) hx hb dX8_cut_41 (by decide) ?_
    refine lv_iload_n hx hb dX8_cut_43 rfl (lv_at hl 2 rfl) ?_
    refine lv_iadd hx hb dX8_cut_44 ?_
    refine lv_iload_n hx hb dX8_cut_45 rfl (lv_at hl 0 rfl) ?_
    obtain ⟨q6, eq6, hs⟩ := ob hs
    refine nd_callV (As := [.int ((41 : Int32) + x1), .int (q3 - (1 : Int32))]) (rest := []) (st1 := []) hx hb hml hown hts hl hP hK hD hS hA hN (mX0_set eq6) iv_X0_set wd_246 1 rfl rfl rfl rfl ⟨Nat.le_of_ble_eq_true rfl, Nat.le_of_ble_eq_true rfl⟩ (Nat.le_of_ble_eq_true rfl) ⟨Nat.zero_le _, Nat.zero_le _⟩ dX8_cut_46 rfl rfl (fun H locs hP hD hS => ?_)
    refine lv_aload_n hx hb dX8_cut_49 rfl (lv_at hl 1 rfl) ?_
    refine gf_X8_12 hx hb hts hown hK hP 0 rfl rfl dX8_cut_50 ?_
    refine lv_iload_n hx hb dX8_cut_53 rfl (lv_at hl 2 rfl) ?_
    refine lv_iload_n hx hb dX8_cut_54 rfl (lv_at hl 0 rfl) ?_
    obtain ⟨q7, eq7, hs⟩ := ob hs
    refine nd_callS (As := [.int x1, .int (q3 - (1 : Int32))]) (rest := [.ref (ad 1)]) (st1 := [.int q7, .ref (ad 1)]) hx hb hml hown hts hl hP hK hD hS hA hN (mX0_slotOf eq7) is_X0_slotOf wd_243 rfl rfl ⟨Nat.le_of_ble_eq_true rfl, Nat.le_of_ble_eq_true rfl⟩ (Nat.le_of_ble_eq_true rfl) ⟨Nat.zero_le _, Nat.zero_le _⟩ dX8_cut_55 rfl rfl (fun H locs hP hD hS => ?_)
    obtain ⟨q8, eq8, hs⟩ := ob hs
    refine nd_callV (As := [.int q7]) (rest := []) (st1 := [.int q8]) hx hb hml hown hts hl hP hK hD hS hA hN (mX0_sumOf eq8) iv_X0_sumOf wd_337 1 rfl rfl rfl rfl ⟨Nat.le_of_ble_eq_true rfl, Nat.le_of_ble_eq_true rfl⟩ (Nat.le_of_ble_eq_true rfl) ⟨Nat.zero_le _, Nat.zero_le _⟩ dX8_cut_58 rfl rfl (fun H locs hP hD hS => ?_)
    exact hret _ _ _ _ hs hP hS dX8_cut_61
  · have hs := ite_f hs b4
    cases hs
set_option maxHeartbeats 4000000 in
set_option maxRecDepth 100000 in
theorem xX8_cut {l : Launch} (hnt : l.stackTraces = false) {D : va_G} {ad : Nat → Nat} {cI : ClassId} {kc : (Nat → Int32)} {ksv : (Nat → Int32)} {kbc : (Nat → Int32)} {kit : (Nat → Int32)} {kln : (Nat → Int32)} {ken : (Nat → Int32)} {kla : (Nat → Int32)} {kfi : (Nat → Int32)} {kea : (Nat → Int32)} {kns : Int32} {kbl : Int32} {kr0 : Int32} {kr1 : Int32} {kr2 : Int32} {kr3 : Int32} {kr4 : Int32} {kr5 : Int32} {klr : Int32} {kp0 : Int32} {kp1 : Int32} {kp2 : Int32} {kp3 : Int32} {x1 : Int32} {k : Nat} (hs : fX8_cut kc ksv kns x1 = some (.inl k)) : nd_CX l yX8_cut cX8_cut 3 (some .int) 7 103 D [(cI, .int)] [.ref (ad 0), .int x1] (CW ad cI kc ksv kbc kit kln ken kla kfi kea kns kbl kr0 kr1 kr2 kr3 kr4 kr5 klr kp0 kp1 kp2 kp3) (fun W1 => W1 = (CW ad cI kc ksv kbc kit kln ken kla kfi kea kns kbl kr0 kr1 kr2 kr3 kr4 kr5 klr kp0 kp1 kp2 kp3)) k := by
  refine nd_ofX (by decide) (Nat.le_of_ble_eq_true rfl) (fun p e s m args below meth c_ ls A hx hb hml hown hts hl hP hK hD hS hA hN hX hxt hlocks hAe => ?_)
  have hown : s.vm.findClass RX8 = some m.cls := hown
  have hl : lv_has ls 3 [(0, .ref (ad 0)), (1, .int x1)] := hl
  rw [fX8_cut] at hs
  refine lv_aload_n hx hb dX8_cut_0 rfl (lv_at hl 0 rfl) ?_
  refine lv_iload_n hx hb dX8_cut_1 rfl (lv_at hl 1 rfl) ?_
  rcases xob_l hs with eq1 | ⟨q2, eq1, hs⟩
  · exact nd_callXV (fun _ h => h) (As := [.int x1]) (rest := []) hx hb hml hown hts hl hP hK hD hS hA hN hX hxt hlocks hAe (xX8_requirePiece hnt eq1) iv_X8_requirePiece wd_155 0 rfl rfl rfl ⟨Nat.le_of_ble_eq_true rfl, Nat.le_of_ble_eq_true rfl⟩ (by decide) (Nat.le_of_ble_eq_true rfl) dX8_cut_2 rfl
  refine nd_callV (As := [.int x1]) (rest := []) (st1 := []) hx hb hml hown hts hl hP hK hD hS hA hN (mX8_requirePiece eq1) iv_X8_requirePiece wd_155 0 rfl rfl rfl rfl ⟨Nat.le_of_ble_eq_true rfl, Nat.le_of_ble_eq_true rfl⟩ (Nat.le_of_ble_eq_true rfl) ⟨Nat.zero_le _, Nat.zero_le _⟩ dX8_cut_2 rfl rfl (fun H locs hP hD hS => ?_)
  refine lv_aload_n hx hb dX8_cut_5 rfl (lv_at hl 0 rfl) ?_
  refine gf_X8_12 hx hb hts hown hK hP 0 rfl rfl dX8_cut_6 ?_
  refine lv_iload_n hx hb dX8_cut_9 rfl (lv_at hl 1 rfl) ?_
  obtain ⟨q3, eq3, hs⟩ := ob hs
  refine nd_callV (As := [.int x1]) (rest := []) (st1 := [.int q3]) hx hb hml hown hts hl hP hK hD hS hA hN (mX0_receiptsOf eq3) iv_X0_receiptsOf wd_226 1 rfl rfl rfl rfl ⟨Nat.le_of_ble_eq_true rfl, Nat.le_of_ble_eq_true rfl⟩ (Nat.le_of_ble_eq_true rfl) ⟨Nat.zero_le _, Nat.zero_le _⟩ dX8_cut_10 rfl rfl (fun H locs hP hD hS => ?_)
  refine lv_iconst (v := (1 : Int32)) hx hb dX8_cut_13 (by decide) ?_
  refine lv_isub hx hb dX8_cut_14 ?_
  refine lv_istore_n (lv' := [(2, .int (q3 - (1 : Int32))), (0, .ref (ad 0)), (1, .int x1)]) hx hb dX8_cut_15 rfl hl (by decide) rfl (fun ls hl => ?_)
  refine lv_iload_n hx hb dX8_cut_16 rfl (lv_at hl 0 rfl) ?_
  refine lv_if_ge (tgt := 30) hx hb dX8_cut_17 (by decide) (fun b4 => ?_) (fun b4 => ?_)
  · have hs := ite_t hs b4
    refine lv_aload_n hx hb dX8_cut_30 rfl (lv_at hl 1 rfl) ?_
    refine gf_X8_12 hx hb hts hown hK hP 0 rfl rfl dX8_cut_31 ?_
    obtain ⟨q5, eq5, hs⟩ := ob hs
    refine nd_callV (As := []) (rest := []) (st1 := []) hx hb hml hown hts hl hP hK hD hS hA hN (mX0_save eq5) iv_X0_save wd_106 1 rfl rfl rfl rfl ⟨Nat.le_of_ble_eq_true rfl, Nat.le_of_ble_eq_true rfl⟩ (Nat.le_of_ble_eq_true rfl) ⟨Nat.zero_le _, Nat.zero_le _⟩ dX8_cut_34 rfl rfl (fun H locs hP hD hS => ?_)
    refine lv_aload_n hx hb dX8_cut_37 rfl (lv_at hl 1 rfl) ?_
    refine gf_X8_12 hx hb hts hown hK hP 0 rfl rfl dX8_cut_38 ?_
    refine lv_bipush (v := (41 : Int32)) hx hb dX8_cut_41 (by decide) ?_
    refine lv_iload_n hx hb dX8_cut_43 rfl (lv_at hl 2 rfl) ?_
    refine lv_iadd hx hb dX8_cut_44 ?_
    refine lv_iload_n hx hb dX8_cut_45 rfl (lv_at hl 0 rfl) ?_
    obtain ⟨q6, eq6, hs⟩ := ob hs
    refine nd_callV (As := [.int ((41 : Int32) + x1), .int (q3 - (1 : Int32))]) (rest := []) (st1 := []) hx hb hml hown hts hl hP hK hD hS hA hN (mX0_set eq6) iv_X0_set wd_246 1 rfl rfl rfl rfl ⟨Nat.le_of_ble_eq_true rfl, Nat.le_of_ble_eq_true rfl⟩ (Nat.le_of_ble_eq_true rfl) ⟨Nat.zero_le _, Nat.zero_le _⟩ dX8_cut_46 rfl rfl (fun H locs hP hD hS => ?_)
    refine lv_aload_n hx hb dX8_cut_49 rfl (lv_at hl 1 rfl) ?_
    refine gf_X8_12 hx hb hts hown hK hP 0 rfl rfl dX8_cut_50 ?_
    refine lv_iload_n hx hb dX8_cut_53 rfl (lv_at hl 2 rfl) ?_
    refine lv_iload_n hx hb dX8_cut_54 rfl (lv_at hl 0 rfl) ?_
    obtain ⟨q7, eq7, hs⟩ := ob hs
    refine nd_callS (As := [.int x1, .int (q3 - (1 : Int32))]) (rest := [.ref (ad 1)]) (st1 := [.int q7, .ref (ad 1)]) hx hb hml hown hts hl hP hK hD hS hA hN (mX0_slotOf eq7) is_X0_slotOf wd_243 rfl rfl ⟨Nat.le_of_ble_eq_true rfl, Nat.le_of_ble_eq_true rfl⟩ (Nat.le_of_ble_eq_true rfl) ⟨Nat.zero_le _, Nat.zero_le _⟩ dX8_cut_55 rfl rfl (fun H locs hP hD hS => ?_)
    obtain ⟨q8, eq8, hs⟩ := ob hs
    refine nd_callV (As := [.int q7]) (rest := []) (st1 := [.int q8]) hx hb hml hown hts hl hP hK hD hS hA hN (mX0_sumOf eq8) iv_X0_sumOf wd_337 1 rfl rfl rfl rfl ⟨Nat.le_of_ble_eq_true rfl, Nat.le_of_ble_eq_true rfl⟩ (Nat.le_of_ble_eq_true rfl) ⟨Nat.zero_le _, Nat.zero_le _⟩ dX8_cut_58 rfl rfl (fun H locs hP hD hS => ?_)
    cases hs
  · have hs := ite_f hs b4
    cases hs
    exact nd_thr2 hx hb hnt hown hts hX hS (hl.1.trans hml.symm) (is := 91) str_91 dX8_cut_20 dX8_cut_23 dX8_cut_24 dX8_cut_26 dX8_cut_29 hxt hlocks rfl hP hAe (Nat.le_of_ble_eq_true rfl) (Nat.le_of_ble_eq_true rfl)
def tX8_requireReceipt_0 : List (Nat × Instr × Nat) := [(0, .aload_n 0, 1), (1, .iload_n 1, 1), (2, .invokevirtual 71, 3), (5, .iload_n 2, 1), (6, .aload_n 0, 1), (7, .getfield 12, 3), (10, .iload_n 1, 1), (11, .invokevirtual 88, 3), (14, .invokestatic 44, 3), (17, .ifCond .ne 13, 3), (20, .new 248, 3), (23, .dup, 1), (24, .ldc 253, 2), (26, .invokespecial 252, 3), (29, .athrow, 1), (30, .return_, 1)]
theorem tX8_requireReceipt_0_ok : tX8_requireReceipt_0.all (fun q => decide (decode cX8_requireReceipt q.1 = .ok q.2)) = true := by decide +kernel
theorem dX8_requireReceipt_0 : decode cX8_requireReceipt 0 = .ok (.aload_n 0, 1) := td tX8_requireReceipt_0_ok 0 (q := (0, .aload_n 0, 1)) rfl
theorem dX8_requireReceipt_1 : decode cX8_requireReceipt 1 = .ok (.iload_n 1, 1) := td tX8_requireReceipt_0_ok 1 (q := (1, .iload_n 1, 1)) rfl
theorem dX8_requireReceipt_2 : decode cX8_requireReceipt 2 = .ok (.invokevirtual 71, 3) := td tX8_requireReceipt_0_ok 2 (q := (2, .invokevirtual 71, 3)) rfl
theorem dX8_requireReceipt_5 : decode cX8_requireReceipt 5 = .ok (.iload_n 2, 1) := td tX8_requireReceipt_0_ok 3 (q := (5, .iload_n 2, 1)) rfl
theorem dX8_requireReceipt_6 : decode cX8_requireReceipt 6 = .ok (.aload_n 0, 1) := td tX8_requireReceipt_0_ok 4 (q := (6, .aload_n 0, 1)) rfl
theorem dX8_requireReceipt_7 : decode cX8_requireReceipt 7 = .ok (.getfield 12, 3) := td tX8_requireReceipt_0_ok 5 (q := (7, .getfield 12, 3)) rfl
theorem dX8_requireReceipt_10 : decode cX8_requireReceipt 10 = .ok (.iload_n 1, 1) := td tX8_requireReceipt_0_ok 6 (q := (10, .iload_n 1, 1)) rfl
theorem dX8_requireReceipt_11 : decode cX8_requireReceipt 11 = .ok (.invokevirtual 88, 3) := td tX8_requireReceipt_0_ok 7 (q := (11, .invokevirtual 88, 3)) rfl
theorem dX8_requireReceipt_14 : decode cX8_requireReceipt 14 = .ok (.invokestatic 44, 3) := td tX8_requireReceipt_0_ok 8 (q := (14, .invokestatic 44, 3)) rfl
theorem dX8_requireReceipt_17 : decode cX8_requireReceipt 17 = .ok (.ifCond .ne 13, 3) := td tX8_requireReceipt_0_ok 9 (q := (17, .ifCond .ne 13, 3)) rfl
theorem dX8_requireReceipt_20 : decode cX8_requireReceipt 20 = .ok (.new 248, 3) := td tX8_requireReceipt_0_ok 10 (q := (20, .new 248, 3)) rfl
theorem dX8_requireReceipt_23 : decode cX8_requireReceipt 23 = .ok (.dup, 1) := td tX8_requireReceipt_0_ok 11 (q := (23, .dup, 1)) rfl
theorem dX8_requireReceipt_24 : decode cX8_requireReceipt 24 = .ok (.ldc 253, 2) := td tX8_requireReceipt_0_ok 12 (q := (24, .ldc 253, 2)) rfl
theorem dX8_requireReceipt_26 : decode cX8_requireReceipt 26 = .ok (.invokespecial 252, 3) := td tX8_requireReceipt_0_ok 13 (q := (26, .invokespecial 252, 3)) rfl
theorem dX8_requireReceipt_29 : decode cX8_requireReceipt 29 = .ok (.athrow, 1) := td tX8_requireReceipt_0_ok 14 (q := (29, .athrow, 1)) rfl
theorem dX8_requireReceipt_30 : decode cX8_requireReceipt 30 = .ok (.return_, 1) := td tX8_requireReceipt_0_ok 15 (q := (30, .return_, 1)) rfl
def fX8_requireReceipt (kc : (Nat → Int32)) (x1 : Int32) (x2 : Int32) : Option (Nat ⊕ (Unit)) :=
  (Option.bind (fX8_requirePiece kc x1) (fun q1 => (xs q1 (fun _ => (Option.bind (fX0_receiptsOf kc x1) (fun q3 => (Option.bind (fX8_isIn x2 q3) (fun q4 => (if q4 = 0 then (some (.inl 3)) else (some (.inr ())))))))))))
set_option maxHeartbeats 4000000 in
set_option maxRecDepth 100000 in
theorem mX8_requireReceipt {l : Launch} {D : va_G} {ad : Nat → Nat} {cI : ClassId} {kc : (Nat → Int32)} {ksv : (Nat → Int32)} {kbc : (Nat → Int32)} {kit : (Nat → Int32)} {kln : (Nat → Int32)} {ken : (Nat → Int32)} {kla : (Nat → Int32)} {kfi : (Nat → Int32)} {kea : (Nat → Int32)} {kns : Int32} {kbl : Int32} {kr0 : Int32} {kr1 : Int32} {kr2 : Int32} {kr3 : Int32} {kr4 : Int32} {kr5 : Int32} {klr : Int32} {kp0 : Int32} {kp1 : Int32} {kp2 : Int32} {kp3 : Int32} {x1 : Int32} {x2 : Int32} (hs : fX8_requireReceipt kc x1 x2 = some (.inr ())) : nd_C l yX8_requireReceipt cX8_requireReceipt 3 none 3 62 D [(cI, .int)] [.ref (ad 0), .int x1, .int x2] (CW ad cI kc ksv kbc kit kln ken kla kfi kea kns kbl kr0 kr1 kr2 kr3 kr4 kr5 klr kp0 kp1 kp2 kp3) (CW ad cI kc ksv kbc kit kln ken kla kfi kea kns kbl kr0 kr1 kr2 kr3 kr4 kr5 klr kp0 kp1 kp2 kp3) none := by
  refine nd_ofCv (by decide) (Nat.le_of_ble_eq_true rfl) (fun p e s m args below meth c_ ls A Q hx hb hml hown hts hl hP hK hD hS hA hN hret => ?_)
  have hown : s.vm.findClass RX8 = some m.cls := hown
  have hl : lv_has ls 3 [(0, .ref (ad 0)), (1, .int x1), (2, .int x2)] := hl
  have hret : ∀ {H : Heap} {locs : List Loc} {pc : Nat} {ls : Array Slot}, some (Sum.inr (α := Nat) ()) = some (.inr ()) → va_P D vwCl (CW ad cI kc ksv kbc kit kln ken kla kfi kea kns kbl kr0 kr1 kr2 kr3 kr4 kr5 klr kp0 kp1 kp2 kp3) H → va_S A s.heap H locs → decode cX8_requireReceipt pc = .ok (.return_, 1) → W p l e ⟨3, 0, 0, 62⟩ s m args below meth c_ H locs 0 0 Q (F0 m pc ls []) := by
    intro  H locs pc ls h hP hS hd
    cases h
    exact hret hP hS hd
  rw [fX8_requireReceipt] at hs
  refine lv_aload_n hx hb dX8_requireReceipt_0 rfl (lv_at hl 0 rfl) ?_
  refine lv_iload_n hx hb dX8_requireReceipt_1 rfl (lv_at hl 1 rfl) ?_
  obtain ⟨q2, eq1, hs⟩ := xob_r hs
  refine nd_callV (As := [.int x1]) (rest := []) (st1 := []) hx hb hml hown hts hl hP hK hD hS hA hN (mX8_requirePiece eq1) iv_X8_requirePiece wd_155 0 rfl rfl rfl rfl ⟨Nat.le_of_ble_eq_true rfl, Nat.le_of_ble_eq_true rfl⟩ (Nat.le_of_ble_eq_true rfl) ⟨Nat.zero_le _, Nat.zero_le _⟩ dX8_requireReceipt_2 rfl rfl (fun H locs hP hD hS => ?_)
  refine lv_iload_n hx hb dX8_requireReceipt_5 rfl (lv_at hl 2 rfl) ?_
  refine lv_aload_n hx hb dX8_requireReceipt_6 rfl (lv_at hl 0 rfl) ?_
  refine gf_X8_12 hx hb hts hown hK hP 0 rfl rfl dX8_requireReceipt_7 ?_
  refine lv_iload_n hx hb dX8_requireReceipt_10 rfl (lv_at hl 1 rfl) ?_
  obtain ⟨q3, eq3, hs⟩ := ob hs
  refine nd_callV (As := [.int x1]) (rest := [.int x2]) (st1 := [.int q3, .int x2]) hx hb hml hown hts hl hP hK hD hS hA hN (mX0_receiptsOf eq3) iv_X0_receiptsOf wd_226 1 rfl rfl rfl rfl ⟨Nat.le_of_ble_eq_true rfl, Nat.le_of_ble_eq_true rfl⟩ (Nat.le_of_ble_eq_true rfl) ⟨Nat.zero_le _, Nat.zero_le _⟩ dX8_requireReceipt_11 rfl rfl (fun H locs hP hD hS => ?_)
  obtain ⟨q4, eq4, hs⟩ := ob hs
  refine nd_callS (As := [.int x2, .int q3]) (rest := []) (st1 := [.int q4]) hx hb hml hown hts hl hP hK hD hS hA hN (mX8_isIn eq4) is_X8_isIn wd_95 rfl rfl ⟨Nat.le_of_ble_eq_true rfl, Nat.le_of_ble_eq_true rfl⟩ (Nat.le_of_ble_eq_true rfl) ⟨Nat.zero_le _, Nat.zero_le _⟩ dX8_requireReceipt_14 rfl rfl (fun H locs hP hD hS => ?_)
  refine lv_if_ne (tgt := 30) hx hb dX8_requireReceipt_17 (by decide) (fun b5 => ?_) (fun b5 => ?_)
  · have hs := ite_f hs b5
    exact hret  hs hP hS dX8_requireReceipt_30
  · have hs := ite_t hs b5
    cases hs
set_option maxHeartbeats 4000000 in
set_option maxRecDepth 100000 in
theorem xX8_requireReceipt {l : Launch} (hnt : l.stackTraces = false) {D : va_G} {ad : Nat → Nat} {cI : ClassId} {kc : (Nat → Int32)} {ksv : (Nat → Int32)} {kbc : (Nat → Int32)} {kit : (Nat → Int32)} {kln : (Nat → Int32)} {ken : (Nat → Int32)} {kla : (Nat → Int32)} {kfi : (Nat → Int32)} {kea : (Nat → Int32)} {kns : Int32} {kbl : Int32} {kr0 : Int32} {kr1 : Int32} {kr2 : Int32} {kr3 : Int32} {kr4 : Int32} {kr5 : Int32} {klr : Int32} {kp0 : Int32} {kp1 : Int32} {kp2 : Int32} {kp3 : Int32} {x1 : Int32} {x2 : Int32} {k : Nat} (hs : fX8_requireReceipt kc x1 x2 = some (.inl k)) : nd_CX l yX8_requireReceipt cX8_requireReceipt 3 none 7 103 D [(cI, .int)] [.ref (ad 0), .int x1, .int x2] (CW ad cI kc ksv kbc kit kln ken kla kfi kea kns kbl kr0 kr1 kr2 kr3 kr4 kr5 klr kp0 kp1 kp2 kp3) (fun W1 => W1 = (CW ad cI kc ksv kbc kit kln ken kla kfi kea kns kbl kr0 kr1 kr2 kr3 kr4 kr5 klr kp0 kp1 kp2 kp3)) k := by
  refine nd_ofX (by decide) (Nat.le_of_ble_eq_true rfl) (fun p e s m args below meth c_ ls A hx hb hml hown hts hl hP hK hD hS hA hN hX hxt hlocks hAe => ?_)
  have hown : s.vm.findClass RX8 = some m.cls := hown
  have hl : lv_has ls 3 [(0, .ref (ad 0)), (1, .int x1), (2, .int x2)] := hl
  rw [fX8_requireReceipt] at hs
  refine lv_aload_n hx hb dX8_requireReceipt_0 rfl (lv_at hl 0 rfl) ?_
  refine lv_iload_n hx hb dX8_requireReceipt_1 rfl (lv_at hl 1 rfl) ?_
  rcases xob_l hs with eq1 | ⟨q2, eq1, hs⟩
  · exact nd_callXV (fun _ h => h) (As := [.int x1]) (rest := []) hx hb hml hown hts hl hP hK hD hS hA hN hX hxt hlocks hAe (xX8_requirePiece hnt eq1) iv_X8_requirePiece wd_155 0 rfl rfl rfl ⟨Nat.le_of_ble_eq_true rfl, Nat.le_of_ble_eq_true rfl⟩ (by decide) (Nat.le_of_ble_eq_true rfl) dX8_requireReceipt_2 rfl
  refine nd_callV (As := [.int x1]) (rest := []) (st1 := []) hx hb hml hown hts hl hP hK hD hS hA hN (mX8_requirePiece eq1) iv_X8_requirePiece wd_155 0 rfl rfl rfl rfl ⟨Nat.le_of_ble_eq_true rfl, Nat.le_of_ble_eq_true rfl⟩ (Nat.le_of_ble_eq_true rfl) ⟨Nat.zero_le _, Nat.zero_le _⟩ dX8_requireReceipt_2 rfl rfl (fun H locs hP hD hS => ?_)
  refine lv_iload_n hx hb dX8_requireReceipt_5 rfl (lv_at hl 2 rfl) ?_
  refine lv_aload_n hx hb dX8_requireReceipt_6 rfl (lv_at hl 0 rfl) ?_
  refine gf_X8_12 hx hb hts hown hK hP 0 rfl rfl dX8_requireReceipt_7 ?_
  refine lv_iload_n hx hb dX8_requireReceipt_10 rfl (lv_at hl 1 rfl) ?_
  obtain ⟨q3, eq3, hs⟩ := ob hs
  refine nd_callV (As := [.int x1]) (rest := [.int x2]) (st1 := [.int q3, .int x2]) hx hb hml hown hts hl hP hK hD hS hA hN (mX0_receiptsOf eq3) iv_X0_receiptsOf wd_226 1 rfl rfl rfl rfl ⟨Nat.le_of_ble_eq_true rfl, Nat.le_of_ble_eq_true rfl⟩ (Nat.le_of_ble_eq_true rfl) ⟨Nat.zero_le _, Nat.zero_le _⟩ dX8_requireReceipt_11 rfl rfl (fun H locs hP hD hS => ?_)
  obtain ⟨q4, eq4, hs⟩ := ob hs
  refine nd_callS (As := [.int x2, .int q3]) (rest := []) (st1 := [.int q4]) hx hb hml hown hts hl hP hK hD hS hA hN (mX8_isIn eq4) is_X8_isIn wd_95 rfl rfl ⟨Nat.le_of_ble_eq_true rfl, Nat.le_of_ble_eq_true rfl⟩ (Nat.le_of_ble_eq_true rfl) ⟨Nat.zero_le _, Nat.zero_le _⟩ dX8_requireReceipt_14 rfl rfl (fun H locs hP hD hS => ?_)
  refine lv_if_ne (tgt := 30) hx hb dX8_requireReceipt_17 (by decide) (fun b5 => ?_) (fun b5 => ?_)
  · have hs := ite_f hs b5
    cases hs
  · have hs := ite_t hs b5
    cases hs
    exact nd_thr3 hx hb hnt hown hts hX hS (hl.1.trans hml.symm) (is := 253) str_253 dX8_requireReceipt_20 dX8_requireReceipt_23 dX8_requireReceipt_24 dX8_requireReceipt_26 dX8_requireReceipt_29 hxt hlocks rfl hP hAe (Nat.le_of_ble_eq_true rfl) (Nat.le_of_ble_eq_true rfl)
def tX8_correct_0 : List (Nat × Instr × Nat) := [(0, .aload_n 0, 1), (1, .iload_n 1, 1), (2, .iload_n 2, 1), (3, .invokevirtual 103, 3), (6, .iload_n 1, 1), (7, .iload_n 2, 1), (8, .invokestatic 97, 3), (11, .istore_n 3, 1), (12, .aload_n 0, 1), (13, .getfield 12, 3), (16, .sipush 171, 3), (19, .iload_n 3, 1), (20, .iadd, 1), (21, .invokevirtual 106, 3), (24, .istore 4, 2), (26, .aload_n 0, 1), (27, .getfield 12, 3), (30, .invokevirtual 64, 3), (33, .aload_n 0, 1), (34, .getfield 12, 3), (37, .sipush 171, 3), (40, .iload_n 3, 1), (41, .iadd, 1), (42, .aload_n 0, 1), (43, .getfield 12, 3), (46, .iload_n 3, 1), (47, .invokevirtual 100, 3), (50, .invokevirtual 93, 3), (53, .iload 4, 2), (55, .ireturn, 1)]
theorem tX8_correct_0_ok : tX8_correct_0.all (fun q => decide (decode cX8_correct q.1 = .ok q.2)) = true := by decide +kernel
theorem dX8_correct_0 : decode cX8_correct 0 = .ok (.aload_n 0, 1) := td tX8_correct_0_ok 0 (q := (0, .aload_n 0, 1)) rfl
theorem dX8_correct_1 : decode cX8_correct 1 = .ok (.iload_n 1, 1) := td tX8_correct_0_ok 1 (q := (1, .iload_n 1, 1)) rfl
theorem dX8_correct_2 : decode cX8_correct 2 = .ok (.iload_n 2, 1) := td tX8_correct_0_ok 2 (q := (2, .iload_n 2, 1)) rfl
theorem dX8_correct_3 : decode cX8_correct 3 = .ok (.invokevirtual 103, 3) := td tX8_correct_0_ok 3 (q := (3, .invokevirtual 103, 3)) rfl
theorem dX8_correct_6 : decode cX8_correct 6 = .ok (.iload_n 1, 1) := td tX8_correct_0_ok 4 (q := (6, .iload_n 1, 1)) rfl
theorem dX8_correct_7 : decode cX8_correct 7 = .ok (.iload_n 2, 1) := td tX8_correct_0_ok 5 (q := (7, .iload_n 2, 1)) rfl
theorem dX8_correct_8 : decode cX8_correct 8 = .ok (.invokestatic 97, 3) := td tX8_correct_0_ok 6 (q := (8, .invokestatic 97, 3)) rfl
theorem dX8_correct_11 : decode cX8_correct 11 = .ok (.istore_n 3, 1) := td tX8_correct_0_ok 7 (q := (11, .istore_n 3, 1)) rfl
theorem dX8_correct_12 : decode cX8_correct 12 = .ok (.aload_n 0, 1) := td tX8_correct_0_ok 8 (q := (12, .aload_n 0, 1)) rfl
theorem dX8_correct_13 : decode cX8_correct 13 = .ok (.getfield 12, 3) := td tX8_correct_0_ok 9 (q := (13, .getfield 12, 3)) rfl
theorem dX8_correct_16 : decode cX8_correct 16 = .ok (.sipush 171, 3) := td tX8_correct_0_ok 10 (q := (16, .sipush 171, 3)) rfl
theorem dX8_correct_19 : decode cX8_correct 19 = .ok (.iload_n 3, 1) := td tX8_correct_0_ok 11 (q := (19, .iload_n 3, 1)) rfl
theorem dX8_correct_20 : decode cX8_correct 20 = .ok (.iadd, 1) := td tX8_correct_0_ok 12 (q := (20, .iadd, 1)) rfl
theorem dX8_correct_21 : decode cX8_correct 21 = .ok (.invokevirtual 106, 3) := td tX8_correct_0_ok 13 (q := (21, .invokevirtual 106, 3)) rfl
theorem dX8_correct_24 : decode cX8_correct 24 = .ok (.istore 4, 2) := td tX8_correct_0_ok 14 (q := (24, .istore 4, 2)) rfl
theorem dX8_correct_26 : decode cX8_correct 26 = .ok (.aload_n 0, 1) := td tX8_correct_0_ok 15 (q := (26, .aload_n 0, 1)) rfl
theorem dX8_correct_27 : decode cX8_correct 27 = .ok (.getfield 12, 3) := td tX8_correct_0_ok 16 (q := (27, .getfield 12, 3)) rfl
theorem dX8_correct_30 : decode cX8_correct 30 = .ok (.invokevirtual 64, 3) := td tX8_correct_0_ok 17 (q := (30, .invokevirtual 64, 3)) rfl
theorem dX8_correct_33 : decode cX8_correct 33 = .ok (.aload_n 0, 1) := td tX8_correct_0_ok 18 (q := (33, .aload_n 0, 1)) rfl
theorem dX8_correct_34 : decode cX8_correct 34 = .ok (.getfield 12, 3) := td tX8_correct_0_ok 19 (q := (34, .getfield 12, 3)) rfl
theorem dX8_correct_37 : decode cX8_correct 37 = .ok (.sipush 171, 3) := td tX8_correct_0_ok 20 (q := (37, .sipush 171, 3)) rfl
theorem dX8_correct_40 : decode cX8_correct 40 = .ok (.iload_n 3, 1) := td tX8_correct_0_ok 21 (q := (40, .iload_n 3, 1)) rfl
theorem dX8_correct_41 : decode cX8_correct 41 = .ok (.iadd, 1) := td tX8_correct_0_ok 22 (q := (41, .iadd, 1)) rfl
theorem dX8_correct_42 : decode cX8_correct 42 = .ok (.aload_n 0, 1) := td tX8_correct_0_ok 23 (q := (42, .aload_n 0, 1)) rfl
theorem dX8_correct_43 : decode cX8_correct 43 = .ok (.getfield 12, 3) := td tX8_correct_0_ok 24 (q := (43, .getfield 12, 3)) rfl
theorem dX8_correct_46 : decode cX8_correct 46 = .ok (.iload_n 3, 1) := td tX8_correct_0_ok 25 (q := (46, .iload_n 3, 1)) rfl
theorem dX8_correct_47 : decode cX8_correct 47 = .ok (.invokevirtual 100, 3) := td tX8_correct_0_ok 26 (q := (47, .invokevirtual 100, 3)) rfl
theorem dX8_correct_50 : decode cX8_correct 50 = .ok (.invokevirtual 93, 3) := td tX8_correct_0_ok 27 (q := (50, .invokevirtual 93, 3)) rfl
theorem dX8_correct_53 : decode cX8_correct 53 = .ok (.iload 4, 2) := td tX8_correct_0_ok 28 (q := (53, .iload 4, 2)) rfl
theorem dX8_correct_55 : decode cX8_correct 55 = .ok (.ireturn, 1) := td tX8_correct_0_ok 29 (q := (55, .ireturn, 1)) rfl
def fX8_correct (kc : (Nat → Int32)) (ksv : (Nat → Int32)) (kns : Int32) (x1 : Int32) (x2 : Int32) : Option (Nat ⊕ (Int32 × (Nat → Int32) × (Nat → Int32) × Int32)) :=
  (Option.bind (fX8_requireReceipt kc x1 x2) (fun q1 => (xs q1 (fun _ => (Option.bind (fX0_slotOf x1 x2) (fun q3 => (Option.bind (fX0_get kc ((171 : Int32) + q3)) (fun q4 => (Option.bind (fX0_save kc ksv kns) (fun q5 => (Option.bind (fX0_sumOf kc q3) (fun q6 => (Option.bind (fX0_set kc ((171 : Int32) + q3) q6) (fun q7 => (some (.inr (q4, q7, q5.1, q5.2)))))))))))))))))
set_option maxHeartbeats 4000000 in
set_option maxRecDepth 100000 in
theorem mX8_correct {l : Launch} {D : va_G} {ad : Nat → Nat} {cI : ClassId} {kc : (Nat → Int32)} {ksv : (Nat → Int32)} {kbc : (Nat → Int32)} {kit : (Nat → Int32)} {kln : (Nat → Int32)} {ken : (Nat → Int32)} {kla : (Nat → Int32)} {kfi : (Nat → Int32)} {kea : (Nat → Int32)} {kns : Int32} {kbl : Int32} {kr0 : Int32} {kr1 : Int32} {kr2 : Int32} {kr3 : Int32} {kr4 : Int32} {kr5 : Int32} {klr : Int32} {kp0 : Int32} {kp1 : Int32} {kp2 : Int32} {kp3 : Int32} {x1 : Int32} {x2 : Int32} {r : Int32} {kc' : (Nat → Int32)} {ksv' : (Nat → Int32)} {kns' : Int32} (hs : fX8_correct kc ksv kns x1 x2 = some (.inr (r, kc', ksv', kns'))) : nd_C l yX8_correct cX8_correct 5 (some .int) 4 84 D [(cI, .int)] [.ref (ad 0), .int x1, .int x2] (CW ad cI kc ksv kbc kit kln ken kla kfi kea kns kbl kr0 kr1 kr2 kr3 kr4 kr5 klr kp0 kp1 kp2 kp3) (CW ad cI kc' ksv' kbc kit kln ken kla kfi kea kns' kbl kr0 kr1 kr2 kr3 kr4 kr5 klr kp0 kp1 kp2 kp3) (some (.int r)) := by
  refine nd_ofCi (by decide) (Nat.le_of_ble_eq_true rfl) (fun p e s m args below meth c_ ls A Q hx hb hml hown hts hl hP hK hD hS hA hN hret => ?_)
  have hown : s.vm.findClass RX8 = some m.cls := hown
  have hl : lv_has ls 5 [(0, .ref (ad 0)), (1, .int x1), (2, .int x2)] := hl
  have hret : ∀ (z0 : Int32) (z1 : (Nat → Int32)) (z2 : (Nat → Int32)) (z3 : Int32) {H : Heap} {locs : List Loc} {pc : Nat} {ls : Array Slot}, some (Sum.inr (α := Nat) (z0, z1, z2, z3)) = some (.inr (r, kc', ksv', kns')) → va_P D vwCl (CW ad cI z1 z2 kbc kit kln ken kla kfi kea z3 kbl kr0 kr1 kr2 kr3 kr4 kr5 klr kp0 kp1 kp2 kp3) H → va_S A s.heap H locs → decode cX8_correct pc = .ok (.ireturn, 1) → W p l e ⟨4, 0, 0, 84⟩ s m args below meth c_ H locs 0 0 Q (F0 m pc ls [.int z0]) := by
    intro z0 z1 z2 z3 H locs pc ls h hP hS hd
    cases h
    exact hret hP hS hd
  rw [fX8_correct] at hs
  refine lv_aload_n hx hb dX8_correct_0 rfl (lv_at hl 0 rfl) ?_
  refine lv_iload_n hx hb dX8_correct_1 rfl (lv_at hl 1 rfl) ?_
  refine lv_iload_n hx hb dX8_correct_2 rfl (lv_at hl 2 rfl) ?_
  obtain ⟨q2, eq1, hs⟩ := xob_r hs
  refine nd_callV (As := [.int x1, .int x2]) (rest := []) (st1 := []) hx hb hml hown hts hl hP hK hD hS hA hN (mX8_requireReceipt eq1) iv_X8_requireReceipt wd_356 0 rfl rfl rfl rfl ⟨Nat.le_of_ble_eq_true rfl, Nat.le_of_ble_eq_true rfl⟩ (Nat.le_of_ble_eq_true rfl) ⟨Nat.zero_le _, Nat.zero_le _⟩ dX8_correct_3 rfl rfl (fun H locs hP hD hS => ?_)
  refine lv_iload_n hx hb dX8_correct_6 rfl (lv_at hl 1 rfl) ?_
  refine lv_iload_n hx hb dX8_correct_7 rfl (lv_at hl 2 rfl) ?_
  obtain ⟨q3, eq3, hs⟩ := ob hs
  refine nd_callS (As := [.int x1, .int x2]) (rest := []) (st1 := [.int q3]) hx hb hml hown hts hl hP hK hD hS hA hN (mX0_slotOf eq3) is_X0_slotOf wd_243 rfl rfl ⟨Nat.le_of_ble_eq_true rfl, Nat.le_of_ble_eq_true rfl⟩ (Nat.le_of_ble_eq_true rfl) ⟨Nat.zero_le _, Nat.zero_le _⟩ dX8_correct_8 rfl rfl (fun H locs hP hD hS => ?_)
  refine lv_istore_n (lv' := [(3, .int q3), (0, .ref (ad 0)), (1, .int x1), (2, .int x2)]) hx hb dX8_correct_11 rfl hl (by decide) rfl (fun ls hl => ?_)
  refine lv_aload_n hx hb dX8_correct_12 rfl (lv_at hl 1 rfl) ?_
  refine gf_X8_12 hx hb hts hown hK hP 0 rfl rfl dX8_correct_13 ?_
  refine lv_sipush (v := (171 : Int32)) hx hb dX8_correct_16 (by decide) ?_
  refine lv_iload_n hx hb dX8_correct_19 rfl (lv_at hl 0 rfl) ?_
  refine lv_iadd hx hb dX8_correct_20 ?_
  obtain ⟨q4, eq4, hs⟩ := ob hs
  refine nd_callV (As := [.int ((171 : Int32) + q3)]) (rest := []) (st1 := [.int q4]) hx hb hml hown hts hl hP hK hD hS hA hN (mX0_get eq4) iv_X0_get wd_238 1 rfl rfl rfl rfl ⟨Nat.le_of_ble_eq_true rfl, Nat.le_of_ble_eq_true rfl⟩ (Nat.le_of_ble_eq_true rfl) ⟨Nat.zero_le _, Nat.zero_le _⟩ dX8_correct_21 rfl rfl (fun H locs hP hD hS => ?_)
  refine lv_istore (lv' := [(4, .int q4), (3, .int q3), (0, .ref (ad 0)), (1, .int x1), (2, .int x2)]) hx hb dX8_correct_24 hl (by decide) rfl (fun ls hl => ?_)
  refine lv_aload_n hx hb dX8_correct_26 rfl (lv_at hl 2 rfl) ?_
  refine gf_X8_12 hx hb hts hown hK hP 0 rfl rfl dX8_correct_27 ?_
  obtain ⟨q5, eq5, hs⟩ := ob hs
  refine nd_callV (As := []) (rest := []) (st1 := []) hx hb hml hown hts hl hP hK hD hS hA hN (mX0_save eq5) iv_X0_save wd_106 1 rfl rfl rfl rfl ⟨Nat.le_of_ble_eq_true rfl, Nat.le_of_ble_eq_true rfl⟩ (Nat.le_of_ble_eq_true rfl) ⟨Nat.zero_le _, Nat.zero_le _⟩ dX8_correct_30 rfl rfl (fun H locs hP hD hS => ?_)
  refine lv_aload_n hx hb dX8_correct_33 rfl (lv_at hl 2 rfl) ?_
  refine gf_X8_12 hx hb hts hown hK hP 0 rfl rfl dX8_correct_34 ?_
  refine lv_sipush (v := (171 : Int32)) hx hb dX8_correct_37 (by decide) ?_
  refine lv_iload_n hx hb dX8_correct_40 rfl (lv_at hl 1 rfl) ?_
  refine lv_iadd hx hb dX8_correct_41 ?_
  refine lv_aload_n hx hb dX8_correct_42 rfl (lv_at hl 2 rfl) ?_
  refine gf_X8_12 hx hb hts hown hK hP 0 rfl rfl dX8_correct_43 ?_
  refine lv_iload_n hx hb dX8_correct_46 rfl (lv_at hl 1 rfl) ?_
  obtain ⟨q6, eq6, hs⟩ := ob hs
  refine nd_callV (As := [.int q3]) (rest := [.int ((171 : Int32) + q3), .ref (ad 1)]) (st1 := [.int q6, .int ((171 : Int32) + q3), .ref (ad 1)]) hx hb hml hown hts hl hP hK hD hS hA hN (mX0_sumOf eq6) iv_X0_sumOf wd_337 1 rfl rfl rfl rfl ⟨Nat.le_of_ble_eq_true rfl, Nat.le_of_ble_eq_true rfl⟩ (Nat.le_of_ble_eq_true rfl) ⟨Nat.zero_le _, Nat.zero_le _⟩ dX8_correct_47 rfl rfl (fun H locs hP hD hS => ?_)
  obtain ⟨q7, eq7, hs⟩ := ob hs
  refine nd_callV (As := [.int ((171 : Int32) + q3), .int q6]) (rest := []) (st1 := []) hx hb hml hown hts hl hP hK hD hS hA hN (mX0_set eq7) iv_X0_set wd_246 1 rfl rfl rfl rfl ⟨Nat.le_of_ble_eq_true rfl, Nat.le_of_ble_eq_true rfl⟩ (Nat.le_of_ble_eq_true rfl) ⟨Nat.zero_le _, Nat.zero_le _⟩ dX8_correct_50 rfl rfl (fun H locs hP hD hS => ?_)
  refine lv_iload hx hb dX8_correct_53 (lv_at hl 0 rfl) ?_
  exact hret _ _ _ _ hs hP hS dX8_correct_55
set_option maxHeartbeats 4000000 in
set_option maxRecDepth 100000 in
theorem xX8_correct {l : Launch} (hnt : l.stackTraces = false) {D : va_G} {ad : Nat → Nat} {cI : ClassId} {kc : (Nat → Int32)} {ksv : (Nat → Int32)} {kbc : (Nat → Int32)} {kit : (Nat → Int32)} {kln : (Nat → Int32)} {ken : (Nat → Int32)} {kla : (Nat → Int32)} {kfi : (Nat → Int32)} {kea : (Nat → Int32)} {kns : Int32} {kbl : Int32} {kr0 : Int32} {kr1 : Int32} {kr2 : Int32} {kr3 : Int32} {kr4 : Int32} {kr5 : Int32} {klr : Int32} {kp0 : Int32} {kp1 : Int32} {kp2 : Int32} {kp3 : Int32} {x1 : Int32} {x2 : Int32} {k : Nat} (hs : fX8_correct kc ksv kns x1 x2 = some (.inl k)) : nd_CX l yX8_correct cX8_correct 5 (some .int) 8 125 D [(cI, .int)] [.ref (ad 0), .int x1, .int x2] (CW ad cI kc ksv kbc kit kln ken kla kfi kea kns kbl kr0 kr1 kr2 kr3 kr4 kr5 klr kp0 kp1 kp2 kp3) (fun W1 => W1 = (CW ad cI kc ksv kbc kit kln ken kla kfi kea kns kbl kr0 kr1 kr2 kr3 kr4 kr5 klr kp0 kp1 kp2 kp3)) k := by
  refine nd_ofX (by decide) (Nat.le_of_ble_eq_true rfl) (fun p e s m args below meth c_ ls A hx hb hml hown hts hl hP hK hD hS hA hN hX hxt hlocks hAe => ?_)
  have hown : s.vm.findClass RX8 = some m.cls := hown
  have hl : lv_has ls 5 [(0, .ref (ad 0)), (1, .int x1), (2, .int x2)] := hl
  rw [fX8_correct] at hs
  refine lv_aload_n hx hb dX8_correct_0 rfl (lv_at hl 0 rfl) ?_
  refine lv_iload_n hx hb dX8_correct_1 rfl (lv_at hl 1 rfl) ?_
  refine lv_iload_n hx hb dX8_correct_2 rfl (lv_at hl 2 rfl) ?_
  rcases xob_l hs with eq1 | ⟨q2, eq1, hs⟩
  · exact nd_callXV (fun _ h => h) (As := [.int x1, .int x2]) (rest := []) hx hb hml hown hts hl hP hK hD hS hA hN hX hxt hlocks hAe (xX8_requireReceipt hnt eq1) iv_X8_requireReceipt wd_356 0 rfl rfl rfl ⟨Nat.le_of_ble_eq_true rfl, Nat.le_of_ble_eq_true rfl⟩ (by decide) (Nat.le_of_ble_eq_true rfl) dX8_correct_3 rfl
  refine nd_callV (As := [.int x1, .int x2]) (rest := []) (st1 := []) hx hb hml hown hts hl hP hK hD hS hA hN (mX8_requireReceipt eq1) iv_X8_requireReceipt wd_356 0 rfl rfl rfl rfl ⟨Nat.le_of_ble_eq_true rfl, Nat.le_of_ble_eq_true rfl⟩ (Nat.le_of_ble_eq_true rfl) ⟨Nat.zero_le _, Nat.zero_le _⟩ dX8_correct_3 rfl rfl (fun H locs hP hD hS => ?_)
  refine lv_iload_n hx hb dX8_correct_6 rfl (lv_at hl 1 rfl) ?_
  refine lv_iload_n hx hb dX8_correct_7 rfl (lv_at hl 2 rfl) ?_
  obtain ⟨q3, eq3, hs⟩ := ob hs
  refine nd_callS (As := [.int x1, .int x2]) (rest := []) (st1 := [.int q3]) hx hb hml hown hts hl hP hK hD hS hA hN (mX0_slotOf eq3) is_X0_slotOf wd_243 rfl rfl ⟨Nat.le_of_ble_eq_true rfl, Nat.le_of_ble_eq_true rfl⟩ (Nat.le_of_ble_eq_true rfl) ⟨Nat.zero_le _, Nat.zero_le _⟩ dX8_correct_8 rfl rfl (fun H locs hP hD hS => ?_)
  refine lv_istore_n (lv' := [(3, .int q3), (0, .ref (ad 0)), (1, .int x1), (2, .int x2)]) hx hb dX8_correct_11 rfl hl (by decide) rfl (fun ls hl => ?_)
  refine lv_aload_n hx hb dX8_correct_12 rfl (lv_at hl 1 rfl) ?_
  refine gf_X8_12 hx hb hts hown hK hP 0 rfl rfl dX8_correct_13 ?_
  refine lv_sipush (v := (171 : Int32)) hx hb dX8_correct_16 (by decide) ?_
  refine lv_iload_n hx hb dX8_correct_19 rfl (lv_at hl 0 rfl) ?_
  refine lv_iadd hx hb dX8_correct_20 ?_
  obtain ⟨q4, eq4, hs⟩ := ob hs
  refine nd_callV (As := [.int ((171 : Int32) + q3)]) (rest := []) (st1 := [.int q4]) hx hb hml hown hts hl hP hK hD hS hA hN (mX0_get eq4) iv_X0_get wd_238 1 rfl rfl rfl rfl ⟨Nat.le_of_ble_eq_true rfl, Nat.le_of_ble_eq_true rfl⟩ (Nat.le_of_ble_eq_true rfl) ⟨Nat.zero_le _, Nat.zero_le _⟩ dX8_correct_21 rfl rfl (fun H locs hP hD hS => ?_)
  refine lv_istore (lv' := [(4, .int q4), (3, .int q3), (0, .ref (ad 0)), (1, .int x1), (2, .int x2)]) hx hb dX8_correct_24 hl (by decide) rfl (fun ls hl => ?_)
  refine lv_aload_n hx hb dX8_correct_26 rfl (lv_at hl 2 rfl) ?_
  refine gf_X8_12 hx hb hts hown hK hP 0 rfl rfl dX8_correct_27 ?_
  obtain ⟨q5, eq5, hs⟩ := ob hs
  refine nd_callV (As := []) (rest := []) (st1 := []) hx hb hml hown hts hl hP hK hD hS hA hN (mX0_save eq5) iv_X0_save wd_106 1 rfl rfl rfl rfl ⟨Nat.le_of_ble_eq_true rfl, Nat.le_of_ble_eq_true rfl⟩ (Nat.le_of_ble_eq_true rfl) ⟨Nat.zero_le _, Nat.zero_le _⟩ dX8_correct_30 rfl rfl (fun H locs hP hD hS => ?_)
  refine lv_aload_n hx hb dX8_correct_33 rfl (lv_at hl 2 rfl) ?_
  refine gf_X8_12 hx hb hts hown hK hP 0 rfl rfl dX8_correct_34 ?_
  refine lv_sipush (v := (171 : Int32)) hx hb dX8_correct_37 (by decide) ?_
  refine lv_iload_n hx hb dX8_correct_40 rfl (lv_at hl 1 rfl) ?_
  refine lv_iadd hx hb dX8_correct_41 ?_
  refine lv_aload_n hx hb dX8_correct_42 rfl (lv_at hl 2 rfl) ?_
  refine gf_X8_12 hx hb hts hown hK hP 0 rfl rfl dX8_correct_43 ?_
  refine lv_iload_n hx hb dX8_correct_46 rfl (lv_at hl 1 rfl) ?_
  obtain ⟨q6, eq6, hs⟩ := ob hs
  refine nd_callV (As := [.int q3]) (rest := [.int ((171 : Int32) + q3), .ref (ad 1)]) (st1 := [.int q6, .int ((171 : Int32) + q3), .ref (ad 1)]) hx hb hml hown hts hl hP hK hD hS hA hN (mX0_sumOf eq6) iv_X0_sumOf wd_337 1 rfl rfl rfl rfl ⟨Nat.le_of_ble_eq_true rfl, Nat.le_of_ble_eq_true rfl⟩ (Nat.le_of_ble_eq_true rfl) ⟨Nat.zero_le _, Nat.zero_le _⟩ dX8_correct_47 rfl rfl (fun H locs hP hD hS => ?_)
  obtain ⟨q7, eq7, hs⟩ := ob hs
  refine nd_callV (As := [.int ((171 : Int32) + q3), .int q6]) (rest := []) (st1 := []) hx hb hml hown hts hl hP hK hD hS hA hN (mX0_set eq7) iv_X0_set wd_246 1 rfl rfl rfl rfl ⟨Nat.le_of_ble_eq_true rfl, Nat.le_of_ble_eq_true rfl⟩ (Nat.le_of_ble_eq_true rfl) ⟨Nat.zero_le _, Nat.zero_le _⟩ dX8_correct_50 rfl rfl (fun H locs hP hD hS => ?_)
  refine lv_iload hx hb dX8_correct_53 (lv_at hl 0 rfl) ?_
  cases hs
def tX8_join_0 : List (Nat × Instr × Nat) := [(0, .aload_n 0, 1), (1, .iload_n 1, 1), (2, .invokevirtual 71, 3), (5, .aload_n 0, 1), (6, .iload_n 2, 1), (7, .invokevirtual 71, 3), (10, .aload_n 0, 1), (11, .getfield 12, 3), (14, .iload_n 1, 1), (15, .iload_n 2, 1), (16, .invokestatic 109, 3), (19, .ifCond .eq 13, 3), (22, .new 59, 3), (25, .dup, 1), (26, .ldc 115, 2), (28, .invokespecial 63, 3), (31, .athrow, 1), (32, .aload_n 0, 1), (33, .getfield 12, 3), (36, .invokevirtual 64, 3), (39, .aload_n 0, 1), (40, .getfield 12, 3), (43, .iload_n 1, 1), (44, .iload_n 2, 1), (45, .invokevirtual 117, 3), (48, .aload_n 0, 1), (49, .getfield 12, 3), (52, .iload_n 1, 1), (53, .invokevirtual 120, 3), (56, .ireturn, 1)]
theorem tX8_join_0_ok : tX8_join_0.all (fun q => decide (decode cX8_join q.1 = .ok q.2)) = true := by decide +kernel
theorem dX8_join_0 : decode cX8_join 0 = .ok (.aload_n 0, 1) := td tX8_join_0_ok 0 (q := (0, .aload_n 0, 1)) rfl
theorem dX8_join_1 : decode cX8_join 1 = .ok (.iload_n 1, 1) := td tX8_join_0_ok 1 (q := (1, .iload_n 1, 1)) rfl
theorem dX8_join_2 : decode cX8_join 2 = .ok (.invokevirtual 71, 3) := td tX8_join_0_ok 2 (q := (2, .invokevirtual 71, 3)) rfl
theorem dX8_join_5 : decode cX8_join 5 = .ok (.aload_n 0, 1) := td tX8_join_0_ok 3 (q := (5, .aload_n 0, 1)) rfl
theorem dX8_join_6 : decode cX8_join 6 = .ok (.iload_n 2, 1) := td tX8_join_0_ok 4 (q := (6, .iload_n 2, 1)) rfl
theorem dX8_join_7 : decode cX8_join 7 = .ok (.invokevirtual 71, 3) := td tX8_join_0_ok 5 (q := (7, .invokevirtual 71, 3)) rfl
theorem dX8_join_10 : decode cX8_join 10 = .ok (.aload_n 0, 1) := td tX8_join_0_ok 6 (q := (10, .aload_n 0, 1)) rfl
theorem dX8_join_11 : decode cX8_join 11 = .ok (.getfield 12, 3) := td tX8_join_0_ok 7 (q := (11, .getfield 12, 3)) rfl
theorem dX8_join_14 : decode cX8_join 14 = .ok (.iload_n 1, 1) := td tX8_join_0_ok 8 (q := (14, .iload_n 1, 1)) rfl
theorem dX8_join_15 : decode cX8_join 15 = .ok (.iload_n 2, 1) := td tX8_join_0_ok 9 (q := (15, .iload_n 2, 1)) rfl
theorem dX8_join_16 : decode cX8_join 16 = .ok (.invokestatic 109, 3) := td tX8_join_0_ok 10 (q := (16, .invokestatic 109, 3)) rfl
theorem dX8_join_19 : decode cX8_join 19 = .ok (.ifCond .eq 13, 3) := td tX8_join_0_ok 11 (q := (19, .ifCond .eq 13, 3)) rfl
theorem dX8_join_22 : decode cX8_join 22 = .ok (.new 59, 3) := td tX8_join_0_ok 12 (q := (22, .new 59, 3)) rfl
theorem dX8_join_25 : decode cX8_join 25 = .ok (.dup, 1) := td tX8_join_0_ok 13 (q := (25, .dup, 1)) rfl
theorem dX8_join_26 : decode cX8_join 26 = .ok (.ldc 115, 2) := td tX8_join_0_ok 14 (q := (26, .ldc 115, 2)) rfl
theorem dX8_join_28 : decode cX8_join 28 = .ok (.invokespecial 63, 3) := td tX8_join_0_ok 15 (q := (28, .invokespecial 63, 3)) rfl
theorem dX8_join_31 : decode cX8_join 31 = .ok (.athrow, 1) := td tX8_join_0_ok 16 (q := (31, .athrow, 1)) rfl
theorem dX8_join_32 : decode cX8_join 32 = .ok (.aload_n 0, 1) := td tX8_join_0_ok 17 (q := (32, .aload_n 0, 1)) rfl
theorem dX8_join_33 : decode cX8_join 33 = .ok (.getfield 12, 3) := td tX8_join_0_ok 18 (q := (33, .getfield 12, 3)) rfl
theorem dX8_join_36 : decode cX8_join 36 = .ok (.invokevirtual 64, 3) := td tX8_join_0_ok 19 (q := (36, .invokevirtual 64, 3)) rfl
theorem dX8_join_39 : decode cX8_join 39 = .ok (.aload_n 0, 1) := td tX8_join_0_ok 20 (q := (39, .aload_n 0, 1)) rfl
theorem dX8_join_40 : decode cX8_join 40 = .ok (.getfield 12, 3) := td tX8_join_0_ok 21 (q := (40, .getfield 12, 3)) rfl
theorem dX8_join_43 : decode cX8_join 43 = .ok (.iload_n 1, 1) := td tX8_join_0_ok 22 (q := (43, .iload_n 1, 1)) rfl
theorem dX8_join_44 : decode cX8_join 44 = .ok (.iload_n 2, 1) := td tX8_join_0_ok 23 (q := (44, .iload_n 2, 1)) rfl
theorem dX8_join_45 : decode cX8_join 45 = .ok (.invokevirtual 117, 3) := td tX8_join_0_ok 24 (q := (45, .invokevirtual 117, 3)) rfl
theorem dX8_join_48 : decode cX8_join 48 = .ok (.aload_n 0, 1) := td tX8_join_0_ok 25 (q := (48, .aload_n 0, 1)) rfl
theorem dX8_join_49 : decode cX8_join 49 = .ok (.getfield 12, 3) := td tX8_join_0_ok 26 (q := (49, .getfield 12, 3)) rfl
theorem dX8_join_52 : decode cX8_join 52 = .ok (.iload_n 1, 1) := td tX8_join_0_ok 27 (q := (52, .iload_n 1, 1)) rfl
theorem dX8_join_53 : decode cX8_join 53 = .ok (.invokevirtual 120, 3) := td tX8_join_0_ok 28 (q := (53, .invokevirtual 120, 3)) rfl
theorem dX8_join_56 : decode cX8_join 56 = .ok (.ireturn, 1) := td tX8_join_0_ok 29 (q := (56, .ireturn, 1)) rfl
def fX8_join (kc : (Nat → Int32)) (ksv : (Nat → Int32)) (kns : Int32) (x1 : Int32) (x2 : Int32) : Option (Nat ⊕ (Int32 × (Nat → Int32) × (Nat → Int32) × Int32)) :=
  (Option.bind (fX8_requirePiece kc x1) (fun q1 => (xs q1 (fun _ => (Option.bind (fX8_requirePiece kc x2) (fun q3 => (xs q3 (fun _ => (Option.bind (fX3_obstacle kc x1 x2) (fun q5 => (if q5 = 0 then (Option.bind (fX0_save kc ksv kns) (fun q7 => (Option.bind (fX0_link kc x1 x2) (fun q8 => (Option.bind (fX0_piecesOfRoll q8 x1) (fun q9 => (some (.inr (q9, q8, q7.1, q7.2))))))))) else (some (.inl 2)))))))))))))
set_option maxHeartbeats 4000000 in
set_option maxRecDepth 100000 in
theorem mX8_join {l : Launch} {D : va_G} {ad : Nat → Nat} {cI : ClassId} {kc : (Nat → Int32)} {ksv : (Nat → Int32)} {kbc : (Nat → Int32)} {kit : (Nat → Int32)} {kln : (Nat → Int32)} {ken : (Nat → Int32)} {kla : (Nat → Int32)} {kfi : (Nat → Int32)} {kea : (Nat → Int32)} {kns : Int32} {kbl : Int32} {kr0 : Int32} {kr1 : Int32} {kr2 : Int32} {kr3 : Int32} {kr4 : Int32} {kr5 : Int32} {klr : Int32} {kp0 : Int32} {kp1 : Int32} {kp2 : Int32} {kp3 : Int32} {x1 : Int32} {x2 : Int32} {r : Int32} {kc' : (Nat → Int32)} {ksv' : (Nat → Int32)} {kns' : Int32} (hs : fX8_join kc ksv kns x1 x2 = some (.inr (r, kc', ksv', kns'))) : nd_C l yX8_join cX8_join 3 (some .int) 3 80 D [(cI, .int)] [.ref (ad 0), .int x1, .int x2] (CW ad cI kc ksv kbc kit kln ken kla kfi kea kns kbl kr0 kr1 kr2 kr3 kr4 kr5 klr kp0 kp1 kp2 kp3) (CW ad cI kc' ksv' kbc kit kln ken kla kfi kea kns' kbl kr0 kr1 kr2 kr3 kr4 kr5 klr kp0 kp1 kp2 kp3) (some (.int r)) := by
  refine nd_ofCi (by decide) (Nat.le_of_ble_eq_true rfl) (fun p e s m args below meth c_ ls A Q hx hb hml hown hts hl hP hK hD hS hA hN hret => ?_)
  have hown : s.vm.findClass RX8 = some m.cls := hown
  have hl : lv_has ls 3 [(0, .ref (ad 0)), (1, .int x1), (2, .int x2)] := hl
  have hret : ∀ (z0 : Int32) (z1 : (Nat → Int32)) (z2 : (Nat → Int32)) (z3 : Int32) {H : Heap} {locs : List Loc} {pc : Nat} {ls : Array Slot}, some (Sum.inr (α := Nat) (z0, z1, z2, z3)) = some (.inr (r, kc', ksv', kns')) → va_P D vwCl (CW ad cI z1 z2 kbc kit kln ken kla kfi kea z3 kbl kr0 kr1 kr2 kr3 kr4 kr5 klr kp0 kp1 kp2 kp3) H → va_S A s.heap H locs → decode cX8_join pc = .ok (.ireturn, 1) → W p l e ⟨3, 0, 0, 80⟩ s m args below meth c_ H locs 0 0 Q (F0 m pc ls [.int z0]) := by
    intro z0 z1 z2 z3 H locs pc ls h hP hS hd
    cases h
    exact hret hP hS hd
  rw [fX8_join] at hs
  refine lv_aload_n hx hb dX8_join_0 rfl (lv_at hl 0 rfl) ?_
  refine lv_iload_n hx hb dX8_join_1 rfl (lv_at hl 1 rfl) ?_
  obtain ⟨q2, eq1, hs⟩ := xob_r hs
  refine nd_callV (As := [.int x1]) (rest := []) (st1 := []) hx hb hml hown hts hl hP hK hD hS hA hN (mX8_requirePiece eq1) iv_X8_requirePiece wd_155 0 rfl rfl rfl rfl ⟨Nat.le_of_ble_eq_true rfl, Nat.le_of_ble_eq_true rfl⟩ (Nat.le_of_ble_eq_true rfl) ⟨Nat.zero_le _, Nat.zero_le _⟩ dX8_join_2 rfl rfl (fun H locs hP hD hS => ?_)
  refine lv_aload_n hx hb dX8_join_5 rfl (lv_at hl 0 rfl) ?_
  refine lv_iload_n hx hb dX8_join_6 rfl (lv_at hl 2 rfl) ?_
  obtain ⟨q4, eq3, hs⟩ := xob_r hs
  refine nd_callV (As := [.int x2]) (rest := []) (st1 := []) hx hb hml hown hts hl hP hK hD hS hA hN (mX8_requirePiece eq3) iv_X8_requirePiece wd_155 0 rfl rfl rfl rfl ⟨Nat.le_of_ble_eq_true rfl, Nat.le_of_ble_eq_true rfl⟩ (Nat.le_of_ble_eq_true rfl) ⟨Nat.zero_le _, Nat.zero_le _⟩ dX8_join_7 rfl rfl (fun H locs hP hD hS => ?_)
  refine lv_aload_n hx hb dX8_join_10 rfl (lv_at hl 0 rfl) ?_
  refine gf_X8_12 hx hb hts hown hK hP 0 rfl rfl dX8_join_11 ?_
  refine lv_iload_n hx hb dX8_join_14 rfl (lv_at hl 1 rfl) ?_
  refine lv_iload_n hx hb dX8_join_15 rfl (lv_at hl 2 rfl) ?_
  obtain ⟨q5, eq5, hs⟩ := ob hs
  refine nd_callS (As := [.ref (ad 1), .int x1, .int x2]) (rest := []) (st1 := [.int q5]) hx hb hml hown hts hl hP hK hD hS hA hN (mX3_obstacle eq5) is_X3_obstacle wd_379 rfl rfl ⟨Nat.le_of_ble_eq_true rfl, Nat.le_of_ble_eq_true rfl⟩ (Nat.le_of_ble_eq_true rfl) ⟨Nat.zero_le _, Nat.zero_le _⟩ dX8_join_16 rfl rfl (fun H locs hP hD hS => ?_)
  refine lv_if_eq (tgt := 32) hx hb dX8_join_19 (by decide) (fun b6 => ?_) (fun b6 => ?_)
  · have hs := ite_t hs b6
    refine lv_aload_n hx hb dX8_join_32 rfl (lv_at hl 0 rfl) ?_
    refine gf_X8_12 hx hb hts hown hK hP 0 rfl rfl dX8_join_33 ?_
    obtain ⟨q7, eq7, hs⟩ := ob hs
    refine nd_callV (As := []) (rest := []) (st1 := []) hx hb hml hown hts hl hP hK hD hS hA hN (mX0_save eq7) iv_X0_save wd_106 1 rfl rfl rfl rfl ⟨Nat.le_of_ble_eq_true rfl, Nat.le_of_ble_eq_true rfl⟩ (Nat.le_of_ble_eq_true rfl) ⟨Nat.zero_le _, Nat.zero_le _⟩ dX8_join_36 rfl rfl (fun H locs hP hD hS => ?_)
    refine lv_aload_n hx hb dX8_join_39 rfl (lv_at hl 0 rfl) ?_
    refine gf_X8_12 hx hb hts hown hK hP 0 rfl rfl dX8_join_40 ?_
    refine lv_iload_n hx hb dX8_join_43 rfl (lv_at hl 1 rfl) ?_
    refine lv_iload_n hx hb dX8_join_44 rfl (lv_at hl 2 rfl) ?_
    obtain ⟨q8, eq8, hs⟩ := ob hs
    refine nd_callV (As := [.int x1, .int x2]) (rest := []) (st1 := []) hx hb hml hown hts hl hP hK hD hS hA hN (mX0_link eq8) iv_X0_link wd_390 1 rfl rfl rfl rfl ⟨Nat.le_of_ble_eq_true rfl, Nat.le_of_ble_eq_true rfl⟩ (Nat.le_of_ble_eq_true rfl) ⟨Nat.zero_le _, Nat.zero_le _⟩ dX8_join_45 rfl rfl (fun H locs hP hD hS => ?_)
    refine lv_aload_n hx hb dX8_join_48 rfl (lv_at hl 0 rfl) ?_
    refine gf_X8_12 hx hb hts hown hK hP 0 rfl rfl dX8_join_49 ?_
    refine lv_iload_n hx hb dX8_join_52 rfl (lv_at hl 1 rfl) ?_
    obtain ⟨q9, eq9, hs⟩ := ob hs
    refine nd_callV (As := [.int x1]) (rest := []) (st1 := [.int q9]) hx hb hml hown hts hl hP hK hD hS hA hN (mX0_piecesOfRoll eq9) iv_X0_piecesOfRoll wd_394 1 rfl rfl rfl rfl ⟨Nat.le_of_ble_eq_true rfl, Nat.le_of_ble_eq_true rfl⟩ (Nat.le_of_ble_eq_true rfl) ⟨Nat.zero_le _, Nat.zero_le _⟩ dX8_join_53 rfl rfl (fun H locs hP hD hS => ?_)
    exact hret _ _ _ _ hs hP hS dX8_join_56
  · have hs := ite_f hs b6
    cases hs
set_option maxHeartbeats 4000000 in
set_option maxRecDepth 100000 in
theorem xX8_join {l : Launch} (hnt : l.stackTraces = false) {D : va_G} {ad : Nat → Nat} {cI : ClassId} {kc : (Nat → Int32)} {ksv : (Nat → Int32)} {kbc : (Nat → Int32)} {kit : (Nat → Int32)} {kln : (Nat → Int32)} {ken : (Nat → Int32)} {kla : (Nat → Int32)} {kfi : (Nat → Int32)} {kea : (Nat → Int32)} {kns : Int32} {kbl : Int32} {kr0 : Int32} {kr1 : Int32} {kr2 : Int32} {kr3 : Int32} {kr4 : Int32} {kr5 : Int32} {klr : Int32} {kp0 : Int32} {kp1 : Int32} {kp2 : Int32} {kp3 : Int32} {x1 : Int32} {x2 : Int32} {k : Nat} (hs : fX8_join kc ksv kns x1 x2 = some (.inl k)) : nd_CX l yX8_join cX8_join 3 (some .int) 7 103 D [(cI, .int)] [.ref (ad 0), .int x1, .int x2] (CW ad cI kc ksv kbc kit kln ken kla kfi kea kns kbl kr0 kr1 kr2 kr3 kr4 kr5 klr kp0 kp1 kp2 kp3) (fun W1 => W1 = (CW ad cI kc ksv kbc kit kln ken kla kfi kea kns kbl kr0 kr1 kr2 kr3 kr4 kr5 klr kp0 kp1 kp2 kp3)) k := by
  refine nd_ofX (by decide) (Nat.le_of_ble_eq_true rfl) (fun p e s m args below meth c_ ls A hx hb hml hown hts hl hP hK hD hS hA hN hX hxt hlocks hAe => ?_)
  have hown : s.vm.findClass RX8 = some m.cls := hown
  have hl : lv_has ls 3 [(0, .ref (ad 0)), (1, .int x1), (2, .int x2)] := hl
  rw [fX8_join] at hs
  refine lv_aload_n hx hb dX8_join_0 rfl (lv_at hl 0 rfl) ?_
  refine lv_iload_n hx hb dX8_join_1 rfl (lv_at hl 1 rfl) ?_
  rcases xob_l hs with eq1 | ⟨q2, eq1, hs⟩
  · exact nd_callXV (fun _ h => h) (As := [.int x1]) (rest := []) hx hb hml hown hts hl hP hK hD hS hA hN hX hxt hlocks hAe (xX8_requirePiece hnt eq1) iv_X8_requirePiece wd_155 0 rfl rfl rfl ⟨Nat.le_of_ble_eq_true rfl, Nat.le_of_ble_eq_true rfl⟩ (by decide) (Nat.le_of_ble_eq_true rfl) dX8_join_2 rfl
  refine nd_callV (As := [.int x1]) (rest := []) (st1 := []) hx hb hml hown hts hl hP hK hD hS hA hN (mX8_requirePiece eq1) iv_X8_requirePiece wd_155 0 rfl rfl rfl rfl ⟨Nat.le_of_ble_eq_true rfl, Nat.le_of_ble_eq_true rfl⟩ (Nat.le_of_ble_eq_true rfl) ⟨Nat.zero_le _, Nat.zero_le _⟩ dX8_join_2 rfl rfl (fun H locs hP hD hS => ?_)
  refine lv_aload_n hx hb dX8_join_5 rfl (lv_at hl 0 rfl) ?_
  refine lv_iload_n hx hb dX8_join_6 rfl (lv_at hl 2 rfl) ?_
  rcases xob_l hs with eq3 | ⟨q4, eq3, hs⟩
  · exact nd_callXV (fun _ h => h) (As := [.int x2]) (rest := []) hx hb hml hown hts hl hP hK hD hS hA hN hX hxt hlocks hAe (xX8_requirePiece hnt eq3) iv_X8_requirePiece wd_155 0 rfl rfl rfl ⟨Nat.le_of_ble_eq_true rfl, Nat.le_of_ble_eq_true rfl⟩ (by decide) (Nat.le_of_ble_eq_true rfl) dX8_join_7 rfl
  refine nd_callV (As := [.int x2]) (rest := []) (st1 := []) hx hb hml hown hts hl hP hK hD hS hA hN (mX8_requirePiece eq3) iv_X8_requirePiece wd_155 0 rfl rfl rfl rfl ⟨Nat.le_of_ble_eq_true rfl, Nat.le_of_ble_eq_true rfl⟩ (Nat.le_of_ble_eq_true rfl) ⟨Nat.zero_le _, Nat.zero_le _⟩ dX8_join_7 rfl rfl (fun H locs hP hD hS => ?_)
  refine lv_aload_n hx hb dX8_join_10 rfl (lv_at hl 0 rfl) ?_
  refine gf_X8_12 hx hb hts hown hK hP 0 rfl rfl dX8_join_11 ?_
  refine lv_iload_n hx hb dX8_join_14 rfl (lv_at hl 1 rfl) ?_
  refine lv_iload_n hx hb dX8_join_15 rfl (lv_at hl 2 rfl) ?_
  obtain ⟨q5, eq5, hs⟩ := ob hs
  refine nd_callS (As := [.ref (ad 1), .int x1, .int x2]) (rest := []) (st1 := [.int q5]) hx hb hml hown hts hl hP hK hD hS hA hN (mX3_obstacle eq5) is_X3_obstacle wd_379 rfl rfl ⟨Nat.le_of_ble_eq_true rfl, Nat.le_of_ble_eq_true rfl⟩ (Nat.le_of_ble_eq_true rfl) ⟨Nat.zero_le _, Nat.zero_le _⟩ dX8_join_16 rfl rfl (fun H locs hP hD hS => ?_)
  refine lv_if_eq (tgt := 32) hx hb dX8_join_19 (by decide) (fun b6 => ?_) (fun b6 => ?_)
  · have hs := ite_t hs b6
    refine lv_aload_n hx hb dX8_join_32 rfl (lv_at hl 0 rfl) ?_
    refine gf_X8_12 hx hb hts hown hK hP 0 rfl rfl dX8_join_33 ?_
    obtain ⟨q7, eq7, hs⟩ := ob hs
    refine nd_callV (As := []) (rest := []) (st1 := []) hx hb hml hown hts hl hP hK hD hS hA hN (mX0_save eq7) iv_X0_save wd_106 1 rfl rfl rfl rfl ⟨Nat.le_of_ble_eq_true rfl, Nat.le_of_ble_eq_true rfl⟩ (Nat.le_of_ble_eq_true rfl) ⟨Nat.zero_le _, Nat.zero_le _⟩ dX8_join_36 rfl rfl (fun H locs hP hD hS => ?_)
    refine lv_aload_n hx hb dX8_join_39 rfl (lv_at hl 0 rfl) ?_
    refine gf_X8_12 hx hb hts hown hK hP 0 rfl rfl dX8_join_40 ?_
    refine lv_iload_n hx hb dX8_join_43 rfl (lv_at hl 1 rfl) ?_
    refine lv_iload_n hx hb dX8_join_44 rfl (lv_at hl 2 rfl) ?_
    obtain ⟨q8, eq8, hs⟩ := ob hs
    refine nd_callV (As := [.int x1, .int x2]) (rest := []) (st1 := []) hx hb hml hown hts hl hP hK hD hS hA hN (mX0_link eq8) iv_X0_link wd_390 1 rfl rfl rfl rfl ⟨Nat.le_of_ble_eq_true rfl, Nat.le_of_ble_eq_true rfl⟩ (Nat.le_of_ble_eq_true rfl) ⟨Nat.zero_le _, Nat.zero_le _⟩ dX8_join_45 rfl rfl (fun H locs hP hD hS => ?_)
    refine lv_aload_n hx hb dX8_join_48 rfl (lv_at hl 0 rfl) ?_
    refine gf_X8_12 hx hb hts hown hK hP 0 rfl rfl dX8_join_49 ?_
    refine lv_iload_n hx hb dX8_join_52 rfl (lv_at hl 1 rfl) ?_
    obtain ⟨q9, eq9, hs⟩ := ob hs
    refine nd_callV (As := [.int x1]) (rest := []) (st1 := [.int q9]) hx hb hml hown hts hl hP hK hD hS hA hN (mX0_piecesOfRoll eq9) iv_X0_piecesOfRoll wd_394 1 rfl rfl rfl rfl ⟨Nat.le_of_ble_eq_true rfl, Nat.le_of_ble_eq_true rfl⟩ (Nat.le_of_ble_eq_true rfl) ⟨Nat.zero_le _, Nat.zero_le _⟩ dX8_join_53 rfl rfl (fun H locs hP hD hS => ?_)
    cases hs
  · have hs := ite_f hs b6
    cases hs
    exact nd_thr2 hx hb hnt hown hts hX hS (hl.1.trans hml.symm) (is := 115) str_115 dX8_join_22 dX8_join_25 dX8_join_26 dX8_join_28 dX8_join_31 hxt hlocks rfl hP hAe (Nat.le_of_ble_eq_true rfl) (Nat.le_of_ble_eq_true rfl)
def tX8_part_0 : List (Nat × Instr × Nat) := [(0, .aload_n 0, 1), (1, .iload_n 1, 1), (2, .invokevirtual 71, 3), (5, .aload_n 0, 1), (6, .getfield 12, 3), (9, .bipush 31, 2), (11, .iload_n 1, 1), (12, .iadd, 1), (13, .invokevirtual 106, 3), (16, .istore_n 2, 1), (17, .iload_n 2, 1), (18, .iconst (-1), 1), (19, .if_icmp .ne 13, 3), (22, .new 59, 3), (25, .dup, 1), (26, .ldc 123, 2), (28, .invokespecial 63, 3), (31, .athrow, 1), (32, .aload_n 0, 1), (33, .getfield 12, 3), (36, .invokevirtual 64, 3), (39, .aload_n 0, 1), (40, .getfield 12, 3), (43, .iload_n 1, 1), (44, .iload_n 2, 1), (45, .invokevirtual 125, 3), (48, .iload_n 2, 1), (49, .ireturn, 1)]
theorem tX8_part_0_ok : tX8_part_0.all (fun q => decide (decode cX8_part q.1 = .ok q.2)) = true := by decide +kernel
theorem dX8_part_0 : decode cX8_part 0 = .ok (.aload_n 0, 1) := td tX8_part_0_ok 0 (q := (0, .aload_n 0, 1)) rfl
theorem dX8_part_1 : decode cX8_part 1 = .ok (.iload_n 1, 1) := td tX8_part_0_ok 1 (q := (1, .iload_n 1, 1)) rfl
theorem dX8_part_2 : decode cX8_part 2 = .ok (.invokevirtual 71, 3) := td tX8_part_0_ok 2 (q := (2, .invokevirtual 71, 3)) rfl
theorem dX8_part_5 : decode cX8_part 5 = .ok (.aload_n 0, 1) := td tX8_part_0_ok 3 (q := (5, .aload_n 0, 1)) rfl
theorem dX8_part_6 : decode cX8_part 6 = .ok (.getfield 12, 3) := td tX8_part_0_ok 4 (q := (6, .getfield 12, 3)) rfl
theorem dX8_part_9 : decode cX8_part 9 = .ok (.bipush 31, 2) := td tX8_part_0_ok 5 (q := (9, .bipush 31, 2)) rfl
theorem dX8_part_11 : decode cX8_part 11 = .ok (.iload_n 1, 1) := td tX8_part_0_ok 6 (q := (11, .iload_n 1, 1)) rfl
theorem dX8_part_12 : decode cX8_part 12 = .ok (.iadd, 1) := td tX8_part_0_ok 7 (q := (12, .iadd, 1)) rfl
theorem dX8_part_13 : decode cX8_part 13 = .ok (.invokevirtual 106, 3) := td tX8_part_0_ok 8 (q := (13, .invokevirtual 106, 3)) rfl
theorem dX8_part_16 : decode cX8_part 16 = .ok (.istore_n 2, 1) := td tX8_part_0_ok 9 (q := (16, .istore_n 2, 1)) rfl
theorem dX8_part_17 : decode cX8_part 17 = .ok (.iload_n 2, 1) := td tX8_part_0_ok 10 (q := (17, .iload_n 2, 1)) rfl
theorem dX8_part_18 : decode cX8_part 18 = .ok (.iconst (-1), 1) := td tX8_part_0_ok 11 (q := (18, .iconst (-1), 1)) rfl
theorem dX8_part_19 : decode cX8_part 19 = .ok (.if_icmp .ne 13, 3) := td tX8_part_0_ok 12 (q := (19, .if_icmp .ne 13, 3)) rfl
theorem dX8_part_22 : decode cX8_part 22 = .ok (.new 59, 3) := td tX8_part_0_ok 13 (q := (22, .new 59, 3)) rfl
theorem dX8_part_25 : decode cX8_part 25 = .ok (.dup, 1) := td tX8_part_0_ok 14 (q := (25, .dup, 1)) rfl
theorem dX8_part_26 : decode cX8_part 26 = .ok (.ldc 123, 2) := td tX8_part_0_ok 15 (q := (26, .ldc 123, 2)) rfl
theorem dX8_part_28 : decode cX8_part 28 = .ok (.invokespecial 63, 3) := td tX8_part_0_ok 16 (q := (28, .invokespecial 63, 3)) rfl
theorem dX8_part_31 : decode cX8_part 31 = .ok (.athrow, 1) := td tX8_part_0_ok 17 (q := (31, .athrow, 1)) rfl
theorem dX8_part_32 : decode cX8_part 32 = .ok (.aload_n 0, 1) := td tX8_part_0_ok 18 (q := (32, .aload_n 0, 1)) rfl
theorem dX8_part_33 : decode cX8_part 33 = .ok (.getfield 12, 3) := td tX8_part_0_ok 19 (q := (33, .getfield 12, 3)) rfl
theorem dX8_part_36 : decode cX8_part 36 = .ok (.invokevirtual 64, 3) := td tX8_part_0_ok 20 (q := (36, .invokevirtual 64, 3)) rfl
theorem dX8_part_39 : decode cX8_part 39 = .ok (.aload_n 0, 1) := td tX8_part_0_ok 21 (q := (39, .aload_n 0, 1)) rfl
theorem dX8_part_40 : decode cX8_part 40 = .ok (.getfield 12, 3) := td tX8_part_0_ok 22 (q := (40, .getfield 12, 3)) rfl
theorem dX8_part_43 : decode cX8_part 43 = .ok (.iload_n 1, 1) := td tX8_part_0_ok 23 (q := (43, .iload_n 1, 1)) rfl
theorem dX8_part_44 : decode cX8_part 44 = .ok (.iload_n 2, 1) := td tX8_part_0_ok 24 (q := (44, .iload_n 2, 1)) rfl
theorem dX8_part_45 : decode cX8_part 45 = .ok (.invokevirtual 125, 3) := td tX8_part_0_ok 25 (q := (45, .invokevirtual 125, 3)) rfl
theorem dX8_part_48 : decode cX8_part 48 = .ok (.iload_n 2, 1) := td tX8_part_0_ok 26 (q := (48, .iload_n 2, 1)) rfl
theorem dX8_part_49 : decode cX8_part 49 = .ok (.ireturn, 1) := td tX8_part_0_ok 27 (q := (49, .ireturn, 1)) rfl
def fX8_part (kc : (Nat → Int32)) (ksv : (Nat → Int32)) (kns : Int32) (x1 : Int32) : Option (Nat ⊕ (Int32 × (Nat → Int32) × (Nat → Int32) × Int32)) :=
  (Option.bind (fX8_requirePiece kc x1) (fun q1 => (xs q1 (fun _ => (Option.bind (fX0_get kc ((31 : Int32) + x1)) (fun q3 => (if q3 = (-1 : Int32) then (some (.inl 2)) else (Option.bind (fX0_save kc ksv kns) (fun q5 => (Option.bind (fX0_unlink kc x1 q3) (fun q6 => (some (.inr (q3, q6, q5.1, q5.2))))))))))))))
set_option maxHeartbeats 4000000 in
set_option maxRecDepth 100000 in
theorem mX8_part {l : Launch} {D : va_G} {ad : Nat → Nat} {cI : ClassId} {kc : (Nat → Int32)} {ksv : (Nat → Int32)} {kbc : (Nat → Int32)} {kit : (Nat → Int32)} {kln : (Nat → Int32)} {ken : (Nat → Int32)} {kla : (Nat → Int32)} {kfi : (Nat → Int32)} {kea : (Nat → Int32)} {kns : Int32} {kbl : Int32} {kr0 : Int32} {kr1 : Int32} {kr2 : Int32} {kr3 : Int32} {kr4 : Int32} {kr5 : Int32} {klr : Int32} {kp0 : Int32} {kp1 : Int32} {kp2 : Int32} {kp3 : Int32} {x1 : Int32} {r : Int32} {kc' : (Nat → Int32)} {ksv' : (Nat → Int32)} {kns' : Int32} (hs : fX8_part kc ksv kns x1 = some (.inr (r, kc', ksv', kns'))) : nd_C l yX8_part cX8_part 3 (some .int) 3 80 D [(cI, .int)] [.ref (ad 0), .int x1] (CW ad cI kc ksv kbc kit kln ken kla kfi kea kns kbl kr0 kr1 kr2 kr3 kr4 kr5 klr kp0 kp1 kp2 kp3) (CW ad cI kc' ksv' kbc kit kln ken kla kfi kea kns' kbl kr0 kr1 kr2 kr3 kr4 kr5 klr kp0 kp1 kp2 kp3) (some (.int r)) := by
  refine nd_ofCi (by decide) (Nat.le_of_ble_eq_true rfl) (fun p e s m args below meth c_ ls A Q hx hb hml hown hts hl hP hK hD hS hA hN hret => ?_)
  have hown : s.vm.findClass RX8 = some m.cls := hown
  have hl : lv_has ls 3 [(0, .ref (ad 0)), (1, .int x1)] := hl
  have hret : ∀ (z0 : Int32) (z1 : (Nat → Int32)) (z2 : (Nat → Int32)) (z3 : Int32) {H : Heap} {locs : List Loc} {pc : Nat} {ls : Array Slot}, some (Sum.inr (α := Nat) (z0, z1, z2, z3)) = some (.inr (r, kc', ksv', kns')) → va_P D vwCl (CW ad cI z1 z2 kbc kit kln ken kla kfi kea z3 kbl kr0 kr1 kr2 kr3 kr4 kr5 klr kp0 kp1 kp2 kp3) H → va_S A s.heap H locs → decode cX8_part pc = .ok (.ireturn, 1) → W p l e ⟨3, 0, 0, 80⟩ s m args below meth c_ H locs 0 0 Q (F0 m pc ls [.int z0]) := by
    intro z0 z1 z2 z3 H locs pc ls h hP hS hd
    cases h
    exact hret hP hS hd
  rw [fX8_part] at hs
  refine lv_aload_n hx hb dX8_part_0 rfl (lv_at hl 0 rfl) ?_
  refine lv_iload_n hx hb dX8_part_1 rfl (lv_at hl 1 rfl) ?_
  obtain ⟨q2, eq1, hs⟩ := xob_r hs
  refine nd_callV (As := [.int x1]) (rest := []) (st1 := []) hx hb hml hown hts hl hP hK hD hS hA hN (mX8_requirePiece eq1) iv_X8_requirePiece wd_155 0 rfl rfl rfl rfl ⟨Nat.le_of_ble_eq_true rfl, Nat.le_of_ble_eq_true rfl⟩ (Nat.le_of_ble_eq_true rfl) ⟨Nat.zero_le _, Nat.zero_le _⟩ dX8_part_2 rfl rfl (fun H locs hP hD hS => ?_)
  refine lv_aload_n hx hb dX8_part_5 rfl (lv_at hl 0 rfl) ?_
  refine gf_X8_12 hx hb hts hown hK hP 0 rfl rfl dX8_part_6 ?_
  refine lv_bipush (v := (31 : Int32)) hx hb dX8_part_9 (by decide) ?_
  refine lv_iload_n hx hb dX8_part_11 rfl (lv_at hl 1 rfl) ?_
  refine lv_iadd hx hb dX8_part_12 ?_
  obtain ⟨q3, eq3, hs⟩ := ob hs
  refine nd_callV (As := [.int ((31 : Int32) + x1)]) (rest := []) (st1 := [.int q3]) hx hb hml hown hts hl hP hK hD hS hA hN (mX0_get eq3) iv_X0_get wd_238 1 rfl rfl rfl rfl ⟨Nat.le_of_ble_eq_true rfl, Nat.le_of_ble_eq_true rfl⟩ (Nat.le_of_ble_eq_true rfl) ⟨Nat.zero_le _, Nat.zero_le _⟩ dX8_part_13 rfl rfl (fun H locs hP hD hS => ?_)
  refine lv_istore_n (lv' := [(2, .int q3), (0, .ref (ad 0)), (1, .int x1)]) hx hb dX8_part_16 rfl hl (by decide) rfl (fun ls hl => ?_)
  refine lv_iload_n hx hb dX8_part_17 rfl (lv_at hl 0 rfl) ?_
  refine lv_iconst (v := (-1 : Int32)) hx hb dX8_part_18 (by decide) ?_
  refine lv_icmp_ne (tgt := 32) hx hb dX8_part_19 (by decide) (fun b4 => ?_) (fun b4 => ?_)
  · have hs := ite_f hs b4
    refine lv_aload_n hx hb dX8_part_32 rfl (lv_at hl 1 rfl) ?_
    refine gf_X8_12 hx hb hts hown hK hP 0 rfl rfl dX8_part_33 ?_
    obtain ⟨q5, eq5, hs⟩ := ob hs
    refine nd_callV (As := []) (rest := []) (st1 := []) hx hb hml hown hts hl hP hK hD hS hA hN (mX0_save eq5) iv_X0_save wd_106 1 rfl rfl rfl rfl ⟨Nat.le_of_ble_eq_true rfl, Nat.le_of_ble_eq_true rfl⟩ (Nat.le_of_ble_eq_true rfl) ⟨Nat.zero_le _, Nat.zero_le _⟩ dX8_part_36 rfl rfl (fun H locs hP hD hS => ?_)
    refine lv_aload_n hx hb dX8_part_39 rfl (lv_at hl 1 rfl) ?_
    refine gf_X8_12 hx hb hts hown hK hP 0 rfl rfl dX8_part_40 ?_
    refine lv_iload_n hx hb dX8_part_43 rfl (lv_at hl 2 rfl) ?_
    refine lv_iload_n hx hb dX8_part_44 rfl (lv_at hl 0 rfl) ?_
    obtain ⟨q6, eq6, hs⟩ := ob hs
    refine nd_callV (As := [.int x1, .int q3]) (rest := []) (st1 := []) hx hb hml hown hts hl hP hK hD hS hA hN (mX0_unlink eq6) iv_X0_unlink wd_426 1 rfl rfl rfl rfl ⟨Nat.le_of_ble_eq_true rfl, Nat.le_of_ble_eq_true rfl⟩ (Nat.le_of_ble_eq_true rfl) ⟨Nat.zero_le _, Nat.zero_le _⟩ dX8_part_45 rfl rfl (fun H locs hP hD hS => ?_)
    refine lv_iload_n hx hb dX8_part_48 rfl (lv_at hl 0 rfl) ?_
    exact hret _ _ _ _ hs hP hS dX8_part_49
  · have hs := ite_t hs b4
    cases hs
set_option maxHeartbeats 4000000 in
set_option maxRecDepth 100000 in
theorem xX8_part {l : Launch} (hnt : l.stackTraces = false) {D : va_G} {ad : Nat → Nat} {cI : ClassId} {kc : (Nat → Int32)} {ksv : (Nat → Int32)} {kbc : (Nat → Int32)} {kit : (Nat → Int32)} {kln : (Nat → Int32)} {ken : (Nat → Int32)} {kla : (Nat → Int32)} {kfi : (Nat → Int32)} {kea : (Nat → Int32)} {kns : Int32} {kbl : Int32} {kr0 : Int32} {kr1 : Int32} {kr2 : Int32} {kr3 : Int32} {kr4 : Int32} {kr5 : Int32} {klr : Int32} {kp0 : Int32} {kp1 : Int32} {kp2 : Int32} {kp3 : Int32} {x1 : Int32} {k : Nat} (hs : fX8_part kc ksv kns x1 = some (.inl k)) : nd_CX l yX8_part cX8_part 3 (some .int) 7 103 D [(cI, .int)] [.ref (ad 0), .int x1] (CW ad cI kc ksv kbc kit kln ken kla kfi kea kns kbl kr0 kr1 kr2 kr3 kr4 kr5 klr kp0 kp1 kp2 kp3) (fun W1 => W1 = (CW ad cI kc ksv kbc kit kln ken kla kfi kea kns kbl kr0 kr1 kr2 kr3 kr4 kr5 klr kp0 kp1 kp2 kp3)) k := by
  refine nd_ofX (by decide) (Nat.le_of_ble_eq_true rfl) (fun p e s m args below meth c_ ls A hx hb hml hown hts hl hP hK hD hS hA hN hX hxt hlocks hAe => ?_)
  have hown : s.vm.findClass RX8 = some m.cls := hown
  have hl : lv_has ls 3 [(0, .ref (ad 0)), (1, .int x1)] := hl
  rw [fX8_part] at hs
  refine lv_aload_n hx hb dX8_part_0 rfl (lv_at hl 0 rfl) ?_
  refine lv_iload_n hx hb dX8_part_1 rfl (lv_at hl 1 rfl) ?_
  rcases xob_l hs with eq1 | ⟨q2, eq1, hs⟩
  · exact nd_callXV (fun _ h => h) (As := [.int x1]) (rest := []) hx hb hml hown hts hl hP hK hD hS hA hN hX hxt hlocks hAe (xX8_requirePiece hnt eq1) iv_X8_requirePiece wd_155 0 rfl rfl rfl ⟨Nat.le_of_ble_eq_true rfl, Nat.le_of_ble_eq_true rfl⟩ (by decide) (Nat.le_of_ble_eq_true rfl) dX8_part_2 rfl
  refine nd_callV (As := [.int x1]) (rest := []) (st1 := []) hx hb hml hown hts hl hP hK hD hS hA hN (mX8_requirePiece eq1) iv_X8_requirePiece wd_155 0 rfl rfl rfl rfl ⟨Nat.le_of_ble_eq_true rfl, Nat.le_of_ble_eq_true rfl⟩ (Nat.le_of_ble_eq_true rfl) ⟨Nat.zero_le _, Nat.zero_le _⟩ dX8_part_2 rfl rfl (fun H locs hP hD hS => ?_)
  refine lv_aload_n hx hb dX8_part_5 rfl (lv_at hl 0 rfl) ?_
  refine gf_X8_12 hx hb hts hown hK hP 0 rfl rfl dX8_part_6 ?_
  refine lv_bipush (v := (31 : Int32)) hx hb dX8_part_9 (by decide) ?_
  refine lv_iload_n hx hb dX8_part_11 rfl (lv_at hl 1 rfl) ?_
  refine lv_iadd hx hb dX8_part_12 ?_
  obtain ⟨q3, eq3, hs⟩ := ob hs
  refine nd_callV (As := [.int ((31 : Int32) + x1)]) (rest := []) (st1 := [.int q3]) hx hb hml hown hts hl hP hK hD hS hA hN (mX0_get eq3) iv_X0_get wd_238 1 rfl rfl rfl rfl ⟨Nat.le_of_ble_eq_true rfl, Nat.le_of_ble_eq_true rfl⟩ (Nat.le_of_ble_eq_true rfl) ⟨Nat.zero_le _, Nat.zero_le _⟩ dX8_part_13 rfl rfl (fun H locs hP hD hS => ?_)
  refine lv_istore_n (lv' := [(2, .int q3), (0, .ref (ad 0)), (1, .int x1)]) hx hb dX8_part_16 rfl hl (by decide) rfl (fun ls hl => ?_)
  refine lv_iload_n hx hb dX8_part_17 rfl (lv_at hl 0 rfl) ?_
  refine lv_iconst (v := (-1 : Int32)) hx hb dX8_part_18 (by decide) ?_
  refine lv_icmp_ne (tgt := 32) hx hb dX8_part_19 (by decide) (fun b4 => ?_) (fun b4 => ?_)
  · have hs := ite_f hs b4
    refine lv_aload_n hx hb dX8_part_32 rfl (lv_at hl 1 rfl) ?_
    refine gf_X8_12 hx hb hts hown hK hP 0 rfl rfl dX8_part_33 ?_
    obtain ⟨q5, eq5, hs⟩ := ob hs
    refine nd_callV (As := []) (rest := []) (st1 := []) hx hb hml hown hts hl hP hK hD hS hA hN (mX0_save eq5) iv_X0_save wd_106 1 rfl rfl rfl rfl ⟨Nat.le_of_ble_eq_true rfl, Nat.le_of_ble_eq_true rfl⟩ (Nat.le_of_ble_eq_true rfl) ⟨Nat.zero_le _, Nat.zero_le _⟩ dX8_part_36 rfl rfl (fun H locs hP hD hS => ?_)
    refine lv_aload_n hx hb dX8_part_39 rfl (lv_at hl 1 rfl) ?_
    refine gf_X8_12 hx hb hts hown hK hP 0 rfl rfl dX8_part_40 ?_
    refine lv_iload_n hx hb dX8_part_43 rfl (lv_at hl 2 rfl) ?_
    refine lv_iload_n hx hb dX8_part_44 rfl (lv_at hl 0 rfl) ?_
    obtain ⟨q6, eq6, hs⟩ := ob hs
    refine nd_callV (As := [.int x1, .int q3]) (rest := []) (st1 := []) hx hb hml hown hts hl hP hK hD hS hA hN (mX0_unlink eq6) iv_X0_unlink wd_426 1 rfl rfl rfl rfl ⟨Nat.le_of_ble_eq_true rfl, Nat.le_of_ble_eq_true rfl⟩ (Nat.le_of_ble_eq_true rfl) ⟨Nat.zero_le _, Nat.zero_le _⟩ dX8_part_45 rfl rfl (fun H locs hP hD hS => ?_)
    refine lv_iload_n hx hb dX8_part_48 rfl (lv_at hl 0 rfl) ?_
    cases hs
  · have hs := ite_t hs b4
    cases hs
    exact nd_thr2 hx hb hnt hown hts hX hS (hl.1.trans hml.symm) (is := 123) str_123 dX8_part_22 dX8_part_25 dX8_part_26 dX8_part_28 dX8_part_31 hxt hlocks rfl hP hAe (Nat.le_of_ble_eq_true rfl) (Nat.le_of_ble_eq_true rfl)
def tX8_joinClear_0 : List (Nat × Instr × Nat) := [(0, .aload_n 0, 1), (1, .getfield 12, 3), (4, .invokevirtual 64, 3), (7, .aload_n 0, 1), (8, .getfield 12, 3), (11, .invokestatic 128, 3), (14, .ireturn, 1)]
theorem tX8_joinClear_0_ok : tX8_joinClear_0.all (fun q => decide (decode cX8_joinClear q.1 = .ok q.2)) = true := by decide +kernel
theorem dX8_joinClear_0 : decode cX8_joinClear 0 = .ok (.aload_n 0, 1) := td tX8_joinClear_0_ok 0 (q := (0, .aload_n 0, 1)) rfl
theorem dX8_joinClear_1 : decode cX8_joinClear 1 = .ok (.getfield 12, 3) := td tX8_joinClear_0_ok 1 (q := (1, .getfield 12, 3)) rfl
theorem dX8_joinClear_4 : decode cX8_joinClear 4 = .ok (.invokevirtual 64, 3) := td tX8_joinClear_0_ok 2 (q := (4, .invokevirtual 64, 3)) rfl
theorem dX8_joinClear_7 : decode cX8_joinClear 7 = .ok (.aload_n 0, 1) := td tX8_joinClear_0_ok 3 (q := (7, .aload_n 0, 1)) rfl
theorem dX8_joinClear_8 : decode cX8_joinClear 8 = .ok (.getfield 12, 3) := td tX8_joinClear_0_ok 4 (q := (8, .getfield 12, 3)) rfl
theorem dX8_joinClear_11 : decode cX8_joinClear 11 = .ok (.invokestatic 128, 3) := td tX8_joinClear_0_ok 5 (q := (11, .invokestatic 128, 3)) rfl
theorem dX8_joinClear_14 : decode cX8_joinClear 14 = .ok (.ireturn, 1) := td tX8_joinClear_0_ok 6 (q := (14, .ireturn, 1)) rfl
def fX8_joinClear (kc : (Nat → Int32)) (ksv : (Nat → Int32)) (kns : Int32) : Option (Int32 × (Nat → Int32) × (Nat → Int32) × Int32) :=
  (Option.bind (fX0_save kc ksv kns) (fun q1 => (Option.bind (fX3_joinAllClear kc) (fun q2 => (some (q2.1, q2.2, q1.1, q1.2))))))
set_option maxHeartbeats 4000000 in
set_option maxRecDepth 100000 in
theorem mX8_joinClear {l : Launch} {D : va_G} {ad : Nat → Nat} {cI : ClassId} {kc : (Nat → Int32)} {ksv : (Nat → Int32)} {kbc : (Nat → Int32)} {kit : (Nat → Int32)} {kln : (Nat → Int32)} {ken : (Nat → Int32)} {kla : (Nat → Int32)} {kfi : (Nat → Int32)} {kea : (Nat → Int32)} {kns : Int32} {kbl : Int32} {kr0 : Int32} {kr1 : Int32} {kr2 : Int32} {kr3 : Int32} {kr4 : Int32} {kr5 : Int32} {klr : Int32} {kp0 : Int32} {kp1 : Int32} {kp2 : Int32} {kp3 : Int32} {r : Int32} {kc' : (Nat → Int32)} {ksv' : (Nat → Int32)} {kns' : Int32} (hs : fX8_joinClear kc ksv kns = some (r, kc', ksv', kns')) : nd_C l yX8_joinClear cX8_joinClear 1 (some .int) 6 135 D [(cI, .int)] [.ref (ad 0)] (CW ad cI kc ksv kbc kit kln ken kla kfi kea kns kbl kr0 kr1 kr2 kr3 kr4 kr5 klr kp0 kp1 kp2 kp3) (CW ad cI kc' ksv' kbc kit kln ken kla kfi kea kns' kbl kr0 kr1 kr2 kr3 kr4 kr5 klr kp0 kp1 kp2 kp3) (some (.int r)) := by
  refine nd_ofCi (by decide) (Nat.le_of_ble_eq_true rfl) (fun p e s m args below meth c_ ls A Q hx hb hml hown hts hl hP hK hD hS hA hN hret => ?_)
  have hown : s.vm.findClass RX8 = some m.cls := hown
  have hl : lv_has ls 1 [(0, .ref (ad 0))] := hl
  have hret : ∀ (z0 : Int32) (z1 : (Nat → Int32)) (z2 : (Nat → Int32)) (z3 : Int32) {H : Heap} {locs : List Loc} {pc : Nat} {ls : Array Slot}, some (z0, z1, z2, z3) = some (r, kc', ksv', kns') → va_P D vwCl (CW ad cI z1 z2 kbc kit kln ken kla kfi kea z3 kbl kr0 kr1 kr2 kr3 kr4 kr5 klr kp0 kp1 kp2 kp3) H → va_S A s.heap H locs → decode cX8_joinClear pc = .ok (.ireturn, 1) → W p l e ⟨6, 0, 0, 135⟩ s m args below meth c_ H locs 0 0 Q (F0 m pc ls [.int z0]) := by
    intro z0 z1 z2 z3 H locs pc ls h hP hS hd
    cases h
    exact hret hP hS hd
  rw [fX8_joinClear] at hs
  refine lv_aload_n hx hb dX8_joinClear_0 rfl (lv_at hl 0 rfl) ?_
  refine gf_X8_12 hx hb hts hown hK hP 0 rfl rfl dX8_joinClear_1 ?_
  obtain ⟨q1, eq1, hs⟩ := ob hs
  refine nd_callV (As := []) (rest := []) (st1 := []) hx hb hml hown hts hl hP hK hD hS hA hN (mX0_save eq1) iv_X0_save wd_106 1 rfl rfl rfl rfl ⟨Nat.le_of_ble_eq_true rfl, Nat.le_of_ble_eq_true rfl⟩ (Nat.le_of_ble_eq_true rfl) ⟨Nat.zero_le _, Nat.zero_le _⟩ dX8_joinClear_4 rfl rfl (fun H locs hP hD hS => ?_)
  refine lv_aload_n hx hb dX8_joinClear_7 rfl (lv_at hl 0 rfl) ?_
  refine gf_X8_12 hx hb hts hown hK hP 0 rfl rfl dX8_joinClear_8 ?_
  obtain ⟨q2, eq2, hs⟩ := ob hs
  refine nd_callS (As := [.ref (ad 1)]) (rest := []) (st1 := [.int q2.1]) hx hb hml hown hts hl hP hK hD hS hA hN (mX3_joinAllClear eq2) is_X3_joinAllClear wd_438 rfl rfl ⟨Nat.le_of_ble_eq_true rfl, Nat.le_of_ble_eq_true rfl⟩ (Nat.le_of_ble_eq_true rfl) ⟨Nat.zero_le _, Nat.zero_le _⟩ dX8_joinClear_11 rfl rfl (fun H locs hP hD hS => ?_)
  exact hret _ _ _ _ hs hP hS dX8_joinClear_14
