def tX8_hashWithFits_0 : List (Nat × Instr × Nat) := [(0, .lload_n 1, 1), (1, .lstore_n 3, 1), (2, .iconst 0, 1), (3, .istore 5, 2), (5, .iload 5, 2), (7, .aload_n 0, 1), (8, .getfield 12, 3), (11, .invokevirtual 55, 3), (14, .if_icmp .ge 47, 3), (17, .iconst 0, 1), (18, .istore 6, 2), (20, .iload 6, 2), (22, .aload_n 0, 1), (23, .getfield 12, 3), (26, .invokevirtual 55, 3), (29, .if_icmp .ge 26, 3), (32, .lload_n 3, 1), (33, .aload_n 0, 1), (34, .getfield 12, 3), (37, .iload 5, 2), (39, .iload 6, 2), (41, .invokestatic 109, 3), (44, .i2l, 1), (45, .invokestatic 230, 3), (48, .lstore_n 3, 1), (49, .iinc 6 1, 3), (52, .goto (-32), 3), (55, .iinc 5 1, 3), (58, .goto (-53), 3), (61, .lload_n 3, 1), (62, .lreturn, 1)]
theorem tX8_hashWithFits_0_ok : tX8_hashWithFits_0.all (fun q => decide (decode cX8_hashWithFits q.1 = .ok q.2)) = true := by decide +kernel
theorem dX8_hashWithFits_0 : decode cX8_hashWithFits 0 = .ok (.lload_n 1, 1) := td tX8_hashWithFits_0_ok 0 (q := (0, .lload_n 1, 1)) rfl
theorem dX8_hashWithFits_1 : decode cX8_hashWithFits 1 = .ok (.lstore_n 3, 1) := td tX8_hashWithFits_0_ok 1 (q := (1, .lstore_n 3, 1)) rfl
theorem dX8_hashWithFits_2 : decode cX8_hashWithFits 2 = .ok (.iconst 0, 1) := td tX8_hashWithFits_0_ok 2 (q := (2, .iconst 0, 1)) rfl
theorem dX8_hashWithFits_3 : decode cX8_hashWithFits 3 = .ok (.istore 5, 2) := td tX8_hashWithFits_0_ok 3 (q := (3, .istore 5, 2)) rfl
theorem dX8_hashWithFits_5 : decode cX8_hashWithFits 5 = .ok (.iload 5, 2) := td tX8_hashWithFits_0_ok 4 (q := (5, .iload 5, 2)) rfl
theorem dX8_hashWithFits_7 : decode cX8_hashWithFits 7 = .ok (.aload_n 0, 1) := td tX8_hashWithFits_0_ok 5 (q := (7, .aload_n 0, 1)) rfl
theorem dX8_hashWithFits_8 : decode cX8_hashWithFits 8 = .ok (.getfield 12, 3) := td tX8_hashWithFits_0_ok 6 (q := (8, .getfield 12, 3)) rfl
theorem dX8_hashWithFits_11 : decode cX8_hashWithFits 11 = .ok (.invokevirtual 55, 3) := td tX8_hashWithFits_0_ok 7 (q := (11, .invokevirtual 55, 3)) rfl
theorem dX8_hashWithFits_14 : decode cX8_hashWithFits 14 = .ok (.if_icmp .ge 47, 3) := td tX8_hashWithFits_0_ok 8 (q := (14, .if_icmp .ge 47, 3)) rfl
theorem dX8_hashWithFits_17 : decode cX8_hashWithFits 17 = .ok (.iconst 0, 1) := td tX8_hashWithFits_0_ok 9 (q := (17, .iconst 0, 1)) rfl
theorem dX8_hashWithFits_18 : decode cX8_hashWithFits 18 = .ok (.istore 6, 2) := td tX8_hashWithFits_0_ok 10 (q := (18, .istore 6, 2)) rfl
theorem dX8_hashWithFits_20 : decode cX8_hashWithFits 20 = .ok (.iload 6, 2) := td tX8_hashWithFits_0_ok 11 (q := (20, .iload 6, 2)) rfl
theorem dX8_hashWithFits_22 : decode cX8_hashWithFits 22 = .ok (.aload_n 0, 1) := td tX8_hashWithFits_0_ok 12 (q := (22, .aload_n 0, 1)) rfl
theorem dX8_hashWithFits_23 : decode cX8_hashWithFits 23 = .ok (.getfield 12, 3) := td tX8_hashWithFits_0_ok 13 (q := (23, .getfield 12, 3)) rfl
theorem dX8_hashWithFits_26 : decode cX8_hashWithFits 26 = .ok (.invokevirtual 55, 3) := td tX8_hashWithFits_0_ok 14 (q := (26, .invokevirtual 55, 3)) rfl
theorem dX8_hashWithFits_29 : decode cX8_hashWithFits 29 = .ok (.if_icmp .ge 26, 3) := td tX8_hashWithFits_0_ok 15 (q := (29, .if_icmp .ge 26, 3)) rfl
theorem dX8_hashWithFits_32 : decode cX8_hashWithFits 32 = .ok (.lload_n 3, 1) := td tX8_hashWithFits_0_ok 16 (q := (32, .lload_n 3, 1)) rfl
theorem dX8_hashWithFits_33 : decode cX8_hashWithFits 33 = .ok (.aload_n 0, 1) := td tX8_hashWithFits_0_ok 17 (q := (33, .aload_n 0, 1)) rfl
theorem dX8_hashWithFits_34 : decode cX8_hashWithFits 34 = .ok (.getfield 12, 3) := td tX8_hashWithFits_0_ok 18 (q := (34, .getfield 12, 3)) rfl
theorem dX8_hashWithFits_37 : decode cX8_hashWithFits 37 = .ok (.iload 5, 2) := td tX8_hashWithFits_0_ok 19 (q := (37, .iload 5, 2)) rfl
theorem dX8_hashWithFits_39 : decode cX8_hashWithFits 39 = .ok (.iload 6, 2) := td tX8_hashWithFits_0_ok 20 (q := (39, .iload 6, 2)) rfl
theorem dX8_hashWithFits_41 : decode cX8_hashWithFits 41 = .ok (.invokestatic 109, 3) := td tX8_hashWithFits_0_ok 21 (q := (41, .invokestatic 109, 3)) rfl
theorem dX8_hashWithFits_44 : decode cX8_hashWithFits 44 = .ok (.i2l, 1) := td tX8_hashWithFits_0_ok 22 (q := (44, .i2l, 1)) rfl
theorem dX8_hashWithFits_45 : decode cX8_hashWithFits 45 = .ok (.invokestatic 230, 3) := td tX8_hashWithFits_0_ok 23 (q := (45, .invokestatic 230, 3)) rfl
theorem dX8_hashWithFits_48 : decode cX8_hashWithFits 48 = .ok (.lstore_n 3, 1) := td tX8_hashWithFits_0_ok 24 (q := (48, .lstore_n 3, 1)) rfl
theorem dX8_hashWithFits_49 : decode cX8_hashWithFits 49 = .ok (.iinc 6 1, 3) := td tX8_hashWithFits_0_ok 25 (q := (49, .iinc 6 1, 3)) rfl
theorem dX8_hashWithFits_52 : decode cX8_hashWithFits 52 = .ok (.goto (-32), 3) := td tX8_hashWithFits_0_ok 26 (q := (52, .goto (-32), 3)) rfl
theorem dX8_hashWithFits_55 : decode cX8_hashWithFits 55 = .ok (.iinc 5 1, 3) := td tX8_hashWithFits_0_ok 27 (q := (55, .iinc 5 1, 3)) rfl
theorem dX8_hashWithFits_58 : decode cX8_hashWithFits 58 = .ok (.goto (-53), 3) := td tX8_hashWithFits_0_ok 28 (q := (58, .goto (-53), 3)) rfl
theorem dX8_hashWithFits_61 : decode cX8_hashWithFits 61 = .ok (.lload_n 3, 1) := td tX8_hashWithFits_0_ok 29 (q := (61, .lload_n 3, 1)) rfl
theorem dX8_hashWithFits_62 : decode cX8_hashWithFits 62 = .ok (.lreturn, 1) := td tX8_hashWithFits_0_ok 30 (q := (62, .lreturn, 1)) rfl
def fX8_hashWithFits_20 (k20 : Int64 → Option (Int64)) (kc : (Nat → Int32)) (x5 : Int32) : Nat → Int64 → Int32 → Option (Int64)
  | 0, _, _ => none
  | n20 + 1, x3, x6 => (Option.bind (fX0_pieces kc) (fun q3 => (if q3 ≤ x6 then (k20 x3) else (Option.bind (fX3_obstacle kc x5 x6) (fun q5 => (Option.bind (fX8_mixed x3 q5.toInt64) (fun q6 => (fX8_hashWithFits_20 k20 kc x5 n20 q6 (x6 + (1 : Int32))))))))))
def fX8_hashWithFits_5 (k5 : Int64 → Option (Int64)) (kc : (Nat → Int32)) : Nat → Int64 → Int32 → Option (Int64)
  | 0, _, _ => none
  | n5 + 1, x3, x5 => (Option.bind (fX0_pieces kc) (fun q1 => (if q1 ≤ x5 then (k5 x3) else (fX8_hashWithFits_20 (fun (u3_7 : Int64) => (fX8_hashWithFits_5 k5 kc n5 u3_7 (x5 + (1 : Int32)))) kc x5 LF x3 (0 : Int32)))))
def fX8_hashWithFits (kc : (Nat → Int32)) (x1 : Int64) : Option (Int64) :=
  (fX8_hashWithFits_5 (fun (u3_12 : Int64) => (some u3_12)) kc LF x1 (0 : Int32))
set_option maxHeartbeats 4000000 in
set_option maxRecDepth 100000 in
theorem mX8_hashWithFits {l : Launch} {D : va_G} {ad : Nat → Nat} {cI : ClassId} {kc : (Nat → Int32)} {ksv : (Nat → Int32)} {kbc : (Nat → Int32)} {kit : (Nat → Int32)} {kln : (Nat → Int32)} {ken : (Nat → Int32)} {kla : (Nat → Int32)} {kfi : (Nat → Int32)} {kea : (Nat → Int32)} {kns : Int32} {kbl : Int32} {kr0 : Int32} {kr1 : Int32} {kr2 : Int32} {kr3 : Int32} {kr4 : Int32} {kr5 : Int32} {klr : Int32} {kp0 : Int32} {kp1 : Int32} {kp2 : Int32} {kp3 : Int32} {x1 : Int64} {r : Int64} (hs : fX8_hashWithFits kc x1 = some r) : nd_C l yX8_hashWithFits cX8_hashWithFits 7 (some .long) 3 67 D [(cI, .int)] [.ref (ad 0), .long x1] (CW ad cI kc ksv kbc kit kln ken kla kfi kea kns kbl kr0 kr1 kr2 kr3 kr4 kr5 klr kp0 kp1 kp2 kp3) (CW ad cI kc ksv kbc kit kln ken kla kfi kea kns kbl kr0 kr1 kr2 kr3 kr4 kr5 klr kp0 kp1 kp2 kp3) (some (.long r)) := by
  refine nd_ofCl (by decide) (Nat.le_of_ble_eq_true rfl) (fun p e s m args below meth c_ ls A Q hx hb hml hown hts hl hP hK hD hS hA hN hret => ?_)
  have hown : s.vm.findClass RX8 = some m.cls := hown
  have hl : lv_has ls 7 [(0, .ref (ad 0)), (1, .long x1)] := hl
  have hret : ∀ (z0 : Int64) {H : Heap} {locs : List Loc} {pc : Nat} {ls : Array Slot}, some z0 = some r → va_P D vwCl (CW ad cI kc ksv kbc kit kln ken kla kfi kea kns kbl kr0 kr1 kr2 kr3 kr4 kr5 klr kp0 kp1 kp2 kp3) H → va_S A s.heap H locs → decode cX8_hashWithFits pc = .ok (.lreturn, 1) → W p l e ⟨3, 0, 0, 67⟩ s m args below meth c_ H locs 0 0 Q (F0 m pc ls [.long z0]) := by
    intro z0 H locs pc ls h hP hS hd
    cases h
    exact hret hP hS hd
  rw [fX8_hashWithFits] at hs
  refine lv_lload_n hx hb dX8_hashWithFits_0 rfl (lv_at hl 1 rfl) ?_
  refine lv_lstore_n (lv' := [(3, .long x1), (0, .ref (ad 0)), (1, .long x1)]) hx hb dX8_hashWithFits_1 rfl hl (by decide) rfl (fun ls hl => ?_)
  refine lv_iconst (v := (0 : Int32)) hx hb dX8_hashWithFits_2 (by decide) ?_
  refine lv_istore (lv' := [(5, .int (0 : Int32)), (3, .long x1), (0, .ref (ad 0)), (1, .long x1)]) hx hb dX8_hashWithFits_3 hl (by decide) rfl (fun ls hl => ?_)
  have L5 : ∀ (n5 : Nat) (k5 : Int64 → Option (Int64)) (v3_12 : Int64) (v5_12 : Int32) (H : Heap) (locs : List Loc) (ls : Array Slot), lv_has ls 7 [(0, .ref (ad 0)), (3, .long v3_12), (5, .int v5_12)] → va_P D vwCl (CW ad cI kc ksv kbc kit kln ken kla kfi kea kns kbl kr0 kr1 kr2 kr3 kr4 kr5 klr kp0 kp1 kp2 kp3) H → va_S A s.heap H locs → fX8_hashWithFits_5 k5 kc n5 v3_12 v5_12 = some r → (∀ (u3_12 : Int64) (H : Heap) (locs : List Loc) (ls : Array Slot), lv_has ls 7 [(3, .long u3_12)] → va_P D vwCl (CW ad cI kc ksv kbc kit kln ken kla kfi kea kns kbl kr0 kr1 kr2 kr3 kr4 kr5 klr kp0 kp1 kp2 kp3) H → va_S A s.heap H locs → k5 u3_12 = some r → W p l e ⟨3, 0, 0, 67⟩ s m args below meth c_ H locs 0 0 Q (F0 m 61 ls [])) → W p l e ⟨3, 0, 0, 67⟩ s m args below meth c_ H locs 0 0 Q (F0 m 5 ls []) := by
    intro n5
    induction n5 with
    | zero =>
      intro k5 v3_12 v5_12 H locs ls hl hP hS hs hk5
      rw [fX8_hashWithFits_5] at hs
      cases hs
    | succ n5 ih5 =>
      intro k5 v3_12 v5_12 H locs ls hl hP hS hs hk5
      rw [fX8_hashWithFits_5] at hs
      refine lv_iload hx hb dX8_hashWithFits_5 (lv_at hl 2 rfl) ?_
      refine lv_aload_n hx hb dX8_hashWithFits_7 rfl (lv_at hl 0 rfl) ?_
      refine gf_X8_12 hx hb hts hown hK hP 0 rfl rfl dX8_hashWithFits_8 ?_
      obtain ⟨q13, eq13, hs⟩ := ob hs
      refine nd_callV (As := []) (rest := [.int v5_12]) (st1 := [.int q13, .int v5_12]) hx hb hml hown hts hl hP hK hD hS hA hN (mX0_pieces eq13) iv_X0_pieces wd_98 1 rfl rfl rfl rfl ⟨Nat.le_of_ble_eq_true rfl, Nat.le_of_ble_eq_true rfl⟩ (Nat.le_of_ble_eq_true rfl) ⟨Nat.zero_le _, Nat.zero_le _⟩ dX8_hashWithFits_11 rfl rfl (fun H locs hP hD hS => ?_)
      refine lv_icmp_ge (tgt := 61) hx hb dX8_hashWithFits_14 (by decide) (fun b14 => ?_) (fun b14 => ?_)
      · have hs := ite_t hs b14
        exact hk5 v3_12 _ _ _ (lv_sub hl [1] rfl) hP hS hs
      · have hs := ite_f hs b14
        refine lv_iconst (v := (0 : Int32)) hx hb dX8_hashWithFits_17 (by decide) ?_
        refine lv_istore (lv' := [(6, .int (0 : Int32)), (0, .ref (ad 0)), (3, .long v3_12), (5, .int v5_12)]) hx hb dX8_hashWithFits_18 hl (by decide) rfl (fun ls hl => ?_)
        have L20 : ∀ (n20 : Nat) (k20 : Int64 → Option (Int64)) (v3_19 : Int64) (v6_19 : Int32) (H : Heap) (locs : List Loc) (ls : Array Slot), lv_has ls 7 [(0, .ref (ad 0)), (3, .long v3_19), (5, .int v5_12), (6, .int v6_19)] → va_P D vwCl (CW ad cI kc ksv kbc kit kln ken kla kfi kea kns kbl kr0 kr1 kr2 kr3 kr4 kr5 klr kp0 kp1 kp2 kp3) H → va_S A s.heap H locs → fX8_hashWithFits_20 k20 kc v5_12 n20 v3_19 v6_19 = some r → (∀ (u3_19 : Int64) (H : Heap) (locs : List Loc) (ls : Array Slot), lv_has ls 7 [(0, .ref (ad 0)), (3, .long u3_19), (5, .int v5_12)] → va_P D vwCl (CW ad cI kc ksv kbc kit kln ken kla kfi kea kns kbl kr0 kr1 kr2 kr3 kr4 kr5 klr kp0 kp1 kp2 kp3) H → va_S A s.heap H locs → k20 u3_19 = some r → W p l e ⟨3, 0, 0, 67⟩ s m args below meth c_ H locs 0 0 Q (F0 m 55 ls [])) → W p l e ⟨3, 0, 0, 67⟩ s m args below meth c_ H locs 0 0 Q (F0 m 20 ls []) := by
          intro n20
          induction n20 with
          | zero =>
            intro k20 v3_19 v6_19 H locs ls hl hP hS hs hk20
            rw [fX8_hashWithFits_20] at hs
            cases hs
          | succ n20 ih20 =>
            intro k20 v3_19 v6_19 H locs ls hl hP hS hs hk20
            rw [fX8_hashWithFits_20] at hs
            refine lv_iload hx hb dX8_hashWithFits_20 (lv_at hl 3 rfl) ?_
            refine lv_aload_n hx hb dX8_hashWithFits_22 rfl (lv_at hl 0 rfl) ?_
            refine gf_X8_12 hx hb hts hown hK hP 0 rfl rfl dX8_hashWithFits_23 ?_
            obtain ⟨q20, eq20, hs⟩ := ob hs
            refine nd_callV (As := []) (rest := [.int v6_19]) (st1 := [.int q20, .int v6_19]) hx hb hml hown hts hl hP hK hD hS hA hN (mX0_pieces eq20) iv_X0_pieces wd_98 1 rfl rfl rfl rfl ⟨Nat.le_of_ble_eq_true rfl, Nat.le_of_ble_eq_true rfl⟩ (Nat.le_of_ble_eq_true rfl) ⟨Nat.zero_le _, Nat.zero_le _⟩ dX8_hashWithFits_26 rfl rfl (fun H locs hP hD hS => ?_)
            refine lv_icmp_ge (tgt := 55) hx hb dX8_hashWithFits_29 (by decide) (fun b21 => ?_) (fun b21 => ?_)
            · have hs := ite_t hs b21
              exact hk20 v3_19 _ _ _ (lv_sub hl [0, 1, 2] rfl) hP hS hs
            · have hs := ite_f hs b21
              refine lv_lload_n hx hb dX8_hashWithFits_32 rfl (lv_at hl 1 rfl) ?_
              refine lv_aload_n hx hb dX8_hashWithFits_33 rfl (lv_at hl 0 rfl) ?_
              refine gf_X8_12 hx hb hts hown hK hP 0 rfl rfl dX8_hashWithFits_34 ?_
              refine lv_iload hx hb dX8_hashWithFits_37 (lv_at hl 2 rfl) ?_
              refine lv_iload hx hb dX8_hashWithFits_39 (lv_at hl 3 rfl) ?_
              obtain ⟨q22, eq22, hs⟩ := ob hs
              refine nd_callS (As := [.ref (ad 1), .int v5_12, .int v6_19]) (rest := [.long v3_19]) (st1 := [.int q22, .long v3_19]) hx hb hml hown hts hl hP hK hD hS hA hN (mX3_obstacle eq22) is_X3_obstacle wd_379 rfl rfl ⟨Nat.le_of_ble_eq_true rfl, Nat.le_of_ble_eq_true rfl⟩ (Nat.le_of_ble_eq_true rfl) ⟨Nat.zero_le _, Nat.zero_le _⟩ dX8_hashWithFits_41 rfl rfl (fun H locs hP hD hS => ?_)
              refine lv_i2l hx hb dX8_hashWithFits_44 rfl ?_
              obtain ⟨q23, eq23, hs⟩ := ob hs
              refine nd_callS (As := [.long v3_19, .long q22.toInt64]) (rest := []) (st1 := [.long q23]) hx hb hml hown hts hl hP hK hD hS hA hN (mX8_mixed eq23) is_X8_mixed wd_935 rfl rfl ⟨Nat.le_of_ble_eq_true rfl, Nat.le_of_ble_eq_true rfl⟩ (Nat.le_of_ble_eq_true rfl) ⟨Nat.zero_le _, Nat.zero_le _⟩ dX8_hashWithFits_45 rfl rfl (fun H locs hP hD hS => ?_)
              refine lv_lstore_n (lv' := [(3, .long q23), (0, .ref (ad 0)), (5, .int v5_12), (6, .int v6_19)]) hx hb dX8_hashWithFits_48 rfl hl (by decide) rfl (fun ls hl => ?_)
              refine lv_iinc (v := v6_19 + (1 : Int32)) (lv' := [(6, .int (v6_19 + (1 : Int32))), (3, .long q23), (0, .ref (ad 0)), (5, .int v5_12)]) hx hb dX8_hashWithFits_49 hl (k := 3) rfl rfl (by decide) rfl (fun ls hl => ?_)
              refine lv_goto (tgt := 20) hx hb dX8_hashWithFits_52 (by decide) ?_
              exact ih20 k20 q23 (v6_19 + (1 : Int32)) _ _ _ (lv_sub hl [2, 1, 3, 0] rfl) hP hS hs hk20
        refine L20 LF _ v3_12 (0 : Int32) _ _ _ (lv_sub hl [1, 2, 3, 0] rfl) hP hS hs (fun u3_19 H locs ls hl hP hS hs => ?_)
        refine lv_iinc (v := v5_12 + (1 : Int32)) (lv' := [(5, .int (v5_12 + (1 : Int32))), (0, .ref (ad 0)), (3, .long u3_19)]) hx hb dX8_hashWithFits_55 hl (k := 2) rfl rfl (by decide) rfl (fun ls hl => ?_)
        refine lv_goto (tgt := 5) hx hb dX8_hashWithFits_58 (by decide) ?_
        exact ih5 k5 u3_19 (v5_12 + (1 : Int32)) _ _ _ (lv_sub hl [1, 2, 0] rfl) hP hS hs hk5
  refine L5 LF _ x1 (0 : Int32) _ _ _ (lv_sub hl [2, 1, 0] rfl) hP hS hs (fun u3_12 H locs ls hl hP hS hs => ?_)
  refine lv_lload_n hx hb dX8_hashWithFits_61 rfl (lv_at hl 0 rfl) ?_
  exact hret _ hs hP hS dX8_hashWithFits_62
def tX8_hashWithPages_0 : List (Nat × Instr × Nat) := [(0, .lload_n 1, 1), (1, .lstore_n 3, 1), (2, .aload_n 0, 1), (3, .getfield 33, 3), (6, .aload_n 0, 1), (7, .getfield 12, 3), (10, .invokevirtual 169, 3), (13, .iconst 0, 1), (14, .istore 5, 2), (16, .iload 5, 2), (18, .bipush 8, 2), (20, .if_icmp .ge 109, 3), (23, .iconst 0, 1), (24, .istore 6, 2), (26, .iload 6, 2), (28, .iconst 5, 1), (29, .if_icmp .ge 26, 3), (32, .lload_n 3, 1), (33, .aload_n 0, 1), (34, .getfield 12, 3), (37, .iload 5, 2), (39, .iload 6, 2), (41, .invokestatic 162, 3), (44, .i2l, 1), (45, .invokestatic 230, 3), (48, .lstore_n 3, 1), (49, .iinc 6 1, 3), (52, .goto (-26), 3), (55, .iconst 0, 1), (56, .istore 6, 2), (58, .iload 6, 2), (60, .aload_n 0, 1), (61, .getfield 33, 3), (64, .invokevirtual 331, 3), (67, .if_icmp .ge 56, 3), (70, .aload_n 0, 1), (71, .getfield 33, 3), (74, .iload 6, 2), (76, .invokevirtual 334, 3), (79, .istore 7, 2), (81, .aload_n 0, 1), (82, .getfield 12, 3), (85, .iload 7, 2), (87, .invokevirtual 306, 3), (90, .iload 5, 2), (92, .if_icmp .ne 25, 3), (95, .lload_n 3, 1), (96, .iload 7, 2), (98, .invokestatic 176, 3), (101, .i2l, 1), (102, .invokestatic 230, 3), (105, .lstore_n 3, 1), (106, .lload_n 3, 1), (107, .iload 7, 2), (109, .invokestatic 179, 3), (112, .i2l, 1), (113, .invokestatic 230, 3), (116, .lstore_n 3, 1), (117, .iinc 6 1, 3), (120, .goto (-62), 3)]
theorem tX8_hashWithPages_0_ok : tX8_hashWithPages_0.all (fun q => decide (decode cX8_hashWithPages q.1 = .ok q.2)) = true := by decide +kernel
theorem dX8_hashWithPages_0 : decode cX8_hashWithPages 0 = .ok (.lload_n 1, 1) := td tX8_hashWithPages_0_ok 0 (q := (0, .lload_n 1, 1)) rfl
theorem dX8_hashWithPages_1 : decode cX8_hashWithPages 1 = .ok (.lstore_n 3, 1) := td tX8_hashWithPages_0_ok 1 (q := (1, .lstore_n 3, 1)) rfl
theorem dX8_hashWithPages_2 : decode cX8_hashWithPages 2 = .ok (.aload_n 0, 1) := td tX8_hashWithPages_0_ok 2 (q := (2, .aload_n 0, 1)) rfl
theorem dX8_hashWithPages_3 : decode cX8_hashWithPages 3 = .ok (.getfield 33, 3) := td tX8_hashWithPages_0_ok 3 (q := (3, .getfield 33, 3)) rfl
theorem dX8_hashWithPages_6 : decode cX8_hashWithPages 6 = .ok (.aload_n 0, 1) := td tX8_hashWithPages_0_ok 4 (q := (6, .aload_n 0, 1)) rfl
theorem dX8_hashWithPages_7 : decode cX8_hashWithPages 7 = .ok (.getfield 12, 3) := td tX8_hashWithPages_0_ok 5 (q := (7, .getfield 12, 3)) rfl
theorem dX8_hashWithPages_10 : decode cX8_hashWithPages 10 = .ok (.invokevirtual 169, 3) := td tX8_hashWithPages_0_ok 6 (q := (10, .invokevirtual 169, 3)) rfl
theorem dX8_hashWithPages_13 : decode cX8_hashWithPages 13 = .ok (.iconst 0, 1) := td tX8_hashWithPages_0_ok 7 (q := (13, .iconst 0, 1)) rfl
theorem dX8_hashWithPages_14 : decode cX8_hashWithPages 14 = .ok (.istore 5, 2) := td tX8_hashWithPages_0_ok 8 (q := (14, .istore 5, 2)) rfl
theorem dX8_hashWithPages_16 : decode cX8_hashWithPages 16 = .ok (.iload 5, 2) := td tX8_hashWithPages_0_ok 9 (q := (16, .iload 5, 2)) rfl
theorem dX8_hashWithPages_18 : decode cX8_hashWithPages 18 = .ok (.bipush 8, 2) := td tX8_hashWithPages_0_ok 10 (q := (18, .bipush 8, 2)) rfl
theorem dX8_hashWithPages_20 : decode cX8_hashWithPages 20 = .ok (.if_icmp .ge 109, 3) := td tX8_hashWithPages_0_ok 11 (q := (20, .if_icmp .ge 109, 3)) rfl
theorem dX8_hashWithPages_23 : decode cX8_hashWithPages 23 = .ok (.iconst 0, 1) := td tX8_hashWithPages_0_ok 12 (q := (23, .iconst 0, 1)) rfl
theorem dX8_hashWithPages_24 : decode cX8_hashWithPages 24 = .ok (.istore 6, 2) := td tX8_hashWithPages_0_ok 13 (q := (24, .istore 6, 2)) rfl
theorem dX8_hashWithPages_26 : decode cX8_hashWithPages 26 = .ok (.iload 6, 2) := td tX8_hashWithPages_0_ok 14 (q := (26, .iload 6, 2)) rfl
theorem dX8_hashWithPages_28 : decode cX8_hashWithPages 28 = .ok (.iconst 5, 1) := td tX8_hashWithPages_0_ok 15 (q := (28, .iconst 5, 1)) rfl
theorem dX8_hashWithPages_29 : decode cX8_hashWithPages 29 = .ok (.if_icmp .ge 26, 3) := td tX8_hashWithPages_0_ok 16 (q := (29, .if_icmp .ge 26, 3)) rfl
theorem dX8_hashWithPages_32 : decode cX8_hashWithPages 32 = .ok (.lload_n 3, 1) := td tX8_hashWithPages_0_ok 17 (q := (32, .lload_n 3, 1)) rfl
theorem dX8_hashWithPages_33 : decode cX8_hashWithPages 33 = .ok (.aload_n 0, 1) := td tX8_hashWithPages_0_ok 18 (q := (33, .aload_n 0, 1)) rfl
theorem dX8_hashWithPages_34 : decode cX8_hashWithPages 34 = .ok (.getfield 12, 3) := td tX8_hashWithPages_0_ok 19 (q := (34, .getfield 12, 3)) rfl
theorem dX8_hashWithPages_37 : decode cX8_hashWithPages 37 = .ok (.iload 5, 2) := td tX8_hashWithPages_0_ok 20 (q := (37, .iload 5, 2)) rfl
theorem dX8_hashWithPages_39 : decode cX8_hashWithPages 39 = .ok (.iload 6, 2) := td tX8_hashWithPages_0_ok 21 (q := (39, .iload 6, 2)) rfl
theorem dX8_hashWithPages_41 : decode cX8_hashWithPages 41 = .ok (.invokestatic 162, 3) := td tX8_hashWithPages_0_ok 22 (q := (41, .invokestatic 162, 3)) rfl
theorem dX8_hashWithPages_44 : decode cX8_hashWithPages 44 = .ok (.i2l, 1) := td tX8_hashWithPages_0_ok 23 (q := (44, .i2l, 1)) rfl
theorem dX8_hashWithPages_45 : decode cX8_hashWithPages 45 = .ok (.invokestatic 230, 3) := td tX8_hashWithPages_0_ok 24 (q := (45, .invokestatic 230, 3)) rfl
theorem dX8_hashWithPages_48 : decode cX8_hashWithPages 48 = .ok (.lstore_n 3, 1) := td tX8_hashWithPages_0_ok 25 (q := (48, .lstore_n 3, 1)) rfl
theorem dX8_hashWithPages_49 : decode cX8_hashWithPages 49 = .ok (.iinc 6 1, 3) := td tX8_hashWithPages_0_ok 26 (q := (49, .iinc 6 1, 3)) rfl
theorem dX8_hashWithPages_52 : decode cX8_hashWithPages 52 = .ok (.goto (-26), 3) := td tX8_hashWithPages_0_ok 27 (q := (52, .goto (-26), 3)) rfl
theorem dX8_hashWithPages_55 : decode cX8_hashWithPages 55 = .ok (.iconst 0, 1) := td tX8_hashWithPages_0_ok 28 (q := (55, .iconst 0, 1)) rfl
theorem dX8_hashWithPages_56 : decode cX8_hashWithPages 56 = .ok (.istore 6, 2) := td tX8_hashWithPages_0_ok 29 (q := (56, .istore 6, 2)) rfl
theorem dX8_hashWithPages_58 : decode cX8_hashWithPages 58 = .ok (.iload 6, 2) := td tX8_hashWithPages_0_ok 30 (q := (58, .iload 6, 2)) rfl
theorem dX8_hashWithPages_60 : decode cX8_hashWithPages 60 = .ok (.aload_n 0, 1) := td tX8_hashWithPages_0_ok 31 (q := (60, .aload_n 0, 1)) rfl
theorem dX8_hashWithPages_61 : decode cX8_hashWithPages 61 = .ok (.getfield 33, 3) := td tX8_hashWithPages_0_ok 32 (q := (61, .getfield 33, 3)) rfl
theorem dX8_hashWithPages_64 : decode cX8_hashWithPages 64 = .ok (.invokevirtual 331, 3) := td tX8_hashWithPages_0_ok 33 (q := (64, .invokevirtual 331, 3)) rfl
theorem dX8_hashWithPages_67 : decode cX8_hashWithPages 67 = .ok (.if_icmp .ge 56, 3) := td tX8_hashWithPages_0_ok 34 (q := (67, .if_icmp .ge 56, 3)) rfl
theorem dX8_hashWithPages_70 : decode cX8_hashWithPages 70 = .ok (.aload_n 0, 1) := td tX8_hashWithPages_0_ok 35 (q := (70, .aload_n 0, 1)) rfl
theorem dX8_hashWithPages_71 : decode cX8_hashWithPages 71 = .ok (.getfield 33, 3) := td tX8_hashWithPages_0_ok 36 (q := (71, .getfield 33, 3)) rfl
theorem dX8_hashWithPages_74 : decode cX8_hashWithPages 74 = .ok (.iload 6, 2) := td tX8_hashWithPages_0_ok 37 (q := (74, .iload 6, 2)) rfl
theorem dX8_hashWithPages_76 : decode cX8_hashWithPages 76 = .ok (.invokevirtual 334, 3) := td tX8_hashWithPages_0_ok 38 (q := (76, .invokevirtual 334, 3)) rfl
theorem dX8_hashWithPages_79 : decode cX8_hashWithPages 79 = .ok (.istore 7, 2) := td tX8_hashWithPages_0_ok 39 (q := (79, .istore 7, 2)) rfl
theorem dX8_hashWithPages_81 : decode cX8_hashWithPages 81 = .ok (.aload_n 0, 1) := td tX8_hashWithPages_0_ok 40 (q := (81, .aload_n 0, 1)) rfl
theorem dX8_hashWithPages_82 : decode cX8_hashWithPages 82 = .ok (.getfield 12, 3) := td tX8_hashWithPages_0_ok 41 (q := (82, .getfield 12, 3)) rfl
theorem dX8_hashWithPages_85 : decode cX8_hashWithPages 85 = .ok (.iload 7, 2) := td tX8_hashWithPages_0_ok 42 (q := (85, .iload 7, 2)) rfl
theorem dX8_hashWithPages_87 : decode cX8_hashWithPages 87 = .ok (.invokevirtual 306, 3) := td tX8_hashWithPages_0_ok 43 (q := (87, .invokevirtual 306, 3)) rfl
theorem dX8_hashWithPages_90 : decode cX8_hashWithPages 90 = .ok (.iload 5, 2) := td tX8_hashWithPages_0_ok 44 (q := (90, .iload 5, 2)) rfl
theorem dX8_hashWithPages_92 : decode cX8_hashWithPages 92 = .ok (.if_icmp .ne 25, 3) := td tX8_hashWithPages_0_ok 45 (q := (92, .if_icmp .ne 25, 3)) rfl
theorem dX8_hashWithPages_95 : decode cX8_hashWithPages 95 = .ok (.lload_n 3, 1) := td tX8_hashWithPages_0_ok 46 (q := (95, .lload_n 3, 1)) rfl
theorem dX8_hashWithPages_96 : decode cX8_hashWithPages 96 = .ok (.iload 7, 2) := td tX8_hashWithPages_0_ok 47 (q := (96, .iload 7, 2)) rfl
theorem dX8_hashWithPages_98 : decode cX8_hashWithPages 98 = .ok (.invokestatic 176, 3) := td tX8_hashWithPages_0_ok 48 (q := (98, .invokestatic 176, 3)) rfl
theorem dX8_hashWithPages_101 : decode cX8_hashWithPages 101 = .ok (.i2l, 1) := td tX8_hashWithPages_0_ok 49 (q := (101, .i2l, 1)) rfl
theorem dX8_hashWithPages_102 : decode cX8_hashWithPages 102 = .ok (.invokestatic 230, 3) := td tX8_hashWithPages_0_ok 50 (q := (102, .invokestatic 230, 3)) rfl
theorem dX8_hashWithPages_105 : decode cX8_hashWithPages 105 = .ok (.lstore_n 3, 1) := td tX8_hashWithPages_0_ok 51 (q := (105, .lstore_n 3, 1)) rfl
theorem dX8_hashWithPages_106 : decode cX8_hashWithPages 106 = .ok (.lload_n 3, 1) := td tX8_hashWithPages_0_ok 52 (q := (106, .lload_n 3, 1)) rfl
theorem dX8_hashWithPages_107 : decode cX8_hashWithPages 107 = .ok (.iload 7, 2) := td tX8_hashWithPages_0_ok 53 (q := (107, .iload 7, 2)) rfl
theorem dX8_hashWithPages_109 : decode cX8_hashWithPages 109 = .ok (.invokestatic 179, 3) := td tX8_hashWithPages_0_ok 54 (q := (109, .invokestatic 179, 3)) rfl
theorem dX8_hashWithPages_112 : decode cX8_hashWithPages 112 = .ok (.i2l, 1) := td tX8_hashWithPages_0_ok 55 (q := (112, .i2l, 1)) rfl
theorem dX8_hashWithPages_113 : decode cX8_hashWithPages 113 = .ok (.invokestatic 230, 3) := td tX8_hashWithPages_0_ok 56 (q := (113, .invokestatic 230, 3)) rfl
theorem dX8_hashWithPages_116 : decode cX8_hashWithPages 116 = .ok (.lstore_n 3, 1) := td tX8_hashWithPages_0_ok 57 (q := (116, .lstore_n 3, 1)) rfl
theorem dX8_hashWithPages_117 : decode cX8_hashWithPages 117 = .ok (.iinc 6 1, 3) := td tX8_hashWithPages_0_ok 58 (q := (117, .iinc 6 1, 3)) rfl
theorem dX8_hashWithPages_120 : decode cX8_hashWithPages 120 = .ok (.goto (-62), 3) := td tX8_hashWithPages_0_ok 59 (q := (120, .goto (-62), 3)) rfl
def tX8_hashWithPages_1 : List (Nat × Instr × Nat) := [(123, .iinc 5 1, 3), (126, .goto (-110), 3), (129, .lload_n 3, 1), (130, .lreturn, 1)]
theorem tX8_hashWithPages_1_ok : tX8_hashWithPages_1.all (fun q => decide (decode cX8_hashWithPages q.1 = .ok q.2)) = true := by decide +kernel
theorem dX8_hashWithPages_123 : decode cX8_hashWithPages 123 = .ok (.iinc 5 1, 3) := td tX8_hashWithPages_1_ok 0 (q := (123, .iinc 5 1, 3)) rfl
theorem dX8_hashWithPages_126 : decode cX8_hashWithPages 126 = .ok (.goto (-110), 3) := td tX8_hashWithPages_1_ok 1 (q := (126, .goto (-110), 3)) rfl
theorem dX8_hashWithPages_129 : decode cX8_hashWithPages 129 = .ok (.lload_n 3, 1) := td tX8_hashWithPages_1_ok 2 (q := (129, .lload_n 3, 1)) rfl
theorem dX8_hashWithPages_130 : decode cX8_hashWithPages 130 = .ok (.lreturn, 1) := td tX8_hashWithPages_1_ok 3 (q := (130, .lreturn, 1)) rfl
def fX8_hashWithPages_26 (k26 : Int64 → Option (Int64 × (Nat → Int32) × Int32)) (kc : (Nat → Int32)) (x5 : Int32) : Nat → Int64 → Int32 → Option (Int64 × (Nat → Int32) × Int32)
  | 0, _, _ => none
  | n26 + 1, x3, x6 => (if (5 : Int32) ≤ x6 then (k26 x3) else (Option.bind (fX7_numberOfPage kc x5 x6) (fun q4 => (Option.bind (fX8_mixed x3 q4.toInt64) (fun q5 => (fX8_hashWithPages_26 k26 kc x5 n26 q5 (x6 + (1 : Int32))))))))
def fX8_hashWithPages_58 (k58 : Int64 → Option (Int64 × (Nat → Int32) × Int32)) (kc : (Nat → Int32)) (kln : (Nat → Int32)) (klr : Int32) (x5 : Int32) : Nat → Int64 → Int32 → Option (Int64 × (Nat → Int32) × Int32)
  | 0, _, _ => none
  | n58 + 1, x3, x6 => (Option.bind (fX4_receipts klr) (fun q10 => (if q10 ≤ x6 then (k58 x3) else (Option.bind (fX4_slotInOrder kln x6) (fun q12 => (Option.bind (fX0_pageOfSlot kc q12) (fun q13 => (if q13 = x5 then (Option.bind (fX0_pieceOfSlot q12) (fun q15 => (Option.bind (fX8_mixed x3 q15.toInt64) (fun q16 => (Option.bind (fX0_numberOfSlot q12) (fun q17 => (Option.bind (fX8_mixed q16 q17.toInt64) (fun q18 => (fX8_hashWithPages_58 k58 kc kln klr x5 n58 q18 (x6 + (1 : Int32))))))))))) else (fX8_hashWithPages_58 k58 kc kln klr x5 n58 x3 (x6 + (1 : Int32)))))))))))
def fX8_hashWithPages_16 (k16 : Int64 → Option (Int64 × (Nat → Int32) × Int32)) (kc : (Nat → Int32)) (kln : (Nat → Int32)) (klr : Int32) : Nat → Int64 → Int32 → Option (Int64 × (Nat → Int32) × Int32)
  | 0, _, _ => none
  | n16 + 1, x3, x5 => (if (8 : Int32) ≤ x5 then (k16 x3) else (fX8_hashWithPages_26 (fun (u3_6 : Int64) => (fX8_hashWithPages_58 (fun (u3_19 : Int64) => (fX8_hashWithPages_16 k16 kc kln klr n16 u3_19 (x5 + (1 : Int32)))) kc kln klr x5 LF u3_6 (0 : Int32))) kc x5 LF x3 (0 : Int32)))
def fX8_hashWithPages (kc : (Nat → Int32)) (kln : (Nat → Int32)) (klr : Int32) (x1 : Int64) : Option (Int64 × (Nat → Int32) × Int32) :=
  (Option.bind (fX4_sort kc kln klr) (fun q1 => (fX8_hashWithPages_16 (fun (u3_29 : Int64) => (some (u3_29, q1.1, q1.2))) kc q1.1 q1.2 LF x1 (0 : Int32))))
set_option maxHeartbeats 4000000 in
set_option maxRecDepth 100000 in
theorem mX8_hashWithPages {l : Launch} {D : va_G} {ad : Nat → Nat} {cI : ClassId} {kc : (Nat → Int32)} {ksv : (Nat → Int32)} {kbc : (Nat → Int32)} {kit : (Nat → Int32)} {kln : (Nat → Int32)} {ken : (Nat → Int32)} {kla : (Nat → Int32)} {kfi : (Nat → Int32)} {kea : (Nat → Int32)} {kns : Int32} {kbl : Int32} {kr0 : Int32} {kr1 : Int32} {kr2 : Int32} {kr3 : Int32} {kr4 : Int32} {kr5 : Int32} {klr : Int32} {kp0 : Int32} {kp1 : Int32} {kp2 : Int32} {kp3 : Int32} {x1 : Int64} {r : Int64} {kln' : (Nat → Int32)} {klr' : Int32} (hs : fX8_hashWithPages kc kln klr x1 = some (r, kln', klr')) : nd_C l yX8_hashWithPages cX8_hashWithPages 8 (some .long) 4 90 D [(cI, .int)] [.ref (ad 0), .long x1] (CW ad cI kc ksv kbc kit kln ken kla kfi kea kns kbl kr0 kr1 kr2 kr3 kr4 kr5 klr kp0 kp1 kp2 kp3) (CW ad cI kc ksv kbc kit kln' ken kla kfi kea kns kbl kr0 kr1 kr2 kr3 kr4 kr5 klr' kp0 kp1 kp2 kp3) (some (.long r)) := by
  refine nd_ofCl (by decide) (Nat.le_of_ble_eq_true rfl) (fun p e s m args below meth c_ ls A Q hx hb hml hown hts hl hP hK hD hS hA hN hret => ?_)
  have hown : s.vm.findClass RX8 = some m.cls := hown
  have hl : lv_has ls 8 [(0, .ref (ad 0)), (1, .long x1)] := hl
  have hret : ∀ (z0 : Int64) (z1 : (Nat → Int32)) (z2 : Int32) {H : Heap} {locs : List Loc} {pc : Nat} {ls : Array Slot}, some (z0, z1, z2) = some (r, kln', klr') → va_P D vwCl (CW ad cI kc ksv kbc kit z1 ken kla kfi kea kns kbl kr0 kr1 kr2 kr3 kr4 kr5 z2 kp0 kp1 kp2 kp3) H → va_S A s.heap H locs → decode cX8_hashWithPages pc = .ok (.lreturn, 1) → W p l e ⟨4, 0, 0, 90⟩ s m args below meth c_ H locs 0 0 Q (F0 m pc ls [.long z0]) := by
    intro z0 z1 z2 H locs pc ls h hP hS hd
    cases h
    exact hret hP hS hd
  rw [fX8_hashWithPages] at hs
  refine lv_lload_n hx hb dX8_hashWithPages_0 rfl (lv_at hl 1 rfl) ?_
  refine lv_lstore_n (lv' := [(3, .long x1), (0, .ref (ad 0)), (1, .long x1)]) hx hb dX8_hashWithPages_1 rfl hl (by decide) rfl (fun ls hl => ?_)
  refine lv_aload_n hx hb dX8_hashWithPages_2 rfl (lv_at hl 1 rfl) ?_
  refine gf_X8_33 hx hb hts hown hK hP 0 rfl rfl dX8_hashWithPages_3 ?_
  refine lv_aload_n hx hb dX8_hashWithPages_6 rfl (lv_at hl 1 rfl) ?_
  refine gf_X8_12 hx hb hts hown hK hP 0 rfl rfl dX8_hashWithPages_7 ?_
  obtain ⟨q1, eq1, hs⟩ := ob hs
  refine nd_callV (As := [.ref (ad 1)]) (rest := []) (st1 := []) hx hb hml hown hts hl hP hK hD hS hA hN (mX4_sort eq1) iv_X4_sort wd_682 4 rfl rfl rfl rfl ⟨Nat.le_of_ble_eq_true rfl, Nat.le_of_ble_eq_true rfl⟩ (Nat.le_of_ble_eq_true rfl) ⟨Nat.zero_le _, Nat.zero_le _⟩ dX8_hashWithPages_10 rfl rfl (fun H locs hP hD hS => ?_)
  refine lv_iconst (v := (0 : Int32)) hx hb dX8_hashWithPages_13 (by decide) ?_
  refine lv_istore (lv' := [(5, .int (0 : Int32)), (3, .long x1), (0, .ref (ad 0)), (1, .long x1)]) hx hb dX8_hashWithPages_14 hl (by decide) rfl (fun ls hl => ?_)
  have L16 : ∀ (n16 : Nat) (k16 : Int64 → Option (Int64 × (Nat → Int32) × Int32)) (v3_29 : Int64) (v5_29 : Int32) (H : Heap) (locs : List Loc) (ls : Array Slot), lv_has ls 8 [(0, .ref (ad 0)), (3, .long v3_29), (5, .int v5_29)] → va_P D vwCl (CW ad cI kc ksv kbc kit q1.1 ken kla kfi kea kns kbl kr0 kr1 kr2 kr3 kr4 kr5 q1.2 kp0 kp1 kp2 kp3) H → va_S A s.heap H locs → fX8_hashWithPages_16 k16 kc q1.1 q1.2 n16 v3_29 v5_29 = some (r, kln', klr') → (∀ (u3_29 : Int64) (H : Heap) (locs : List Loc) (ls : Array Slot), lv_has ls 8 [(3, .long u3_29)] → va_P D vwCl (CW ad cI kc ksv kbc kit q1.1 ken kla kfi kea kns kbl kr0 kr1 kr2 kr3 kr4 kr5 q1.2 kp0 kp1 kp2 kp3) H → va_S A s.heap H locs → k16 u3_29 = some (r, kln', klr') → W p l e ⟨4, 0, 0, 90⟩ s m args below meth c_ H locs 0 0 Q (F0 m 129 ls [])) → W p l e ⟨4, 0, 0, 90⟩ s m args below meth c_ H locs 0 0 Q (F0 m 16 ls []) := by
    intro n16
    induction n16 with
    | zero =>
      intro k16 v3_29 v5_29 H locs ls hl hP hS hs hk16
      rw [fX8_hashWithPages_16] at hs
      cases hs
    | succ n16 ih16 =>
      intro k16 v3_29 v5_29 H locs ls hl hP hS hs hk16
      rw [fX8_hashWithPages_16] at hs
      refine lv_iload hx hb dX8_hashWithPages_16 (lv_at hl 2 rfl) ?_
      refine lv_bipush (v := (8 : Int32)) hx hb dX8_hashWithPages_18 (by decide) ?_
      refine lv_icmp_ge (tgt := 129) hx hb dX8_hashWithPages_20 (by decide) (fun b30 => ?_) (fun b30 => ?_)
      · have hs := ite_t hs b30
        exact hk16 v3_29 _ _ _ (lv_sub hl [1] rfl) hP hS hs
      · have hs := ite_f hs b30
        refine lv_iconst (v := (0 : Int32)) hx hb dX8_hashWithPages_23 (by decide) ?_
        refine lv_istore (lv' := [(6, .int (0 : Int32)), (0, .ref (ad 0)), (3, .long v3_29), (5, .int v5_29)]) hx hb dX8_hashWithPages_24 hl (by decide) rfl (fun ls hl => ?_)
        have L26 : ∀ (n26 : Nat) (k26 : Int64 → Option (Int64 × (Nat → Int32) × Int32)) (v3_34 : Int64) (v6_34 : Int32) (H : Heap) (locs : List Loc) (ls : Array Slot), lv_has ls 8 [(0, .ref (ad 0)), (3, .long v3_34), (5, .int v5_29), (6, .int v6_34)] → va_P D vwCl (CW ad cI kc ksv kbc kit q1.1 ken kla kfi kea kns kbl kr0 kr1 kr2 kr3 kr4 kr5 q1.2 kp0 kp1 kp2 kp3) H → va_S A s.heap H locs → fX8_hashWithPages_26 k26 kc v5_29 n26 v3_34 v6_34 = some (r, kln', klr') → (∀ (u3_34 : Int64) (H : Heap) (locs : List Loc) (ls : Array Slot), lv_has ls 8 [(0, .ref (ad 0)), (3, .long u3_34), (5, .int v5_29)] → va_P D vwCl (CW ad cI kc ksv kbc kit q1.1 ken kla kfi kea kns kbl kr0 kr1 kr2 kr3 kr4 kr5 q1.2 kp0 kp1 kp2 kp3) H → va_S A s.heap H locs → k26 u3_34 = some (r, kln', klr') → W p l e ⟨4, 0, 0, 90⟩ s m args below meth c_ H locs 0 0 Q (F0 m 55 ls [])) → W p l e ⟨4, 0, 0, 90⟩ s m args below meth c_ H locs 0 0 Q (F0 m 26 ls []) := by
          intro n26
          induction n26 with
          | zero =>
            intro k26 v3_34 v6_34 H locs ls hl hP hS hs hk26
            rw [fX8_hashWithPages_26] at hs
            cases hs
          | succ n26 ih26 =>
            intro k26 v3_34 v6_34 H locs ls hl hP hS hs hk26
            rw [fX8_hashWithPages_26] at hs
            refine lv_iload hx hb dX8_hashWithPages_26 (lv_at hl 3 rfl) ?_
            refine lv_iconst (v := (5 : Int32)) hx hb dX8_hashWithPages_28 (by decide) ?_
            refine lv_icmp_ge (tgt := 55) hx hb dX8_hashWithPages_29 (by decide) (fun b35 => ?_) (fun b35 => ?_)
            · have hs := ite_t hs b35
              exact hk26 v3_34 _ _ _ (lv_sub hl [0, 1, 2] rfl) hP hS hs
            · have hs := ite_f hs b35
              refine lv_lload_n hx hb dX8_hashWithPages_32 rfl (lv_at hl 1 rfl) ?_
              refine lv_aload_n hx hb dX8_hashWithPages_33 rfl (lv_at hl 0 rfl) ?_
              refine gf_X8_12 hx hb hts hown hK hP 0 rfl rfl dX8_hashWithPages_34 ?_
              refine lv_iload hx hb dX8_hashWithPages_37 (lv_at hl 2 rfl) ?_
              refine lv_iload hx hb dX8_hashWithPages_39 (lv_at hl 3 rfl) ?_
              obtain ⟨q36, eq36, hs⟩ := ob hs
              refine nd_callS (As := [.ref (ad 1), .int v5_29, .int v6_34]) (rest := [.long v3_34]) (st1 := [.int q36, .long v3_34]) hx hb hml hown hts hl hP hK hD hS hA hN (mX7_numberOfPage eq36) is_X7_numberOfPage wd_656 rfl rfl ⟨Nat.le_of_ble_eq_true rfl, Nat.le_of_ble_eq_true rfl⟩ (Nat.le_of_ble_eq_true rfl) ⟨Nat.zero_le _, Nat.zero_le _⟩ dX8_hashWithPages_41 rfl rfl (fun H locs hP hD hS => ?_)
              refine lv_i2l hx hb dX8_hashWithPages_44 rfl ?_
              obtain ⟨q37, eq37, hs⟩ := ob hs
              refine nd_callS (As := [.long v3_34, .long q36.toInt64]) (rest := []) (st1 := [.long q37]) hx hb hml hown hts hl hP hK hD hS hA hN (mX8_mixed eq37) is_X8_mixed wd_935 rfl rfl ⟨Nat.le_of_ble_eq_true rfl, Nat.le_of_ble_eq_true rfl⟩ (Nat.le_of_ble_eq_true rfl) ⟨Nat.zero_le _, Nat.zero_le _⟩ dX8_hashWithPages_45 rfl rfl (fun H locs hP hD hS => ?_)
              refine lv_lstore_n (lv' := [(3, .long q37), (0, .ref (ad 0)), (5, .int v5_29), (6, .int v6_34)]) hx hb dX8_hashWithPages_48 rfl hl (by decide) rfl (fun ls hl => ?_)
              refine lv_iinc (v := v6_34 + (1 : Int32)) (lv' := [(6, .int (v6_34 + (1 : Int32))), (3, .long q37), (0, .ref (ad 0)), (5, .int v5_29)]) hx hb dX8_hashWithPages_49 hl (k := 3) rfl rfl (by decide) rfl (fun ls hl => ?_)
              refine lv_goto (tgt := 26) hx hb dX8_hashWithPages_52 (by decide) ?_
              exact ih26 k26 q37 (v6_34 + (1 : Int32)) _ _ _ (lv_sub hl [2, 1, 3, 0] rfl) hP hS hs hk26
        refine L26 LF _ v3_29 (0 : Int32) _ _ _ (lv_sub hl [1, 2, 3, 0] rfl) hP hS hs (fun u3_34 H locs ls hl hP hS hs => ?_)
        refine lv_iconst (v := (0 : Int32)) hx hb dX8_hashWithPages_55 (by decide) ?_
        refine lv_istore (lv' := [(6, .int (0 : Int32)), (0, .ref (ad 0)), (3, .long u3_34), (5, .int v5_29)]) hx hb dX8_hashWithPages_56 hl (by decide) rfl (fun ls hl => ?_)
        have L58 : ∀ (n58 : Nat) (k58 : Int64 → Option (Int64 × (Nat → Int32) × Int32)) (v3_47 : Int64) (v6_47 : Int32) (H : Heap) (locs : List Loc) (ls : Array Slot), lv_has ls 8 [(0, .ref (ad 0)), (3, .long v3_47), (5, .int v5_29), (6, .int v6_47)] → va_P D vwCl (CW ad cI kc ksv kbc kit q1.1 ken kla kfi kea kns kbl kr0 kr1 kr2 kr3 kr4 kr5 q1.2 kp0 kp1 kp2 kp3) H → va_S A s.heap H locs → fX8_hashWithPages_58 k58 kc q1.1 q1.2 v5_29 n58 v3_47 v6_47 = some (r, kln', klr') → (∀ (u3_47 : Int64) (H : Heap) (locs : List Loc) (ls : Array Slot), lv_has ls 8 [(0, .ref (ad 0)), (3, .long u3_47), (5, .int v5_29)] → va_P D vwCl (CW ad cI kc ksv kbc kit q1.1 ken kla kfi kea kns kbl kr0 kr1 kr2 kr3 kr4 kr5 q1.2 kp0 kp1 kp2 kp3) H → va_S A s.heap H locs → k58 u3_47 = some (r, kln', klr') → W p l e ⟨4, 0, 0, 90⟩ s m args below meth c_ H locs 0 0 Q (F0 m 123 ls [])) → W p l e ⟨4, 0, 0, 90⟩ s m args below meth c_ H locs 0 0 Q (F0 m 58 ls []) := by
          intro n58
          induction n58 with
          | zero =>
            intro k58 v3_47 v6_47 H locs ls hl hP hS hs hk58
            rw [fX8_hashWithPages_58] at hs
            cases hs
          | succ n58 ih58 =>
            intro k58 v3_47 v6_47 H locs ls hl hP hS hs hk58
            rw [fX8_hashWithPages_58] at hs
            refine lv_iload hx hb dX8_hashWithPages_58 (lv_at hl 3 rfl) ?_
            refine lv_aload_n hx hb dX8_hashWithPages_60 rfl (lv_at hl 0 rfl) ?_
            refine gf_X8_33 hx hb hts hown hK hP 0 rfl rfl dX8_hashWithPages_61 ?_
            obtain ⟨q48, eq48, hs⟩ := ob hs
            refine nd_callV (As := []) (rest := [.int v6_47]) (st1 := [.int q48, .int v6_47]) hx hb hml hown hts hl hP hK hD hS hA hN (mX4_receipts eq48) iv_X4_receipts wd_951 4 rfl rfl rfl rfl ⟨Nat.le_of_ble_eq_true rfl, Nat.le_of_ble_eq_true rfl⟩ (Nat.le_of_ble_eq_true rfl) ⟨Nat.zero_le _, Nat.zero_le _⟩ dX8_hashWithPages_64 rfl rfl (fun H locs hP hD hS => ?_)
            refine lv_icmp_ge (tgt := 123) hx hb dX8_hashWithPages_67 (by decide) (fun b49 => ?_) (fun b49 => ?_)
            · have hs := ite_t hs b49
              exact hk58 v3_47 _ _ _ (lv_sub hl [0, 1, 2] rfl) hP hS hs
            · have hs := ite_f hs b49
              refine lv_aload_n hx hb dX8_hashWithPages_70 rfl (lv_at hl 0 rfl) ?_
              refine gf_X8_33 hx hb hts hown hK hP 0 rfl rfl dX8_hashWithPages_71 ?_
              refine lv_iload hx hb dX8_hashWithPages_74 (lv_at hl 3 rfl) ?_
              obtain ⟨q50, eq50, hs⟩ := ob hs
              refine nd_callV (As := [.int v6_47]) (rest := []) (st1 := [.int q50]) hx hb hml hown hts hl hP hK hD hS hA hN (mX4_slotInOrder eq50) iv_X4_slotInOrder wd_955 4 rfl rfl rfl rfl ⟨Nat.le_of_ble_eq_true rfl, Nat.le_of_ble_eq_true rfl⟩ (Nat.le_of_ble_eq_true rfl) ⟨Nat.zero_le _, Nat.zero_le _⟩ dX8_hashWithPages_76 rfl rfl (fun H locs hP hD hS => ?_)
              refine lv_istore (lv' := [(7, .int q50), (0, .ref (ad 0)), (3, .long v3_47), (5, .int v5_29), (6, .int v6_47)]) hx hb dX8_hashWithPages_79 hl (by decide) rfl (fun ls hl => ?_)
              refine lv_aload_n hx hb dX8_hashWithPages_81 rfl (lv_at hl 1 rfl) ?_
              refine gf_X8_12 hx hb hts hown hK hP 0 rfl rfl dX8_hashWithPages_82 ?_
              refine lv_iload hx hb dX8_hashWithPages_85 (lv_at hl 0 rfl) ?_
              obtain ⟨q51, eq51, hs⟩ := ob hs
              refine nd_callV (As := [.int q50]) (rest := []) (st1 := [.int q51]) hx hb hml hown hts hl hP hK hD hS hA hN (mX0_pageOfSlot eq51) iv_X0_pageOfSlot wd_596 1 rfl rfl rfl rfl ⟨Nat.le_of_ble_eq_true rfl, Nat.le_of_ble_eq_true rfl⟩ (Nat.le_of_ble_eq_true rfl) ⟨Nat.zero_le _, Nat.zero_le _⟩ dX8_hashWithPages_87 rfl rfl (fun H locs hP hD hS => ?_)
              refine lv_iload hx hb dX8_hashWithPages_90 (lv_at hl 3 rfl) ?_
              refine lv_icmp_ne (tgt := 117) hx hb dX8_hashWithPages_92 (by decide) (fun b52 => ?_) (fun b52 => ?_)
              · have hs := ite_f hs b52
                refine lv_iinc (v := v6_47 + (1 : Int32)) (lv' := [(6, .int (v6_47 + (1 : Int32))), (7, .int q50), (0, .ref (ad 0)), (3, .long v3_47), (5, .int v5_29)]) hx hb dX8_hashWithPages_117 hl (k := 4) rfl rfl (by decide) rfl (fun ls hl => ?_)
                refine lv_goto (tgt := 58) hx hb dX8_hashWithPages_120 (by decide) ?_
                exact ih58 k58 v3_47 (v6_47 + (1 : Int32)) _ _ _ (lv_sub hl [2, 3, 4, 0] rfl) hP hS hs hk58
              · have hs := ite_t hs b52
                refine lv_lload_n hx hb dX8_hashWithPages_95 rfl (lv_at hl 2 rfl) ?_
                refine lv_iload hx hb dX8_hashWithPages_96 (lv_at hl 0 rfl) ?_
                obtain ⟨q53, eq53, hs⟩ := ob hs
                refine nd_callS (As := [.int q50]) (rest := [.long v3_47]) (st1 := [.int q53, .long v3_47]) hx hb hml hown hts hl hP hK hD hS hA hN (mX0_pieceOfSlot eq53) is_X0_pieceOfSlot wd_705 rfl rfl ⟨Nat.le_of_ble_eq_true rfl, Nat.le_of_ble_eq_true rfl⟩ (Nat.le_of_ble_eq_true rfl) ⟨Nat.zero_le _, Nat.zero_le _⟩ dX8_hashWithPages_98 rfl rfl (fun H locs hP hD hS => ?_)
                refine lv_i2l hx hb dX8_hashWithPages_101 rfl ?_
                obtain ⟨q54, eq54, hs⟩ := ob hs
                refine nd_callS (As := [.long v3_47, .long q53.toInt64]) (rest := []) (st1 := [.long q54]) hx hb hml hown hts hl hP hK hD hS hA hN (mX8_mixed eq54) is_X8_mixed wd_935 rfl rfl ⟨Nat.le_of_ble_eq_true rfl, Nat.le_of_ble_eq_true rfl⟩ (Nat.le_of_ble_eq_true rfl) ⟨Nat.zero_le _, Nat.zero_le _⟩ dX8_hashWithPages_102 rfl rfl (fun H locs hP hD hS => ?_)
                refine lv_lstore_n (lv' := [(3, .long q54), (7, .int q50), (0, .ref (ad 0)), (5, .int v5_29), (6, .int v6_47)]) hx hb dX8_hashWithPages_105 rfl hl (by decide) rfl (fun ls hl => ?_)
                refine lv_lload_n hx hb dX8_hashWithPages_106 rfl (lv_at hl 0 rfl) ?_
                refine lv_iload hx hb dX8_hashWithPages_107 (lv_at hl 1 rfl) ?_
                obtain ⟨q55, eq55, hs⟩ := ob hs
                refine nd_callS (As := [.int q50]) (rest := [.long q54]) (st1 := [.int q55, .long q54]) hx hb hml hown hts hl hP hK hD hS hA hN (mX0_numberOfSlot eq55) is_X0_numberOfSlot wd_706 rfl rfl ⟨Nat.le_of_ble_eq_true rfl, Nat.le_of_ble_eq_true rfl⟩ (Nat.le_of_ble_eq_true rfl) ⟨Nat.zero_le _, Nat.zero_le _⟩ dX8_hashWithPages_109 rfl rfl (fun H locs hP hD hS => ?_)
                refine lv_i2l hx hb dX8_hashWithPages_112 rfl ?_
                obtain ⟨q56, eq56, hs⟩ := ob hs
                refine nd_callS (As := [.long q54, .long q55.toInt64]) (rest := []) (st1 := [.long q56]) hx hb hml hown hts hl hP hK hD hS hA hN (mX8_mixed eq56) is_X8_mixed wd_935 rfl rfl ⟨Nat.le_of_ble_eq_true rfl, Nat.le_of_ble_eq_true rfl⟩ (Nat.le_of_ble_eq_true rfl) ⟨Nat.zero_le _, Nat.zero_le _⟩ dX8_hashWithPages_113 rfl rfl (fun H locs hP hD hS => ?_)
                refine lv_lstore_n (lv' := [(3, .long q56), (7, .int q50), (0, .ref (ad 0)), (5, .int v5_29), (6, .int v6_47)]) hx hb dX8_hashWithPages_116 rfl hl (by decide) rfl (fun ls hl => ?_)
                refine lv_iinc (v := v6_47 + (1 : Int32)) (lv' := [(6, .int (v6_47 + (1 : Int32))), (3, .long q56), (7, .int q50), (0, .ref (ad 0)), (5, .int v5_29)]) hx hb dX8_hashWithPages_117 hl (k := 4) rfl rfl (by decide) rfl (fun ls hl => ?_)
                refine lv_goto (tgt := 58) hx hb dX8_hashWithPages_120 (by decide) ?_
                exact ih58 k58 q56 (v6_47 + (1 : Int32)) _ _ _ (lv_sub hl [3, 1, 4, 0] rfl) hP hS hs hk58
        refine L58 LF _ u3_34 (0 : Int32) _ _ _ (lv_sub hl [1, 2, 3, 0] rfl) hP hS hs (fun u3_47 H locs ls hl hP hS hs => ?_)
        refine lv_iinc (v := v5_29 + (1 : Int32)) (lv' := [(5, .int (v5_29 + (1 : Int32))), (0, .ref (ad 0)), (3, .long u3_47)]) hx hb dX8_hashWithPages_123 hl (k := 2) rfl rfl (by decide) rfl (fun ls hl => ?_)
        refine lv_goto (tgt := 16) hx hb dX8_hashWithPages_126 (by decide) ?_
        exact ih16 k16 u3_47 (v5_29 + (1 : Int32)) _ _ _ (lv_sub hl [1, 2, 0] rfl) hP hS hs hk16
  refine L16 LF _ x1 (0 : Int32) _ _ _ (lv_sub hl [2, 1, 0] rfl) hP hS hs (fun u3_29 H locs ls hl hP hS hs => ?_)
  refine lv_lload_n hx hb dX8_hashWithPages_129 rfl (lv_at hl 0 rfl) ?_
  exact hret _ _ _ hs hP hS dX8_hashWithPages_130
def tX8_hashWithSums_0 : List (Nat × Instr × Nat) := [(0, .lload_n 1, 1), (1, .aload_n 0, 1), (2, .getfield 12, 3), (5, .iconst (-1), 1), (6, .iconst (-1), 1), (7, .invokestatic 182, 3), (10, .i2l, 1), (11, .invokestatic 230, 3), (14, .lstore_n 3, 1), (15, .iconst 0, 1), (16, .istore 5, 2), (18, .iload 5, 2), (20, .bipush 10, 2), (22, .if_icmp .ge 25, 3), (25, .lload_n 3, 1), (26, .aload_n 0, 1), (27, .getfield 12, 3), (30, .iload 5, 2), (32, .iconst (-1), 1), (33, .invokestatic 182, 3), (36, .i2l, 1), (37, .invokestatic 230, 3), (40, .lstore_n 3, 1), (41, .iinc 5 1, 3), (44, .goto (-26), 3), (47, .iconst 0, 1), (48, .istore 5, 2), (50, .iload 5, 2), (52, .bipush 24, 2), (54, .if_icmp .ge 25, 3), (57, .lload_n 3, 1), (58, .aload_n 0, 1), (59, .getfield 12, 3), (62, .iconst (-1), 1), (63, .iload 5, 2), (65, .invokestatic 182, 3), (68, .i2l, 1), (69, .invokestatic 230, 3), (72, .lstore_n 3, 1), (73, .iinc 5 1, 3), (76, .goto (-26), 3), (79, .lload_n 3, 1), (80, .lreturn, 1)]
theorem tX8_hashWithSums_0_ok : tX8_hashWithSums_0.all (fun q => decide (decode cX8_hashWithSums q.1 = .ok q.2)) = true := by decide +kernel
theorem dX8_hashWithSums_0 : decode cX8_hashWithSums 0 = .ok (.lload_n 1, 1) := td tX8_hashWithSums_0_ok 0 (q := (0, .lload_n 1, 1)) rfl
theorem dX8_hashWithSums_1 : decode cX8_hashWithSums 1 = .ok (.aload_n 0, 1) := td tX8_hashWithSums_0_ok 1 (q := (1, .aload_n 0, 1)) rfl
theorem dX8_hashWithSums_2 : decode cX8_hashWithSums 2 = .ok (.getfield 12, 3) := td tX8_hashWithSums_0_ok 2 (q := (2, .getfield 12, 3)) rfl
theorem dX8_hashWithSums_5 : decode cX8_hashWithSums 5 = .ok (.iconst (-1), 1) := td tX8_hashWithSums_0_ok 3 (q := (5, .iconst (-1), 1)) rfl
theorem dX8_hashWithSums_6 : decode cX8_hashWithSums 6 = .ok (.iconst (-1), 1) := td tX8_hashWithSums_0_ok 4 (q := (6, .iconst (-1), 1)) rfl
theorem dX8_hashWithSums_7 : decode cX8_hashWithSums 7 = .ok (.invokestatic 182, 3) := td tX8_hashWithSums_0_ok 5 (q := (7, .invokestatic 182, 3)) rfl
theorem dX8_hashWithSums_10 : decode cX8_hashWithSums 10 = .ok (.i2l, 1) := td tX8_hashWithSums_0_ok 6 (q := (10, .i2l, 1)) rfl
theorem dX8_hashWithSums_11 : decode cX8_hashWithSums 11 = .ok (.invokestatic 230, 3) := td tX8_hashWithSums_0_ok 7 (q := (11, .invokestatic 230, 3)) rfl
theorem dX8_hashWithSums_14 : decode cX8_hashWithSums 14 = .ok (.lstore_n 3, 1) := td tX8_hashWithSums_0_ok 8 (q := (14, .lstore_n 3, 1)) rfl
theorem dX8_hashWithSums_15 : decode cX8_hashWithSums 15 = .ok (.iconst 0, 1) := td tX8_hashWithSums_0_ok 9 (q := (15, .iconst 0, 1)) rfl
theorem dX8_hashWithSums_16 : decode cX8_hashWithSums 16 = .ok (.istore 5, 2) := td tX8_hashWithSums_0_ok 10 (q := (16, .istore 5, 2)) rfl
theorem dX8_hashWithSums_18 : decode cX8_hashWithSums 18 = .ok (.iload 5, 2) := td tX8_hashWithSums_0_ok 11 (q := (18, .iload 5, 2)) rfl
theorem dX8_hashWithSums_20 : decode cX8_hashWithSums 20 = .ok (.bipush 10, 2) := td tX8_hashWithSums_0_ok 12 (q := (20, .bipush 10, 2)) rfl
theorem dX8_hashWithSums_22 : decode cX8_hashWithSums 22 = .ok (.if_icmp .ge 25, 3) := td tX8_hashWithSums_0_ok 13 (q := (22, .if_icmp .ge 25, 3)) rfl
theorem dX8_hashWithSums_25 : decode cX8_hashWithSums 25 = .ok (.lload_n 3, 1) := td tX8_hashWithSums_0_ok 14 (q := (25, .lload_n 3, 1)) rfl
theorem dX8_hashWithSums_26 : decode cX8_hashWithSums 26 = .ok (.aload_n 0, 1) := td tX8_hashWithSums_0_ok 15 (q := (26, .aload_n 0, 1)) rfl
theorem dX8_hashWithSums_27 : decode cX8_hashWithSums 27 = .ok (.getfield 12, 3) := td tX8_hashWithSums_0_ok 16 (q := (27, .getfield 12, 3)) rfl
theorem dX8_hashWithSums_30 : decode cX8_hashWithSums 30 = .ok (.iload 5, 2) := td tX8_hashWithSums_0_ok 17 (q := (30, .iload 5, 2)) rfl
theorem dX8_hashWithSums_32 : decode cX8_hashWithSums 32 = .ok (.iconst (-1), 1) := td tX8_hashWithSums_0_ok 18 (q := (32, .iconst (-1), 1)) rfl
theorem dX8_hashWithSums_33 : decode cX8_hashWithSums 33 = .ok (.invokestatic 182, 3) := td tX8_hashWithSums_0_ok 19 (q := (33, .invokestatic 182, 3)) rfl
theorem dX8_hashWithSums_36 : decode cX8_hashWithSums 36 = .ok (.i2l, 1) := td tX8_hashWithSums_0_ok 20 (q := (36, .i2l, 1)) rfl
theorem dX8_hashWithSums_37 : decode cX8_hashWithSums 37 = .ok (.invokestatic 230, 3) := td tX8_hashWithSums_0_ok 21 (q := (37, .invokestatic 230, 3)) rfl
theorem dX8_hashWithSums_40 : decode cX8_hashWithSums 40 = .ok (.lstore_n 3, 1) := td tX8_hashWithSums_0_ok 22 (q := (40, .lstore_n 3, 1)) rfl
theorem dX8_hashWithSums_41 : decode cX8_hashWithSums 41 = .ok (.iinc 5 1, 3) := td tX8_hashWithSums_0_ok 23 (q := (41, .iinc 5 1, 3)) rfl
theorem dX8_hashWithSums_44 : decode cX8_hashWithSums 44 = .ok (.goto (-26), 3) := td tX8_hashWithSums_0_ok 24 (q := (44, .goto (-26), 3)) rfl
theorem dX8_hashWithSums_47 : decode cX8_hashWithSums 47 = .ok (.iconst 0, 1) := td tX8_hashWithSums_0_ok 25 (q := (47, .iconst 0, 1)) rfl
theorem dX8_hashWithSums_48 : decode cX8_hashWithSums 48 = .ok (.istore 5, 2) := td tX8_hashWithSums_0_ok 26 (q := (48, .istore 5, 2)) rfl
theorem dX8_hashWithSums_50 : decode cX8_hashWithSums 50 = .ok (.iload 5, 2) := td tX8_hashWithSums_0_ok 27 (q := (50, .iload 5, 2)) rfl
theorem dX8_hashWithSums_52 : decode cX8_hashWithSums 52 = .ok (.bipush 24, 2) := td tX8_hashWithSums_0_ok 28 (q := (52, .bipush 24, 2)) rfl
theorem dX8_hashWithSums_54 : decode cX8_hashWithSums 54 = .ok (.if_icmp .ge 25, 3) := td tX8_hashWithSums_0_ok 29 (q := (54, .if_icmp .ge 25, 3)) rfl
theorem dX8_hashWithSums_57 : decode cX8_hashWithSums 57 = .ok (.lload_n 3, 1) := td tX8_hashWithSums_0_ok 30 (q := (57, .lload_n 3, 1)) rfl
theorem dX8_hashWithSums_58 : decode cX8_hashWithSums 58 = .ok (.aload_n 0, 1) := td tX8_hashWithSums_0_ok 31 (q := (58, .aload_n 0, 1)) rfl
theorem dX8_hashWithSums_59 : decode cX8_hashWithSums 59 = .ok (.getfield 12, 3) := td tX8_hashWithSums_0_ok 32 (q := (59, .getfield 12, 3)) rfl
theorem dX8_hashWithSums_62 : decode cX8_hashWithSums 62 = .ok (.iconst (-1), 1) := td tX8_hashWithSums_0_ok 33 (q := (62, .iconst (-1), 1)) rfl
theorem dX8_hashWithSums_63 : decode cX8_hashWithSums 63 = .ok (.iload 5, 2) := td tX8_hashWithSums_0_ok 34 (q := (63, .iload 5, 2)) rfl
theorem dX8_hashWithSums_65 : decode cX8_hashWithSums 65 = .ok (.invokestatic 182, 3) := td tX8_hashWithSums_0_ok 35 (q := (65, .invokestatic 182, 3)) rfl
theorem dX8_hashWithSums_68 : decode cX8_hashWithSums 68 = .ok (.i2l, 1) := td tX8_hashWithSums_0_ok 36 (q := (68, .i2l, 1)) rfl
theorem dX8_hashWithSums_69 : decode cX8_hashWithSums 69 = .ok (.invokestatic 230, 3) := td tX8_hashWithSums_0_ok 37 (q := (69, .invokestatic 230, 3)) rfl
theorem dX8_hashWithSums_72 : decode cX8_hashWithSums 72 = .ok (.lstore_n 3, 1) := td tX8_hashWithSums_0_ok 38 (q := (72, .lstore_n 3, 1)) rfl
theorem dX8_hashWithSums_73 : decode cX8_hashWithSums 73 = .ok (.iinc 5 1, 3) := td tX8_hashWithSums_0_ok 39 (q := (73, .iinc 5 1, 3)) rfl
theorem dX8_hashWithSums_76 : decode cX8_hashWithSums 76 = .ok (.goto (-26), 3) := td tX8_hashWithSums_0_ok 40 (q := (76, .goto (-26), 3)) rfl
theorem dX8_hashWithSums_79 : decode cX8_hashWithSums 79 = .ok (.lload_n 3, 1) := td tX8_hashWithSums_0_ok 41 (q := (79, .lload_n 3, 1)) rfl
theorem dX8_hashWithSums_80 : decode cX8_hashWithSums 80 = .ok (.lreturn, 1) := td tX8_hashWithSums_0_ok 42 (q := (80, .lreturn, 1)) rfl
def fX8_hashWithSums_18 (k18 : Int64 → Option (Int64)) (kc : (Nat → Int32)) : Nat → Int64 → Int32 → Option (Int64)
  | 0, _, _ => none
  | n18 + 1, x3, x5 => (if (10 : Int32) ≤ x5 then (k18 x3) else (Option.bind (fX7_shopHourSum kc x5 (-1 : Int32)) (fun q4 => (Option.bind (fX8_mixed x3 q4.toInt64) (fun q5 => (fX8_hashWithSums_18 k18 kc n18 q5 (x5 + (1 : Int32))))))))
def fX8_hashWithSums_50 (k50 : Int64 → Option (Int64)) (kc : (Nat → Int32)) : Nat → Int64 → Int32 → Option (Int64)
  | 0, _, _ => none
  | n50 + 1, x3, x5 => (if (24 : Int32) ≤ x5 then (k50 x3) else (Option.bind (fX7_shopHourSum kc (-1 : Int32) x5) (fun q11 => (Option.bind (fX8_mixed x3 q11.toInt64) (fun q12 => (fX8_hashWithSums_50 k50 kc n50 q12 (x5 + (1 : Int32))))))))
def fX8_hashWithSums (kc : (Nat → Int32)) (x1 : Int64) : Option (Int64) :=
  (Option.bind (fX7_shopHourSum kc (-1 : Int32) (-1 : Int32)) (fun q1 => (Option.bind (fX8_mixed x1 q1.toInt64) (fun q2 => (fX8_hashWithSums_18 (fun (u3_6 : Int64) => (fX8_hashWithSums_50 (fun (u3_13 : Int64) => (some u3_13)) kc LF u3_6 (0 : Int32))) kc LF q2 (0 : Int32))))))
set_option maxHeartbeats 4000000 in
set_option maxRecDepth 100000 in
theorem mX8_hashWithSums {l : Launch} {D : va_G} {ad : Nat → Nat} {cI : ClassId} {kc : (Nat → Int32)} {ksv : (Nat → Int32)} {kbc : (Nat → Int32)} {kit : (Nat → Int32)} {kln : (Nat → Int32)} {ken : (Nat → Int32)} {kla : (Nat → Int32)} {kfi : (Nat → Int32)} {kea : (Nat → Int32)} {kns : Int32} {kbl : Int32} {kr0 : Int32} {kr1 : Int32} {kr2 : Int32} {kr3 : Int32} {kr4 : Int32} {kr5 : Int32} {klr : Int32} {kp0 : Int32} {kp1 : Int32} {kp2 : Int32} {kp3 : Int32} {x1 : Int64} {r : Int64} (hs : fX8_hashWithSums kc x1 = some r) : nd_C l yX8_hashWithSums cX8_hashWithSums 6 (some .long) 3 69 D [(cI, .int)] [.ref (ad 0), .long x1] (CW ad cI kc ksv kbc kit kln ken kla kfi kea kns kbl kr0 kr1 kr2 kr3 kr4 kr5 klr kp0 kp1 kp2 kp3) (CW ad cI kc ksv kbc kit kln ken kla kfi kea kns kbl kr0 kr1 kr2 kr3 kr4 kr5 klr kp0 kp1 kp2 kp3) (some (.long r)) := by
  refine nd_ofCl (by decide) (Nat.le_of_ble_eq_true rfl) (fun p e s m args below meth c_ ls A Q hx hb hml hown hts hl hP hK hD hS hA hN hret => ?_)
  have hown : s.vm.findClass RX8 = some m.cls := hown
  have hl : lv_has ls 6 [(0, .ref (ad 0)), (1, .long x1)] := hl
  have hret : ∀ (z0 : Int64) {H : Heap} {locs : List Loc} {pc : Nat} {ls : Array Slot}, some z0 = some r → va_P D vwCl (CW ad cI kc ksv kbc kit kln ken kla kfi kea kns kbl kr0 kr1 kr2 kr3 kr4 kr5 klr kp0 kp1 kp2 kp3) H → va_S A s.heap H locs → decode cX8_hashWithSums pc = .ok (.lreturn, 1) → W p l e ⟨3, 0, 0, 69⟩ s m args below meth c_ H locs 0 0 Q (F0 m pc ls [.long z0]) := by
    intro z0 H locs pc ls h hP hS hd
    cases h
    exact hret hP hS hd
  rw [fX8_hashWithSums] at hs
  refine lv_lload_n hx hb dX8_hashWithSums_0 rfl (lv_at hl 1 rfl) ?_
  refine lv_aload_n hx hb dX8_hashWithSums_1 rfl (lv_at hl 0 rfl) ?_
  refine gf_X8_12 hx hb hts hown hK hP 0 rfl rfl dX8_hashWithSums_2 ?_
  refine lv_iconst (v := (-1 : Int32)) hx hb dX8_hashWithSums_5 (by decide) ?_
  refine lv_iconst (v := (-1 : Int32)) hx hb dX8_hashWithSums_6 (by decide) ?_
  obtain ⟨q1, eq1, hs⟩ := ob hs
  refine nd_callS (As := [.ref (ad 1), .int (-1 : Int32), .int (-1 : Int32)]) (rest := [.long x1]) (st1 := [.int q1, .long x1]) hx hb hml hown hts hl hP hK hD hS hA hN (mX7_shopHourSum eq1) is_X7_shopHourSum wd_728 rfl rfl ⟨Nat.le_of_ble_eq_true rfl, Nat.le_of_ble_eq_true rfl⟩ (Nat.le_of_ble_eq_true rfl) ⟨Nat.zero_le _, Nat.zero_le _⟩ dX8_hashWithSums_7 rfl rfl (fun H locs hP hD hS => ?_)
  refine lv_i2l hx hb dX8_hashWithSums_10 rfl ?_
  obtain ⟨q2, eq2, hs⟩ := ob hs
  refine nd_callS (As := [.long x1, .long q1.toInt64]) (rest := []) (st1 := [.long q2]) hx hb hml hown hts hl hP hK hD hS hA hN (mX8_mixed eq2) is_X8_mixed wd_935 rfl rfl ⟨Nat.le_of_ble_eq_true rfl, Nat.le_of_ble_eq_true rfl⟩ (Nat.le_of_ble_eq_true rfl) ⟨Nat.zero_le _, Nat.zero_le _⟩ dX8_hashWithSums_11 rfl rfl (fun H locs hP hD hS => ?_)
  refine lv_lstore_n (lv' := [(3, .long q2), (0, .ref (ad 0)), (1, .long x1)]) hx hb dX8_hashWithSums_14 rfl hl (by decide) rfl (fun ls hl => ?_)
  refine lv_iconst (v := (0 : Int32)) hx hb dX8_hashWithSums_15 (by decide) ?_
  refine lv_istore (lv' := [(5, .int (0 : Int32)), (3, .long q2), (0, .ref (ad 0)), (1, .long x1)]) hx hb dX8_hashWithSums_16 hl (by decide) rfl (fun ls hl => ?_)
  have L18 : ∀ (n18 : Nat) (k18 : Int64 → Option (Int64)) (v3_6 : Int64) (v5_6 : Int32) (H : Heap) (locs : List Loc) (ls : Array Slot), lv_has ls 6 [(0, .ref (ad 0)), (3, .long v3_6), (5, .int v5_6)] → va_P D vwCl (CW ad cI kc ksv kbc kit kln ken kla kfi kea kns kbl kr0 kr1 kr2 kr3 kr4 kr5 klr kp0 kp1 kp2 kp3) H → va_S A s.heap H locs → fX8_hashWithSums_18 k18 kc n18 v3_6 v5_6 = some r → (∀ (u3_6 : Int64) (H : Heap) (locs : List Loc) (ls : Array Slot), lv_has ls 6 [(0, .ref (ad 0)), (3, .long u3_6)] → va_P D vwCl (CW ad cI kc ksv kbc kit kln ken kla kfi kea kns kbl kr0 kr1 kr2 kr3 kr4 kr5 klr kp0 kp1 kp2 kp3) H → va_S A s.heap H locs → k18 u3_6 = some r → W p l e ⟨3, 0, 0, 69⟩ s m args below meth c_ H locs 0 0 Q (F0 m 47 ls [])) → W p l e ⟨3, 0, 0, 69⟩ s m args below meth c_ H locs 0 0 Q (F0 m 18 ls []) := by
    intro n18
    induction n18 with
    | zero =>
      intro k18 v3_6 v5_6 H locs ls hl hP hS hs hk18
      rw [fX8_hashWithSums_18] at hs
      cases hs
    | succ n18 ih18 =>
      intro k18 v3_6 v5_6 H locs ls hl hP hS hs hk18
      rw [fX8_hashWithSums_18] at hs
      refine lv_iload hx hb dX8_hashWithSums_18 (lv_at hl 2 rfl) ?_
      refine lv_bipush (v := (10 : Int32)) hx hb dX8_hashWithSums_20 (by decide) ?_
      refine lv_icmp_ge (tgt := 47) hx hb dX8_hashWithSums_22 (by decide) (fun b7 => ?_) (fun b7 => ?_)
      · have hs := ite_t hs b7
        exact hk18 v3_6 _ _ _ (lv_sub hl [0, 1] rfl) hP hS hs
      · have hs := ite_f hs b7
        refine lv_lload_n hx hb dX8_hashWithSums_25 rfl (lv_at hl 1 rfl) ?_
        refine lv_aload_n hx hb dX8_hashWithSums_26 rfl (lv_at hl 0 rfl) ?_
        refine gf_X8_12 hx hb hts hown hK hP 0 rfl rfl dX8_hashWithSums_27 ?_
        refine lv_iload hx hb dX8_hashWithSums_30 (lv_at hl 2 rfl) ?_
        refine lv_iconst (v := (-1 : Int32)) hx hb dX8_hashWithSums_32 (by decide) ?_
        obtain ⟨q8, eq8, hs⟩ := ob hs
        refine nd_callS (As := [.ref (ad 1), .int v5_6, .int (-1 : Int32)]) (rest := [.long v3_6]) (st1 := [.int q8, .long v3_6]) hx hb hml hown hts hl hP hK hD hS hA hN (mX7_shopHourSum eq8) is_X7_shopHourSum wd_728 rfl rfl ⟨Nat.le_of_ble_eq_true rfl, Nat.le_of_ble_eq_true rfl⟩ (Nat.le_of_ble_eq_true rfl) ⟨Nat.zero_le _, Nat.zero_le _⟩ dX8_hashWithSums_33 rfl rfl (fun H locs hP hD hS => ?_)
        refine lv_i2l hx hb dX8_hashWithSums_36 rfl ?_
        obtain ⟨q9, eq9, hs⟩ := ob hs
        refine nd_callS (As := [.long v3_6, .long q8.toInt64]) (rest := []) (st1 := [.long q9]) hx hb hml hown hts hl hP hK hD hS hA hN (mX8_mixed eq9) is_X8_mixed wd_935 rfl rfl ⟨Nat.le_of_ble_eq_true rfl, Nat.le_of_ble_eq_true rfl⟩ (Nat.le_of_ble_eq_true rfl) ⟨Nat.zero_le _, Nat.zero_le _⟩ dX8_hashWithSums_37 rfl rfl (fun H locs hP hD hS => ?_)
        refine lv_lstore_n (lv' := [(3, .long q9), (0, .ref (ad 0)), (5, .int v5_6)]) hx hb dX8_hashWithSums_40 rfl hl (by decide) rfl (fun ls hl => ?_)
        refine lv_iinc (v := v5_6 + (1 : Int32)) (lv' := [(5, .int (v5_6 + (1 : Int32))), (3, .long q9), (0, .ref (ad 0))]) hx hb dX8_hashWithSums_41 hl (k := 2) rfl rfl (by decide) rfl (fun ls hl => ?_)
        refine lv_goto (tgt := 18) hx hb dX8_hashWithSums_44 (by decide) ?_
        exact ih18 k18 q9 (v5_6 + (1 : Int32)) _ _ _ (lv_sub hl [2, 1, 0] rfl) hP hS hs hk18
  refine L18 LF _ q2 (0 : Int32) _ _ _ (lv_sub hl [2, 1, 0] rfl) hP hS hs (fun u3_6 H locs ls hl hP hS hs => ?_)
  refine lv_iconst (v := (0 : Int32)) hx hb dX8_hashWithSums_47 (by decide) ?_
  refine lv_istore (lv' := [(5, .int (0 : Int32)), (0, .ref (ad 0)), (3, .long u3_6)]) hx hb dX8_hashWithSums_48 hl (by decide) rfl (fun ls hl => ?_)
  have L50 : ∀ (n50 : Nat) (k50 : Int64 → Option (Int64)) (v3_13 : Int64) (v5_13 : Int32) (H : Heap) (locs : List Loc) (ls : Array Slot), lv_has ls 6 [(0, .ref (ad 0)), (3, .long v3_13), (5, .int v5_13)] → va_P D vwCl (CW ad cI kc ksv kbc kit kln ken kla kfi kea kns kbl kr0 kr1 kr2 kr3 kr4 kr5 klr kp0 kp1 kp2 kp3) H → va_S A s.heap H locs → fX8_hashWithSums_50 k50 kc n50 v3_13 v5_13 = some r → (∀ (u3_13 : Int64) (H : Heap) (locs : List Loc) (ls : Array Slot), lv_has ls 6 [(3, .long u3_13)] → va_P D vwCl (CW ad cI kc ksv kbc kit kln ken kla kfi kea kns kbl kr0 kr1 kr2 kr3 kr4 kr5 klr kp0 kp1 kp2 kp3) H → va_S A s.heap H locs → k50 u3_13 = some r → W p l e ⟨3, 0, 0, 69⟩ s m args below meth c_ H locs 0 0 Q (F0 m 79 ls [])) → W p l e ⟨3, 0, 0, 69⟩ s m args below meth c_ H locs 0 0 Q (F0 m 50 ls []) := by
    intro n50
    induction n50 with
    | zero =>
      intro k50 v3_13 v5_13 H locs ls hl hP hS hs hk50
      rw [fX8_hashWithSums_50] at hs
      cases hs
    | succ n50 ih50 =>
      intro k50 v3_13 v5_13 H locs ls hl hP hS hs hk50
      rw [fX8_hashWithSums_50] at hs
      refine lv_iload hx hb dX8_hashWithSums_50 (lv_at hl 2 rfl) ?_
      refine lv_bipush (v := (24 : Int32)) hx hb dX8_hashWithSums_52 (by decide) ?_
      refine lv_icmp_ge (tgt := 79) hx hb dX8_hashWithSums_54 (by decide) (fun b14 => ?_) (fun b14 => ?_)
      · have hs := ite_t hs b14
        exact hk50 v3_13 _ _ _ (lv_sub hl [1] rfl) hP hS hs
      · have hs := ite_f hs b14
        refine lv_lload_n hx hb dX8_hashWithSums_57 rfl (lv_at hl 1 rfl) ?_
        refine lv_aload_n hx hb dX8_hashWithSums_58 rfl (lv_at hl 0 rfl) ?_
        refine gf_X8_12 hx hb hts hown hK hP 0 rfl rfl dX8_hashWithSums_59 ?_
        refine lv_iconst (v := (-1 : Int32)) hx hb dX8_hashWithSums_62 (by decide) ?_
        refine lv_iload hx hb dX8_hashWithSums_63 (lv_at hl 2 rfl) ?_
        obtain ⟨q15, eq15, hs⟩ := ob hs
        refine nd_callS (As := [.ref (ad 1), .int (-1 : Int32), .int v5_13]) (rest := [.long v3_13]) (st1 := [.int q15, .long v3_13]) hx hb hml hown hts hl hP hK hD hS hA hN (mX7_shopHourSum eq15) is_X7_shopHourSum wd_728 rfl rfl ⟨Nat.le_of_ble_eq_true rfl, Nat.le_of_ble_eq_true rfl⟩ (Nat.le_of_ble_eq_true rfl) ⟨Nat.zero_le _, Nat.zero_le _⟩ dX8_hashWithSums_65 rfl rfl (fun H locs hP hD hS => ?_)
        refine lv_i2l hx hb dX8_hashWithSums_68 rfl ?_
        obtain ⟨q16, eq16, hs⟩ := ob hs
        refine nd_callS (As := [.long v3_13, .long q15.toInt64]) (rest := []) (st1 := [.long q16]) hx hb hml hown hts hl hP hK hD hS hA hN (mX8_mixed eq16) is_X8_mixed wd_935 rfl rfl ⟨Nat.le_of_ble_eq_true rfl, Nat.le_of_ble_eq_true rfl⟩ (Nat.le_of_ble_eq_true rfl) ⟨Nat.zero_le _, Nat.zero_le _⟩ dX8_hashWithSums_69 rfl rfl (fun H locs hP hD hS => ?_)
        refine lv_lstore_n (lv' := [(3, .long q16), (0, .ref (ad 0)), (5, .int v5_13)]) hx hb dX8_hashWithSums_72 rfl hl (by decide) rfl (fun ls hl => ?_)
        refine lv_iinc (v := v5_13 + (1 : Int32)) (lv' := [(5, .int (v5_13 + (1 : Int32))), (3, .long q16), (0, .ref (ad 0))]) hx hb dX8_hashWithSums_73 hl (k := 2) rfl rfl (by decide) rfl (fun ls hl => ?_)
        refine lv_goto (tgt := 50) hx hb dX8_hashWithSums_76 (by decide) ?_
        exact ih50 k50 q16 (v5_13 + (1 : Int32)) _ _ _ (lv_sub hl [2, 1, 0] rfl) hP hS hs hk50
  refine L50 LF _ u3_6 (0 : Int32) _ _ _ (lv_sub hl [1, 2, 0] rfl) hP hS hs (fun u3_13 H locs ls hl hP hS hs => ?_)
  refine lv_lload_n hx hb dX8_hashWithSums_79 rfl (lv_at hl 0 rfl) ?_
  exact hret _ hs hP hS dX8_hashWithSums_80
def tX8_hashWithLongest_0 : List (Nat × Instr × Nat) := [(0, .aload_n 0, 1), (1, .getfield 40, 3), (4, .aload_n 0, 1), (5, .getfield 12, 3), (8, .invokevirtual 188, 3), (11, .lload_n 1, 1), (12, .aload_n 0, 1), (13, .getfield 40, 3), (16, .invokevirtual 191, 3), (19, .i2l, 1), (20, .invokestatic 230, 3), (23, .lstore_n 3, 1), (24, .lload_n 3, 1), (25, .aload_n 0, 1), (26, .getfield 40, 3), (29, .invokevirtual 192, 3), (32, .i2l, 1), (33, .invokestatic 230, 3), (36, .lstore_n 3, 1), (37, .lload_n 3, 1), (38, .aload_n 0, 1), (39, .getfield 40, 3), (42, .invokevirtual 195, 3), (45, .i2l, 1), (46, .invokestatic 230, 3), (49, .lreturn, 1)]
theorem tX8_hashWithLongest_0_ok : tX8_hashWithLongest_0.all (fun q => decide (decode cX8_hashWithLongest q.1 = .ok q.2)) = true := by decide +kernel
theorem dX8_hashWithLongest_0 : decode cX8_hashWithLongest 0 = .ok (.aload_n 0, 1) := td tX8_hashWithLongest_0_ok 0 (q := (0, .aload_n 0, 1)) rfl
theorem dX8_hashWithLongest_1 : decode cX8_hashWithLongest 1 = .ok (.getfield 40, 3) := td tX8_hashWithLongest_0_ok 1 (q := (1, .getfield 40, 3)) rfl
theorem dX8_hashWithLongest_4 : decode cX8_hashWithLongest 4 = .ok (.aload_n 0, 1) := td tX8_hashWithLongest_0_ok 2 (q := (4, .aload_n 0, 1)) rfl
theorem dX8_hashWithLongest_5 : decode cX8_hashWithLongest 5 = .ok (.getfield 12, 3) := td tX8_hashWithLongest_0_ok 3 (q := (5, .getfield 12, 3)) rfl
theorem dX8_hashWithLongest_8 : decode cX8_hashWithLongest 8 = .ok (.invokevirtual 188, 3) := td tX8_hashWithLongest_0_ok 4 (q := (8, .invokevirtual 188, 3)) rfl
theorem dX8_hashWithLongest_11 : decode cX8_hashWithLongest 11 = .ok (.lload_n 1, 1) := td tX8_hashWithLongest_0_ok 5 (q := (11, .lload_n 1, 1)) rfl
theorem dX8_hashWithLongest_12 : decode cX8_hashWithLongest 12 = .ok (.aload_n 0, 1) := td tX8_hashWithLongest_0_ok 6 (q := (12, .aload_n 0, 1)) rfl
theorem dX8_hashWithLongest_13 : decode cX8_hashWithLongest 13 = .ok (.getfield 40, 3) := td tX8_hashWithLongest_0_ok 7 (q := (13, .getfield 40, 3)) rfl
theorem dX8_hashWithLongest_16 : decode cX8_hashWithLongest 16 = .ok (.invokevirtual 191, 3) := td tX8_hashWithLongest_0_ok 8 (q := (16, .invokevirtual 191, 3)) rfl
theorem dX8_hashWithLongest_19 : decode cX8_hashWithLongest 19 = .ok (.i2l, 1) := td tX8_hashWithLongest_0_ok 9 (q := (19, .i2l, 1)) rfl
theorem dX8_hashWithLongest_20 : decode cX8_hashWithLongest 20 = .ok (.invokestatic 230, 3) := td tX8_hashWithLongest_0_ok 10 (q := (20, .invokestatic 230, 3)) rfl
theorem dX8_hashWithLongest_23 : decode cX8_hashWithLongest 23 = .ok (.lstore_n 3, 1) := td tX8_hashWithLongest_0_ok 11 (q := (23, .lstore_n 3, 1)) rfl
theorem dX8_hashWithLongest_24 : decode cX8_hashWithLongest 24 = .ok (.lload_n 3, 1) := td tX8_hashWithLongest_0_ok 12 (q := (24, .lload_n 3, 1)) rfl
theorem dX8_hashWithLongest_25 : decode cX8_hashWithLongest 25 = .ok (.aload_n 0, 1) := td tX8_hashWithLongest_0_ok 13 (q := (25, .aload_n 0, 1)) rfl
theorem dX8_hashWithLongest_26 : decode cX8_hashWithLongest 26 = .ok (.getfield 40, 3) := td tX8_hashWithLongest_0_ok 14 (q := (26, .getfield 40, 3)) rfl
theorem dX8_hashWithLongest_29 : decode cX8_hashWithLongest 29 = .ok (.invokevirtual 192, 3) := td tX8_hashWithLongest_0_ok 15 (q := (29, .invokevirtual 192, 3)) rfl
theorem dX8_hashWithLongest_32 : decode cX8_hashWithLongest 32 = .ok (.i2l, 1) := td tX8_hashWithLongest_0_ok 16 (q := (32, .i2l, 1)) rfl
theorem dX8_hashWithLongest_33 : decode cX8_hashWithLongest 33 = .ok (.invokestatic 230, 3) := td tX8_hashWithLongest_0_ok 17 (q := (33, .invokestatic 230, 3)) rfl
theorem dX8_hashWithLongest_36 : decode cX8_hashWithLongest 36 = .ok (.lstore_n 3, 1) := td tX8_hashWithLongest_0_ok 18 (q := (36, .lstore_n 3, 1)) rfl
theorem dX8_hashWithLongest_37 : decode cX8_hashWithLongest 37 = .ok (.lload_n 3, 1) := td tX8_hashWithLongest_0_ok 19 (q := (37, .lload_n 3, 1)) rfl
theorem dX8_hashWithLongest_38 : decode cX8_hashWithLongest 38 = .ok (.aload_n 0, 1) := td tX8_hashWithLongest_0_ok 20 (q := (38, .aload_n 0, 1)) rfl
theorem dX8_hashWithLongest_39 : decode cX8_hashWithLongest 39 = .ok (.getfield 40, 3) := td tX8_hashWithLongest_0_ok 21 (q := (39, .getfield 40, 3)) rfl
theorem dX8_hashWithLongest_42 : decode cX8_hashWithLongest 42 = .ok (.invokevirtual 195, 3) := td tX8_hashWithLongest_0_ok 22 (q := (42, .invokevirtual 195, 3)) rfl
theorem dX8_hashWithLongest_45 : decode cX8_hashWithLongest 45 = .ok (.i2l, 1) := td tX8_hashWithLongest_0_ok 23 (q := (45, .i2l, 1)) rfl
theorem dX8_hashWithLongest_46 : decode cX8_hashWithLongest 46 = .ok (.invokestatic 230, 3) := td tX8_hashWithLongest_0_ok 24 (q := (46, .invokestatic 230, 3)) rfl
theorem dX8_hashWithLongest_49 : decode cX8_hashWithLongest 49 = .ok (.lreturn, 1) := td tX8_hashWithLongest_0_ok 25 (q := (49, .lreturn, 1)) rfl
def fX8_hashWithLongest (kc : (Nat → Int32)) (ken : (Nat → Int32)) (kla : (Nat → Int32)) (kfi : (Nat → Int32)) (kea : (Nat → Int32)) (kp0 : Int32) (kp1 : Int32) (kp2 : Int32) (kp3 : Int32) (x1 : Int64) : Option (Int64 × (Nat → Int32) × (Nat → Int32) × (Nat → Int32) × (Nat → Int32) × Int32 × Int32 × Int32 × Int32) :=
  (Option.bind (fX5_search kc ken kla kfi kea kp0 kp1 kp2 kp3) (fun q1 => (Option.bind (fX5_length q1.2.2.2.2.2.1) (fun q2 => (Option.bind (fX8_mixed x1 q2.toInt64) (fun q3 => (Option.bind (fX5_first q1.2.2.2.2.2.2.1) (fun q4 => (Option.bind (fX8_mixed q3 q4.toInt64) (fun q5 => (Option.bind (fX5_last q1.2.2.2.2.2.2.2) (fun q6 => (Option.bind (fX8_mixed q5 q6.toInt64) (fun q7 => (some (q7, q1.1, q1.2.1, q1.2.2.1, q1.2.2.2.1, q1.2.2.2.2.1, q1.2.2.2.2.2.1, q1.2.2.2.2.2.2.1, q1.2.2.2.2.2.2.2))))))))))))))))
set_option maxHeartbeats 4000000 in
set_option maxRecDepth 100000 in
theorem mX8_hashWithLongest {l : Launch} {D : va_G} {ad : Nat → Nat} {cI : ClassId} {kc : (Nat → Int32)} {ksv : (Nat → Int32)} {kbc : (Nat → Int32)} {kit : (Nat → Int32)} {kln : (Nat → Int32)} {ken : (Nat → Int32)} {kla : (Nat → Int32)} {kfi : (Nat → Int32)} {kea : (Nat → Int32)} {kns : Int32} {kbl : Int32} {kr0 : Int32} {kr1 : Int32} {kr2 : Int32} {kr3 : Int32} {kr4 : Int32} {kr5 : Int32} {klr : Int32} {kp0 : Int32} {kp1 : Int32} {kp2 : Int32} {kp3 : Int32} {x1 : Int64} {r : Int64} {ken' : (Nat → Int32)} {kla' : (Nat → Int32)} {kfi' : (Nat → Int32)} {kea' : (Nat → Int32)} {kp0' : Int32} {kp1' : Int32} {kp2' : Int32} {kp3' : Int32} (hs : fX8_hashWithLongest kc ken kla kfi kea kp0 kp1 kp2 kp3 x1 = some (r, ken', kla', kfi', kea', kp0', kp1', kp2', kp3')) : nd_C l yX8_hashWithLongest cX8_hashWithLongest 5 (some .long) 5 109 D [(cI, .int)] [.ref (ad 0), .long x1] (CW ad cI kc ksv kbc kit kln ken kla kfi kea kns kbl kr0 kr1 kr2 kr3 kr4 kr5 klr kp0 kp1 kp2 kp3) (CW ad cI kc ksv kbc kit kln ken' kla' kfi' kea' kns kbl kr0 kr1 kr2 kr3 kr4 kr5 klr kp0' kp1' kp2' kp3') (some (.long r)) := by
  refine nd_ofCl (by decide) (Nat.le_of_ble_eq_true rfl) (fun p e s m args below meth c_ ls A Q hx hb hml hown hts hl hP hK hD hS hA hN hret => ?_)
  have hown : s.vm.findClass RX8 = some m.cls := hown
  have hl : lv_has ls 5 [(0, .ref (ad 0)), (1, .long x1)] := hl
  have hret : ∀ (z0 : Int64) (z1 : (Nat → Int32)) (z2 : (Nat → Int32)) (z3 : (Nat → Int32)) (z4 : (Nat → Int32)) (z5 : Int32) (z6 : Int32) (z7 : Int32) (z8 : Int32) {H : Heap} {locs : List Loc} {pc : Nat} {ls : Array Slot}, some (z0, z1, z2, z3, z4, z5, z6, z7, z8) = some (r, ken', kla', kfi', kea', kp0', kp1', kp2', kp3') → va_P D vwCl (CW ad cI kc ksv kbc kit kln z1 z2 z3 z4 kns kbl kr0 kr1 kr2 kr3 kr4 kr5 klr z5 z6 z7 z8) H → va_S A s.heap H locs → decode cX8_hashWithLongest pc = .ok (.lreturn, 1) → W p l e ⟨5, 0, 0, 109⟩ s m args below meth c_ H locs 0 0 Q (F0 m pc ls [.long z0]) := by
    intro z0 z1 z2 z3 z4 z5 z6 z7 z8 H locs pc ls h hP hS hd
    cases h
    exact hret hP hS hd
  rw [fX8_hashWithLongest] at hs
  refine lv_aload_n hx hb dX8_hashWithLongest_0 rfl (lv_at hl 0 rfl) ?_
  refine gf_X8_40 hx hb hts hown hK hP 0 rfl rfl dX8_hashWithLongest_1 ?_
  refine lv_aload_n hx hb dX8_hashWithLongest_4 rfl (lv_at hl 0 rfl) ?_
  refine gf_X8_12 hx hb hts hown hK hP 0 rfl rfl dX8_hashWithLongest_5 ?_
  obtain ⟨q1, eq1, hs⟩ := ob hs
  refine nd_callV (As := [.ref (ad 1)]) (rest := []) (st1 := []) hx hb hml hown hts hl hP hK hD hS hA hN (mX5_search eq1) iv_X5_search wd_809 5 rfl rfl rfl rfl ⟨Nat.le_of_ble_eq_true rfl, Nat.le_of_ble_eq_true rfl⟩ (Nat.le_of_ble_eq_true rfl) ⟨Nat.zero_le _, Nat.zero_le _⟩ dX8_hashWithLongest_8 rfl rfl (fun H locs hP hD hS => ?_)
  refine lv_lload_n hx hb dX8_hashWithLongest_11 rfl (lv_at hl 1 rfl) ?_
  refine lv_aload_n hx hb dX8_hashWithLongest_12 rfl (lv_at hl 0 rfl) ?_
  refine gf_X8_40 hx hb hts hown hK hP 0 rfl rfl dX8_hashWithLongest_13 ?_
  obtain ⟨q2, eq2, hs⟩ := ob hs
  refine nd_callV (As := []) (rest := [.long x1]) (st1 := [.int q2, .long x1]) hx hb hml hown hts hl hP hK hD hS hA hN (mX5_length eq2) iv_X5_length wd_844 5 rfl rfl rfl rfl ⟨Nat.le_of_ble_eq_true rfl, Nat.le_of_ble_eq_true rfl⟩ (Nat.le_of_ble_eq_true rfl) ⟨Nat.zero_le _, Nat.zero_le _⟩ dX8_hashWithLongest_16 rfl rfl (fun H locs hP hD hS => ?_)
  refine lv_i2l hx hb dX8_hashWithLongest_19 rfl ?_
  obtain ⟨q3, eq3, hs⟩ := ob hs
  refine nd_callS (As := [.long x1, .long q2.toInt64]) (rest := []) (st1 := [.long q3]) hx hb hml hown hts hl hP hK hD hS hA hN (mX8_mixed eq3) is_X8_mixed wd_935 rfl rfl ⟨Nat.le_of_ble_eq_true rfl, Nat.le_of_ble_eq_true rfl⟩ (Nat.le_of_ble_eq_true rfl) ⟨Nat.zero_le _, Nat.zero_le _⟩ dX8_hashWithLongest_20 rfl rfl (fun H locs hP hD hS => ?_)
  refine lv_lstore_n (lv' := [(3, .long q3), (0, .ref (ad 0)), (1, .long x1)]) hx hb dX8_hashWithLongest_23 rfl hl (by decide) rfl (fun ls hl => ?_)
  refine lv_lload_n hx hb dX8_hashWithLongest_24 rfl (lv_at hl 0 rfl) ?_
  refine lv_aload_n hx hb dX8_hashWithLongest_25 rfl (lv_at hl 1 rfl) ?_
  refine gf_X8_40 hx hb hts hown hK hP 0 rfl rfl dX8_hashWithLongest_26 ?_
  obtain ⟨q4, eq4, hs⟩ := ob hs
  refine nd_callV (As := []) (rest := [.long q3]) (st1 := [.int q4, .long q3]) hx hb hml hown hts hl hP hK hD hS hA hN (mX5_first eq4) iv_X5_first wd_848 5 rfl rfl rfl rfl ⟨Nat.le_of_ble_eq_true rfl, Nat.le_of_ble_eq_true rfl⟩ (Nat.le_of_ble_eq_true rfl) ⟨Nat.zero_le _, Nat.zero_le _⟩ dX8_hashWithLongest_29 rfl rfl (fun H locs hP hD hS => ?_)
  refine lv_i2l hx hb dX8_hashWithLongest_32 rfl ?_
  obtain ⟨q5, eq5, hs⟩ := ob hs
  refine nd_callS (As := [.long q3, .long q4.toInt64]) (rest := []) (st1 := [.long q5]) hx hb hml hown hts hl hP hK hD hS hA hN (mX8_mixed eq5) is_X8_mixed wd_935 rfl rfl ⟨Nat.le_of_ble_eq_true rfl, Nat.le_of_ble_eq_true rfl⟩ (Nat.le_of_ble_eq_true rfl) ⟨Nat.zero_le _, Nat.zero_le _⟩ dX8_hashWithLongest_33 rfl rfl (fun H locs hP hD hS => ?_)
  refine lv_lstore_n (lv' := [(3, .long q5), (0, .ref (ad 0)), (1, .long x1)]) hx hb dX8_hashWithLongest_36 rfl hl (by decide) rfl (fun ls hl => ?_)
  refine lv_lload_n hx hb dX8_hashWithLongest_37 rfl (lv_at hl 0 rfl) ?_
  refine lv_aload_n hx hb dX8_hashWithLongest_38 rfl (lv_at hl 1 rfl) ?_
  refine gf_X8_40 hx hb hts hown hK hP 0 rfl rfl dX8_hashWithLongest_39 ?_
  obtain ⟨q6, eq6, hs⟩ := ob hs
  refine nd_callV (As := []) (rest := [.long q5]) (st1 := [.int q6, .long q5]) hx hb hml hown hts hl hP hK hD hS hA hN (mX5_last eq6) iv_X5_last wd_852 5 rfl rfl rfl rfl ⟨Nat.le_of_ble_eq_true rfl, Nat.le_of_ble_eq_true rfl⟩ (Nat.le_of_ble_eq_true rfl) ⟨Nat.zero_le _, Nat.zero_le _⟩ dX8_hashWithLongest_42 rfl rfl (fun H locs hP hD hS => ?_)
  refine lv_i2l hx hb dX8_hashWithLongest_45 rfl ?_
  obtain ⟨q7, eq7, hs⟩ := ob hs
  refine nd_callS (As := [.long q5, .long q6.toInt64]) (rest := []) (st1 := [.long q7]) hx hb hml hown hts hl hP hK hD hS hA hN (mX8_mixed eq7) is_X8_mixed wd_935 rfl rfl ⟨Nat.le_of_ble_eq_true rfl, Nat.le_of_ble_eq_true rfl⟩ (Nat.le_of_ble_eq_true rfl) ⟨Nat.zero_le _, Nat.zero_le _⟩ dX8_hashWithLongest_46 rfl rfl (fun H locs hP hD hS => ?_)
  exact hret _ _ _ _ _ _ _ _ _ hs hP hS dX8_hashWithLongest_49
def tX8_hashWithBuffer_0 : List (Nat × Instr × Nat) := [(0, .lload_n 1, 1), (1, .aload_n 0, 1), (2, .getfield 19, 3), (5, .invokevirtual 134, 3), (8, .i2l, 1), (9, .invokestatic 230, 3), (12, .lstore_n 3, 1), (13, .iconst 0, 1), (14, .istore 5, 2), (16, .iload 5, 2), (18, .aload_n 0, 1), (19, .getfield 19, 3), (22, .invokevirtual 134, 3), (25, .if_icmp .ge 24, 3), (28, .lload_n 3, 1), (29, .aload_n 0, 1), (30, .getfield 19, 3), (33, .iload 5, 2), (35, .invokevirtual 258, 3), (38, .i2l, 1), (39, .invokestatic 230, 3), (42, .lstore_n 3, 1), (43, .iinc 5 1, 3), (46, .goto (-30), 3), (49, .lload_n 3, 1), (50, .lreturn, 1)]
theorem tX8_hashWithBuffer_0_ok : tX8_hashWithBuffer_0.all (fun q => decide (decode cX8_hashWithBuffer q.1 = .ok q.2)) = true := by decide +kernel
theorem dX8_hashWithBuffer_0 : decode cX8_hashWithBuffer 0 = .ok (.lload_n 1, 1) := td tX8_hashWithBuffer_0_ok 0 (q := (0, .lload_n 1, 1)) rfl
theorem dX8_hashWithBuffer_1 : decode cX8_hashWithBuffer 1 = .ok (.aload_n 0, 1) := td tX8_hashWithBuffer_0_ok 1 (q := (1, .aload_n 0, 1)) rfl
theorem dX8_hashWithBuffer_2 : decode cX8_hashWithBuffer 2 = .ok (.getfield 19, 3) := td tX8_hashWithBuffer_0_ok 2 (q := (2, .getfield 19, 3)) rfl
theorem dX8_hashWithBuffer_5 : decode cX8_hashWithBuffer 5 = .ok (.invokevirtual 134, 3) := td tX8_hashWithBuffer_0_ok 3 (q := (5, .invokevirtual 134, 3)) rfl
theorem dX8_hashWithBuffer_8 : decode cX8_hashWithBuffer 8 = .ok (.i2l, 1) := td tX8_hashWithBuffer_0_ok 4 (q := (8, .i2l, 1)) rfl
theorem dX8_hashWithBuffer_9 : decode cX8_hashWithBuffer 9 = .ok (.invokestatic 230, 3) := td tX8_hashWithBuffer_0_ok 5 (q := (9, .invokestatic 230, 3)) rfl
theorem dX8_hashWithBuffer_12 : decode cX8_hashWithBuffer 12 = .ok (.lstore_n 3, 1) := td tX8_hashWithBuffer_0_ok 6 (q := (12, .lstore_n 3, 1)) rfl
theorem dX8_hashWithBuffer_13 : decode cX8_hashWithBuffer 13 = .ok (.iconst 0, 1) := td tX8_hashWithBuffer_0_ok 7 (q := (13, .iconst 0, 1)) rfl
theorem dX8_hashWithBuffer_14 : decode cX8_hashWithBuffer 14 = .ok (.istore 5, 2) := td tX8_hashWithBuffer_0_ok 8 (q := (14, .istore 5, 2)) rfl
theorem dX8_hashWithBuffer_16 : decode cX8_hashWithBuffer 16 = .ok (.iload 5, 2) := td tX8_hashWithBuffer_0_ok 9 (q := (16, .iload 5, 2)) rfl
theorem dX8_hashWithBuffer_18 : decode cX8_hashWithBuffer 18 = .ok (.aload_n 0, 1) := td tX8_hashWithBuffer_0_ok 10 (q := (18, .aload_n 0, 1)) rfl
theorem dX8_hashWithBuffer_19 : decode cX8_hashWithBuffer 19 = .ok (.getfield 19, 3) := td tX8_hashWithBuffer_0_ok 11 (q := (19, .getfield 19, 3)) rfl
theorem dX8_hashWithBuffer_22 : decode cX8_hashWithBuffer 22 = .ok (.invokevirtual 134, 3) := td tX8_hashWithBuffer_0_ok 12 (q := (22, .invokevirtual 134, 3)) rfl
theorem dX8_hashWithBuffer_25 : decode cX8_hashWithBuffer 25 = .ok (.if_icmp .ge 24, 3) := td tX8_hashWithBuffer_0_ok 13 (q := (25, .if_icmp .ge 24, 3)) rfl
theorem dX8_hashWithBuffer_28 : decode cX8_hashWithBuffer 28 = .ok (.lload_n 3, 1) := td tX8_hashWithBuffer_0_ok 14 (q := (28, .lload_n 3, 1)) rfl
theorem dX8_hashWithBuffer_29 : decode cX8_hashWithBuffer 29 = .ok (.aload_n 0, 1) := td tX8_hashWithBuffer_0_ok 15 (q := (29, .aload_n 0, 1)) rfl
theorem dX8_hashWithBuffer_30 : decode cX8_hashWithBuffer 30 = .ok (.getfield 19, 3) := td tX8_hashWithBuffer_0_ok 16 (q := (30, .getfield 19, 3)) rfl
theorem dX8_hashWithBuffer_33 : decode cX8_hashWithBuffer 33 = .ok (.iload 5, 2) := td tX8_hashWithBuffer_0_ok 17 (q := (33, .iload 5, 2)) rfl
theorem dX8_hashWithBuffer_35 : decode cX8_hashWithBuffer 35 = .ok (.invokevirtual 258, 3) := td tX8_hashWithBuffer_0_ok 18 (q := (35, .invokevirtual 258, 3)) rfl
theorem dX8_hashWithBuffer_38 : decode cX8_hashWithBuffer 38 = .ok (.i2l, 1) := td tX8_hashWithBuffer_0_ok 19 (q := (38, .i2l, 1)) rfl
theorem dX8_hashWithBuffer_39 : decode cX8_hashWithBuffer 39 = .ok (.invokestatic 230, 3) := td tX8_hashWithBuffer_0_ok 20 (q := (39, .invokestatic 230, 3)) rfl
theorem dX8_hashWithBuffer_42 : decode cX8_hashWithBuffer 42 = .ok (.lstore_n 3, 1) := td tX8_hashWithBuffer_0_ok 21 (q := (42, .lstore_n 3, 1)) rfl
theorem dX8_hashWithBuffer_43 : decode cX8_hashWithBuffer 43 = .ok (.iinc 5 1, 3) := td tX8_hashWithBuffer_0_ok 22 (q := (43, .iinc 5 1, 3)) rfl
theorem dX8_hashWithBuffer_46 : decode cX8_hashWithBuffer 46 = .ok (.goto (-30), 3) := td tX8_hashWithBuffer_0_ok 23 (q := (46, .goto (-30), 3)) rfl
theorem dX8_hashWithBuffer_49 : decode cX8_hashWithBuffer 49 = .ok (.lload_n 3, 1) := td tX8_hashWithBuffer_0_ok 24 (q := (49, .lload_n 3, 1)) rfl
theorem dX8_hashWithBuffer_50 : decode cX8_hashWithBuffer 50 = .ok (.lreturn, 1) := td tX8_hashWithBuffer_0_ok 25 (q := (50, .lreturn, 1)) rfl
def fX8_hashWithBuffer_16 (k16 : Int64 → Option (Int64)) (kbc : (Nat → Int32)) (kbl : Int32) : Nat → Int64 → Int32 → Option (Int64)
  | 0, _, _ => none
  | n16 + 1, x3, x5 => (Option.bind (fX1_length kbl) (fun q3 => (if q3 ≤ x5 then (k16 x3) else (Option.bind (fX1_codeAt kbc x5) (fun q5 => (Option.bind (fX8_mixed x3 q5.toInt64) (fun q6 => (fX8_hashWithBuffer_16 k16 kbc kbl n16 q6 (x5 + (1 : Int32))))))))))
def fX8_hashWithBuffer (kbc : (Nat → Int32)) (kbl : Int32) (x1 : Int64) : Option (Int64) :=
  (Option.bind (fX1_length kbl) (fun q1 => (Option.bind (fX8_mixed x1 q1.toInt64) (fun q2 => (fX8_hashWithBuffer_16 (fun (u3_7 : Int64) => (some u3_7)) kbc kbl LF q2 (0 : Int32))))))
set_option maxHeartbeats 4000000 in
set_option maxRecDepth 100000 in
theorem mX8_hashWithBuffer {l : Launch} {D : va_G} {ad : Nat → Nat} {cI : ClassId} {kc : (Nat → Int32)} {ksv : (Nat → Int32)} {kbc : (Nat → Int32)} {kit : (Nat → Int32)} {kln : (Nat → Int32)} {ken : (Nat → Int32)} {kla : (Nat → Int32)} {kfi : (Nat → Int32)} {kea : (Nat → Int32)} {kns : Int32} {kbl : Int32} {kr0 : Int32} {kr1 : Int32} {kr2 : Int32} {kr3 : Int32} {kr4 : Int32} {kr5 : Int32} {klr : Int32} {kp0 : Int32} {kp1 : Int32} {kp2 : Int32} {kp3 : Int32} {x1 : Int64} {r : Int64} (hs : fX8_hashWithBuffer kbc kbl x1 = some r) : nd_C l yX8_hashWithBuffer cX8_hashWithBuffer 6 (some .long) 1 23 D [(cI, .int)] [.ref (ad 0), .long x1] (CW ad cI kc ksv kbc kit kln ken kla kfi kea kns kbl kr0 kr1 kr2 kr3 kr4 kr5 klr kp0 kp1 kp2 kp3) (CW ad cI kc ksv kbc kit kln ken kla kfi kea kns kbl kr0 kr1 kr2 kr3 kr4 kr5 klr kp0 kp1 kp2 kp3) (some (.long r)) := by
  refine nd_ofCl (by decide) (Nat.le_of_ble_eq_true rfl) (fun p e s m args below meth c_ ls A Q hx hb hml hown hts hl hP hK hD hS hA hN hret => ?_)
  have hown : s.vm.findClass RX8 = some m.cls := hown
  have hl : lv_has ls 6 [(0, .ref (ad 0)), (1, .long x1)] := hl
  have hret : ∀ (z0 : Int64) {H : Heap} {locs : List Loc} {pc : Nat} {ls : Array Slot}, some z0 = some r → va_P D vwCl (CW ad cI kc ksv kbc kit kln ken kla kfi kea kns kbl kr0 kr1 kr2 kr3 kr4 kr5 klr kp0 kp1 kp2 kp3) H → va_S A s.heap H locs → decode cX8_hashWithBuffer pc = .ok (.lreturn, 1) → W p l e ⟨1, 0, 0, 23⟩ s m args below meth c_ H locs 0 0 Q (F0 m pc ls [.long z0]) := by
    intro z0 H locs pc ls h hP hS hd
    cases h
    exact hret hP hS hd
  rw [fX8_hashWithBuffer] at hs
  refine lv_lload_n hx hb dX8_hashWithBuffer_0 rfl (lv_at hl 1 rfl) ?_
  refine lv_aload_n hx hb dX8_hashWithBuffer_1 rfl (lv_at hl 0 rfl) ?_
  refine gf_X8_19 hx hb hts hown hK hP 0 rfl rfl dX8_hashWithBuffer_2 ?_
  obtain ⟨q1, eq1, hs⟩ := ob hs
  refine nd_callV (As := []) (rest := [.long x1]) (st1 := [.int q1, .long x1]) hx hb hml hown hts hl hP hK hD hS hA hN (mX1_length eq1) iv_X1_length wd_177 2 rfl rfl rfl rfl ⟨Nat.le_of_ble_eq_true rfl, Nat.le_of_ble_eq_true rfl⟩ (Nat.le_of_ble_eq_true rfl) ⟨Nat.zero_le _, Nat.zero_le _⟩ dX8_hashWithBuffer_5 rfl rfl (fun H locs hP hD hS => ?_)
  refine lv_i2l hx hb dX8_hashWithBuffer_8 rfl ?_
  obtain ⟨q2, eq2, hs⟩ := ob hs
  refine nd_callS (As := [.long x1, .long q1.toInt64]) (rest := []) (st1 := [.long q2]) hx hb hml hown hts hl hP hK hD hS hA hN (mX8_mixed eq2) is_X8_mixed wd_935 rfl rfl ⟨Nat.le_of_ble_eq_true rfl, Nat.le_of_ble_eq_true rfl⟩ (Nat.le_of_ble_eq_true rfl) ⟨Nat.zero_le _, Nat.zero_le _⟩ dX8_hashWithBuffer_9 rfl rfl (fun H locs hP hD hS => ?_)
  refine lv_lstore_n (lv' := [(3, .long q2), (0, .ref (ad 0)), (1, .long x1)]) hx hb dX8_hashWithBuffer_12 rfl hl (by decide) rfl (fun ls hl => ?_)
  refine lv_iconst (v := (0 : Int32)) hx hb dX8_hashWithBuffer_13 (by decide) ?_
  refine lv_istore (lv' := [(5, .int (0 : Int32)), (3, .long q2), (0, .ref (ad 0)), (1, .long x1)]) hx hb dX8_hashWithBuffer_14 hl (by decide) rfl (fun ls hl => ?_)
  have L16 : ∀ (n16 : Nat) (k16 : Int64 → Option (Int64)) (v3_7 : Int64) (v5_7 : Int32) (H : Heap) (locs : List Loc) (ls : Array Slot), lv_has ls 6 [(0, .ref (ad 0)), (3, .long v3_7), (5, .int v5_7)] → va_P D vwCl (CW ad cI kc ksv kbc kit kln ken kla kfi kea kns kbl kr0 kr1 kr2 kr3 kr4 kr5 klr kp0 kp1 kp2 kp3) H → va_S A s.heap H locs → fX8_hashWithBuffer_16 k16 kbc kbl n16 v3_7 v5_7 = some r → (∀ (u3_7 : Int64) (H : Heap) (locs : List Loc) (ls : Array Slot), lv_has ls 6 [(3, .long u3_7)] → va_P D vwCl (CW ad cI kc ksv kbc kit kln ken kla kfi kea kns kbl kr0 kr1 kr2 kr3 kr4 kr5 klr kp0 kp1 kp2 kp3) H → va_S A s.heap H locs → k16 u3_7 = some r → W p l e ⟨1, 0, 0, 23⟩ s m args below meth c_ H locs 0 0 Q (F0 m 49 ls [])) → W p l e ⟨1, 0, 0, 23⟩ s m args below meth c_ H locs 0 0 Q (F0 m 16 ls []) := by
    intro n16
    induction n16 with
    | zero =>
      intro k16 v3_7 v5_7 H locs ls hl hP hS hs hk16
      rw [fX8_hashWithBuffer_16] at hs
      cases hs
    | succ n16 ih16 =>
      intro k16 v3_7 v5_7 H locs ls hl hP hS hs hk16
      rw [fX8_hashWithBuffer_16] at hs
      refine lv_iload hx hb dX8_hashWithBuffer_16 (lv_at hl 2 rfl) ?_
      refine lv_aload_n hx hb dX8_hashWithBuffer_18 rfl (lv_at hl 0 rfl) ?_
      refine gf_X8_19 hx hb hts hown hK hP 0 rfl rfl dX8_hashWithBuffer_19 ?_
      obtain ⟨q8, eq8, hs⟩ := ob hs
      refine nd_callV (As := []) (rest := [.int v5_7]) (st1 := [.int q8, .int v5_7]) hx hb hml hown hts hl hP hK hD hS hA hN (mX1_length eq8) iv_X1_length wd_177 2 rfl rfl rfl rfl ⟨Nat.le_of_ble_eq_true rfl, Nat.le_of_ble_eq_true rfl⟩ (Nat.le_of_ble_eq_true rfl) ⟨Nat.zero_le _, Nat.zero_le _⟩ dX8_hashWithBuffer_22 rfl rfl (fun H locs hP hD hS => ?_)
      refine lv_icmp_ge (tgt := 49) hx hb dX8_hashWithBuffer_25 (by decide) (fun b9 => ?_) (fun b9 => ?_)
      · have hs := ite_t hs b9
        exact hk16 v3_7 _ _ _ (lv_sub hl [1] rfl) hP hS hs
      · have hs := ite_f hs b9
        refine lv_lload_n hx hb dX8_hashWithBuffer_28 rfl (lv_at hl 1 rfl) ?_
        refine lv_aload_n hx hb dX8_hashWithBuffer_29 rfl (lv_at hl 0 rfl) ?_
        refine gf_X8_19 hx hb hts hown hK hP 0 rfl rfl dX8_hashWithBuffer_30 ?_
        refine lv_iload hx hb dX8_hashWithBuffer_33 (lv_at hl 2 rfl) ?_
        obtain ⟨q10, eq10, hs⟩ := ob hs
        refine nd_callV (As := [.int v5_7]) (rest := [.long v3_7]) (st1 := [.int q10, .long v3_7]) hx hb hml hown hts hl hP hK hD hS hA hN (mX1_codeAt eq10) iv_X1_codeAt wd_181 2 rfl rfl rfl rfl ⟨Nat.le_of_ble_eq_true rfl, Nat.le_of_ble_eq_true rfl⟩ (Nat.le_of_ble_eq_true rfl) ⟨Nat.zero_le _, Nat.zero_le _⟩ dX8_hashWithBuffer_35 rfl rfl (fun H locs hP hD hS => ?_)
        refine lv_i2l hx hb dX8_hashWithBuffer_38 rfl ?_
        obtain ⟨q11, eq11, hs⟩ := ob hs
        refine nd_callS (As := [.long v3_7, .long q10.toInt64]) (rest := []) (st1 := [.long q11]) hx hb hml hown hts hl hP hK hD hS hA hN (mX8_mixed eq11) is_X8_mixed wd_935 rfl rfl ⟨Nat.le_of_ble_eq_true rfl, Nat.le_of_ble_eq_true rfl⟩ (Nat.le_of_ble_eq_true rfl) ⟨Nat.zero_le _, Nat.zero_le _⟩ dX8_hashWithBuffer_39 rfl rfl (fun H locs hP hD hS => ?_)
        refine lv_lstore_n (lv' := [(3, .long q11), (0, .ref (ad 0)), (5, .int v5_7)]) hx hb dX8_hashWithBuffer_42 rfl hl (by decide) rfl (fun ls hl => ?_)
        refine lv_iinc (v := v5_7 + (1 : Int32)) (lv' := [(5, .int (v5_7 + (1 : Int32))), (3, .long q11), (0, .ref (ad 0))]) hx hb dX8_hashWithBuffer_43 hl (k := 2) rfl rfl (by decide) rfl (fun ls hl => ?_)
        refine lv_goto (tgt := 16) hx hb dX8_hashWithBuffer_46 (by decide) ?_
        exact ih16 k16 q11 (v5_7 + (1 : Int32)) _ _ _ (lv_sub hl [2, 1, 0] rfl) hP hS hs hk16
  refine L16 LF _ q2 (0 : Int32) _ _ _ (lv_sub hl [2, 1, 0] rfl) hP hS hs (fun u3_7 H locs ls hl hP hS hs => ?_)
  refine lv_lload_n hx hb dX8_hashWithBuffer_49 rfl (lv_at hl 0 rfl) ?_
  exact hret _ hs hP hS dX8_hashWithBuffer_50
def tX8_digest_0 : List (Nat × Instr × Nat) := [(0, .aload_n 0, 1), (1, .ldc2_w 209, 3), (4, .invokevirtual 211, 3), (7, .lstore_n 1, 1), (8, .aload_n 0, 1), (9, .lload_n 1, 1), (10, .invokevirtual 215, 3), (13, .lstore_n 1, 1), (14, .aload_n 0, 1), (15, .lload_n 1, 1), (16, .invokevirtual 218, 3), (19, .lstore_n 1, 1), (20, .aload_n 0, 1), (21, .lload_n 1, 1), (22, .invokevirtual 221, 3), (25, .lstore_n 1, 1), (26, .aload_n 0, 1), (27, .lload_n 1, 1), (28, .invokevirtual 224, 3), (31, .lstore_n 1, 1), (32, .aload_n 0, 1), (33, .lload_n 1, 1), (34, .invokevirtual 227, 3), (37, .lstore_n 1, 1), (38, .lload_n 1, 1), (39, .aload_n 0, 1), (40, .getfield 12, 3), (43, .iconst (-1), 1), (44, .invokestatic 198, 3), (47, .i2l, 1), (48, .invokestatic 230, 3), (51, .lstore_n 1, 1), (52, .lload_n 1, 1), (53, .aload_n 0, 1), (54, .getfield 12, 3), (57, .invokestatic 202, 3), (60, .i2l, 1), (61, .invokestatic 230, 3), (64, .lstore_n 1, 1), (65, .lload_n 1, 1), (66, .aload_n 0, 1), (67, .getfield 12, 3), (70, .invokestatic 205, 3), (73, .invokestatic 234, 3), (76, .invokestatic 230, 3), (79, .lstore_n 1, 1), (80, .aload_n 0, 1), (81, .lload_n 1, 1), (82, .invokevirtual 238, 3), (85, .lreturn, 1)]
theorem tX8_digest_0_ok : tX8_digest_0.all (fun q => decide (decode cX8_digest q.1 = .ok q.2)) = true := by decide +kernel
theorem dX8_digest_0 : decode cX8_digest 0 = .ok (.aload_n 0, 1) := td tX8_digest_0_ok 0 (q := (0, .aload_n 0, 1)) rfl
theorem dX8_digest_1 : decode cX8_digest 1 = .ok (.ldc2_w 209, 3) := td tX8_digest_0_ok 1 (q := (1, .ldc2_w 209, 3)) rfl
theorem dX8_digest_4 : decode cX8_digest 4 = .ok (.invokevirtual 211, 3) := td tX8_digest_0_ok 2 (q := (4, .invokevirtual 211, 3)) rfl
theorem dX8_digest_7 : decode cX8_digest 7 = .ok (.lstore_n 1, 1) := td tX8_digest_0_ok 3 (q := (7, .lstore_n 1, 1)) rfl
theorem dX8_digest_8 : decode cX8_digest 8 = .ok (.aload_n 0, 1) := td tX8_digest_0_ok 4 (q := (8, .aload_n 0, 1)) rfl
theorem dX8_digest_9 : decode cX8_digest 9 = .ok (.lload_n 1, 1) := td tX8_digest_0_ok 5 (q := (9, .lload_n 1, 1)) rfl
theorem dX8_digest_10 : decode cX8_digest 10 = .ok (.invokevirtual 215, 3) := td tX8_digest_0_ok 6 (q := (10, .invokevirtual 215, 3)) rfl
theorem dX8_digest_13 : decode cX8_digest 13 = .ok (.lstore_n 1, 1) := td tX8_digest_0_ok 7 (q := (13, .lstore_n 1, 1)) rfl
theorem dX8_digest_14 : decode cX8_digest 14 = .ok (.aload_n 0, 1) := td tX8_digest_0_ok 8 (q := (14, .aload_n 0, 1)) rfl
theorem dX8_digest_15 : decode cX8_digest 15 = .ok (.lload_n 1, 1) := td tX8_digest_0_ok 9 (q := (15, .lload_n 1, 1)) rfl
theorem dX8_digest_16 : decode cX8_digest 16 = .ok (.invokevirtual 218, 3) := td tX8_digest_0_ok 10 (q := (16, .invokevirtual 218, 3)) rfl
theorem dX8_digest_19 : decode cX8_digest 19 = .ok (.lstore_n 1, 1) := td tX8_digest_0_ok 11 (q := (19, .lstore_n 1, 1)) rfl
theorem dX8_digest_20 : decode cX8_digest 20 = .ok (.aload_n 0, 1) := td tX8_digest_0_ok 12 (q := (20, .aload_n 0, 1)) rfl
theorem dX8_digest_21 : decode cX8_digest 21 = .ok (.lload_n 1, 1) := td tX8_digest_0_ok 13 (q := (21, .lload_n 1, 1)) rfl
theorem dX8_digest_22 : decode cX8_digest 22 = .ok (.invokevirtual 221, 3) := td tX8_digest_0_ok 14 (q := (22, .invokevirtual 221, 3)) rfl
theorem dX8_digest_25 : decode cX8_digest 25 = .ok (.lstore_n 1, 1) := td tX8_digest_0_ok 15 (q := (25, .lstore_n 1, 1)) rfl
theorem dX8_digest_26 : decode cX8_digest 26 = .ok (.aload_n 0, 1) := td tX8_digest_0_ok 16 (q := (26, .aload_n 0, 1)) rfl
theorem dX8_digest_27 : decode cX8_digest 27 = .ok (.lload_n 1, 1) := td tX8_digest_0_ok 17 (q := (27, .lload_n 1, 1)) rfl
theorem dX8_digest_28 : decode cX8_digest 28 = .ok (.invokevirtual 224, 3) := td tX8_digest_0_ok 18 (q := (28, .invokevirtual 224, 3)) rfl
theorem dX8_digest_31 : decode cX8_digest 31 = .ok (.lstore_n 1, 1) := td tX8_digest_0_ok 19 (q := (31, .lstore_n 1, 1)) rfl
theorem dX8_digest_32 : decode cX8_digest 32 = .ok (.aload_n 0, 1) := td tX8_digest_0_ok 20 (q := (32, .aload_n 0, 1)) rfl
theorem dX8_digest_33 : decode cX8_digest 33 = .ok (.lload_n 1, 1) := td tX8_digest_0_ok 21 (q := (33, .lload_n 1, 1)) rfl
theorem dX8_digest_34 : decode cX8_digest 34 = .ok (.invokevirtual 227, 3) := td tX8_digest_0_ok 22 (q := (34, .invokevirtual 227, 3)) rfl
theorem dX8_digest_37 : decode cX8_digest 37 = .ok (.lstore_n 1, 1) := td tX8_digest_0_ok 23 (q := (37, .lstore_n 1, 1)) rfl
theorem dX8_digest_38 : decode cX8_digest 38 = .ok (.lload_n 1, 1) := td tX8_digest_0_ok 24 (q := (38, .lload_n 1, 1)) rfl
theorem dX8_digest_39 : decode cX8_digest 39 = .ok (.aload_n 0, 1) := td tX8_digest_0_ok 25 (q := (39, .aload_n 0, 1)) rfl
theorem dX8_digest_40 : decode cX8_digest 40 = .ok (.getfield 12, 3) := td tX8_digest_0_ok 26 (q := (40, .getfield 12, 3)) rfl
theorem dX8_digest_43 : decode cX8_digest 43 = .ok (.iconst (-1), 1) := td tX8_digest_0_ok 27 (q := (43, .iconst (-1), 1)) rfl
theorem dX8_digest_44 : decode cX8_digest 44 = .ok (.invokestatic 198, 3) := td tX8_digest_0_ok 28 (q := (44, .invokestatic 198, 3)) rfl
theorem dX8_digest_47 : decode cX8_digest 47 = .ok (.i2l, 1) := td tX8_digest_0_ok 29 (q := (47, .i2l, 1)) rfl
theorem dX8_digest_48 : decode cX8_digest 48 = .ok (.invokestatic 230, 3) := td tX8_digest_0_ok 30 (q := (48, .invokestatic 230, 3)) rfl
theorem dX8_digest_51 : decode cX8_digest 51 = .ok (.lstore_n 1, 1) := td tX8_digest_0_ok 31 (q := (51, .lstore_n 1, 1)) rfl
theorem dX8_digest_52 : decode cX8_digest 52 = .ok (.lload_n 1, 1) := td tX8_digest_0_ok 32 (q := (52, .lload_n 1, 1)) rfl
theorem dX8_digest_53 : decode cX8_digest 53 = .ok (.aload_n 0, 1) := td tX8_digest_0_ok 33 (q := (53, .aload_n 0, 1)) rfl
theorem dX8_digest_54 : decode cX8_digest 54 = .ok (.getfield 12, 3) := td tX8_digest_0_ok 34 (q := (54, .getfield 12, 3)) rfl
theorem dX8_digest_57 : decode cX8_digest 57 = .ok (.invokestatic 202, 3) := td tX8_digest_0_ok 35 (q := (57, .invokestatic 202, 3)) rfl
theorem dX8_digest_60 : decode cX8_digest 60 = .ok (.i2l, 1) := td tX8_digest_0_ok 36 (q := (60, .i2l, 1)) rfl
theorem dX8_digest_61 : decode cX8_digest 61 = .ok (.invokestatic 230, 3) := td tX8_digest_0_ok 37 (q := (61, .invokestatic 230, 3)) rfl
theorem dX8_digest_64 : decode cX8_digest 64 = .ok (.lstore_n 1, 1) := td tX8_digest_0_ok 38 (q := (64, .lstore_n 1, 1)) rfl
theorem dX8_digest_65 : decode cX8_digest 65 = .ok (.lload_n 1, 1) := td tX8_digest_0_ok 39 (q := (65, .lload_n 1, 1)) rfl
theorem dX8_digest_66 : decode cX8_digest 66 = .ok (.aload_n 0, 1) := td tX8_digest_0_ok 40 (q := (66, .aload_n 0, 1)) rfl
theorem dX8_digest_67 : decode cX8_digest 67 = .ok (.getfield 12, 3) := td tX8_digest_0_ok 41 (q := (67, .getfield 12, 3)) rfl
theorem dX8_digest_70 : decode cX8_digest 70 = .ok (.invokestatic 205, 3) := td tX8_digest_0_ok 42 (q := (70, .invokestatic 205, 3)) rfl
theorem dX8_digest_73 : decode cX8_digest 73 = .ok (.invokestatic 234, 3) := td tX8_digest_0_ok 43 (q := (73, .invokestatic 234, 3)) rfl
theorem dX8_digest_76 : decode cX8_digest 76 = .ok (.invokestatic 230, 3) := td tX8_digest_0_ok 44 (q := (76, .invokestatic 230, 3)) rfl
theorem dX8_digest_79 : decode cX8_digest 79 = .ok (.lstore_n 1, 1) := td tX8_digest_0_ok 45 (q := (79, .lstore_n 1, 1)) rfl
theorem dX8_digest_80 : decode cX8_digest 80 = .ok (.aload_n 0, 1) := td tX8_digest_0_ok 46 (q := (80, .aload_n 0, 1)) rfl
theorem dX8_digest_81 : decode cX8_digest 81 = .ok (.lload_n 1, 1) := td tX8_digest_0_ok 47 (q := (81, .lload_n 1, 1)) rfl
theorem dX8_digest_82 : decode cX8_digest 82 = .ok (.invokevirtual 238, 3) := td tX8_digest_0_ok 48 (q := (82, .invokevirtual 238, 3)) rfl
theorem dX8_digest_85 : decode cX8_digest 85 = .ok (.lreturn, 1) := td tX8_digest_0_ok 49 (q := (85, .lreturn, 1)) rfl
def fX8_digest (kc : (Nat → Int32)) (kbc : (Nat → Int32)) (kln : (Nat → Int32)) (ken : (Nat → Int32)) (kla : (Nat → Int32)) (kfi : (Nat → Int32)) (kea : (Nat → Int32)) (kns : Int32) (kbl : Int32) (klr : Int32) (kp0 : Int32) (kp1 : Int32) (kp2 : Int32) (kp3 : Int32) : Option (Int64 × (Nat → Int32) × (Nat → Int32) × (Nat → Int32) × (Nat → Int32) × (Nat → Int32) × Int32 × Int32 × Int32 × Int32 × Int32) :=
  (Option.bind (fX8_hashWithNumbers kc kns (2897 : Int64)) (fun q1 => (Option.bind (fX8_hashWithPieces kc q1) (fun q2 => (Option.bind (fX8_hashWithFits kc q2) (fun q3 => (Option.bind (fX8_hashWithPages kc kln klr q3) (fun q4 => (Option.bind (fX8_hashWithSums kc q4.1) (fun q5 => (Option.bind (fX8_hashWithLongest kc ken kla kfi kea kp0 kp1 kp2 kp3 q5) (fun q6 => (Option.bind (fX7_hiddenBy kc (-1 : Int32)) (fun q7 => (Option.bind (fX8_mixed q6.1 q7.toInt64) (fun q8 => (Option.bind (fX7_leastTrusted kc) (fun q9 => (Option.bind (fX8_mixed q8 q9.toInt64) (fun q10 => (Option.bind (fX7_shareOfRight kc) (fun q11 => (Option.bind (fX7_bitsOf q11) (fun q12 => (Option.bind (fX8_mixed q10 q12) (fun q13 => (Option.bind (fX8_hashWithBuffer kbc kbl q13) (fun q14 => (some (q14, q4.2.1, q6.2.1, q6.2.2.1, q6.2.2.2.1, q6.2.2.2.2.1, q4.2.2, q6.2.2.2.2.2.1, q6.2.2.2.2.2.2.1, q6.2.2.2.2.2.2.2.1, q6.2.2.2.2.2.2.2.2))))))))))))))))))))))))))))))
set_option maxHeartbeats 4000000 in
set_option maxRecDepth 100000 in
theorem mX8_digest {l : Launch} {D : va_G} {ad : Nat → Nat} {cI : ClassId} {kc : (Nat → Int32)} {ksv : (Nat → Int32)} {kbc : (Nat → Int32)} {kit : (Nat → Int32)} {kln : (Nat → Int32)} {ken : (Nat → Int32)} {kla : (Nat → Int32)} {kfi : (Nat → Int32)} {kea : (Nat → Int32)} {kns : Int32} {kbl : Int32} {kr0 : Int32} {kr1 : Int32} {kr2 : Int32} {kr3 : Int32} {kr4 : Int32} {kr5 : Int32} {klr : Int32} {kp0 : Int32} {kp1 : Int32} {kp2 : Int32} {kp3 : Int32} {r : Int64} {kln' : (Nat → Int32)} {ken' : (Nat → Int32)} {kla' : (Nat → Int32)} {kfi' : (Nat → Int32)} {kea' : (Nat → Int32)} {klr' : Int32} {kp0' : Int32} {kp1' : Int32} {kp2' : Int32} {kp3' : Int32} (hs : fX8_digest kc kbc kln ken kla kfi kea kns kbl klr kp0 kp1 kp2 kp3 = some (r, kln', ken', kla', kfi', kea', klr', kp0', kp1', kp2', kp3')) : nd_C l yX8_digest cX8_digest 3 (some .long) 6 139 D [(cI, .int)] [.ref (ad 0)] (CW ad cI kc ksv kbc kit kln ken kla kfi kea kns kbl kr0 kr1 kr2 kr3 kr4 kr5 klr kp0 kp1 kp2 kp3) (CW ad cI kc ksv kbc kit kln' ken' kla' kfi' kea' kns kbl kr0 kr1 kr2 kr3 kr4 kr5 klr' kp0' kp1' kp2' kp3') (some (.long r)) := by
  refine nd_ofCl (by decide) (Nat.le_of_ble_eq_true rfl) (fun p e s m args below meth c_ ls A Q hx hb hml hown hts hl hP hK hD hS hA hN hret => ?_)
  have hown : s.vm.findClass RX8 = some m.cls := hown
  have hl : lv_has ls 3 [(0, .ref (ad 0))] := hl
  have hret : ∀ (z0 : Int64) (z1 : (Nat → Int32)) (z2 : (Nat → Int32)) (z3 : (Nat → Int32)) (z4 : (Nat → Int32)) (z5 : (Nat → Int32)) (z6 : Int32) (z7 : Int32) (z8 : Int32) (z9 : Int32) (z10 : Int32) {H : Heap} {locs : List Loc} {pc : Nat} {ls : Array Slot}, some (z0, z1, z2, z3, z4, z5, z6, z7, z8, z9, z10) = some (r, kln', ken', kla', kfi', kea', klr', kp0', kp1', kp2', kp3') → va_P D vwCl (CW ad cI kc ksv kbc kit z1 z2 z3 z4 z5 kns kbl kr0 kr1 kr2 kr3 kr4 kr5 z6 z7 z8 z9 z10) H → va_S A s.heap H locs → decode cX8_digest pc = .ok (.lreturn, 1) → W p l e ⟨6, 0, 0, 139⟩ s m args below meth c_ H locs 0 0 Q (F0 m pc ls [.long z0]) := by
    intro z0 z1 z2 z3 z4 z5 z6 z7 z8 z9 z10 H locs pc ls h hP hS hd
    cases h
    exact hret hP hS hd
  rw [fX8_digest] at hs
  refine lv_aload_n hx hb dX8_digest_0 rfl (lv_at hl 0 rfl) ?_
  refine lv_ldc2 hx hb hown (hts _ wd_930) dX8_digest_1 ?_
  obtain ⟨q1, eq1, hs⟩ := ob hs
  refine nd_callV (As := [.long (2897 : Int64)]) (rest := []) (st1 := [.long q1]) hx hb hml hown hts hl hP hK hD hS hA hN (mX8_hashWithNumbers eq1) iv_X8_hashWithNumbers wd_931 0 rfl rfl rfl rfl ⟨Nat.le_of_ble_eq_true rfl, Nat.le_of_ble_eq_true rfl⟩ (Nat.le_of_ble_eq_true rfl) ⟨Nat.zero_le _, Nat.zero_le _⟩ dX8_digest_4 rfl rfl (fun H locs hP hD hS => ?_)
  refine lv_lstore_n (lv' := [(1, .long q1), (0, .ref (ad 0))]) hx hb dX8_digest_7 rfl hl (by decide) rfl (fun ls hl => ?_)
  refine lv_aload_n hx hb dX8_digest_8 rfl (lv_at hl 1 rfl) ?_
  refine lv_lload_n hx hb dX8_digest_9 rfl (lv_at hl 0 rfl) ?_
  obtain ⟨q2, eq2, hs⟩ := ob hs
  refine nd_callV (As := [.long q1]) (rest := []) (st1 := [.long q2]) hx hb hml hown hts hl hP hK hD hS hA hN (mX8_hashWithPieces eq2) iv_X8_hashWithPieces wd_939 0 rfl rfl rfl rfl ⟨Nat.le_of_ble_eq_true rfl, Nat.le_of_ble_eq_true rfl⟩ (Nat.le_of_ble_eq_true rfl) ⟨Nat.zero_le _, Nat.zero_le _⟩ dX8_digest_10 rfl rfl (fun H locs hP hD hS => ?_)
  refine lv_lstore_n (lv' := [(1, .long q2), (0, .ref (ad 0))]) hx hb dX8_digest_13 rfl hl (by decide) rfl (fun ls hl => ?_)
  refine lv_aload_n hx hb dX8_digest_14 rfl (lv_at hl 1 rfl) ?_
  refine lv_lload_n hx hb dX8_digest_15 rfl (lv_at hl 0 rfl) ?_
  obtain ⟨q3, eq3, hs⟩ := ob hs
  refine nd_callV (As := [.long q2]) (rest := []) (st1 := [.long q3]) hx hb hml hown hts hl hP hK hD hS hA hN (mX8_hashWithFits eq3) iv_X8_hashWithFits wd_943 0 rfl rfl rfl rfl ⟨Nat.le_of_ble_eq_true rfl, Nat.le_of_ble_eq_true rfl⟩ (Nat.le_of_ble_eq_true rfl) ⟨Nat.zero_le _, Nat.zero_le _⟩ dX8_digest_16 rfl rfl (fun H locs hP hD hS => ?_)
  refine lv_lstore_n (lv' := [(1, .long q3), (0, .ref (ad 0))]) hx hb dX8_digest_19 rfl hl (by decide) rfl (fun ls hl => ?_)
  refine lv_aload_n hx hb dX8_digest_20 rfl (lv_at hl 1 rfl) ?_
  refine lv_lload_n hx hb dX8_digest_21 rfl (lv_at hl 0 rfl) ?_
  obtain ⟨q4, eq4, hs⟩ := ob hs
  refine nd_callV (As := [.long q3]) (rest := []) (st1 := [.long q4.1]) hx hb hml hown hts hl hP hK hD hS hA hN (mX8_hashWithPages eq4) iv_X8_hashWithPages wd_947 0 rfl rfl rfl rfl ⟨Nat.le_of_ble_eq_true rfl, Nat.le_of_ble_eq_true rfl⟩ (Nat.le_of_ble_eq_true rfl) ⟨Nat.zero_le _, Nat.zero_le _⟩ dX8_digest_22 rfl rfl (fun H locs hP hD hS => ?_)
  refine lv_lstore_n (lv' := [(1, .long q4.1), (0, .ref (ad 0))]) hx hb dX8_digest_25 rfl hl (by decide) rfl (fun ls hl => ?_)
  refine lv_aload_n hx hb dX8_digest_26 rfl (lv_at hl 1 rfl) ?_
  refine lv_lload_n hx hb dX8_digest_27 rfl (lv_at hl 0 rfl) ?_
  obtain ⟨q5, eq5, hs⟩ := ob hs
  refine nd_callV (As := [.long q4.1]) (rest := []) (st1 := [.long q5]) hx hb hml hown hts hl hP hK hD hS hA hN (mX8_hashWithSums eq5) iv_X8_hashWithSums wd_956 0 rfl rfl rfl rfl ⟨Nat.le_of_ble_eq_true rfl, Nat.le_of_ble_eq_true rfl⟩ (Nat.le_of_ble_eq_true rfl) ⟨Nat.zero_le _, Nat.zero_le _⟩ dX8_digest_28 rfl rfl (fun H locs hP hD hS => ?_)
  refine lv_lstore_n (lv' := [(1, .long q5), (0, .ref (ad 0))]) hx hb dX8_digest_31 rfl hl (by decide) rfl (fun ls hl => ?_)
  refine lv_aload_n hx hb dX8_digest_32 rfl (lv_at hl 1 rfl) ?_
  refine lv_lload_n hx hb dX8_digest_33 rfl (lv_at hl 0 rfl) ?_
  obtain ⟨q6, eq6, hs⟩ := ob hs
  refine nd_callV (As := [.long q5]) (rest := []) (st1 := [.long q6.1]) hx hb hml hown hts hl hP hK hD hS hA hN (mX8_hashWithLongest eq6) iv_X8_hashWithLongest wd_960 0 rfl rfl rfl rfl ⟨Nat.le_of_ble_eq_true rfl, Nat.le_of_ble_eq_true rfl⟩ (Nat.le_of_ble_eq_true rfl) ⟨Nat.zero_le _, Nat.zero_le _⟩ dX8_digest_34 rfl rfl (fun H locs hP hD hS => ?_)
  refine lv_lstore_n (lv' := [(1, .long q6.1), (0, .ref (ad 0))]) hx hb dX8_digest_37 rfl hl (by decide) rfl (fun ls hl => ?_)
  refine lv_lload_n hx hb dX8_digest_38 rfl (lv_at hl 0 rfl) ?_
  refine lv_aload_n hx hb dX8_digest_39 rfl (lv_at hl 1 rfl) ?_
  refine gf_X8_12 hx hb hts hown hK hP 0 rfl rfl dX8_digest_40 ?_
  refine lv_iconst (v := (-1 : Int32)) hx hb dX8_digest_43 (by decide) ?_
  obtain ⟨q7, eq7, hs⟩ := ob hs
  refine nd_callS (As := [.ref (ad 1), .int (-1 : Int32)]) (rest := [.long q6.1]) (st1 := [.int q7, .long q6.1]) hx hb hml hown hts hl hP hK hD hS hA hN (mX7_hiddenBy eq7) is_X7_hiddenBy wd_876 rfl rfl ⟨Nat.le_of_ble_eq_true rfl, Nat.le_of_ble_eq_true rfl⟩ (Nat.le_of_ble_eq_true rfl) ⟨Nat.zero_le _, Nat.zero_le _⟩ dX8_digest_44 rfl rfl (fun H locs hP hD hS => ?_)
  refine lv_i2l hx hb dX8_digest_47 rfl ?_
  obtain ⟨q8, eq8, hs⟩ := ob hs
  refine nd_callS (As := [.long q6.1, .long q7.toInt64]) (rest := []) (st1 := [.long q8]) hx hb hml hown hts hl hP hK hD hS hA hN (mX8_mixed eq8) is_X8_mixed wd_935 rfl rfl ⟨Nat.le_of_ble_eq_true rfl, Nat.le_of_ble_eq_true rfl⟩ (Nat.le_of_ble_eq_true rfl) ⟨Nat.zero_le _, Nat.zero_le _⟩ dX8_digest_48 rfl rfl (fun H locs hP hD hS => ?_)
  refine lv_lstore_n (lv' := [(1, .long q8), (0, .ref (ad 0))]) hx hb dX8_digest_51 rfl hl (by decide) rfl (fun ls hl => ?_)
  refine lv_lload_n hx hb dX8_digest_52 rfl (lv_at hl 0 rfl) ?_
  refine lv_aload_n hx hb dX8_digest_53 rfl (lv_at hl 1 rfl) ?_
  refine gf_X8_12 hx hb hts hown hK hP 0 rfl rfl dX8_digest_54 ?_
  obtain ⟨q9, eq9, hs⟩ := ob hs
  refine nd_callS (As := [.ref (ad 1)]) (rest := [.long q8]) (st1 := [.int q9, .long q8]) hx hb hml hown hts hl hP hK hD hS hA hN (mX7_leastTrusted eq9) is_X7_leastTrusted wd_894 rfl rfl ⟨Nat.le_of_ble_eq_true rfl, Nat.le_of_ble_eq_true rfl⟩ (Nat.le_of_ble_eq_true rfl) ⟨Nat.zero_le _, Nat.zero_le _⟩ dX8_digest_57 rfl rfl (fun H locs hP hD hS => ?_)
  refine lv_i2l hx hb dX8_digest_60 rfl ?_
  obtain ⟨q10, eq10, hs⟩ := ob hs
  refine nd_callS (As := [.long q8, .long q9.toInt64]) (rest := []) (st1 := [.long q10]) hx hb hml hown hts hl hP hK hD hS hA hN (mX8_mixed eq10) is_X8_mixed wd_935 rfl rfl ⟨Nat.le_of_ble_eq_true rfl, Nat.le_of_ble_eq_true rfl⟩ (Nat.le_of_ble_eq_true rfl) ⟨Nat.zero_le _, Nat.zero_le _⟩ dX8_digest_61 rfl rfl (fun H locs hP hD hS => ?_)
  refine lv_lstore_n (lv' := [(1, .long q10), (0, .ref (ad 0))]) hx hb dX8_digest_64 rfl hl (by decide) rfl (fun ls hl => ?_)
  refine lv_lload_n hx hb dX8_digest_65 rfl (lv_at hl 0 rfl) ?_
  refine lv_aload_n hx hb dX8_digest_66 rfl (lv_at hl 1 rfl) ?_
  refine gf_X8_12 hx hb hts hown hK hP 0 rfl rfl dX8_digest_67 ?_
  obtain ⟨q11, eq11, hs⟩ := ob hs
  refine nd_callS (As := [.ref (ad 1)]) (rest := [.long q10]) (st1 := [.double q11, .long q10]) hx hb hml hown hts hl hP hK hD hS hA hN (mX7_shareOfRight eq11) is_X7_shareOfRight wd_913 rfl rfl ⟨Nat.le_of_ble_eq_true rfl, Nat.le_of_ble_eq_true rfl⟩ (Nat.le_of_ble_eq_true rfl) ⟨Nat.zero_le _, Nat.zero_le _⟩ dX8_digest_70 rfl rfl (fun H locs hP hD hS => ?_)
  obtain ⟨q12, eq12, hs⟩ := ob hs
  refine nd_callS (As := [.double q11]) (rest := [.long q10]) (st1 := [.long q12, .long q10]) hx hb hml hown hts hl hP hK hD hS hA hN (mX7_bitsOf eq12) is_X7_bitsOf wd_964 rfl rfl ⟨Nat.le_of_ble_eq_true rfl, Nat.le_of_ble_eq_true rfl⟩ (Nat.le_of_ble_eq_true rfl) ⟨Nat.zero_le _, Nat.zero_le _⟩ dX8_digest_73 rfl rfl (fun H locs hP hD hS => ?_)
  obtain ⟨q13, eq13, hs⟩ := ob hs
  refine nd_callS (As := [.long q10, .long q12]) (rest := []) (st1 := [.long q13]) hx hb hml hown hts hl hP hK hD hS hA hN (mX8_mixed eq13) is_X8_mixed wd_935 rfl rfl ⟨Nat.le_of_ble_eq_true rfl, Nat.le_of_ble_eq_true rfl⟩ (Nat.le_of_ble_eq_true rfl) ⟨Nat.zero_le _, Nat.zero_le _⟩ dX8_digest_76 rfl rfl (fun H locs hP hD hS => ?_)
  refine lv_lstore_n (lv' := [(1, .long q13), (0, .ref (ad 0))]) hx hb dX8_digest_79 rfl hl (by decide) rfl (fun ls hl => ?_)
  refine lv_aload_n hx hb dX8_digest_80 rfl (lv_at hl 1 rfl) ?_
  refine lv_lload_n hx hb dX8_digest_81 rfl (lv_at hl 0 rfl) ?_
  obtain ⟨q14, eq14, hs⟩ := ob hs
  refine nd_callV (As := [.long q13]) (rest := []) (st1 := [.long q14]) hx hb hml hown hts hl hP hK hD hS hA hN (mX8_hashWithBuffer eq14) iv_X8_hashWithBuffer wd_970 0 rfl rfl rfl rfl ⟨Nat.le_of_ble_eq_true rfl, Nat.le_of_ble_eq_true rfl⟩ (Nat.le_of_ble_eq_true rfl) ⟨Nat.zero_le _, Nat.zero_le _⟩ dX8_digest_82 rfl rfl (fun H locs hP hD hS => ?_)
  exact hret _ _ _ _ _ _ _ _ _ _ _ hs hP hS dX8_digest_85
def tX9_thrown_0 : List (Nat × Instr × Nat) := [(0, .aload_n 0, 1), (1, .getfield 25, 3), (4, .ireturn, 1)]
theorem tX9_thrown_0_ok : tX9_thrown_0.all (fun q => decide (decode cX9_thrown q.1 = .ok q.2)) = true := by decide +kernel
theorem dX9_thrown_0 : decode cX9_thrown 0 = .ok (.aload_n 0, 1) := td tX9_thrown_0_ok 0 (q := (0, .aload_n 0, 1)) rfl
theorem dX9_thrown_1 : decode cX9_thrown 1 = .ok (.getfield 25, 3) := td tX9_thrown_0_ok 1 (q := (1, .getfield 25, 3)) rfl
theorem dX9_thrown_4 : decode cX9_thrown 4 = .ok (.ireturn, 1) := td tX9_thrown_0_ok 2 (q := (4, .ireturn, 1)) rfl
def fX9_thrown (mt : Int32) : Option (Int32) :=
  (some mt)
set_option maxHeartbeats 4000000 in
set_option maxRecDepth 100000 in
theorem mX9_thrown {l : Launch} {D : va_G} {bd : Nat → Nat} {cI : ClassId} {ms : (Nat → Int32)} {msv : (Nat → Int32)} {mb : (Nat → Int32)} {mf : (Nat → Int32)} {mr : (Nat → Int32)} {mt : Int32} {mn : Int32} {ml : Int32} {mat : Int32} {mw : Int32} {mm : Int32} {mh : Int64} {r : Int32} (hs : fX9_thrown mt = some r) : nd_C l yX9_thrown cX9_thrown 1 (some .int) 0 0 D [(cI, .int)] [.ref (bd 0)] (MW bd cI ms msv mb mf mr mt mn ml mat mw mm mh) (MW bd cI ms msv mb mf mr mt mn ml mat mw mm mh) (some (.int r)) := by
  refine nd_ofCi (by decide) (Nat.le_of_ble_eq_true rfl) (fun p e s m args below meth c_ ls A Q hx hb hml hown hts hl hP hK hD hS hA hN hret => ?_)
  have hown : s.vm.findClass RX9 = some m.cls := hown
  have hl : lv_has ls 1 [(0, .ref (bd 0))] := hl
  have hret : ∀ (z0 : Int32) {H : Heap} {locs : List Loc} {pc : Nat} {ls : Array Slot}, some z0 = some r → va_P D vwCl (MW bd cI ms msv mb mf mr mt mn ml mat mw mm mh) H → va_S A s.heap H locs → decode cX9_thrown pc = .ok (.ireturn, 1) → W p l e ⟨0, 0, 0, 0⟩ s m args below meth c_ H locs 0 0 Q (F0 m pc ls [.int z0]) := by
    intro z0 H locs pc ls h hP hS hd
    cases h
    exact hret hP hS hd
  rw [fX9_thrown] at hs
  refine lv_aload_n hx hb dX9_thrown_0 rfl (lv_at hl 0 rfl) ?_
  refine gf_X9_25 hx hb hts hown hK hP 0 rfl rfl dX9_thrown_1 ?_
  exact hret _ hs hP hS dX9_thrown_4
def tX9_in_0 : List (Nat × Instr × Nat) := [(0, .iload_n 0, 1), (1, .iload_n 1, 1), (2, .if_icmp .lt 12, 3), (5, .iload_n 0, 1), (6, .iload_n 2, 1), (7, .if_icmp .gt 7, 3), (10, .iconst 1, 1), (11, .goto 4, 3), (14, .iconst 0, 1), (15, .ireturn, 1)]
theorem tX9_in_0_ok : tX9_in_0.all (fun q => decide (decode cX9_in q.1 = .ok q.2)) = true := by decide +kernel
theorem dX9_in_0 : decode cX9_in 0 = .ok (.iload_n 0, 1) := td tX9_in_0_ok 0 (q := (0, .iload_n 0, 1)) rfl
theorem dX9_in_1 : decode cX9_in 1 = .ok (.iload_n 1, 1) := td tX9_in_0_ok 1 (q := (1, .iload_n 1, 1)) rfl
theorem dX9_in_2 : decode cX9_in 2 = .ok (.if_icmp .lt 12, 3) := td tX9_in_0_ok 2 (q := (2, .if_icmp .lt 12, 3)) rfl
theorem dX9_in_5 : decode cX9_in 5 = .ok (.iload_n 0, 1) := td tX9_in_0_ok 3 (q := (5, .iload_n 0, 1)) rfl
theorem dX9_in_6 : decode cX9_in 6 = .ok (.iload_n 2, 1) := td tX9_in_0_ok 4 (q := (6, .iload_n 2, 1)) rfl
theorem dX9_in_7 : decode cX9_in 7 = .ok (.if_icmp .gt 7, 3) := td tX9_in_0_ok 5 (q := (7, .if_icmp .gt 7, 3)) rfl
theorem dX9_in_10 : decode cX9_in 10 = .ok (.iconst 1, 1) := td tX9_in_0_ok 6 (q := (10, .iconst 1, 1)) rfl
theorem dX9_in_11 : decode cX9_in 11 = .ok (.goto 4, 3) := td tX9_in_0_ok 7 (q := (11, .goto 4, 3)) rfl
theorem dX9_in_14 : decode cX9_in 14 = .ok (.iconst 0, 1) := td tX9_in_0_ok 8 (q := (14, .iconst 0, 1)) rfl
theorem dX9_in_15 : decode cX9_in 15 = .ok (.ireturn, 1) := td tX9_in_0_ok 9 (q := (15, .ireturn, 1)) rfl
def fX9_in (x0 : Int32) (x1 : Int32) (x2 : Int32) : Option (Int32) :=
  (if x0 < x1 then (some (0 : Int32)) else (if x2 < x0 then (some (0 : Int32)) else (some (1 : Int32))))
set_option maxHeartbeats 4000000 in
set_option maxRecDepth 100000 in
theorem mX9_in {l : Launch} {D : va_G} {W0 : va_W} {tys : nd_T} {x0 : Int32} {x1 : Int32} {x2 : Int32} {r : Int32} (hs : fX9_in x0 x1 x2 = some r) : nd_C l yX9_in cX9_in 3 (some .boolean) 0 0 D tys [.int x0, .int x1, .int x2] W0 W0 (some (.int r)) := by
  refine nd_ofCz (by decide) (Nat.le_of_ble_eq_true rfl) (fun p e s m args below meth c_ ls A Q hx hb hml hown hts hl hP hK hD hS hA hN hret => ?_)
  have hown : s.vm.findClass RX9 = some m.cls := hown
  have hl : lv_has ls 3 [(0, .int x0), (1, .int x1), (2, .int x2)] := hl
  have hret : ∀ (z0 : Int32) {H : Heap} {locs : List Loc} {pc : Nat} {ls : Array Slot}, some z0 = some r → (z0 = 0 ∨ z0 = 1) → va_P D vwCl W0 H → va_S A s.heap H locs → decode cX9_in pc = .ok (.ireturn, 1) → W p l e ⟨0, 0, 0, 0⟩ s m args below meth c_ H locs 0 0 Q (F0 m pc ls [.int z0]) := by
    intro z0 H locs pc ls h hz hP hS hd
    cases h
    exact hret hz hP hS hd
  rw [fX9_in] at hs
  refine lv_iload_n hx hb dX9_in_0 rfl (lv_at hl 0 rfl) ?_
  refine lv_iload_n hx hb dX9_in_1 rfl (lv_at hl 1 rfl) ?_
  refine lv_icmp_lt (tgt := 14) hx hb dX9_in_2 (by decide) (fun b1 => ?_) (fun b1 => ?_)
  · have hs := ite_t hs b1
    refine lv_iconst (v := (0 : Int32)) hx hb dX9_in_14 (by decide) ?_
    exact hret _ hs (Or.inl rfl) hP hS dX9_in_15
  · have hs := ite_f hs b1
    refine lv_iload_n hx hb dX9_in_5 rfl (lv_at hl 0 rfl) ?_
    refine lv_iload_n hx hb dX9_in_6 rfl (lv_at hl 2 rfl) ?_
    refine lv_icmp_gt (tgt := 14) hx hb dX9_in_7 (by decide) (fun b2 => ?_) (fun b2 => ?_)
    · have hs := ite_t hs b2
      refine lv_iconst (v := (0 : Int32)) hx hb dX9_in_14 (by decide) ?_
      exact hret _ hs (Or.inl rfl) hP hS dX9_in_15
    · have hs := ite_f hs b2
      refine lv_iconst (v := (1 : Int32)) hx hb dX9_in_10 (by decide) ?_
      refine lv_goto (tgt := 15) hx hb dX9_in_11 (by decide) ?_
      exact hret _ hs (Or.inr rfl) hP hS dX9_in_15
def tX9_fails_0 : List (Nat × Instr × Nat) := [(0, .aload_n 0, 1), (1, .iload_n 1, 1), (2, .putfield 25, 3), (5, .iconst 0, 1), (6, .ireturn, 1)]
theorem tX9_fails_0_ok : tX9_fails_0.all (fun q => decide (decode cX9_fails q.1 = .ok q.2)) = true := by decide +kernel
theorem dX9_fails_0 : decode cX9_fails 0 = .ok (.aload_n 0, 1) := td tX9_fails_0_ok 0 (q := (0, .aload_n 0, 1)) rfl
theorem dX9_fails_1 : decode cX9_fails 1 = .ok (.iload_n 1, 1) := td tX9_fails_0_ok 1 (q := (1, .iload_n 1, 1)) rfl
theorem dX9_fails_2 : decode cX9_fails 2 = .ok (.putfield 25, 3) := td tX9_fails_0_ok 2 (q := (2, .putfield 25, 3)) rfl
theorem dX9_fails_5 : decode cX9_fails 5 = .ok (.iconst 0, 1) := td tX9_fails_0_ok 3 (q := (5, .iconst 0, 1)) rfl
theorem dX9_fails_6 : decode cX9_fails 6 = .ok (.ireturn, 1) := td tX9_fails_0_ok 4 (q := (6, .ireturn, 1)) rfl
def fX9_fails (mt : Int32) (x1 : Int32) : Option (Int32 × Int32) :=
  (some ((0 : Int32), x1))
set_option maxHeartbeats 4000000 in
set_option maxRecDepth 100000 in
theorem mX9_fails {l : Launch} {D : va_G} {bd : Nat → Nat} {cI : ClassId} {ms : (Nat → Int32)} {msv : (Nat → Int32)} {mb : (Nat → Int32)} {mf : (Nat → Int32)} {mr : (Nat → Int32)} {mt : Int32} {mn : Int32} {ml : Int32} {mat : Int32} {mw : Int32} {mm : Int32} {mh : Int64} {x1 : Int32} {r : Int32} {mt' : Int32} (hs : fX9_fails mt x1 = some (r, mt')) : nd_C l yX9_fails cX9_fails 2 (some .int) 0 0 D [(cI, .int)] [.ref (bd 0), .int x1] (MW bd cI ms msv mb mf mr mt mn ml mat mw mm mh) (MW bd cI ms msv mb mf mr mt' mn ml mat mw mm mh) (some (.int r)) := by
  refine nd_ofCi (by decide) (Nat.le_of_ble_eq_true rfl) (fun p e s m args below meth c_ ls A Q hx hb hml hown hts hl hP hK hD hS hA hN hret => ?_)
  have hown : s.vm.findClass RX9 = some m.cls := hown
  have hl : lv_has ls 2 [(0, .ref (bd 0)), (1, .int x1)] := hl
  have hret : ∀ (z0 : Int32) (z1 : Int32) {H : Heap} {locs : List Loc} {pc : Nat} {ls : Array Slot}, some (z0, z1) = some (r, mt') → va_P D vwCl (MW bd cI ms msv mb mf mr z1 mn ml mat mw mm mh) H → va_S A s.heap H locs → decode cX9_fails pc = .ok (.ireturn, 1) → W p l e ⟨0, 0, 0, 0⟩ s m args below meth c_ H locs 0 0 Q (F0 m pc ls [.int z0]) := by
    intro z0 z1 H locs pc ls h hP hS hd
    cases h
    exact hret hP hS hd
  rw [fX9_fails] at hs
  refine lv_aload_n hx hb dX9_fails_0 rfl (lv_at hl 0 rfl) ?_
  refine lv_iload_n hx hb dX9_fails_1 rfl (lv_at hl 1 rfl) ?_
  refine pf_X9_25 hx hb hts hown hK hP hD hS 0 rfl rfl dX9_fails_2 (fun H locs hP hD hS => ?_)
  have hP : va_P D vwCl (MW bd cI ms msv mb mf mr x1 mn ml mat mw mm mh) H := hP
  have hD : va_D A (MW bd cI ms msv mb mf mr x1 mn ml mat mw mm mh) := hD
  refine lv_iconst (v := (0 : Int32)) hx hb dX9_fails_5 (by decide) ?_
  exact hret _ _ hs hP hS dX9_fails_6
def tX9_isPiece_0 : List (Nat × Instr × Nat) := [(0, .iload_n 1, 1), (1, .iconst 0, 1), (2, .aload_n 0, 1), (3, .getfield 7, 3), (6, .iconst 0, 1), (7, .iaload, 1), (8, .iconst 1, 1), (9, .isub, 1), (10, .invokestatic 29, 3), (13, .ireturn, 1)]
theorem tX9_isPiece_0_ok : tX9_isPiece_0.all (fun q => decide (decode cX9_isPiece q.1 = .ok q.2)) = true := by decide +kernel
theorem dX9_isPiece_0 : decode cX9_isPiece 0 = .ok (.iload_n 1, 1) := td tX9_isPiece_0_ok 0 (q := (0, .iload_n 1, 1)) rfl
theorem dX9_isPiece_1 : decode cX9_isPiece 1 = .ok (.iconst 0, 1) := td tX9_isPiece_0_ok 1 (q := (1, .iconst 0, 1)) rfl
theorem dX9_isPiece_2 : decode cX9_isPiece 2 = .ok (.aload_n 0, 1) := td tX9_isPiece_0_ok 2 (q := (2, .aload_n 0, 1)) rfl
theorem dX9_isPiece_3 : decode cX9_isPiece 3 = .ok (.getfield 7, 3) := td tX9_isPiece_0_ok 3 (q := (3, .getfield 7, 3)) rfl
theorem dX9_isPiece_6 : decode cX9_isPiece 6 = .ok (.iconst 0, 1) := td tX9_isPiece_0_ok 4 (q := (6, .iconst 0, 1)) rfl
theorem dX9_isPiece_7 : decode cX9_isPiece 7 = .ok (.iaload, 1) := td tX9_isPiece_0_ok 5 (q := (7, .iaload, 1)) rfl
theorem dX9_isPiece_8 : decode cX9_isPiece 8 = .ok (.iconst 1, 1) := td tX9_isPiece_0_ok 6 (q := (8, .iconst 1, 1)) rfl
theorem dX9_isPiece_9 : decode cX9_isPiece 9 = .ok (.isub, 1) := td tX9_isPiece_0_ok 7 (q := (9, .isub, 1)) rfl
theorem dX9_isPiece_10 : decode cX9_isPiece 10 = .ok (.invokestatic 29, 3) := td tX9_isPiece_0_ok 8 (q := (10, .invokestatic 29, 3)) rfl
theorem dX9_isPiece_13 : decode cX9_isPiece 13 = .ok (.ireturn, 1) := td tX9_isPiece_0_ok 9 (q := (13, .ireturn, 1)) rfl
def fX9_isPiece (ms : (Nat → Int32)) (x1 : Int32) : Option (Int32) :=
  (Option.bind (aget ms 531 (0 : Int32)) (fun t1 => (Option.bind (fX9_in x1 (0 : Int32) (t1 - (1 : Int32))) (fun q2 => (Option.bind (bz q2) (fun t3 => (some q2)))))))
set_option maxHeartbeats 4000000 in
set_option maxRecDepth 100000 in
theorem mX9_isPiece {l : Launch} {D : va_G} {bd : Nat → Nat} {cI : ClassId} {ms : (Nat → Int32)} {msv : (Nat → Int32)} {mb : (Nat → Int32)} {mf : (Nat → Int32)} {mr : (Nat → Int32)} {mt : Int32} {mn : Int32} {ml : Int32} {mat : Int32} {mw : Int32} {mm : Int32} {mh : Int64} {x1 : Int32} {r : Int32} (hs : fX9_isPiece ms x1 = some r) : nd_C l yX9_isPiece cX9_isPiece 2 (some .boolean) 1 22 D [(cI, .int)] [.ref (bd 0), .int x1] (MW bd cI ms msv mb mf mr mt mn ml mat mw mm mh) (MW bd cI ms msv mb mf mr mt mn ml mat mw mm mh) (some (.int r)) := by
  refine nd_ofCz (by decide) (Nat.le_of_ble_eq_true rfl) (fun p e s m args below meth c_ ls A Q hx hb hml hown hts hl hP hK hD hS hA hN hret => ?_)
  have hown : s.vm.findClass RX9 = some m.cls := hown
  have hl : lv_has ls 2 [(0, .ref (bd 0)), (1, .int x1)] := hl
  have hret : ∀ (z0 : Int32) {H : Heap} {locs : List Loc} {pc : Nat} {ls : Array Slot}, some z0 = some r → (z0 = 0 ∨ z0 = 1) → va_P D vwCl (MW bd cI ms msv mb mf mr mt mn ml mat mw mm mh) H → va_S A s.heap H locs → decode cX9_isPiece pc = .ok (.ireturn, 1) → W p l e ⟨1, 0, 0, 22⟩ s m args below meth c_ H locs 0 0 Q (F0 m pc ls [.int z0]) := by
    intro z0 H locs pc ls h hz hP hS hd
    cases h
    exact hret hz hP hS hd
  rw [fX9_isPiece] at hs
  refine lv_iload_n hx hb dX9_isPiece_0 rfl (lv_at hl 1 rfl) ?_
  refine lv_iconst (v := (0 : Int32)) hx hb dX9_isPiece_1 (by decide) ?_
  refine lv_aload_n hx hb dX9_isPiece_2 rfl (lv_at hl 0 rfl) ?_
  refine gf_X9_7 hx hb hts hown hK hP 0 rfl rfl dX9_isPiece_3 ?_
  refine lv_iconst (v := (0 : Int32)) hx hb dX9_isPiece_6 (by decide) ?_
  obtain ⟨t1, et1, hs⟩ := ob hs
  refine nd_iald hx hb hK hP 1 0 rfl rfl et1 dX9_isPiece_7 ?_
  refine lv_iconst (v := (1 : Int32)) hx hb dX9_isPiece_8 (by decide) ?_
  refine lv_isub hx hb dX9_isPiece_9 ?_
  obtain ⟨q2, eq2, hs⟩ := ob hs
  refine nd_callS (As := [.int x1, .int (0 : Int32), .int (t1 - (1 : Int32))]) (rest := []) (st1 := [.int q2]) hx hb hml hown hts hl hP hK hD hS hA hN (mX9_in eq2) is_X9_in wd_127 rfl rfl ⟨Nat.le_of_ble_eq_true rfl, Nat.le_of_ble_eq_true rfl⟩ (Nat.le_of_ble_eq_true rfl) ⟨Nat.zero_le _, Nat.zero_le _⟩ dX9_isPiece_10 rfl rfl (fun H locs hP hD hS => ?_)
  obtain ⟨t3, et3, hs⟩ := ob hs
  exact hret _ hs (bz_e et3) hP hS dX9_isPiece_13
def tX9_of_0 : List (Nat × Instr × Nat) := [(0, .aload_n 0, 1), (1, .getfield 7, 3), (4, .iconst 1, 1), (5, .iconst 5, 1), (6, .iload_n 1, 1), (7, .imul, 1), (8, .iadd, 1), (9, .iload_n 2, 1), (10, .iadd, 1), (11, .iaload, 1), (12, .ireturn, 1)]
theorem tX9_of_0_ok : tX9_of_0.all (fun q => decide (decode cX9_of q.1 = .ok q.2)) = true := by decide +kernel
theorem dX9_of_0 : decode cX9_of 0 = .ok (.aload_n 0, 1) := td tX9_of_0_ok 0 (q := (0, .aload_n 0, 1)) rfl
theorem dX9_of_1 : decode cX9_of 1 = .ok (.getfield 7, 3) := td tX9_of_0_ok 1 (q := (1, .getfield 7, 3)) rfl
theorem dX9_of_4 : decode cX9_of 4 = .ok (.iconst 1, 1) := td tX9_of_0_ok 2 (q := (4, .iconst 1, 1)) rfl
theorem dX9_of_5 : decode cX9_of 5 = .ok (.iconst 5, 1) := td tX9_of_0_ok 3 (q := (5, .iconst 5, 1)) rfl
theorem dX9_of_6 : decode cX9_of 6 = .ok (.iload_n 1, 1) := td tX9_of_0_ok 4 (q := (6, .iload_n 1, 1)) rfl
theorem dX9_of_7 : decode cX9_of 7 = .ok (.imul, 1) := td tX9_of_0_ok 5 (q := (7, .imul, 1)) rfl
theorem dX9_of_8 : decode cX9_of 8 = .ok (.iadd, 1) := td tX9_of_0_ok 6 (q := (8, .iadd, 1)) rfl
theorem dX9_of_9 : decode cX9_of 9 = .ok (.iload_n 2, 1) := td tX9_of_0_ok 7 (q := (9, .iload_n 2, 1)) rfl
theorem dX9_of_10 : decode cX9_of 10 = .ok (.iadd, 1) := td tX9_of_0_ok 8 (q := (10, .iadd, 1)) rfl
theorem dX9_of_11 : decode cX9_of 11 = .ok (.iaload, 1) := td tX9_of_0_ok 9 (q := (11, .iaload, 1)) rfl
theorem dX9_of_12 : decode cX9_of 12 = .ok (.ireturn, 1) := td tX9_of_0_ok 10 (q := (12, .ireturn, 1)) rfl
def fX9_of (ms : (Nat → Int32)) (x1 : Int32) (x2 : Int32) : Option (Int32) :=
  (Option.bind (aget ms 531 (((1 : Int32) + ((5 : Int32) * x1)) + x2)) (fun t1 => (some t1)))
set_option maxHeartbeats 4000000 in
set_option maxRecDepth 100000 in
theorem mX9_of {l : Launch} {D : va_G} {bd : Nat → Nat} {cI : ClassId} {ms : (Nat → Int32)} {msv : (Nat → Int32)} {mb : (Nat → Int32)} {mf : (Nat → Int32)} {mr : (Nat → Int32)} {mt : Int32} {mn : Int32} {ml : Int32} {mat : Int32} {mw : Int32} {mm : Int32} {mh : Int64} {x1 : Int32} {x2 : Int32} {r : Int32} (hs : fX9_of ms x1 x2 = some r) : nd_C l yX9_of cX9_of 3 (some .int) 0 0 D [(cI, .int)] [.ref (bd 0), .int x1, .int x2] (MW bd cI ms msv mb mf mr mt mn ml mat mw mm mh) (MW bd cI ms msv mb mf mr mt mn ml mat mw mm mh) (some (.int r)) := by
  refine nd_ofCi (by decide) (Nat.le_of_ble_eq_true rfl) (fun p e s m args below meth c_ ls A Q hx hb hml hown hts hl hP hK hD hS hA hN hret => ?_)
  have hown : s.vm.findClass RX9 = some m.cls := hown
  have hl : lv_has ls 3 [(0, .ref (bd 0)), (1, .int x1), (2, .int x2)] := hl
  have hret : ∀ (z0 : Int32) {H : Heap} {locs : List Loc} {pc : Nat} {ls : Array Slot}, some z0 = some r → va_P D vwCl (MW bd cI ms msv mb mf mr mt mn ml mat mw mm mh) H → va_S A s.heap H locs → decode cX9_of pc = .ok (.ireturn, 1) → W p l e ⟨0, 0, 0, 0⟩ s m args below meth c_ H locs 0 0 Q (F0 m pc ls [.int z0]) := by
    intro z0 H locs pc ls h hP hS hd
    cases h
    exact hret hP hS hd
  rw [fX9_of] at hs
  refine lv_aload_n hx hb dX9_of_0 rfl (lv_at hl 0 rfl) ?_
  refine gf_X9_7 hx hb hts hown hK hP 0 rfl rfl dX9_of_1 ?_
  refine lv_iconst (v := (1 : Int32)) hx hb dX9_of_4 (by decide) ?_
  refine lv_iconst (v := (5 : Int32)) hx hb dX9_of_5 (by decide) ?_
  refine lv_iload_n hx hb dX9_of_6 rfl (lv_at hl 1 rfl) ?_
  refine lv_imul hx hb dX9_of_7 ?_
  refine lv_iadd hx hb dX9_of_8 ?_
  refine lv_iload_n hx hb dX9_of_9 rfl (lv_at hl 2 rfl) ?_
  refine lv_iadd hx hb dX9_of_10 ?_
  obtain ⟨t1, et1, hs⟩ := ob hs
  refine nd_iald hx hb hK hP 1 0 rfl rfl et1 dX9_of_11 ?_
  exact hret _ hs hP hS dX9_of_12
def tX9_lay_0 : List (Nat × Instr × Nat) := [(0, .aload_n 0, 1), (1, .getfield 7, 3), (4, .iconst 1, 1), (5, .iconst 5, 1), (6, .iload_n 1, 1), (7, .imul, 1), (8, .iadd, 1), (9, .iload_n 2, 1), (10, .iadd, 1), (11, .iload_n 3, 1), (12, .iastore, 1), (13, .return_, 1)]
theorem tX9_lay_0_ok : tX9_lay_0.all (fun q => decide (decode cX9_lay q.1 = .ok q.2)) = true := by decide +kernel
theorem dX9_lay_0 : decode cX9_lay 0 = .ok (.aload_n 0, 1) := td tX9_lay_0_ok 0 (q := (0, .aload_n 0, 1)) rfl
theorem dX9_lay_1 : decode cX9_lay 1 = .ok (.getfield 7, 3) := td tX9_lay_0_ok 1 (q := (1, .getfield 7, 3)) rfl
theorem dX9_lay_4 : decode cX9_lay 4 = .ok (.iconst 1, 1) := td tX9_lay_0_ok 2 (q := (4, .iconst 1, 1)) rfl
theorem dX9_lay_5 : decode cX9_lay 5 = .ok (.iconst 5, 1) := td tX9_lay_0_ok 3 (q := (5, .iconst 5, 1)) rfl
theorem dX9_lay_6 : decode cX9_lay 6 = .ok (.iload_n 1, 1) := td tX9_lay_0_ok 4 (q := (6, .iload_n 1, 1)) rfl
theorem dX9_lay_7 : decode cX9_lay 7 = .ok (.imul, 1) := td tX9_lay_0_ok 5 (q := (7, .imul, 1)) rfl
theorem dX9_lay_8 : decode cX9_lay 8 = .ok (.iadd, 1) := td tX9_lay_0_ok 6 (q := (8, .iadd, 1)) rfl
theorem dX9_lay_9 : decode cX9_lay 9 = .ok (.iload_n 2, 1) := td tX9_lay_0_ok 7 (q := (9, .iload_n 2, 1)) rfl
theorem dX9_lay_10 : decode cX9_lay 10 = .ok (.iadd, 1) := td tX9_lay_0_ok 8 (q := (10, .iadd, 1)) rfl
theorem dX9_lay_11 : decode cX9_lay 11 = .ok (.iload_n 3, 1) := td tX9_lay_0_ok 9 (q := (11, .iload_n 3, 1)) rfl
theorem dX9_lay_12 : decode cX9_lay 12 = .ok (.iastore, 1) := td tX9_lay_0_ok 10 (q := (12, .iastore, 1)) rfl
theorem dX9_lay_13 : decode cX9_lay 13 = .ok (.return_, 1) := td tX9_lay_0_ok 11 (q := (13, .return_, 1)) rfl
def fX9_lay (ms : (Nat → Int32)) (x1 : Int32) (x2 : Int32) (x3 : Int32) : Option ((Nat → Int32)) :=
  (Option.bind (aput ms 531 (((1 : Int32) + ((5 : Int32) * x1)) + x2) x3) (fun c1 => (some c1)))
set_option maxHeartbeats 4000000 in
set_option maxRecDepth 100000 in
theorem mX9_lay {l : Launch} {D : va_G} {bd : Nat → Nat} {cI : ClassId} {ms : (Nat → Int32)} {msv : (Nat → Int32)} {mb : (Nat → Int32)} {mf : (Nat → Int32)} {mr : (Nat → Int32)} {mt : Int32} {mn : Int32} {ml : Int32} {mat : Int32} {mw : Int32} {mm : Int32} {mh : Int64} {x1 : Int32} {x2 : Int32} {x3 : Int32} {ms' : (Nat → Int32)} (hs : fX9_lay ms x1 x2 x3 = some ms') : nd_C l yX9_lay cX9_lay 4 none 0 0 D [(cI, .int)] [.ref (bd 0), .int x1, .int x2, .int x3] (MW bd cI ms msv mb mf mr mt mn ml mat mw mm mh) (MW bd cI ms' msv mb mf mr mt mn ml mat mw mm mh) none := by
  refine nd_ofCv (by decide) (Nat.le_of_ble_eq_true rfl) (fun p e s m args below meth c_ ls A Q hx hb hml hown hts hl hP hK hD hS hA hN hret => ?_)
  have hown : s.vm.findClass RX9 = some m.cls := hown
  have hl : lv_has ls 4 [(0, .ref (bd 0)), (1, .int x1), (2, .int x2), (3, .int x3)] := hl
  have hret : ∀ (z0 : (Nat → Int32)) {H : Heap} {locs : List Loc} {pc : Nat} {ls : Array Slot}, some z0 = some ms' → va_P D vwCl (MW bd cI z0 msv mb mf mr mt mn ml mat mw mm mh) H → va_S A s.heap H locs → decode cX9_lay pc = .ok (.return_, 1) → W p l e ⟨0, 0, 0, 0⟩ s m args below meth c_ H locs 0 0 Q (F0 m pc ls []) := by
    intro z0 H locs pc ls h hP hS hd
    cases h
    exact hret hP hS hd
  rw [fX9_lay] at hs
  refine lv_aload_n hx hb dX9_lay_0 rfl (lv_at hl 0 rfl) ?_
  refine gf_X9_7 hx hb hts hown hK hP 0 rfl rfl dX9_lay_1 ?_
  refine lv_iconst (v := (1 : Int32)) hx hb dX9_lay_4 (by decide) ?_
  refine lv_iconst (v := (5 : Int32)) hx hb dX9_lay_5 (by decide) ?_
  refine lv_iload_n hx hb dX9_lay_6 rfl (lv_at hl 1 rfl) ?_
  refine lv_imul hx hb dX9_lay_7 ?_
  refine lv_iadd hx hb dX9_lay_8 ?_
  refine lv_iload_n hx hb dX9_lay_9 rfl (lv_at hl 2 rfl) ?_
  refine lv_iadd hx hb dX9_lay_10 ?_
  refine lv_iload_n hx hb dX9_lay_11 rfl (lv_at hl 3 rfl) ?_
  obtain ⟨c1, ec1, hs⟩ := ob hs
  refine nd_iast hx hb hK hP hD hS 1 0 rfl rfl ec1 dX9_lay_12 (fun H locs hP hD hS => ?_)
  have hP : va_P D vwCl (MW bd cI c1 msv mb mf mr mt mn ml mat mw mm mh) H := hP
  have hD : va_D A (MW bd cI c1 msv mb mf mr mt mn ml mat mw mm mh) := hD
  exact hret _ hs hP hS dX9_lay_13
def tX9_upperOf_0 : List (Nat × Instr × Nat) := [(0, .aload_n 0, 1), (1, .iload_n 1, 1), (2, .iconst 3, 1), (3, .invokevirtual 33, 3), (6, .iconst 1, 1), (7, .isub, 1), (8, .ireturn, 1)]
theorem tX9_upperOf_0_ok : tX9_upperOf_0.all (fun q => decide (decode cX9_upperOf q.1 = .ok q.2)) = true := by decide +kernel
theorem dX9_upperOf_0 : decode cX9_upperOf 0 = .ok (.aload_n 0, 1) := td tX9_upperOf_0_ok 0 (q := (0, .aload_n 0, 1)) rfl
theorem dX9_upperOf_1 : decode cX9_upperOf 1 = .ok (.iload_n 1, 1) := td tX9_upperOf_0_ok 1 (q := (1, .iload_n 1, 1)) rfl
theorem dX9_upperOf_2 : decode cX9_upperOf 2 = .ok (.iconst 3, 1) := td tX9_upperOf_0_ok 2 (q := (2, .iconst 3, 1)) rfl
theorem dX9_upperOf_3 : decode cX9_upperOf 3 = .ok (.invokevirtual 33, 3) := td tX9_upperOf_0_ok 3 (q := (3, .invokevirtual 33, 3)) rfl
theorem dX9_upperOf_6 : decode cX9_upperOf 6 = .ok (.iconst 1, 1) := td tX9_upperOf_0_ok 4 (q := (6, .iconst 1, 1)) rfl
theorem dX9_upperOf_7 : decode cX9_upperOf 7 = .ok (.isub, 1) := td tX9_upperOf_0_ok 5 (q := (7, .isub, 1)) rfl
theorem dX9_upperOf_8 : decode cX9_upperOf 8 = .ok (.ireturn, 1) := td tX9_upperOf_0_ok 6 (q := (8, .ireturn, 1)) rfl
def fX9_upperOf (ms : (Nat → Int32)) (x1 : Int32) : Option (Int32) :=
  (Option.bind (fX9_of ms x1 (3 : Int32)) (fun q1 => (some (q1 - (1 : Int32)))))
set_option maxHeartbeats 4000000 in
set_option maxRecDepth 100000 in
theorem mX9_upperOf {l : Launch} {D : va_G} {bd : Nat → Nat} {cI : ClassId} {ms : (Nat → Int32)} {msv : (Nat → Int32)} {mb : (Nat → Int32)} {mf : (Nat → Int32)} {mr : (Nat → Int32)} {mt : Int32} {mn : Int32} {ml : Int32} {mat : Int32} {mw : Int32} {mm : Int32} {mh : Int64} {x1 : Int32} {r : Int32} (hs : fX9_upperOf ms x1 = some r) : nd_C l yX9_upperOf cX9_upperOf 2 (some .int) 1 22 D [(cI, .int)] [.ref (bd 0), .int x1] (MW bd cI ms msv mb mf mr mt mn ml mat mw mm mh) (MW bd cI ms msv mb mf mr mt mn ml mat mw mm mh) (some (.int r)) := by
  refine nd_ofCi (by decide) (Nat.le_of_ble_eq_true rfl) (fun p e s m args below meth c_ ls A Q hx hb hml hown hts hl hP hK hD hS hA hN hret => ?_)
  have hown : s.vm.findClass RX9 = some m.cls := hown
  have hl : lv_has ls 2 [(0, .ref (bd 0)), (1, .int x1)] := hl
  have hret : ∀ (z0 : Int32) {H : Heap} {locs : List Loc} {pc : Nat} {ls : Array Slot}, some z0 = some r → va_P D vwCl (MW bd cI ms msv mb mf mr mt mn ml mat mw mm mh) H → va_S A s.heap H locs → decode cX9_upperOf pc = .ok (.ireturn, 1) → W p l e ⟨1, 0, 0, 22⟩ s m args below meth c_ H locs 0 0 Q (F0 m pc ls [.int z0]) := by
    intro z0 H locs pc ls h hP hS hd
    cases h
    exact hret hP hS hd
  rw [fX9_upperOf] at hs
  refine lv_aload_n hx hb dX9_upperOf_0 rfl (lv_at hl 0 rfl) ?_
  refine lv_iload_n hx hb dX9_upperOf_1 rfl (lv_at hl 1 rfl) ?_
  refine lv_iconst (v := (3 : Int32)) hx hb dX9_upperOf_2 (by decide) ?_
  obtain ⟨q1, eq1, hs⟩ := ob hs
  refine nd_callV (As := [.int x1, .int (3 : Int32)]) (rest := []) (st1 := [.int q1]) hx hb hml hown hts hl hP hK hD hS hA hN (mX9_of eq1) iv_X9_of wd_307 0 rfl rfl rfl rfl ⟨Nat.le_of_ble_eq_true rfl, Nat.le_of_ble_eq_true rfl⟩ (Nat.le_of_ble_eq_true rfl) ⟨Nat.zero_le _, Nat.zero_le _⟩ dX9_upperOf_3 rfl rfl (fun H locs hP hD hS => ?_)
  refine lv_iconst (v := (1 : Int32)) hx hb dX9_upperOf_6 (by decide) ?_
  refine lv_isub hx hb dX9_upperOf_7 ?_
  exact hret _ hs hP hS dX9_upperOf_8
def tX9_lowerOf_0 : List (Nat × Instr × Nat) := [(0, .aload_n 0, 1), (1, .iload_n 1, 1), (2, .iconst 4, 1), (3, .invokevirtual 33, 3), (6, .iconst 1, 1), (7, .isub, 1), (8, .ireturn, 1)]
theorem tX9_lowerOf_0_ok : tX9_lowerOf_0.all (fun q => decide (decode cX9_lowerOf q.1 = .ok q.2)) = true := by decide +kernel
theorem dX9_lowerOf_0 : decode cX9_lowerOf 0 = .ok (.aload_n 0, 1) := td tX9_lowerOf_0_ok 0 (q := (0, .aload_n 0, 1)) rfl
theorem dX9_lowerOf_1 : decode cX9_lowerOf 1 = .ok (.iload_n 1, 1) := td tX9_lowerOf_0_ok 1 (q := (1, .iload_n 1, 1)) rfl
theorem dX9_lowerOf_2 : decode cX9_lowerOf 2 = .ok (.iconst 4, 1) := td tX9_lowerOf_0_ok 2 (q := (2, .iconst 4, 1)) rfl
theorem dX9_lowerOf_3 : decode cX9_lowerOf 3 = .ok (.invokevirtual 33, 3) := td tX9_lowerOf_0_ok 3 (q := (3, .invokevirtual 33, 3)) rfl
theorem dX9_lowerOf_6 : decode cX9_lowerOf 6 = .ok (.iconst 1, 1) := td tX9_lowerOf_0_ok 4 (q := (6, .iconst 1, 1)) rfl
theorem dX9_lowerOf_7 : decode cX9_lowerOf 7 = .ok (.isub, 1) := td tX9_lowerOf_0_ok 5 (q := (7, .isub, 1)) rfl
theorem dX9_lowerOf_8 : decode cX9_lowerOf 8 = .ok (.ireturn, 1) := td tX9_lowerOf_0_ok 6 (q := (8, .ireturn, 1)) rfl
def fX9_lowerOf (ms : (Nat → Int32)) (x1 : Int32) : Option (Int32) :=
  (Option.bind (fX9_of ms x1 (4 : Int32)) (fun q1 => (some (q1 - (1 : Int32)))))
set_option maxHeartbeats 4000000 in
set_option maxRecDepth 100000 in
theorem mX9_lowerOf {l : Launch} {D : va_G} {bd : Nat → Nat} {cI : ClassId} {ms : (Nat → Int32)} {msv : (Nat → Int32)} {mb : (Nat → Int32)} {mf : (Nat → Int32)} {mr : (Nat → Int32)} {mt : Int32} {mn : Int32} {ml : Int32} {mat : Int32} {mw : Int32} {mm : Int32} {mh : Int64} {x1 : Int32} {r : Int32} (hs : fX9_lowerOf ms x1 = some r) : nd_C l yX9_lowerOf cX9_lowerOf 2 (some .int) 1 22 D [(cI, .int)] [.ref (bd 0), .int x1] (MW bd cI ms msv mb mf mr mt mn ml mat mw mm mh) (MW bd cI ms msv mb mf mr mt mn ml mat mw mm mh) (some (.int r)) := by
  refine nd_ofCi (by decide) (Nat.le_of_ble_eq_true rfl) (fun p e s m args below meth c_ ls A Q hx hb hml hown hts hl hP hK hD hS hA hN hret => ?_)
  have hown : s.vm.findClass RX9 = some m.cls := hown
  have hl : lv_has ls 2 [(0, .ref (bd 0)), (1, .int x1)] := hl
  have hret : ∀ (z0 : Int32) {H : Heap} {locs : List Loc} {pc : Nat} {ls : Array Slot}, some z0 = some r → va_P D vwCl (MW bd cI ms msv mb mf mr mt mn ml mat mw mm mh) H → va_S A s.heap H locs → decode cX9_lowerOf pc = .ok (.ireturn, 1) → W p l e ⟨1, 0, 0, 22⟩ s m args below meth c_ H locs 0 0 Q (F0 m pc ls [.int z0]) := by
    intro z0 H locs pc ls h hP hS hd
    cases h
    exact hret hP hS hd
  rw [fX9_lowerOf] at hs
  refine lv_aload_n hx hb dX9_lowerOf_0 rfl (lv_at hl 0 rfl) ?_
  refine lv_iload_n hx hb dX9_lowerOf_1 rfl (lv_at hl 1 rfl) ?_
  refine lv_iconst (v := (4 : Int32)) hx hb dX9_lowerOf_2 (by decide) ?_
  obtain ⟨q1, eq1, hs⟩ := ob hs
  refine nd_callV (As := [.int x1, .int (4 : Int32)]) (rest := []) (st1 := [.int q1]) hx hb hml hown hts hl hP hK hD hS hA hN (mX9_of eq1) iv_X9_of wd_307 0 rfl rfl rfl rfl ⟨Nat.le_of_ble_eq_true rfl, Nat.le_of_ble_eq_true rfl⟩ (Nat.le_of_ble_eq_true rfl) ⟨Nat.zero_le _, Nat.zero_le _⟩ dX9_lowerOf_3 rfl rfl (fun H locs hP hD hS => ?_)
  refine lv_iconst (v := (1 : Int32)) hx hb dX9_lowerOf_6 (by decide) ?_
  refine lv_isub hx hb dX9_lowerOf_7 ?_
  exact hret _ hs hP hS dX9_lowerOf_8
def tX9_placeOf_0 : List (Nat × Instr × Nat) := [(0, .bipush 51, 2), (2, .bipush 8, 2), (4, .bipush 6, 2), (6, .iload_n 0, 1), (7, .imul, 1), (8, .iload_n 1, 1), (9, .iadd, 1), (10, .imul, 1), (11, .iadd, 1), (12, .ireturn, 1)]
theorem tX9_placeOf_0_ok : tX9_placeOf_0.all (fun q => decide (decode cX9_placeOf q.1 = .ok q.2)) = true := by decide +kernel
theorem dX9_placeOf_0 : decode cX9_placeOf 0 = .ok (.bipush 51, 2) := td tX9_placeOf_0_ok 0 (q := (0, .bipush 51, 2)) rfl
theorem dX9_placeOf_2 : decode cX9_placeOf 2 = .ok (.bipush 8, 2) := td tX9_placeOf_0_ok 1 (q := (2, .bipush 8, 2)) rfl
theorem dX9_placeOf_4 : decode cX9_placeOf 4 = .ok (.bipush 6, 2) := td tX9_placeOf_0_ok 2 (q := (4, .bipush 6, 2)) rfl
theorem dX9_placeOf_6 : decode cX9_placeOf 6 = .ok (.iload_n 0, 1) := td tX9_placeOf_0_ok 3 (q := (6, .iload_n 0, 1)) rfl
theorem dX9_placeOf_7 : decode cX9_placeOf 7 = .ok (.imul, 1) := td tX9_placeOf_0_ok 4 (q := (7, .imul, 1)) rfl
theorem dX9_placeOf_8 : decode cX9_placeOf 8 = .ok (.iload_n 1, 1) := td tX9_placeOf_0_ok 5 (q := (8, .iload_n 1, 1)) rfl
theorem dX9_placeOf_9 : decode cX9_placeOf 9 = .ok (.iadd, 1) := td tX9_placeOf_0_ok 6 (q := (9, .iadd, 1)) rfl
theorem dX9_placeOf_10 : decode cX9_placeOf 10 = .ok (.imul, 1) := td tX9_placeOf_0_ok 7 (q := (10, .imul, 1)) rfl
theorem dX9_placeOf_11 : decode cX9_placeOf 11 = .ok (.iadd, 1) := td tX9_placeOf_0_ok 8 (q := (11, .iadd, 1)) rfl
theorem dX9_placeOf_12 : decode cX9_placeOf 12 = .ok (.ireturn, 1) := td tX9_placeOf_0_ok 9 (q := (12, .ireturn, 1)) rfl
def fX9_placeOf (x0 : Int32) (x1 : Int32) : Option (Int32) :=
  (some ((51 : Int32) + ((8 : Int32) * (((6 : Int32) * x0) + x1))))
set_option maxHeartbeats 4000000 in
set_option maxRecDepth 100000 in
theorem mX9_placeOf {l : Launch} {D : va_G} {W0 : va_W} {tys : nd_T} {x0 : Int32} {x1 : Int32} {r : Int32} (hs : fX9_placeOf x0 x1 = some r) : nd_C l yX9_placeOf cX9_placeOf 2 (some .int) 0 0 D tys [.int x0, .int x1] W0 W0 (some (.int r)) := by
  refine nd_ofCi (by decide) (Nat.le_of_ble_eq_true rfl) (fun p e s m args below meth c_ ls A Q hx hb hml hown hts hl hP hK hD hS hA hN hret => ?_)
  have hown : s.vm.findClass RX9 = some m.cls := hown
  have hl : lv_has ls 2 [(0, .int x0), (1, .int x1)] := hl
  have hret : ∀ (z0 : Int32) {H : Heap} {locs : List Loc} {pc : Nat} {ls : Array Slot}, some z0 = some r → va_P D vwCl W0 H → va_S A s.heap H locs → decode cX9_placeOf pc = .ok (.ireturn, 1) → W p l e ⟨0, 0, 0, 0⟩ s m args below meth c_ H locs 0 0 Q (F0 m pc ls [.int z0]) := by
    intro z0 H locs pc ls h hP hS hd
    cases h
    exact hret hP hS hd
  rw [fX9_placeOf] at hs
  refine lv_bipush (v := (51 : Int32)) hx hb dX9_placeOf_0 (by decide) ?_
  refine lv_bipush (v := (8 : Int32)) hx hb dX9_placeOf_2 (by decide) ?_
  refine lv_bipush (v := (6 : Int32)) hx hb dX9_placeOf_4 (by decide) ?_
  refine lv_iload_n hx hb dX9_placeOf_6 rfl (lv_at hl 0 rfl) ?_
  refine lv_imul hx hb dX9_placeOf_7 ?_
  refine lv_iload_n hx hb dX9_placeOf_8 rfl (lv_at hl 1 rfl) ?_
  refine lv_iadd hx hb dX9_placeOf_9 ?_
  refine lv_imul hx hb dX9_placeOf_10 ?_
  refine lv_iadd hx hb dX9_placeOf_11 ?_
  exact hret _ hs hP hS dX9_placeOf_12
def tX9_timeOf_0 : List (Nat × Instr × Nat) := [(0, .aload_n 0, 1), (1, .getfield 7, 3), (4, .iload_n 1, 1), (5, .iload_n 2, 1), (6, .invokestatic 37, 3), (9, .iconst 0, 1), (10, .iadd, 1), (11, .iaload, 1), (12, .ireturn, 1)]
theorem tX9_timeOf_0_ok : tX9_timeOf_0.all (fun q => decide (decode cX9_timeOf q.1 = .ok q.2)) = true := by decide +kernel
theorem dX9_timeOf_0 : decode cX9_timeOf 0 = .ok (.aload_n 0, 1) := td tX9_timeOf_0_ok 0 (q := (0, .aload_n 0, 1)) rfl
theorem dX9_timeOf_1 : decode cX9_timeOf 1 = .ok (.getfield 7, 3) := td tX9_timeOf_0_ok 1 (q := (1, .getfield 7, 3)) rfl
theorem dX9_timeOf_4 : decode cX9_timeOf 4 = .ok (.iload_n 1, 1) := td tX9_timeOf_0_ok 2 (q := (4, .iload_n 1, 1)) rfl
theorem dX9_timeOf_5 : decode cX9_timeOf 5 = .ok (.iload_n 2, 1) := td tX9_timeOf_0_ok 3 (q := (5, .iload_n 2, 1)) rfl
theorem dX9_timeOf_6 : decode cX9_timeOf 6 = .ok (.invokestatic 37, 3) := td tX9_timeOf_0_ok 4 (q := (6, .invokestatic 37, 3)) rfl
theorem dX9_timeOf_9 : decode cX9_timeOf 9 = .ok (.iconst 0, 1) := td tX9_timeOf_0_ok 5 (q := (9, .iconst 0, 1)) rfl
theorem dX9_timeOf_10 : decode cX9_timeOf 10 = .ok (.iadd, 1) := td tX9_timeOf_0_ok 6 (q := (10, .iadd, 1)) rfl
theorem dX9_timeOf_11 : decode cX9_timeOf 11 = .ok (.iaload, 1) := td tX9_timeOf_0_ok 7 (q := (11, .iaload, 1)) rfl
theorem dX9_timeOf_12 : decode cX9_timeOf 12 = .ok (.ireturn, 1) := td tX9_timeOf_0_ok 8 (q := (12, .ireturn, 1)) rfl
def fX9_timeOf (ms : (Nat → Int32)) (x1 : Int32) (x2 : Int32) : Option (Int32) :=
  (Option.bind (fX9_placeOf x1 x2) (fun q1 => (Option.bind (aget ms 531 (q1 + (0 : Int32))) (fun t2 => (some t2)))))
set_option maxHeartbeats 4000000 in
set_option maxRecDepth 100000 in
theorem mX9_timeOf {l : Launch} {D : va_G} {bd : Nat → Nat} {cI : ClassId} {ms : (Nat → Int32)} {msv : (Nat → Int32)} {mb : (Nat → Int32)} {mf : (Nat → Int32)} {mr : (Nat → Int32)} {mt : Int32} {mn : Int32} {ml : Int32} {mat : Int32} {mw : Int32} {mm : Int32} {mh : Int64} {x1 : Int32} {x2 : Int32} {r : Int32} (hs : fX9_timeOf ms x1 x2 = some r) : nd_C l yX9_timeOf cX9_timeOf 3 (some .int) 1 21 D [(cI, .int)] [.ref (bd 0), .int x1, .int x2] (MW bd cI ms msv mb mf mr mt mn ml mat mw mm mh) (MW bd cI ms msv mb mf mr mt mn ml mat mw mm mh) (some (.int r)) := by
  refine nd_ofCi (by decide) (Nat.le_of_ble_eq_true rfl) (fun p e s m args below meth c_ ls A Q hx hb hml hown hts hl hP hK hD hS hA hN hret => ?_)
  have hown : s.vm.findClass RX9 = some m.cls := hown
  have hl : lv_has ls 3 [(0, .ref (bd 0)), (1, .int x1), (2, .int x2)] := hl
  have hret : ∀ (z0 : Int32) {H : Heap} {locs : List Loc} {pc : Nat} {ls : Array Slot}, some z0 = some r → va_P D vwCl (MW bd cI ms msv mb mf mr mt mn ml mat mw mm mh) H → va_S A s.heap H locs → decode cX9_timeOf pc = .ok (.ireturn, 1) → W p l e ⟨1, 0, 0, 21⟩ s m args below meth c_ H locs 0 0 Q (F0 m pc ls [.int z0]) := by
    intro z0 H locs pc ls h hP hS hd
    cases h
    exact hret hP hS hd
  rw [fX9_timeOf] at hs
  refine lv_aload_n hx hb dX9_timeOf_0 rfl (lv_at hl 0 rfl) ?_
  refine gf_X9_7 hx hb hts hown hK hP 0 rfl rfl dX9_timeOf_1 ?_
  refine lv_iload_n hx hb dX9_timeOf_4 rfl (lv_at hl 1 rfl) ?_
  refine lv_iload_n hx hb dX9_timeOf_5 rfl (lv_at hl 2 rfl) ?_
  obtain ⟨q1, eq1, hs⟩ := ob hs
  refine nd_callS (As := [.int x1, .int x2]) (rest := [.ref (bd 1)]) (st1 := [.int q1, .ref (bd 1)]) hx hb hml hown hts hl hP hK hD hS hA hN (mX9_placeOf eq1) is_X9_placeOf wd_319 rfl rfl ⟨Nat.le_of_ble_eq_true rfl, Nat.le_of_ble_eq_true rfl⟩ (Nat.le_of_ble_eq_true rfl) ⟨Nat.zero_le _, Nat.zero_le _⟩ dX9_timeOf_6 rfl rfl (fun H locs hP hD hS => ?_)
  refine lv_iconst (v := (0 : Int32)) hx hb dX9_timeOf_9 (by decide) ?_
  refine lv_iadd hx hb dX9_timeOf_10 ?_
  obtain ⟨t2, et2, hs⟩ := ob hs
  refine nd_iald hx hb hK hP 1 0 rfl rfl et2 dX9_timeOf_11 ?_
  exact hret _ hs hP hS dX9_timeOf_12
def tX9_sumOf_0 : List (Nat × Instr × Nat) := [(0, .iload_n 1, 1), (1, .iload_n 2, 1), (2, .invokestatic 37, 3), (5, .istore_n 3, 1), (6, .iconst 0, 1), (7, .istore 4, 2), (9, .iconst 0, 1), (10, .istore 5, 2), (12, .iload 5, 2), (14, .aload_n 0, 1), (15, .getfield 7, 3), (18, .iload_n 3, 1), (19, .iconst 2, 1), (20, .iadd, 1), (21, .iaload, 1), (22, .if_icmp .ge 25, 3), (25, .iload 4, 2), (27, .aload_n 0, 1), (28, .getfield 7, 3), (31, .iload_n 3, 1), (32, .iconst 3, 1), (33, .iadd, 1), (34, .iload 5, 2), (36, .iadd, 1), (37, .iaload, 1), (38, .iadd, 1), (39, .istore 4, 2), (41, .iinc 5 1, 3), (44, .goto (-32), 3), (47, .iload 4, 2), (49, .ireturn, 1)]
theorem tX9_sumOf_0_ok : tX9_sumOf_0.all (fun q => decide (decode cX9_sumOf q.1 = .ok q.2)) = true := by decide +kernel
theorem dX9_sumOf_0 : decode cX9_sumOf 0 = .ok (.iload_n 1, 1) := td tX9_sumOf_0_ok 0 (q := (0, .iload_n 1, 1)) rfl
theorem dX9_sumOf_1 : decode cX9_sumOf 1 = .ok (.iload_n 2, 1) := td tX9_sumOf_0_ok 1 (q := (1, .iload_n 2, 1)) rfl
theorem dX9_sumOf_2 : decode cX9_sumOf 2 = .ok (.invokestatic 37, 3) := td tX9_sumOf_0_ok 2 (q := (2, .invokestatic 37, 3)) rfl
theorem dX9_sumOf_5 : decode cX9_sumOf 5 = .ok (.istore_n 3, 1) := td tX9_sumOf_0_ok 3 (q := (5, .istore_n 3, 1)) rfl
theorem dX9_sumOf_6 : decode cX9_sumOf 6 = .ok (.iconst 0, 1) := td tX9_sumOf_0_ok 4 (q := (6, .iconst 0, 1)) rfl
theorem dX9_sumOf_7 : decode cX9_sumOf 7 = .ok (.istore 4, 2) := td tX9_sumOf_0_ok 5 (q := (7, .istore 4, 2)) rfl
theorem dX9_sumOf_9 : decode cX9_sumOf 9 = .ok (.iconst 0, 1) := td tX9_sumOf_0_ok 6 (q := (9, .iconst 0, 1)) rfl
theorem dX9_sumOf_10 : decode cX9_sumOf 10 = .ok (.istore 5, 2) := td tX9_sumOf_0_ok 7 (q := (10, .istore 5, 2)) rfl
theorem dX9_sumOf_12 : decode cX9_sumOf 12 = .ok (.iload 5, 2) := td tX9_sumOf_0_ok 8 (q := (12, .iload 5, 2)) rfl
theorem dX9_sumOf_14 : decode cX9_sumOf 14 = .ok (.aload_n 0, 1) := td tX9_sumOf_0_ok 9 (q := (14, .aload_n 0, 1)) rfl
theorem dX9_sumOf_15 : decode cX9_sumOf 15 = .ok (.getfield 7, 3) := td tX9_sumOf_0_ok 10 (q := (15, .getfield 7, 3)) rfl
theorem dX9_sumOf_18 : decode cX9_sumOf 18 = .ok (.iload_n 3, 1) := td tX9_sumOf_0_ok 11 (q := (18, .iload_n 3, 1)) rfl
theorem dX9_sumOf_19 : decode cX9_sumOf 19 = .ok (.iconst 2, 1) := td tX9_sumOf_0_ok 12 (q := (19, .iconst 2, 1)) rfl
theorem dX9_sumOf_20 : decode cX9_sumOf 20 = .ok (.iadd, 1) := td tX9_sumOf_0_ok 13 (q := (20, .iadd, 1)) rfl
theorem dX9_sumOf_21 : decode cX9_sumOf 21 = .ok (.iaload, 1) := td tX9_sumOf_0_ok 14 (q := (21, .iaload, 1)) rfl
theorem dX9_sumOf_22 : decode cX9_sumOf 22 = .ok (.if_icmp .ge 25, 3) := td tX9_sumOf_0_ok 15 (q := (22, .if_icmp .ge 25, 3)) rfl
theorem dX9_sumOf_25 : decode cX9_sumOf 25 = .ok (.iload 4, 2) := td tX9_sumOf_0_ok 16 (q := (25, .iload 4, 2)) rfl
theorem dX9_sumOf_27 : decode cX9_sumOf 27 = .ok (.aload_n 0, 1) := td tX9_sumOf_0_ok 17 (q := (27, .aload_n 0, 1)) rfl
theorem dX9_sumOf_28 : decode cX9_sumOf 28 = .ok (.getfield 7, 3) := td tX9_sumOf_0_ok 18 (q := (28, .getfield 7, 3)) rfl
theorem dX9_sumOf_31 : decode cX9_sumOf 31 = .ok (.iload_n 3, 1) := td tX9_sumOf_0_ok 19 (q := (31, .iload_n 3, 1)) rfl
theorem dX9_sumOf_32 : decode cX9_sumOf 32 = .ok (.iconst 3, 1) := td tX9_sumOf_0_ok 20 (q := (32, .iconst 3, 1)) rfl
theorem dX9_sumOf_33 : decode cX9_sumOf 33 = .ok (.iadd, 1) := td tX9_sumOf_0_ok 21 (q := (33, .iadd, 1)) rfl
theorem dX9_sumOf_34 : decode cX9_sumOf 34 = .ok (.iload 5, 2) := td tX9_sumOf_0_ok 22 (q := (34, .iload 5, 2)) rfl
theorem dX9_sumOf_36 : decode cX9_sumOf 36 = .ok (.iadd, 1) := td tX9_sumOf_0_ok 23 (q := (36, .iadd, 1)) rfl
theorem dX9_sumOf_37 : decode cX9_sumOf 37 = .ok (.iaload, 1) := td tX9_sumOf_0_ok 24 (q := (37, .iaload, 1)) rfl
theorem dX9_sumOf_38 : decode cX9_sumOf 38 = .ok (.iadd, 1) := td tX9_sumOf_0_ok 25 (q := (38, .iadd, 1)) rfl
theorem dX9_sumOf_39 : decode cX9_sumOf 39 = .ok (.istore 4, 2) := td tX9_sumOf_0_ok 26 (q := (39, .istore 4, 2)) rfl
theorem dX9_sumOf_41 : decode cX9_sumOf 41 = .ok (.iinc 5 1, 3) := td tX9_sumOf_0_ok 27 (q := (41, .iinc 5 1, 3)) rfl
theorem dX9_sumOf_44 : decode cX9_sumOf 44 = .ok (.goto (-32), 3) := td tX9_sumOf_0_ok 28 (q := (44, .goto (-32), 3)) rfl
theorem dX9_sumOf_47 : decode cX9_sumOf 47 = .ok (.iload 4, 2) := td tX9_sumOf_0_ok 29 (q := (47, .iload 4, 2)) rfl
theorem dX9_sumOf_49 : decode cX9_sumOf 49 = .ok (.ireturn, 1) := td tX9_sumOf_0_ok 30 (q := (49, .ireturn, 1)) rfl
def fX9_sumOf_12 (k12 : Int32 → Option (Int32)) (ms : (Nat → Int32)) (x3 : Int32) : Nat → Int32 → Int32 → Option (Int32)
  | 0, _, _ => none
  | n12 + 1, x4, x5 => (Option.bind (aget ms 531 (x3 + (2 : Int32))) (fun t2 => (if t2 ≤ x5 then (k12 x4) else (Option.bind (aget ms 531 ((x3 + (3 : Int32)) + x5)) (fun t4 => (fX9_sumOf_12 k12 ms x3 n12 (x4 + t4) (x5 + (1 : Int32))))))))
def fX9_sumOf (ms : (Nat → Int32)) (x1 : Int32) (x2 : Int32) : Option (Int32) :=
  (Option.bind (fX9_placeOf x1 x2) (fun q1 => (fX9_sumOf_12 (fun (u4_5 : Int32) => (some u4_5)) ms q1 LF (0 : Int32) (0 : Int32))))
set_option maxHeartbeats 4000000 in
set_option maxRecDepth 100000 in
theorem mX9_sumOf {l : Launch} {D : va_G} {bd : Nat → Nat} {cI : ClassId} {ms : (Nat → Int32)} {msv : (Nat → Int32)} {mb : (Nat → Int32)} {mf : (Nat → Int32)} {mr : (Nat → Int32)} {mt : Int32} {mn : Int32} {ml : Int32} {mat : Int32} {mw : Int32} {mm : Int32} {mh : Int64} {x1 : Int32} {x2 : Int32} {r : Int32} (hs : fX9_sumOf ms x1 x2 = some r) : nd_C l yX9_sumOf cX9_sumOf 6 (some .int) 1 21 D [(cI, .int)] [.ref (bd 0), .int x1, .int x2] (MW bd cI ms msv mb mf mr mt mn ml mat mw mm mh) (MW bd cI ms msv mb mf mr mt mn ml mat mw mm mh) (some (.int r)) := by
  refine nd_ofCi (by decide) (Nat.le_of_ble_eq_true rfl) (fun p e s m args below meth c_ ls A Q hx hb hml hown hts hl hP hK hD hS hA hN hret => ?_)
  have hown : s.vm.findClass RX9 = some m.cls := hown
  have hl : lv_has ls 6 [(0, .ref (bd 0)), (1, .int x1), (2, .int x2)] := hl
  have hret : ∀ (z0 : Int32) {H : Heap} {locs : List Loc} {pc : Nat} {ls : Array Slot}, some z0 = some r → va_P D vwCl (MW bd cI ms msv mb mf mr mt mn ml mat mw mm mh) H → va_S A s.heap H locs → decode cX9_sumOf pc = .ok (.ireturn, 1) → W p l e ⟨1, 0, 0, 21⟩ s m args below meth c_ H locs 0 0 Q (F0 m pc ls [.int z0]) := by
    intro z0 H locs pc ls h hP hS hd
    cases h
    exact hret hP hS hd
  rw [fX9_sumOf] at hs
  refine lv_iload_n hx hb dX9_sumOf_0 rfl (lv_at hl 1 rfl) ?_
  refine lv_iload_n hx hb dX9_sumOf_1 rfl (lv_at hl 2 rfl) ?_
  obtain ⟨q1, eq1, hs⟩ := ob hs
  refine nd_callS (As := [.int x1, .int x2]) (rest := []) (st1 := [.int q1]) hx hb hml hown hts hl hP hK hD hS hA hN (mX9_placeOf eq1) is_X9_placeOf wd_319 rfl rfl ⟨Nat.le_of_ble_eq_true rfl, Nat.le_of_ble_eq_true rfl⟩ (Nat.le_of_ble_eq_true rfl) ⟨Nat.zero_le _, Nat.zero_le _⟩ dX9_sumOf_2 rfl rfl (fun H locs hP hD hS => ?_)
  refine lv_istore_n (lv' := [(3, .int q1), (0, .ref (bd 0)), (1, .int x1), (2, .int x2)]) hx hb dX9_sumOf_5 rfl hl (by decide) rfl (fun ls hl => ?_)
  refine lv_iconst (v := (0 : Int32)) hx hb dX9_sumOf_6 (by decide) ?_
  refine lv_istore (lv' := [(4, .int (0 : Int32)), (3, .int q1), (0, .ref (bd 0)), (1, .int x1), (2, .int x2)]) hx hb dX9_sumOf_7 hl (by decide) rfl (fun ls hl => ?_)
  refine lv_iconst (v := (0 : Int32)) hx hb dX9_sumOf_9 (by decide) ?_
  refine lv_istore (lv' := [(5, .int (0 : Int32)), (4, .int (0 : Int32)), (3, .int q1), (0, .ref (bd 0)), (1, .int x1), (2, .int x2)]) hx hb dX9_sumOf_10 hl (by decide) rfl (fun ls hl => ?_)
  have L12 : ∀ (n12 : Nat) (k12 : Int32 → Option (Int32)) (v4_5 : Int32) (v5_5 : Int32) (H : Heap) (locs : List Loc) (ls : Array Slot), lv_has ls 6 [(0, .ref (bd 0)), (3, .int q1), (4, .int v4_5), (5, .int v5_5)] → va_P D vwCl (MW bd cI ms msv mb mf mr mt mn ml mat mw mm mh) H → va_S A s.heap H locs → fX9_sumOf_12 k12 ms q1 n12 v4_5 v5_5 = some r → (∀ (u4_5 : Int32) (H : Heap) (locs : List Loc) (ls : Array Slot), lv_has ls 6 [(4, .int u4_5)] → va_P D vwCl (MW bd cI ms msv mb mf mr mt mn ml mat mw mm mh) H → va_S A s.heap H locs → k12 u4_5 = some r → W p l e ⟨1, 0, 0, 21⟩ s m args below meth c_ H locs 0 0 Q (F0 m 47 ls [])) → W p l e ⟨1, 0, 0, 21⟩ s m args below meth c_ H locs 0 0 Q (F0 m 12 ls []) := by
    intro n12
    induction n12 with
    | zero =>
      intro k12 v4_5 v5_5 H locs ls hl hP hS hs hk12
      rw [fX9_sumOf_12] at hs
      cases hs
    | succ n12 ih12 =>
      intro k12 v4_5 v5_5 H locs ls hl hP hS hs hk12
      rw [fX9_sumOf_12] at hs
      refine lv_iload hx hb dX9_sumOf_12 (lv_at hl 3 rfl) ?_
      refine lv_aload_n hx hb dX9_sumOf_14 rfl (lv_at hl 0 rfl) ?_
      refine gf_X9_7 hx hb hts hown hK hP 0 rfl rfl dX9_sumOf_15 ?_
      refine lv_iload_n hx hb dX9_sumOf_18 rfl (lv_at hl 1 rfl) ?_
      refine lv_iconst (v := (2 : Int32)) hx hb dX9_sumOf_19 (by decide) ?_
      refine lv_iadd hx hb dX9_sumOf_20 ?_
      obtain ⟨t6, et6, hs⟩ := ob hs
      refine nd_iald hx hb hK hP 1 0 rfl rfl et6 dX9_sumOf_21 ?_
      refine lv_icmp_ge (tgt := 47) hx hb dX9_sumOf_22 (by decide) (fun b7 => ?_) (fun b7 => ?_)
      · have hs := ite_t hs b7
        exact hk12 v4_5 _ _ _ (lv_sub hl [2] rfl) hP hS hs
      · have hs := ite_f hs b7
        refine lv_iload hx hb dX9_sumOf_25 (lv_at hl 2 rfl) ?_
        refine lv_aload_n hx hb dX9_sumOf_27 rfl (lv_at hl 0 rfl) ?_
        refine gf_X9_7 hx hb hts hown hK hP 0 rfl rfl dX9_sumOf_28 ?_
        refine lv_iload_n hx hb dX9_sumOf_31 rfl (lv_at hl 1 rfl) ?_
        refine lv_iconst (v := (3 : Int32)) hx hb dX9_sumOf_32 (by decide) ?_
        refine lv_iadd hx hb dX9_sumOf_33 ?_
        refine lv_iload hx hb dX9_sumOf_34 (lv_at hl 3 rfl) ?_
        refine lv_iadd hx hb dX9_sumOf_36 ?_
        obtain ⟨t8, et8, hs⟩ := ob hs
        refine nd_iald hx hb hK hP 1 0 rfl rfl et8 dX9_sumOf_37 ?_
        refine lv_iadd hx hb dX9_sumOf_38 ?_
        refine lv_istore (lv' := [(4, .int (v4_5 + t8)), (0, .ref (bd 0)), (3, .int q1), (5, .int v5_5)]) hx hb dX9_sumOf_39 hl (by decide) rfl (fun ls hl => ?_)
        refine lv_iinc (v := v5_5 + (1 : Int32)) (lv' := [(5, .int (v5_5 + (1 : Int32))), (4, .int (v4_5 + t8)), (0, .ref (bd 0)), (3, .int q1)]) hx hb dX9_sumOf_41 hl (k := 3) rfl rfl (by decide) rfl (fun ls hl => ?_)
        refine lv_goto (tgt := 12) hx hb dX9_sumOf_44 (by decide) ?_
        exact ih12 k12 (v4_5 + t8) (v5_5 + (1 : Int32)) _ _ _ (lv_sub hl [2, 3, 1, 0] rfl) hP hS hs hk12
  refine L12 LF _ (0 : Int32) (0 : Int32) _ _ _ (lv_sub hl [3, 2, 1, 0] rfl) hP hS hs (fun u4_5 H locs ls hl hP hS hs => ?_)
  refine lv_iload hx hb dX9_sumOf_47 (lv_at hl 0 rfl) ?_
  exact hret _ hs hP hS dX9_sumOf_49
def tX9_totalOf_0 : List (Nat × Instr × Nat) := [(0, .aload_n 0, 1), (1, .getfield 7, 3), (4, .iload_n 1, 1), (5, .iload_n 2, 1), (6, .invokestatic 37, 3), (9, .bipush 7, 2), (11, .iadd, 1), (12, .iaload, 1), (13, .ireturn, 1)]
theorem tX9_totalOf_0_ok : tX9_totalOf_0.all (fun q => decide (decode cX9_totalOf q.1 = .ok q.2)) = true := by decide +kernel
theorem dX9_totalOf_0 : decode cX9_totalOf 0 = .ok (.aload_n 0, 1) := td tX9_totalOf_0_ok 0 (q := (0, .aload_n 0, 1)) rfl
theorem dX9_totalOf_1 : decode cX9_totalOf 1 = .ok (.getfield 7, 3) := td tX9_totalOf_0_ok 1 (q := (1, .getfield 7, 3)) rfl
theorem dX9_totalOf_4 : decode cX9_totalOf 4 = .ok (.iload_n 1, 1) := td tX9_totalOf_0_ok 2 (q := (4, .iload_n 1, 1)) rfl
theorem dX9_totalOf_5 : decode cX9_totalOf 5 = .ok (.iload_n 2, 1) := td tX9_totalOf_0_ok 3 (q := (5, .iload_n 2, 1)) rfl
theorem dX9_totalOf_6 : decode cX9_totalOf 6 = .ok (.invokestatic 37, 3) := td tX9_totalOf_0_ok 4 (q := (6, .invokestatic 37, 3)) rfl
theorem dX9_totalOf_9 : decode cX9_totalOf 9 = .ok (.bipush 7, 2) := td tX9_totalOf_0_ok 5 (q := (9, .bipush 7, 2)) rfl
theorem dX9_totalOf_11 : decode cX9_totalOf 11 = .ok (.iadd, 1) := td tX9_totalOf_0_ok 6 (q := (11, .iadd, 1)) rfl
theorem dX9_totalOf_12 : decode cX9_totalOf 12 = .ok (.iaload, 1) := td tX9_totalOf_0_ok 7 (q := (12, .iaload, 1)) rfl
theorem dX9_totalOf_13 : decode cX9_totalOf 13 = .ok (.ireturn, 1) := td tX9_totalOf_0_ok 8 (q := (13, .ireturn, 1)) rfl
def fX9_totalOf (ms : (Nat → Int32)) (x1 : Int32) (x2 : Int32) : Option (Int32) :=
  (Option.bind (fX9_placeOf x1 x2) (fun q1 => (Option.bind (aget ms 531 (q1 + (7 : Int32))) (fun t2 => (some t2)))))
set_option maxHeartbeats 4000000 in
set_option maxRecDepth 100000 in
theorem mX9_totalOf {l : Launch} {D : va_G} {bd : Nat → Nat} {cI : ClassId} {ms : (Nat → Int32)} {msv : (Nat → Int32)} {mb : (Nat → Int32)} {mf : (Nat → Int32)} {mr : (Nat → Int32)} {mt : Int32} {mn : Int32} {ml : Int32} {mat : Int32} {mw : Int32} {mm : Int32} {mh : Int64} {x1 : Int32} {x2 : Int32} {r : Int32} (hs : fX9_totalOf ms x1 x2 = some r) : nd_C l yX9_totalOf cX9_totalOf 3 (some .int) 1 21 D [(cI, .int)] [.ref (bd 0), .int x1, .int x2] (MW bd cI ms msv mb mf mr mt mn ml mat mw mm mh) (MW bd cI ms msv mb mf mr mt mn ml mat mw mm mh) (some (.int r)) := by
  refine nd_ofCi (by decide) (Nat.le_of_ble_eq_true rfl) (fun p e s m args below meth c_ ls A Q hx hb hml hown hts hl hP hK hD hS hA hN hret => ?_)
  have hown : s.vm.findClass RX9 = some m.cls := hown
  have hl : lv_has ls 3 [(0, .ref (bd 0)), (1, .int x1), (2, .int x2)] := hl
  have hret : ∀ (z0 : Int32) {H : Heap} {locs : List Loc} {pc : Nat} {ls : Array Slot}, some z0 = some r → va_P D vwCl (MW bd cI ms msv mb mf mr mt mn ml mat mw mm mh) H → va_S A s.heap H locs → decode cX9_totalOf pc = .ok (.ireturn, 1) → W p l e ⟨1, 0, 0, 21⟩ s m args below meth c_ H locs 0 0 Q (F0 m pc ls [.int z0]) := by
    intro z0 H locs pc ls h hP hS hd
    cases h
    exact hret hP hS hd
  rw [fX9_totalOf] at hs
  refine lv_aload_n hx hb dX9_totalOf_0 rfl (lv_at hl 0 rfl) ?_
  refine gf_X9_7 hx hb hts hown hK hP 0 rfl rfl dX9_totalOf_1 ?_
  refine lv_iload_n hx hb dX9_totalOf_4 rfl (lv_at hl 1 rfl) ?_
  refine lv_iload_n hx hb dX9_totalOf_5 rfl (lv_at hl 2 rfl) ?_
  obtain ⟨q1, eq1, hs⟩ := ob hs
  refine nd_callS (As := [.int x1, .int x2]) (rest := [.ref (bd 1)]) (st1 := [.int q1, .ref (bd 1)]) hx hb hml hown hts hl hP hK hD hS hA hN (mX9_placeOf eq1) is_X9_placeOf wd_319 rfl rfl ⟨Nat.le_of_ble_eq_true rfl, Nat.le_of_ble_eq_true rfl⟩ (Nat.le_of_ble_eq_true rfl) ⟨Nat.zero_le _, Nat.zero_le _⟩ dX9_totalOf_6 rfl rfl (fun H locs hP hD hS => ?_)
  refine lv_bipush (v := (7 : Int32)) hx hb dX9_totalOf_9 (by decide) ?_
  refine lv_iadd hx hb dX9_totalOf_11 ?_
  obtain ⟨t2, et2, hs⟩ := ob hs
  refine nd_iald hx hb hK hP 1 0 rfl rfl et2 dX9_totalOf_12 ?_
  exact hret _ hs hP hS dX9_totalOf_13
def tX9_size_0 : List (Nat × Instr × Nat) := [(0, .iload_n 0, 1), (1, .ifCond .ge 8, 3), (4, .iload_n 0, 1), (5, .ineg, 1), (6, .goto 4, 3), (9, .iload_n 0, 1), (10, .ireturn, 1)]
theorem tX9_size_0_ok : tX9_size_0.all (fun q => decide (decode cX9_size q.1 = .ok q.2)) = true := by decide +kernel
theorem dX9_size_0 : decode cX9_size 0 = .ok (.iload_n 0, 1) := td tX9_size_0_ok 0 (q := (0, .iload_n 0, 1)) rfl
theorem dX9_size_1 : decode cX9_size 1 = .ok (.ifCond .ge 8, 3) := td tX9_size_0_ok 1 (q := (1, .ifCond .ge 8, 3)) rfl
theorem dX9_size_4 : decode cX9_size 4 = .ok (.iload_n 0, 1) := td tX9_size_0_ok 2 (q := (4, .iload_n 0, 1)) rfl
theorem dX9_size_5 : decode cX9_size 5 = .ok (.ineg, 1) := td tX9_size_0_ok 3 (q := (5, .ineg, 1)) rfl
theorem dX9_size_6 : decode cX9_size 6 = .ok (.goto 4, 3) := td tX9_size_0_ok 4 (q := (6, .goto 4, 3)) rfl
theorem dX9_size_9 : decode cX9_size 9 = .ok (.iload_n 0, 1) := td tX9_size_0_ok 5 (q := (9, .iload_n 0, 1)) rfl
theorem dX9_size_10 : decode cX9_size 10 = .ok (.ireturn, 1) := td tX9_size_0_ok 6 (q := (10, .ireturn, 1)) rfl
def fX9_size (x0 : Int32) : Option (Int32) :=
  (if 0 ≤ x0 then (some x0) else (some (-x0)))
set_option maxHeartbeats 4000000 in
set_option maxRecDepth 100000 in
theorem mX9_size {l : Launch} {D : va_G} {W0 : va_W} {tys : nd_T} {x0 : Int32} {r : Int32} (hs : fX9_size x0 = some r) : nd_C l yX9_size cX9_size 1 (some .int) 0 0 D tys [.int x0] W0 W0 (some (.int r)) := by
  refine nd_ofCi (by decide) (Nat.le_of_ble_eq_true rfl) (fun p e s m args below meth c_ ls A Q hx hb hml hown hts hl hP hK hD hS hA hN hret => ?_)
  have hown : s.vm.findClass RX9 = some m.cls := hown
  have hl : lv_has ls 1 [(0, .int x0)] := hl
  have hret : ∀ (z0 : Int32) {H : Heap} {locs : List Loc} {pc : Nat} {ls : Array Slot}, some z0 = some r → va_P D vwCl W0 H → va_S A s.heap H locs → decode cX9_size pc = .ok (.ireturn, 1) → W p l e ⟨0, 0, 0, 0⟩ s m args below meth c_ H locs 0 0 Q (F0 m pc ls [.int z0]) := by
    intro z0 H locs pc ls h hP hS hd
    cases h
    exact hret hP hS hd
  rw [fX9_size] at hs
  refine lv_iload_n hx hb dX9_size_0 rfl (lv_at hl 0 rfl) ?_
  refine lv_if_ge (tgt := 9) hx hb dX9_size_1 (by decide) (fun b1 => ?_) (fun b1 => ?_)
  · have hs := ite_t hs b1
    refine lv_iload_n hx hb dX9_size_9 rfl (lv_at hl 0 rfl) ?_
    exact hret _ hs hP hS dX9_size_10
  · have hs := ite_f hs b1
    refine lv_iload_n hx hb dX9_size_4 rfl (lv_at hl 0 rfl) ?_
    refine lv_ineg hx hb dX9_size_5 ?_
    refine lv_goto (tgt := 10) hx hb dX9_size_6 (by decide) ?_
    exact hret _ hs hP hS dX9_size_10
def tX9_saves_0 : List (Nat × Instr × Nat) := [(0, .aload_n 0, 1), (1, .getfield 40, 3), (4, .bipush 6, 2), (6, .if_icmp .ne 44, 3), (9, .iconst 0, 1), (10, .istore_n 1, 1), (11, .iload_n 1, 1), (12, .sipush 2655, 3), (15, .if_icmp .ge 25, 3), (18, .aload_n 0, 1), (19, .getfield 13, 3), (22, .iload_n 1, 1), (23, .aload_n 0, 1), (24, .getfield 13, 3), (27, .iload_n 1, 1), (28, .sipush 531, 3), (31, .iadd, 1), (32, .iaload, 1), (33, .iastore, 1), (34, .iinc 1 1, 3), (37, .goto (-26), 3), (40, .aload_n 0, 1), (41, .dup, 1), (42, .getfield 40, 3), (45, .iconst 1, 1), (46, .isub, 1), (47, .putfield 40, 3), (50, .iconst 0, 1), (51, .istore_n 1, 1), (52, .iload_n 1, 1), (53, .sipush 531, 3), (56, .if_icmp .ge 30, 3), (59, .aload_n 0, 1), (60, .getfield 13, 3), (63, .sipush 531, 3), (66, .aload_n 0, 1), (67, .getfield 40, 3), (70, .imul, 1), (71, .iload_n 1, 1), (72, .iadd, 1), (73, .aload_n 0, 1), (74, .getfield 7, 3), (77, .iload_n 1, 1), (78, .iaload, 1), (79, .iastore, 1), (80, .iinc 1 1, 3), (83, .goto (-31), 3), (86, .aload_n 0, 1), (87, .dup, 1), (88, .getfield 40, 3), (91, .iconst 1, 1), (92, .iadd, 1), (93, .putfield 40, 3), (96, .return_, 1)]
theorem tX9_saves_0_ok : tX9_saves_0.all (fun q => decide (decode cX9_saves q.1 = .ok q.2)) = true := by decide +kernel
theorem dX9_saves_0 : decode cX9_saves 0 = .ok (.aload_n 0, 1) := td tX9_saves_0_ok 0 (q := (0, .aload_n 0, 1)) rfl
theorem dX9_saves_1 : decode cX9_saves 1 = .ok (.getfield 40, 3) := td tX9_saves_0_ok 1 (q := (1, .getfield 40, 3)) rfl
theorem dX9_saves_4 : decode cX9_saves 4 = .ok (.bipush 6, 2) := td tX9_saves_0_ok 2 (q := (4, .bipush 6, 2)) rfl
theorem dX9_saves_6 : decode cX9_saves 6 = .ok (.if_icmp .ne 44, 3) := td tX9_saves_0_ok 3 (q := (6, .if_icmp .ne 44, 3)) rfl
theorem dX9_saves_9 : decode cX9_saves 9 = .ok (.iconst 0, 1) := td tX9_saves_0_ok 4 (q := (9, .iconst 0, 1)) rfl
theorem dX9_saves_10 : decode cX9_saves 10 = .ok (.istore_n 1, 1) := td tX9_saves_0_ok 5 (q := (10, .istore_n 1, 1)) rfl
theorem dX9_saves_11 : decode cX9_saves 11 = .ok (.iload_n 1, 1) := td tX9_saves_0_ok 6 (q := (11, .iload_n 1, 1)) rfl
theorem dX9_saves_12 : decode cX9_saves 12 = .ok (.sipush 2655, 3) := td tX9_saves_0_ok 7 (q := (12, .sipush 2655, 3)) rfl
theorem dX9_saves_15 : decode cX9_saves 15 = .ok (.if_icmp .ge 25, 3) := td tX9_saves_0_ok 8 (q := (15, .if_icmp .ge 25, 3)) rfl
theorem dX9_saves_18 : decode cX9_saves 18 = .ok (.aload_n 0, 1) := td tX9_saves_0_ok 9 (q := (18, .aload_n 0, 1)) rfl
theorem dX9_saves_19 : decode cX9_saves 19 = .ok (.getfield 13, 3) := td tX9_saves_0_ok 10 (q := (19, .getfield 13, 3)) rfl
theorem dX9_saves_22 : decode cX9_saves 22 = .ok (.iload_n 1, 1) := td tX9_saves_0_ok 11 (q := (22, .iload_n 1, 1)) rfl
theorem dX9_saves_23 : decode cX9_saves 23 = .ok (.aload_n 0, 1) := td tX9_saves_0_ok 12 (q := (23, .aload_n 0, 1)) rfl
theorem dX9_saves_24 : decode cX9_saves 24 = .ok (.getfield 13, 3) := td tX9_saves_0_ok 13 (q := (24, .getfield 13, 3)) rfl
theorem dX9_saves_27 : decode cX9_saves 27 = .ok (.iload_n 1, 1) := td tX9_saves_0_ok 14 (q := (27, .iload_n 1, 1)) rfl
theorem dX9_saves_28 : decode cX9_saves 28 = .ok (.sipush 531, 3) := td tX9_saves_0_ok 15 (q := (28, .sipush 531, 3)) rfl
theorem dX9_saves_31 : decode cX9_saves 31 = .ok (.iadd, 1) := td tX9_saves_0_ok 16 (q := (31, .iadd, 1)) rfl
theorem dX9_saves_32 : decode cX9_saves 32 = .ok (.iaload, 1) := td tX9_saves_0_ok 17 (q := (32, .iaload, 1)) rfl
theorem dX9_saves_33 : decode cX9_saves 33 = .ok (.iastore, 1) := td tX9_saves_0_ok 18 (q := (33, .iastore, 1)) rfl
theorem dX9_saves_34 : decode cX9_saves 34 = .ok (.iinc 1 1, 3) := td tX9_saves_0_ok 19 (q := (34, .iinc 1 1, 3)) rfl
theorem dX9_saves_37 : decode cX9_saves 37 = .ok (.goto (-26), 3) := td tX9_saves_0_ok 20 (q := (37, .goto (-26), 3)) rfl
theorem dX9_saves_40 : decode cX9_saves 40 = .ok (.aload_n 0, 1) := td tX9_saves_0_ok 21 (q := (40, .aload_n 0, 1)) rfl
theorem dX9_saves_41 : decode cX9_saves 41 = .ok (.dup, 1) := td tX9_saves_0_ok 22 (q := (41, .dup, 1)) rfl
theorem dX9_saves_42 : decode cX9_saves 42 = .ok (.getfield 40, 3) := td tX9_saves_0_ok 23 (q := (42, .getfield 40, 3)) rfl
theorem dX9_saves_45 : decode cX9_saves 45 = .ok (.iconst 1, 1) := td tX9_saves_0_ok 24 (q := (45, .iconst 1, 1)) rfl
theorem dX9_saves_46 : decode cX9_saves 46 = .ok (.isub, 1) := td tX9_saves_0_ok 25 (q := (46, .isub, 1)) rfl
theorem dX9_saves_47 : decode cX9_saves 47 = .ok (.putfield 40, 3) := td tX9_saves_0_ok 26 (q := (47, .putfield 40, 3)) rfl
theorem dX9_saves_50 : decode cX9_saves 50 = .ok (.iconst 0, 1) := td tX9_saves_0_ok 27 (q := (50, .iconst 0, 1)) rfl
theorem dX9_saves_51 : decode cX9_saves 51 = .ok (.istore_n 1, 1) := td tX9_saves_0_ok 28 (q := (51, .istore_n 1, 1)) rfl
theorem dX9_saves_52 : decode cX9_saves 52 = .ok (.iload_n 1, 1) := td tX9_saves_0_ok 29 (q := (52, .iload_n 1, 1)) rfl
theorem dX9_saves_53 : decode cX9_saves 53 = .ok (.sipush 531, 3) := td tX9_saves_0_ok 30 (q := (53, .sipush 531, 3)) rfl
theorem dX9_saves_56 : decode cX9_saves 56 = .ok (.if_icmp .ge 30, 3) := td tX9_saves_0_ok 31 (q := (56, .if_icmp .ge 30, 3)) rfl
theorem dX9_saves_59 : decode cX9_saves 59 = .ok (.aload_n 0, 1) := td tX9_saves_0_ok 32 (q := (59, .aload_n 0, 1)) rfl
theorem dX9_saves_60 : decode cX9_saves 60 = .ok (.getfield 13, 3) := td tX9_saves_0_ok 33 (q := (60, .getfield 13, 3)) rfl
theorem dX9_saves_63 : decode cX9_saves 63 = .ok (.sipush 531, 3) := td tX9_saves_0_ok 34 (q := (63, .sipush 531, 3)) rfl
theorem dX9_saves_66 : decode cX9_saves 66 = .ok (.aload_n 0, 1) := td tX9_saves_0_ok 35 (q := (66, .aload_n 0, 1)) rfl
theorem dX9_saves_67 : decode cX9_saves 67 = .ok (.getfield 40, 3) := td tX9_saves_0_ok 36 (q := (67, .getfield 40, 3)) rfl
theorem dX9_saves_70 : decode cX9_saves 70 = .ok (.imul, 1) := td tX9_saves_0_ok 37 (q := (70, .imul, 1)) rfl
theorem dX9_saves_71 : decode cX9_saves 71 = .ok (.iload_n 1, 1) := td tX9_saves_0_ok 38 (q := (71, .iload_n 1, 1)) rfl
theorem dX9_saves_72 : decode cX9_saves 72 = .ok (.iadd, 1) := td tX9_saves_0_ok 39 (q := (72, .iadd, 1)) rfl
theorem dX9_saves_73 : decode cX9_saves 73 = .ok (.aload_n 0, 1) := td tX9_saves_0_ok 40 (q := (73, .aload_n 0, 1)) rfl
theorem dX9_saves_74 : decode cX9_saves 74 = .ok (.getfield 7, 3) := td tX9_saves_0_ok 41 (q := (74, .getfield 7, 3)) rfl
theorem dX9_saves_77 : decode cX9_saves 77 = .ok (.iload_n 1, 1) := td tX9_saves_0_ok 42 (q := (77, .iload_n 1, 1)) rfl
theorem dX9_saves_78 : decode cX9_saves 78 = .ok (.iaload, 1) := td tX9_saves_0_ok 43 (q := (78, .iaload, 1)) rfl
theorem dX9_saves_79 : decode cX9_saves 79 = .ok (.iastore, 1) := td tX9_saves_0_ok 44 (q := (79, .iastore, 1)) rfl
theorem dX9_saves_80 : decode cX9_saves 80 = .ok (.iinc 1 1, 3) := td tX9_saves_0_ok 45 (q := (80, .iinc 1 1, 3)) rfl
theorem dX9_saves_83 : decode cX9_saves 83 = .ok (.goto (-31), 3) := td tX9_saves_0_ok 46 (q := (83, .goto (-31), 3)) rfl
theorem dX9_saves_86 : decode cX9_saves 86 = .ok (.aload_n 0, 1) := td tX9_saves_0_ok 47 (q := (86, .aload_n 0, 1)) rfl
theorem dX9_saves_87 : decode cX9_saves 87 = .ok (.dup, 1) := td tX9_saves_0_ok 48 (q := (87, .dup, 1)) rfl
theorem dX9_saves_88 : decode cX9_saves 88 = .ok (.getfield 40, 3) := td tX9_saves_0_ok 49 (q := (88, .getfield 40, 3)) rfl
theorem dX9_saves_91 : decode cX9_saves 91 = .ok (.iconst 1, 1) := td tX9_saves_0_ok 50 (q := (91, .iconst 1, 1)) rfl
theorem dX9_saves_92 : decode cX9_saves 92 = .ok (.iadd, 1) := td tX9_saves_0_ok 51 (q := (92, .iadd, 1)) rfl
theorem dX9_saves_93 : decode cX9_saves 93 = .ok (.putfield 40, 3) := td tX9_saves_0_ok 52 (q := (93, .putfield 40, 3)) rfl
theorem dX9_saves_96 : decode cX9_saves 96 = .ok (.return_, 1) := td tX9_saves_0_ok 53 (q := (96, .return_, 1)) rfl
def fX9_saves_52 (k52 : (Nat → Int32) → Option ((Nat → Int32) × Int32)) (ms : (Nat → Int32)) (mn : Int32) : Nat → Int32 → (Nat → Int32) → Option ((Nat → Int32) × Int32)
  | 0, _, _ => none
  | n52 + 1, x1, msv => (if (531 : Int32) ≤ x1 then (k52 msv) else (Option.bind (aget ms 531 x1) (fun t3 => (Option.bind (aput msv 3186 (((531 : Int32) * mn) + x1) t3) (fun c4 => (fX9_saves_52 k52 ms mn n52 (x1 + (1 : Int32)) c4))))))
def fX9_saves_11 (k11 : (Nat → Int32) → Option ((Nat → Int32) × Int32)) : Nat → Int32 → (Nat → Int32) → Option ((Nat → Int32) × Int32)
  | 0, _, _ => none
  | n11 + 1, x1, msv => (if (2655 : Int32) ≤ x1 then (k11 msv) else (Option.bind (aget msv 3186 (x1 + (531 : Int32))) (fun t10 => (Option.bind (aput msv 3186 x1 t10) (fun c11 => (fX9_saves_11 k11 n11 (x1 + (1 : Int32)) c11))))))
def fX9_saves (ms : (Nat → Int32)) (msv : (Nat → Int32)) (mn : Int32) : Option ((Nat → Int32) × Int32) :=
  (if mn = (6 : Int32) then (fX9_saves_11 (fun (msv_u12 : (Nat → Int32)) => (fX9_saves_52 (fun (msv_u19 : (Nat → Int32)) => (some (msv_u19, (mn - (1 : Int32)) + (1 : Int32)))) ms (mn - (1 : Int32)) LF (0 : Int32) msv_u12)) LF (0 : Int32) msv) else (fX9_saves_52 (fun (msv_u5 : (Nat → Int32)) => (some (msv_u5, mn + (1 : Int32)))) ms mn LF (0 : Int32) msv))
set_option maxHeartbeats 4000000 in
set_option maxRecDepth 100000 in
theorem mX9_saves {l : Launch} {D : va_G} {bd : Nat → Nat} {cI : ClassId} {ms : (Nat → Int32)} {msv : (Nat → Int32)} {mb : (Nat → Int32)} {mf : (Nat → Int32)} {mr : (Nat → Int32)} {mt : Int32} {mn : Int32} {ml : Int32} {mat : Int32} {mw : Int32} {mm : Int32} {mh : Int64} {msv' : (Nat → Int32)} {mn' : Int32} (hs : fX9_saves ms msv mn = some (msv', mn')) : nd_C l yX9_saves cX9_saves 2 none 0 0 D [(cI, .int)] [.ref (bd 0)] (MW bd cI ms msv mb mf mr mt mn ml mat mw mm mh) (MW bd cI ms msv' mb mf mr mt mn' ml mat mw mm mh) none := by
  refine nd_ofCv (by decide) (Nat.le_of_ble_eq_true rfl) (fun p e s m args below meth c_ ls A Q hx hb hml hown hts hl hP hK hD hS hA hN hret => ?_)
  have hown : s.vm.findClass RX9 = some m.cls := hown
  have hl : lv_has ls 2 [(0, .ref (bd 0))] := hl
  have hret : ∀ (z0 : (Nat → Int32)) (z1 : Int32) {H : Heap} {locs : List Loc} {pc : Nat} {ls : Array Slot}, some (z0, z1) = some (msv', mn') → va_P D vwCl (MW bd cI ms z0 mb mf mr mt z1 ml mat mw mm mh) H → va_S A s.heap H locs → decode cX9_saves pc = .ok (.return_, 1) → W p l e ⟨0, 0, 0, 0⟩ s m args below meth c_ H locs 0 0 Q (F0 m pc ls []) := by
    intro z0 z1 H locs pc ls h hP hS hd
    cases h
    exact hret hP hS hd
  rw [fX9_saves] at hs
  refine lv_aload_n hx hb dX9_saves_0 rfl (lv_at hl 0 rfl) ?_
  refine gf_X9_40 hx hb hts hown hK hP 0 rfl rfl dX9_saves_1 ?_
  refine lv_bipush (v := (6 : Int32)) hx hb dX9_saves_4 (by decide) ?_
  refine lv_icmp_ne (tgt := 50) hx hb dX9_saves_6 (by decide) (fun b1 => ?_) (fun b1 => ?_)
  · have hs := ite_f hs b1
    refine lv_iconst (v := (0 : Int32)) hx hb dX9_saves_50 (by decide) ?_
    refine lv_istore_n (lv' := [(1, .int (0 : Int32)), (0, .ref (bd 0))]) hx hb dX9_saves_51 rfl hl (by decide) rfl (fun ls hl => ?_)
    have L52 : ∀ (n52 : Nat) (k52 : (Nat → Int32) → Option ((Nat → Int32) × Int32)) (v1_5 : Int32) (msv_5 : (Nat → Int32)) (H : Heap) (locs : List Loc) (ls : Array Slot), lv_has ls 2 [(0, .ref (bd 0)), (1, .int v1_5)] → va_P D vwCl (MW bd cI ms msv_5 mb mf mr mt mn ml mat mw mm mh) H → va_S A s.heap H locs → fX9_saves_52 k52 ms mn n52 v1_5 msv_5 = some (msv', mn') → (∀ (msv_u5 : (Nat → Int32)) (H : Heap) (locs : List Loc) (ls : Array Slot), lv_has ls 2 [(0, .ref (bd 0))] → va_P D vwCl (MW bd cI ms msv_u5 mb mf mr mt mn ml mat mw mm mh) H → va_S A s.heap H locs → k52 msv_u5 = some (msv', mn') → W p l e ⟨0, 0, 0, 0⟩ s m args below meth c_ H locs 0 0 Q (F0 m 86 ls [])) → W p l e ⟨0, 0, 0, 0⟩ s m args below meth c_ H locs 0 0 Q (F0 m 52 ls []) := by
      intro n52
      induction n52 with
      | zero =>
        intro k52 v1_5 msv_5 H locs ls hl hP hS hs hk52
        rw [fX9_saves_52] at hs
        cases hs
      | succ n52 ih52 =>
        intro k52 v1_5 msv_5 H locs ls hl hP hS hs hk52
        rw [fX9_saves_52] at hs
        have hD : va_D A (MW bd cI ms msv_5 mb mf mr mt mn ml mat mw mm mh) := nd_DD hD rfl
        refine lv_iload_n hx hb dX9_saves_52 rfl (lv_at hl 1 rfl) ?_
        refine lv_sipush (v := (531 : Int32)) hx hb dX9_saves_53 (by decide) ?_
        refine lv_icmp_ge (tgt := 86) hx hb dX9_saves_56 (by decide) (fun b6 => ?_) (fun b6 => ?_)
        · have hs := ite_t hs b6
          exact hk52 msv_5 _ _ _ (lv_sub hl [0] rfl) hP hS hs
        · have hs := ite_f hs b6
          refine lv_aload_n hx hb dX9_saves_59 rfl (lv_at hl 0 rfl) ?_
          refine gf_X9_13 hx hb hts hown hK hP 0 rfl rfl dX9_saves_60 ?_
          refine lv_sipush (v := (531 : Int32)) hx hb dX9_saves_63 (by decide) ?_
          refine lv_aload_n hx hb dX9_saves_66 rfl (lv_at hl 0 rfl) ?_
          refine gf_X9_40 hx hb hts hown hK hP 0 rfl rfl dX9_saves_67 ?_
          refine lv_imul hx hb dX9_saves_70 ?_
          refine lv_iload_n hx hb dX9_saves_71 rfl (lv_at hl 1 rfl) ?_
          refine lv_iadd hx hb dX9_saves_72 ?_
          refine lv_aload_n hx hb dX9_saves_73 rfl (lv_at hl 0 rfl) ?_
          refine gf_X9_7 hx hb hts hown hK hP 0 rfl rfl dX9_saves_74 ?_
          refine lv_iload_n hx hb dX9_saves_77 rfl (lv_at hl 1 rfl) ?_
          obtain ⟨t7, et7, hs⟩ := ob hs
          refine nd_iald hx hb hK hP 1 0 rfl rfl et7 dX9_saves_78 ?_
          obtain ⟨c8, ec8, hs⟩ := ob hs
          refine nd_iast hx hb hK hP hD hS 2 0 rfl rfl ec8 dX9_saves_79 (fun H locs hP hD hS => ?_)
          have hP : va_P D vwCl (MW bd cI ms c8 mb mf mr mt mn ml mat mw mm mh) H := hP
          have hD : va_D A (MW bd cI ms c8 mb mf mr mt mn ml mat mw mm mh) := hD
          refine lv_iinc (v := v1_5 + (1 : Int32)) (lv' := [(1, .int (v1_5 + (1 : Int32))), (0, .ref (bd 0))]) hx hb dX9_saves_80 hl (k := 1) rfl rfl (by decide) rfl (fun ls hl => ?_)
          refine lv_goto (tgt := 52) hx hb dX9_saves_83 (by decide) ?_
          exact ih52 k52 (v1_5 + (1 : Int32)) c8 _ _ _ (lv_sub hl [1, 0] rfl) hP hS hs hk52
    refine L52 LF _ (0 : Int32) msv _ _ _ (lv_sub hl [1, 0] rfl) hP hS hs (fun msv_u5 H locs ls hl hP hS hs => ?_)
    have hD : va_D A (MW bd cI ms msv_u5 mb mf mr mt mn ml mat mw mm mh) := nd_DD hD rfl
    refine lv_aload_n hx hb dX9_saves_86 rfl (lv_at hl 0 rfl) ?_
    refine lv_dup hx hb dX9_saves_87 rfl ?_
    refine gf_X9_40 hx hb hts hown hK hP 0 rfl rfl dX9_saves_88 ?_
    refine lv_iconst (v := (1 : Int32)) hx hb dX9_saves_91 (by decide) ?_
    refine lv_iadd hx hb dX9_saves_92 ?_
    refine pf_X9_40 hx hb hts hown hK hP hD hS 0 rfl rfl dX9_saves_93 (fun H locs hP hD hS => ?_)
    have hP : va_P D vwCl (MW bd cI ms msv_u5 mb mf mr mt (mn + (1 : Int32)) ml mat mw mm mh) H := hP
    have hD : va_D A (MW bd cI ms msv_u5 mb mf mr mt (mn + (1 : Int32)) ml mat mw mm mh) := hD
    exact hret _ _ hs hP hS dX9_saves_96
  · have hs := ite_t hs b1
    refine lv_iconst (v := (0 : Int32)) hx hb dX9_saves_9 (by decide) ?_
    refine lv_istore_n (lv' := [(1, .int (0 : Int32)), (0, .ref (bd 0))]) hx hb dX9_saves_10 rfl hl (by decide) rfl (fun ls hl => ?_)
    have L11 : ∀ (n11 : Nat) (k11 : (Nat → Int32) → Option ((Nat → Int32) × Int32)) (v1_12 : Int32) (msv_12 : (Nat → Int32)) (H : Heap) (locs : List Loc) (ls : Array Slot), lv_has ls 2 [(0, .ref (bd 0)), (1, .int v1_12)] → va_P D vwCl (MW bd cI ms msv_12 mb mf mr mt mn ml mat mw mm mh) H → va_S A s.heap H locs → fX9_saves_11 k11 n11 v1_12 msv_12 = some (msv', mn') → (∀ (msv_u12 : (Nat → Int32)) (H : Heap) (locs : List Loc) (ls : Array Slot), lv_has ls 2 [(0, .ref (bd 0))] → va_P D vwCl (MW bd cI ms msv_u12 mb mf mr mt mn ml mat mw mm mh) H → va_S A s.heap H locs → k11 msv_u12 = some (msv', mn') → W p l e ⟨0, 0, 0, 0⟩ s m args below meth c_ H locs 0 0 Q (F0 m 40 ls [])) → W p l e ⟨0, 0, 0, 0⟩ s m args below meth c_ H locs 0 0 Q (F0 m 11 ls []) := by
      intro n11
      induction n11 with
      | zero =>
        intro k11 v1_12 msv_12 H locs ls hl hP hS hs hk11
        rw [fX9_saves_11] at hs
        cases hs
      | succ n11 ih11 =>
        intro k11 v1_12 msv_12 H locs ls hl hP hS hs hk11
        rw [fX9_saves_11] at hs
        have hD : va_D A (MW bd cI ms msv_12 mb mf mr mt mn ml mat mw mm mh) := nd_DD hD rfl
        refine lv_iload_n hx hb dX9_saves_11 rfl (lv_at hl 1 rfl) ?_
        refine lv_sipush (v := (2655 : Int32)) hx hb dX9_saves_12 (by decide) ?_
        refine lv_icmp_ge (tgt := 40) hx hb dX9_saves_15 (by decide) (fun b13 => ?_) (fun b13 => ?_)
        · have hs := ite_t hs b13
          exact hk11 msv_12 _ _ _ (lv_sub hl [0] rfl) hP hS hs
        · have hs := ite_f hs b13
          refine lv_aload_n hx hb dX9_saves_18 rfl (lv_at hl 0 rfl) ?_
          refine gf_X9_13 hx hb hts hown hK hP 0 rfl rfl dX9_saves_19 ?_
          refine lv_iload_n hx hb dX9_saves_22 rfl (lv_at hl 1 rfl) ?_
          refine lv_aload_n hx hb dX9_saves_23 rfl (lv_at hl 0 rfl) ?_
          refine gf_X9_13 hx hb hts hown hK hP 0 rfl rfl dX9_saves_24 ?_
          refine lv_iload_n hx hb dX9_saves_27 rfl (lv_at hl 1 rfl) ?_
          refine lv_sipush (v := (531 : Int32)) hx hb dX9_saves_28 (by decide) ?_
          refine lv_iadd hx hb dX9_saves_31 ?_
          obtain ⟨t14, et14, hs⟩ := ob hs
          refine nd_iald hx hb hK hP 2 0 rfl rfl et14 dX9_saves_32 ?_
          obtain ⟨c15, ec15, hs⟩ := ob hs
          refine nd_iast hx hb hK hP hD hS 2 0 rfl rfl ec15 dX9_saves_33 (fun H locs hP hD hS => ?_)
          have hP : va_P D vwCl (MW bd cI ms c15 mb mf mr mt mn ml mat mw mm mh) H := hP
          have hD : va_D A (MW bd cI ms c15 mb mf mr mt mn ml mat mw mm mh) := hD
          refine lv_iinc (v := v1_12 + (1 : Int32)) (lv' := [(1, .int (v1_12 + (1 : Int32))), (0, .ref (bd 0))]) hx hb dX9_saves_34 hl (k := 1) rfl rfl (by decide) rfl (fun ls hl => ?_)
          refine lv_goto (tgt := 11) hx hb dX9_saves_37 (by decide) ?_
          exact ih11 k11 (v1_12 + (1 : Int32)) c15 _ _ _ (lv_sub hl [1, 0] rfl) hP hS hs hk11
    refine L11 LF _ (0 : Int32) msv _ _ _ (lv_sub hl [1, 0] rfl) hP hS hs (fun msv_u12 H locs ls hl hP hS hs => ?_)
    have hD : va_D A (MW bd cI ms msv_u12 mb mf mr mt mn ml mat mw mm mh) := nd_DD hD rfl
    refine lv_aload_n hx hb dX9_saves_40 rfl (lv_at hl 0 rfl) ?_
    refine lv_dup hx hb dX9_saves_41 rfl ?_
    refine gf_X9_40 hx hb hts hown hK hP 0 rfl rfl dX9_saves_42 ?_
    refine lv_iconst (v := (1 : Int32)) hx hb dX9_saves_45 (by decide) ?_
    refine lv_isub hx hb dX9_saves_46 ?_
    refine pf_X9_40 hx hb hts hown hK hP hD hS 0 rfl rfl dX9_saves_47 (fun H locs hP hD hS => ?_)
    have hP : va_P D vwCl (MW bd cI ms msv_u12 mb mf mr mt (mn - (1 : Int32)) ml mat mw mm mh) H := hP
    have hD : va_D A (MW bd cI ms msv_u12 mb mf mr mt (mn - (1 : Int32)) ml mat mw mm mh) := hD
    refine lv_iconst (v := (0 : Int32)) hx hb dX9_saves_50 (by decide) ?_
    refine lv_istore_n (lv' := [(1, .int (0 : Int32)), (0, .ref (bd 0))]) hx hb dX9_saves_51 rfl hl (by decide) rfl (fun ls hl => ?_)
    have L52 : ∀ (n52 : Nat) (k52 : (Nat → Int32) → Option ((Nat → Int32) × Int32)) (v1_19 : Int32) (msv_19 : (Nat → Int32)) (H : Heap) (locs : List Loc) (ls : Array Slot), lv_has ls 2 [(0, .ref (bd 0)), (1, .int v1_19)] → va_P D vwCl (MW bd cI ms msv_19 mb mf mr mt (mn - (1 : Int32)) ml mat mw mm mh) H → va_S A s.heap H locs → fX9_saves_52 k52 ms (mn - (1 : Int32)) n52 v1_19 msv_19 = some (msv', mn') → (∀ (msv_u19 : (Nat → Int32)) (H : Heap) (locs : List Loc) (ls : Array Slot), lv_has ls 2 [(0, .ref (bd 0))] → va_P D vwCl (MW bd cI ms msv_u19 mb mf mr mt (mn - (1 : Int32)) ml mat mw mm mh) H → va_S A s.heap H locs → k52 msv_u19 = some (msv', mn') → W p l e ⟨0, 0, 0, 0⟩ s m args below meth c_ H locs 0 0 Q (F0 m 86 ls [])) → W p l e ⟨0, 0, 0, 0⟩ s m args below meth c_ H locs 0 0 Q (F0 m 52 ls []) := by
      intro n52
      induction n52 with
      | zero =>
        intro k52 v1_19 msv_19 H locs ls hl hP hS hs hk52
        rw [fX9_saves_52] at hs
        cases hs
      | succ n52 ih52 =>
        intro k52 v1_19 msv_19 H locs ls hl hP hS hs hk52
        rw [fX9_saves_52] at hs
        have hD : va_D A (MW bd cI ms msv_19 mb mf mr mt (mn - (1 : Int32)) ml mat mw mm mh) := nd_DD hD rfl
        refine lv_iload_n hx hb dX9_saves_52 rfl (lv_at hl 1 rfl) ?_
        refine lv_sipush (v := (531 : Int32)) hx hb dX9_saves_53 (by decide) ?_
        refine lv_icmp_ge (tgt := 86) hx hb dX9_saves_56 (by decide) (fun b20 => ?_) (fun b20 => ?_)
        · have hs := ite_t hs b20
          exact hk52 msv_19 _ _ _ (lv_sub hl [0] rfl) hP hS hs
        · have hs := ite_f hs b20
          refine lv_aload_n hx hb dX9_saves_59 rfl (lv_at hl 0 rfl) ?_
          refine gf_X9_13 hx hb hts hown hK hP 0 rfl rfl dX9_saves_60 ?_
          refine lv_sipush (v := (531 : Int32)) hx hb dX9_saves_63 (by decide) ?_
          refine lv_aload_n hx hb dX9_saves_66 rfl (lv_at hl 0 rfl) ?_
          refine gf_X9_40 hx hb hts hown hK hP 0 rfl rfl dX9_saves_67 ?_
          refine lv_imul hx hb dX9_saves_70 ?_
          refine lv_iload_n hx hb dX9_saves_71 rfl (lv_at hl 1 rfl) ?_
          refine lv_iadd hx hb dX9_saves_72 ?_
          refine lv_aload_n hx hb dX9_saves_73 rfl (lv_at hl 0 rfl) ?_
          refine gf_X9_7 hx hb hts hown hK hP 0 rfl rfl dX9_saves_74 ?_
          refine lv_iload_n hx hb dX9_saves_77 rfl (lv_at hl 1 rfl) ?_
          obtain ⟨t21, et21, hs⟩ := ob hs
          refine nd_iald hx hb hK hP 1 0 rfl rfl et21 dX9_saves_78 ?_
          obtain ⟨c22, ec22, hs⟩ := ob hs
          refine nd_iast hx hb hK hP hD hS 2 0 rfl rfl ec22 dX9_saves_79 (fun H locs hP hD hS => ?_)
          have hP : va_P D vwCl (MW bd cI ms c22 mb mf mr mt (mn - (1 : Int32)) ml mat mw mm mh) H := hP
          have hD : va_D A (MW bd cI ms c22 mb mf mr mt (mn - (1 : Int32)) ml mat mw mm mh) := hD
          refine lv_iinc (v := v1_19 + (1 : Int32)) (lv' := [(1, .int (v1_19 + (1 : Int32))), (0, .ref (bd 0))]) hx hb dX9_saves_80 hl (k := 1) rfl rfl (by decide) rfl (fun ls hl => ?_)
          refine lv_goto (tgt := 52) hx hb dX9_saves_83 (by decide) ?_
          exact ih52 k52 (v1_19 + (1 : Int32)) c22 _ _ _ (lv_sub hl [1, 0] rfl) hP hS hs hk52
    refine L52 LF _ (0 : Int32) msv_u12 _ _ _ (lv_sub hl [1, 0] rfl) hP hS hs (fun msv_u19 H locs ls hl hP hS hs => ?_)
    have hD : va_D A (MW bd cI ms msv_u19 mb mf mr mt (mn - (1 : Int32)) ml mat mw mm mh) := nd_DD hD rfl
    refine lv_aload_n hx hb dX9_saves_86 rfl (lv_at hl 0 rfl) ?_
    refine lv_dup hx hb dX9_saves_87 rfl ?_
    refine gf_X9_40 hx hb hts hown hK hP 0 rfl rfl dX9_saves_88 ?_
    refine lv_iconst (v := (1 : Int32)) hx hb dX9_saves_91 (by decide) ?_
    refine lv_iadd hx hb dX9_saves_92 ?_
    refine pf_X9_40 hx hb hts hown hK hP hD hS 0 rfl rfl dX9_saves_93 (fun H locs hP hD hS => ?_)
    have hP : va_P D vwCl (MW bd cI ms msv_u19 mb mf mr mt ((mn - (1 : Int32)) + (1 : Int32)) ml mat mw mm mh) H := hP
    have hD : va_D A (MW bd cI ms msv_u19 mb mf mr mt ((mn - (1 : Int32)) + (1 : Int32)) ml mat mw mm mh) := hD
    exact hret _ _ hs hP hS dX9_saves_96
def tX9_digits_0 : List (Nat × Instr × Nat) := [(0, .iload_n 0, 1), (1, .sipush 999, 3), (4, .if_icmp .le 7, 3), (7, .iconst 4, 1), (8, .goto 24, 3), (11, .iload_n 0, 1), (12, .bipush 99, 2), (14, .if_icmp .le 7, 3), (17, .iconst 3, 1), (18, .goto 14, 3), (21, .iload_n 0, 1), (22, .bipush 9, 2), (24, .if_icmp .le 7, 3), (27, .iconst 2, 1), (28, .goto 4, 3), (31, .iconst 1, 1), (32, .ireturn, 1)]
theorem tX9_digits_0_ok : tX9_digits_0.all (fun q => decide (decode cX9_digits q.1 = .ok q.2)) = true := by decide +kernel
theorem dX9_digits_0 : decode cX9_digits 0 = .ok (.iload_n 0, 1) := td tX9_digits_0_ok 0 (q := (0, .iload_n 0, 1)) rfl
theorem dX9_digits_1 : decode cX9_digits 1 = .ok (.sipush 999, 3) := td tX9_digits_0_ok 1 (q := (1, .sipush 999, 3)) rfl
theorem dX9_digits_4 : decode cX9_digits 4 = .ok (.if_icmp .le 7, 3) := td tX9_digits_0_ok 2 (q := (4, .if_icmp .le 7, 3)) rfl
theorem dX9_digits_7 : decode cX9_digits 7 = .ok (.iconst 4, 1) := td tX9_digits_0_ok 3 (q := (7, .iconst 4, 1)) rfl
theorem dX9_digits_8 : decode cX9_digits 8 = .ok (.goto 24, 3) := td tX9_digits_0_ok 4 (q := (8, .goto 24, 3)) rfl
theorem dX9_digits_11 : decode cX9_digits 11 = .ok (.iload_n 0, 1) := td tX9_digits_0_ok 5 (q := (11, .iload_n 0, 1)) rfl
theorem dX9_digits_12 : decode cX9_digits 12 = .ok (.bipush 99, 2) := td tX9_digits_0_ok 6 (q := (12, .bipush 99, 2)) rfl
theorem dX9_digits_14 : decode cX9_digits 14 = .ok (.if_icmp .le 7, 3) := td tX9_digits_0_ok 7 (q := (14, .if_icmp .le 7, 3)) rfl
theorem dX9_digits_17 : decode cX9_digits 17 = .ok (.iconst 3, 1) := td tX9_digits_0_ok 8 (q := (17, .iconst 3, 1)) rfl
theorem dX9_digits_18 : decode cX9_digits 18 = .ok (.goto 14, 3) := td tX9_digits_0_ok 9 (q := (18, .goto 14, 3)) rfl
theorem dX9_digits_21 : decode cX9_digits 21 = .ok (.iload_n 0, 1) := td tX9_digits_0_ok 10 (q := (21, .iload_n 0, 1)) rfl
theorem dX9_digits_22 : decode cX9_digits 22 = .ok (.bipush 9, 2) := td tX9_digits_0_ok 11 (q := (22, .bipush 9, 2)) rfl
theorem dX9_digits_24 : decode cX9_digits 24 = .ok (.if_icmp .le 7, 3) := td tX9_digits_0_ok 12 (q := (24, .if_icmp .le 7, 3)) rfl
theorem dX9_digits_27 : decode cX9_digits 27 = .ok (.iconst 2, 1) := td tX9_digits_0_ok 13 (q := (27, .iconst 2, 1)) rfl
theorem dX9_digits_28 : decode cX9_digits 28 = .ok (.goto 4, 3) := td tX9_digits_0_ok 14 (q := (28, .goto 4, 3)) rfl
theorem dX9_digits_31 : decode cX9_digits 31 = .ok (.iconst 1, 1) := td tX9_digits_0_ok 15 (q := (31, .iconst 1, 1)) rfl
theorem dX9_digits_32 : decode cX9_digits 32 = .ok (.ireturn, 1) := td tX9_digits_0_ok 16 (q := (32, .ireturn, 1)) rfl
def fX9_digits (x0 : Int32) : Option (Int32) :=
  (if x0 ≤ (999 : Int32) then (if x0 ≤ (99 : Int32) then (if x0 ≤ (9 : Int32) then (some (1 : Int32)) else (some (2 : Int32))) else (some (3 : Int32))) else (some (4 : Int32)))
set_option maxHeartbeats 4000000 in
set_option maxRecDepth 100000 in
theorem mX9_digits {l : Launch} {D : va_G} {W0 : va_W} {tys : nd_T} {x0 : Int32} {r : Int32} (hs : fX9_digits x0 = some r) : nd_C l yX9_digits cX9_digits 1 (some .int) 0 0 D tys [.int x0] W0 W0 (some (.int r)) := by
  refine nd_ofCi (by decide) (Nat.le_of_ble_eq_true rfl) (fun p e s m args below meth c_ ls A Q hx hb hml hown hts hl hP hK hD hS hA hN hret => ?_)
  have hown : s.vm.findClass RX9 = some m.cls := hown
  have hl : lv_has ls 1 [(0, .int x0)] := hl
  have hret : ∀ (z0 : Int32) {H : Heap} {locs : List Loc} {pc : Nat} {ls : Array Slot}, some z0 = some r → va_P D vwCl W0 H → va_S A s.heap H locs → decode cX9_digits pc = .ok (.ireturn, 1) → W p l e ⟨0, 0, 0, 0⟩ s m args below meth c_ H locs 0 0 Q (F0 m pc ls [.int z0]) := by
    intro z0 H locs pc ls h hP hS hd
    cases h
    exact hret hP hS hd
  rw [fX9_digits] at hs
  refine lv_iload_n hx hb dX9_digits_0 rfl (lv_at hl 0 rfl) ?_
  refine lv_sipush (v := (999 : Int32)) hx hb dX9_digits_1 (by decide) ?_
  refine lv_icmp_le (tgt := 11) hx hb dX9_digits_4 (by decide) (fun b1 => ?_) (fun b1 => ?_)
  · have hs := ite_t hs b1
    refine lv_iload_n hx hb dX9_digits_11 rfl (lv_at hl 0 rfl) ?_
    refine lv_bipush (v := (99 : Int32)) hx hb dX9_digits_12 (by decide) ?_
    refine lv_icmp_le (tgt := 21) hx hb dX9_digits_14 (by decide) (fun b2 => ?_) (fun b2 => ?_)
    · have hs := ite_t hs b2
      refine lv_iload_n hx hb dX9_digits_21 rfl (lv_at hl 0 rfl) ?_
      refine lv_bipush (v := (9 : Int32)) hx hb dX9_digits_22 (by decide) ?_
      refine lv_icmp_le (tgt := 31) hx hb dX9_digits_24 (by decide) (fun b3 => ?_) (fun b3 => ?_)
      · have hs := ite_t hs b3
        refine lv_iconst (v := (1 : Int32)) hx hb dX9_digits_31 (by decide) ?_
        exact hret _ hs hP hS dX9_digits_32
      · have hs := ite_f hs b3
        refine lv_iconst (v := (2 : Int32)) hx hb dX9_digits_27 (by decide) ?_
        refine lv_goto (tgt := 32) hx hb dX9_digits_28 (by decide) ?_
        exact hret _ hs hP hS dX9_digits_32
    · have hs := ite_f hs b2
      refine lv_iconst (v := (3 : Int32)) hx hb dX9_digits_17 (by decide) ?_
      refine lv_goto (tgt := 32) hx hb dX9_digits_18 (by decide) ?_
      exact hret _ hs hP hS dX9_digits_32
  · have hs := ite_f hs b1
    refine lv_iconst (v := (4 : Int32)) hx hb dX9_digits_7 (by decide) ?_
    refine lv_goto (tgt := 32) hx hb dX9_digits_8 (by decide) ?_
    exact hret _ hs hP hS dX9_digits_32
def tX9_isTurned_0 : List (Nat × Instr × Nat) := [(0, .iconst 0, 1), (1, .istore_n 2, 1), (2, .iconst 1, 1), (3, .istore_n 3, 1), (4, .bipush 10, 2), (6, .iload_n 3, 1), (7, .imul, 1), (8, .iload_n 1, 1), (9, .if_icmp .gt 56, 3), (12, .iload_n 1, 1), (13, .iload_n 3, 1), (14, .idiv, 1), (15, .bipush 10, 2), (17, .irem, 1), (18, .istore 4, 2), (20, .iload_n 1, 1), (21, .iload_n 3, 1), (22, .idiv, 1), (23, .bipush 10, 2), (25, .idiv, 1), (26, .bipush 10, 2), (28, .irem, 1), (29, .istore 5, 2), (31, .iload_n 2, 1), (32, .ifCond .ne 19, 3), (35, .iload_n 1, 1), (36, .iload 4, 2), (38, .iload 5, 2), (40, .isub, 1), (41, .bipush 9, 2), (43, .imul, 1), (44, .iload_n 3, 1), (45, .imul, 1), (46, .iadd, 1), (47, .iload_n 0, 1), (48, .if_icmp .ne 7, 3), (51, .iconst 1, 1), (52, .goto 4, 3), (55, .iconst 0, 1), (56, .istore_n 2, 1), (57, .iload_n 3, 1), (58, .bipush 10, 2), (60, .imul, 1), (61, .istore_n 3, 1), (62, .goto (-58), 3), (65, .iload_n 2, 1), (66, .ifCond .eq 18, 3), (69, .iload_n 0, 1), (70, .invokestatic 43, 3), (73, .iload_n 1, 1), (74, .invokestatic 43, 3), (77, .if_icmp .ne 7, 3), (80, .iconst 1, 1), (81, .goto 4, 3), (84, .iconst 0, 1), (85, .ireturn, 1)]
theorem tX9_isTurned_0_ok : tX9_isTurned_0.all (fun q => decide (decode cX9_isTurned q.1 = .ok q.2)) = true := by decide +kernel
theorem dX9_isTurned_0 : decode cX9_isTurned 0 = .ok (.iconst 0, 1) := td tX9_isTurned_0_ok 0 (q := (0, .iconst 0, 1)) rfl
theorem dX9_isTurned_1 : decode cX9_isTurned 1 = .ok (.istore_n 2, 1) := td tX9_isTurned_0_ok 1 (q := (1, .istore_n 2, 1)) rfl
theorem dX9_isTurned_2 : decode cX9_isTurned 2 = .ok (.iconst 1, 1) := td tX9_isTurned_0_ok 2 (q := (2, .iconst 1, 1)) rfl
theorem dX9_isTurned_3 : decode cX9_isTurned 3 = .ok (.istore_n 3, 1) := td tX9_isTurned_0_ok 3 (q := (3, .istore_n 3, 1)) rfl
theorem dX9_isTurned_4 : decode cX9_isTurned 4 = .ok (.bipush 10, 2) := td tX9_isTurned_0_ok 4 (q := (4, .bipush 10, 2)) rfl
theorem dX9_isTurned_6 : decode cX9_isTurned 6 = .ok (.iload_n 3, 1) := td tX9_isTurned_0_ok 5 (q := (6, .iload_n 3, 1)) rfl
theorem dX9_isTurned_7 : decode cX9_isTurned 7 = .ok (.imul, 1) := td tX9_isTurned_0_ok 6 (q := (7, .imul, 1)) rfl
theorem dX9_isTurned_8 : decode cX9_isTurned 8 = .ok (.iload_n 1, 1) := td tX9_isTurned_0_ok 7 (q := (8, .iload_n 1, 1)) rfl
theorem dX9_isTurned_9 : decode cX9_isTurned 9 = .ok (.if_icmp .gt 56, 3) := td tX9_isTurned_0_ok 8 (q := (9, .if_icmp .gt 56, 3)) rfl
theorem dX9_isTurned_12 : decode cX9_isTurned 12 = .ok (.iload_n 1, 1) := td tX9_isTurned_0_ok 9 (q := (12, .iload_n 1, 1)) rfl
theorem dX9_isTurned_13 : decode cX9_isTurned 13 = .ok (.iload_n 3, 1) := td tX9_isTurned_0_ok 10 (q := (13, .iload_n 3, 1)) rfl
theorem dX9_isTurned_14 : decode cX9_isTurned 14 = .ok (.idiv, 1) := td tX9_isTurned_0_ok 11 (q := (14, .idiv, 1)) rfl
theorem dX9_isTurned_15 : decode cX9_isTurned 15 = .ok (.bipush 10, 2) := td tX9_isTurned_0_ok 12 (q := (15, .bipush 10, 2)) rfl
theorem dX9_isTurned_17 : decode cX9_isTurned 17 = .ok (.irem, 1) := td tX9_isTurned_0_ok 13 (q := (17, .irem, 1)) rfl
theorem dX9_isTurned_18 : decode cX9_isTurned 18 = .ok (.istore 4, 2) := td tX9_isTurned_0_ok 14 (q := (18, .istore 4, 2)) rfl
theorem dX9_isTurned_20 : decode cX9_isTurned 20 = .ok (.iload_n 1, 1) := td tX9_isTurned_0_ok 15 (q := (20, .iload_n 1, 1)) rfl
theorem dX9_isTurned_21 : decode cX9_isTurned 21 = .ok (.iload_n 3, 1) := td tX9_isTurned_0_ok 16 (q := (21, .iload_n 3, 1)) rfl
theorem dX9_isTurned_22 : decode cX9_isTurned 22 = .ok (.idiv, 1) := td tX9_isTurned_0_ok 17 (q := (22, .idiv, 1)) rfl
theorem dX9_isTurned_23 : decode cX9_isTurned 23 = .ok (.bipush 10, 2) := td tX9_isTurned_0_ok 18 (q := (23, .bipush 10, 2)) rfl
theorem dX9_isTurned_25 : decode cX9_isTurned 25 = .ok (.idiv, 1) := td tX9_isTurned_0_ok 19 (q := (25, .idiv, 1)) rfl
theorem dX9_isTurned_26 : decode cX9_isTurned 26 = .ok (.bipush 10, 2) := td tX9_isTurned_0_ok 20 (q := (26, .bipush 10, 2)) rfl
theorem dX9_isTurned_28 : decode cX9_isTurned 28 = .ok (.irem, 1) := td tX9_isTurned_0_ok 21 (q := (28, .irem, 1)) rfl
theorem dX9_isTurned_29 : decode cX9_isTurned 29 = .ok (.istore 5, 2) := td tX9_isTurned_0_ok 22 (q := (29, .istore 5, 2)) rfl
theorem dX9_isTurned_31 : decode cX9_isTurned 31 = .ok (.iload_n 2, 1) := td tX9_isTurned_0_ok 23 (q := (31, .iload_n 2, 1)) rfl
theorem dX9_isTurned_32 : decode cX9_isTurned 32 = .ok (.ifCond .ne 19, 3) := td tX9_isTurned_0_ok 24 (q := (32, .ifCond .ne 19, 3)) rfl
theorem dX9_isTurned_35 : decode cX9_isTurned 35 = .ok (.iload_n 1, 1) := td tX9_isTurned_0_ok 25 (q := (35, .iload_n 1, 1)) rfl
theorem dX9_isTurned_36 : decode cX9_isTurned 36 = .ok (.iload 4, 2) := td tX9_isTurned_0_ok 26 (q := (36, .iload 4, 2)) rfl
theorem dX9_isTurned_38 : decode cX9_isTurned 38 = .ok (.iload 5, 2) := td tX9_isTurned_0_ok 27 (q := (38, .iload 5, 2)) rfl
theorem dX9_isTurned_40 : decode cX9_isTurned 40 = .ok (.isub, 1) := td tX9_isTurned_0_ok 28 (q := (40, .isub, 1)) rfl
theorem dX9_isTurned_41 : decode cX9_isTurned 41 = .ok (.bipush 9, 2) := td tX9_isTurned_0_ok 29 (q := (41, .bipush 9, 2)) rfl
theorem dX9_isTurned_43 : decode cX9_isTurned 43 = .ok (.imul, 1) := td tX9_isTurned_0_ok 30 (q := (43, .imul, 1)) rfl
theorem dX9_isTurned_44 : decode cX9_isTurned 44 = .ok (.iload_n 3, 1) := td tX9_isTurned_0_ok 31 (q := (44, .iload_n 3, 1)) rfl
theorem dX9_isTurned_45 : decode cX9_isTurned 45 = .ok (.imul, 1) := td tX9_isTurned_0_ok 32 (q := (45, .imul, 1)) rfl
theorem dX9_isTurned_46 : decode cX9_isTurned 46 = .ok (.iadd, 1) := td tX9_isTurned_0_ok 33 (q := (46, .iadd, 1)) rfl
theorem dX9_isTurned_47 : decode cX9_isTurned 47 = .ok (.iload_n 0, 1) := td tX9_isTurned_0_ok 34 (q := (47, .iload_n 0, 1)) rfl
theorem dX9_isTurned_48 : decode cX9_isTurned 48 = .ok (.if_icmp .ne 7, 3) := td tX9_isTurned_0_ok 35 (q := (48, .if_icmp .ne 7, 3)) rfl
theorem dX9_isTurned_51 : decode cX9_isTurned 51 = .ok (.iconst 1, 1) := td tX9_isTurned_0_ok 36 (q := (51, .iconst 1, 1)) rfl
theorem dX9_isTurned_52 : decode cX9_isTurned 52 = .ok (.goto 4, 3) := td tX9_isTurned_0_ok 37 (q := (52, .goto 4, 3)) rfl
theorem dX9_isTurned_55 : decode cX9_isTurned 55 = .ok (.iconst 0, 1) := td tX9_isTurned_0_ok 38 (q := (55, .iconst 0, 1)) rfl
theorem dX9_isTurned_56 : decode cX9_isTurned 56 = .ok (.istore_n 2, 1) := td tX9_isTurned_0_ok 39 (q := (56, .istore_n 2, 1)) rfl
theorem dX9_isTurned_57 : decode cX9_isTurned 57 = .ok (.iload_n 3, 1) := td tX9_isTurned_0_ok 40 (q := (57, .iload_n 3, 1)) rfl
theorem dX9_isTurned_58 : decode cX9_isTurned 58 = .ok (.bipush 10, 2) := td tX9_isTurned_0_ok 41 (q := (58, .bipush 10, 2)) rfl
theorem dX9_isTurned_60 : decode cX9_isTurned 60 = .ok (.imul, 1) := td tX9_isTurned_0_ok 42 (q := (60, .imul, 1)) rfl
theorem dX9_isTurned_61 : decode cX9_isTurned 61 = .ok (.istore_n 3, 1) := td tX9_isTurned_0_ok 43 (q := (61, .istore_n 3, 1)) rfl
theorem dX9_isTurned_62 : decode cX9_isTurned 62 = .ok (.goto (-58), 3) := td tX9_isTurned_0_ok 44 (q := (62, .goto (-58), 3)) rfl
theorem dX9_isTurned_65 : decode cX9_isTurned 65 = .ok (.iload_n 2, 1) := td tX9_isTurned_0_ok 45 (q := (65, .iload_n 2, 1)) rfl
theorem dX9_isTurned_66 : decode cX9_isTurned 66 = .ok (.ifCond .eq 18, 3) := td tX9_isTurned_0_ok 46 (q := (66, .ifCond .eq 18, 3)) rfl
theorem dX9_isTurned_69 : decode cX9_isTurned 69 = .ok (.iload_n 0, 1) := td tX9_isTurned_0_ok 47 (q := (69, .iload_n 0, 1)) rfl
theorem dX9_isTurned_70 : decode cX9_isTurned 70 = .ok (.invokestatic 43, 3) := td tX9_isTurned_0_ok 48 (q := (70, .invokestatic 43, 3)) rfl
theorem dX9_isTurned_73 : decode cX9_isTurned 73 = .ok (.iload_n 1, 1) := td tX9_isTurned_0_ok 49 (q := (73, .iload_n 1, 1)) rfl
theorem dX9_isTurned_74 : decode cX9_isTurned 74 = .ok (.invokestatic 43, 3) := td tX9_isTurned_0_ok 50 (q := (74, .invokestatic 43, 3)) rfl
theorem dX9_isTurned_77 : decode cX9_isTurned 77 = .ok (.if_icmp .ne 7, 3) := td tX9_isTurned_0_ok 51 (q := (77, .if_icmp .ne 7, 3)) rfl
theorem dX9_isTurned_80 : decode cX9_isTurned 80 = .ok (.iconst 1, 1) := td tX9_isTurned_0_ok 52 (q := (80, .iconst 1, 1)) rfl
theorem dX9_isTurned_81 : decode cX9_isTurned 81 = .ok (.goto 4, 3) := td tX9_isTurned_0_ok 53 (q := (81, .goto 4, 3)) rfl
theorem dX9_isTurned_84 : decode cX9_isTurned 84 = .ok (.iconst 0, 1) := td tX9_isTurned_0_ok 54 (q := (84, .iconst 0, 1)) rfl
theorem dX9_isTurned_85 : decode cX9_isTurned 85 = .ok (.ireturn, 1) := td tX9_isTurned_0_ok 55 (q := (85, .ireturn, 1)) rfl
def fX9_isTurned_4 (k4 : Int32 → Option (Int32)) (x0 : Int32) (x1 : Int32) : Nat → Int32 → Int32 → Option (Int32)
  | 0, _, _ => none
  | n4 + 1, x2, x3 => (if x1 < ((10 : Int32) * x3) then (k4 x2) else (Option.bind (jdiv x1 x3) (fun t2 => (Option.bind (jdiv x1 x3) (fun t3 => (if x2 = 0 then (if (x1 + ((((t2 - t2 / (10 : Int32) * (10 : Int32)) - ((t3 / (10 : Int32)) - (t3 / (10 : Int32)) / (10 : Int32) * (10 : Int32))) * (9 : Int32)) * x3)) = x0 then (fX9_isTurned_4 k4 x0 x1 n4 (1 : Int32) (x3 * (10 : Int32))) else (fX9_isTurned_4 k4 x0 x1 n4 (0 : Int32) (x3 * (10 : Int32)))) else (fX9_isTurned_4 k4 x0 x1 n4 (1 : Int32) (x3 * (10 : Int32)))))))))
def fX9_isTurned (x0 : Int32) (x1 : Int32) : Option (Int32) :=
  (fX9_isTurned_4 (fun (u2_6 : Int32) => (if u2_6 = 0 then (some (0 : Int32)) else (Option.bind (fX9_digits x0) (fun q13 => (Option.bind (fX9_digits x1) (fun q14 => (if q13 = q14 then (some (1 : Int32)) else (some (0 : Int32))))))))) x0 x1 LF (0 : Int32) (1 : Int32))
set_option maxHeartbeats 4000000 in
set_option maxRecDepth 100000 in
theorem mX9_isTurned {l : Launch} {D : va_G} {W0 : va_W} {tys : nd_T} {x0 : Int32} {x1 : Int32} {r : Int32} (hs : fX9_isTurned x0 x1 = some r) : nd_C l yX9_isTurned cX9_isTurned 6 (some .boolean) 1 20 D tys [.int x0, .int x1] W0 W0 (some (.int r)) := by
  refine nd_ofCz (by decide) (Nat.le_of_ble_eq_true rfl) (fun p e s m args below meth c_ ls A Q hx hb hml hown hts hl hP hK hD hS hA hN hret => ?_)
  have hown : s.vm.findClass RX9 = some m.cls := hown
  have hl : lv_has ls 6 [(0, .int x0), (1, .int x1)] := hl
  have hret : ∀ (z0 : Int32) {H : Heap} {locs : List Loc} {pc : Nat} {ls : Array Slot}, some z0 = some r → (z0 = 0 ∨ z0 = 1) → va_P D vwCl W0 H → va_S A s.heap H locs → decode cX9_isTurned pc = .ok (.ireturn, 1) → W p l e ⟨1, 0, 0, 20⟩ s m args below meth c_ H locs 0 0 Q (F0 m pc ls [.int z0]) := by
    intro z0 H locs pc ls h hz hP hS hd
    cases h
    exact hret hz hP hS hd
  rw [fX9_isTurned] at hs
  refine lv_iconst (v := (0 : Int32)) hx hb dX9_isTurned_0 (by decide) ?_
  refine lv_istore_n (lv' := [(2, .int (0 : Int32)), (0, .int x0), (1, .int x1)]) hx hb dX9_isTurned_1 rfl hl (by decide) rfl (fun ls hl => ?_)
  refine lv_iconst (v := (1 : Int32)) hx hb dX9_isTurned_2 (by decide) ?_
  refine lv_istore_n (lv' := [(3, .int (1 : Int32)), (2, .int (0 : Int32)), (0, .int x0), (1, .int x1)]) hx hb dX9_isTurned_3 rfl hl (by decide) rfl (fun ls hl => ?_)
  have L4 : ∀ (n4 : Nat) (k4 : Int32 → Option (Int32)) (v2_6 : Int32) (v3_6 : Int32) (H : Heap) (locs : List Loc) (ls : Array Slot), lv_has ls 6 [(0, .int x0), (1, .int x1), (2, .int v2_6), (3, .int v3_6)] → va_P D vwCl W0 H → va_S A s.heap H locs → fX9_isTurned_4 k4 x0 x1 n4 v2_6 v3_6 = some r → (∀ (u2_6 : Int32) (H : Heap) (locs : List Loc) (ls : Array Slot), lv_has ls 6 [(0, .int x0), (1, .int x1), (2, .int u2_6)] → va_P D vwCl W0 H → va_S A s.heap H locs → k4 u2_6 = some r → W p l e ⟨1, 0, 0, 20⟩ s m args below meth c_ H locs 0 0 Q (F0 m 65 ls [])) → W p l e ⟨1, 0, 0, 20⟩ s m args below meth c_ H locs 0 0 Q (F0 m 4 ls []) := by
    intro n4
    induction n4 with
    | zero =>
      intro k4 v2_6 v3_6 H locs ls hl hP hS hs hk4
      rw [fX9_isTurned_4] at hs
      cases hs
    | succ n4 ih4 =>
      intro k4 v2_6 v3_6 H locs ls hl hP hS hs hk4
      rw [fX9_isTurned_4] at hs
      refine lv_bipush (v := (10 : Int32)) hx hb dX9_isTurned_4 (by decide) ?_
      refine lv_iload_n hx hb dX9_isTurned_6 rfl (lv_at hl 3 rfl) ?_
      refine lv_imul hx hb dX9_isTurned_7 ?_
      refine lv_iload_n hx hb dX9_isTurned_8 rfl (lv_at hl 1 rfl) ?_
      refine lv_icmp_gt (tgt := 65) hx hb dX9_isTurned_9 (by decide) (fun b7 => ?_) (fun b7 => ?_)
      · have hs := ite_t hs b7
        exact hk4 v2_6 _ _ _ (lv_sub hl [0, 1, 2] rfl) hP hS hs
      · have hs := ite_f hs b7
        refine lv_iload_n hx hb dX9_isTurned_12 rfl (lv_at hl 1 rfl) ?_
        refine lv_iload_n hx hb dX9_isTurned_13 rfl (lv_at hl 3 rfl) ?_
        obtain ⟨t8, et8, hs⟩ := ob hs
        refine nd_idiv hx hb dX9_isTurned_14 et8 ?_
        refine lv_bipush (v := (10 : Int32)) hx hb dX9_isTurned_15 (by decide) ?_
        refine lv_irem hx hb dX9_isTurned_17 (by decide) ?_
        refine lv_istore (lv' := [(4, .int (t8 - t8 / (10 : Int32) * (10 : Int32))), (0, .int x0), (1, .int x1), (2, .int v2_6), (3, .int v3_6)]) hx hb dX9_isTurned_18 hl (by decide) rfl (fun ls hl => ?_)
        refine lv_iload_n hx hb dX9_isTurned_20 rfl (lv_at hl 2 rfl) ?_
        refine lv_iload_n hx hb dX9_isTurned_21 rfl (lv_at hl 4 rfl) ?_
        obtain ⟨t9, et9, hs⟩ := ob hs
        refine nd_idiv hx hb dX9_isTurned_22 et9 ?_
        refine lv_bipush (v := (10 : Int32)) hx hb dX9_isTurned_23 (by decide) ?_
        refine lv_idiv hx hb dX9_isTurned_25 (by decide) ?_
        refine lv_bipush (v := (10 : Int32)) hx hb dX9_isTurned_26 (by decide) ?_
        refine lv_irem hx hb dX9_isTurned_28 (by decide) ?_
        refine lv_istore (lv' := [(5, .int ((t9 / (10 : Int32)) - (t9 / (10 : Int32)) / (10 : Int32) * (10 : Int32))), (4, .int (t8 - t8 / (10 : Int32) * (10 : Int32))), (0, .int x0), (1, .int x1), (2, .int v2_6), (3, .int v3_6)]) hx hb dX9_isTurned_29 hl (by decide) rfl (fun ls hl => ?_)
        refine lv_iload_n hx hb dX9_isTurned_31 rfl (lv_at hl 4 rfl) ?_
        refine lv_if_ne (tgt := 51) hx hb dX9_isTurned_32 (by decide) (fun b10 => ?_) (fun b10 => ?_)
        · have hs := ite_f hs b10
          refine lv_iconst (v := (1 : Int32)) hx hb dX9_isTurned_51 (by decide) ?_
          refine lv_goto (tgt := 56) hx hb dX9_isTurned_52 (by decide) ?_
          refine lv_istore_n (lv' := [(2, .int (1 : Int32)), (5, .int ((t9 / (10 : Int32)) - (t9 / (10 : Int32)) / (10 : Int32) * (10 : Int32))), (4, .int (t8 - t8 / (10 : Int32) * (10 : Int32))), (0, .int x0), (1, .int x1), (3, .int v3_6)]) hx hb dX9_isTurned_56 rfl hl (by decide) rfl (fun ls hl => ?_)
          refine lv_iload_n hx hb dX9_isTurned_57 rfl (lv_at hl 5 rfl) ?_
          refine lv_bipush (v := (10 : Int32)) hx hb dX9_isTurned_58 (by decide) ?_
          refine lv_imul hx hb dX9_isTurned_60 ?_
          refine lv_istore_n (lv' := [(3, .int (v3_6 * (10 : Int32))), (2, .int (1 : Int32)), (5, .int ((t9 / (10 : Int32)) - (t9 / (10 : Int32)) / (10 : Int32) * (10 : Int32))), (4, .int (t8 - t8 / (10 : Int32) * (10 : Int32))), (0, .int x0), (1, .int x1)]) hx hb dX9_isTurned_61 rfl hl (by decide) rfl (fun ls hl => ?_)
          refine lv_goto (tgt := 4) hx hb dX9_isTurned_62 (by decide) ?_
          exact ih4 k4 (1 : Int32) (v3_6 * (10 : Int32)) _ _ _ (lv_sub hl [4, 5, 1, 0] rfl) hP hS hs hk4
        · have hs := ite_t hs b10
          refine lv_iload_n hx hb dX9_isTurned_35 rfl (lv_at hl 3 rfl) ?_
          refine lv_iload hx hb dX9_isTurned_36 (lv_at hl 1 rfl) ?_
          refine lv_iload hx hb dX9_isTurned_38 (lv_at hl 0 rfl) ?_
          refine lv_isub hx hb dX9_isTurned_40 ?_
          refine lv_bipush (v := (9 : Int32)) hx hb dX9_isTurned_41 (by decide) ?_
          refine lv_imul hx hb dX9_isTurned_43 ?_
          refine lv_iload_n hx hb dX9_isTurned_44 rfl (lv_at hl 5 rfl) ?_
          refine lv_imul hx hb dX9_isTurned_45 ?_
          refine lv_iadd hx hb dX9_isTurned_46 ?_
          refine lv_iload_n hx hb dX9_isTurned_47 rfl (lv_at hl 2 rfl) ?_
          refine lv_icmp_ne (tgt := 55) hx hb dX9_isTurned_48 (by decide) (fun b11 => ?_) (fun b11 => ?_)
          · have hs := ite_f hs b11
            refine lv_iconst (v := (0 : Int32)) hx hb dX9_isTurned_55 (by decide) ?_
            refine lv_istore_n (lv' := [(2, .int (0 : Int32)), (5, .int ((t9 / (10 : Int32)) - (t9 / (10 : Int32)) / (10 : Int32) * (10 : Int32))), (4, .int (t8 - t8 / (10 : Int32) * (10 : Int32))), (0, .int x0), (1, .int x1), (3, .int v3_6)]) hx hb dX9_isTurned_56 rfl hl (by decide) rfl (fun ls hl => ?_)
            refine lv_iload_n hx hb dX9_isTurned_57 rfl (lv_at hl 5 rfl) ?_
            refine lv_bipush (v := (10 : Int32)) hx hb dX9_isTurned_58 (by decide) ?_
            refine lv_imul hx hb dX9_isTurned_60 ?_
            refine lv_istore_n (lv' := [(3, .int (v3_6 * (10 : Int32))), (2, .int (0 : Int32)), (5, .int ((t9 / (10 : Int32)) - (t9 / (10 : Int32)) / (10 : Int32) * (10 : Int32))), (4, .int (t8 - t8 / (10 : Int32) * (10 : Int32))), (0, .int x0), (1, .int x1)]) hx hb dX9_isTurned_61 rfl hl (by decide) rfl (fun ls hl => ?_)
            refine lv_goto (tgt := 4) hx hb dX9_isTurned_62 (by decide) ?_
            exact ih4 k4 (0 : Int32) (v3_6 * (10 : Int32)) _ _ _ (lv_sub hl [4, 5, 1, 0] rfl) hP hS hs hk4
          · have hs := ite_t hs b11
            refine lv_iconst (v := (1 : Int32)) hx hb dX9_isTurned_51 (by decide) ?_
            refine lv_goto (tgt := 56) hx hb dX9_isTurned_52 (by decide) ?_
            refine lv_istore_n (lv' := [(2, .int (1 : Int32)), (5, .int ((t9 / (10 : Int32)) - (t9 / (10 : Int32)) / (10 : Int32) * (10 : Int32))), (4, .int (t8 - t8 / (10 : Int32) * (10 : Int32))), (0, .int x0), (1, .int x1), (3, .int v3_6)]) hx hb dX9_isTurned_56 rfl hl (by decide) rfl (fun ls hl => ?_)
            refine lv_iload_n hx hb dX9_isTurned_57 rfl (lv_at hl 5 rfl) ?_
            refine lv_bipush (v := (10 : Int32)) hx hb dX9_isTurned_58 (by decide) ?_
            refine lv_imul hx hb dX9_isTurned_60 ?_
            refine lv_istore_n (lv' := [(3, .int (v3_6 * (10 : Int32))), (2, .int (1 : Int32)), (5, .int ((t9 / (10 : Int32)) - (t9 / (10 : Int32)) / (10 : Int32) * (10 : Int32))), (4, .int (t8 - t8 / (10 : Int32) * (10 : Int32))), (0, .int x0), (1, .int x1)]) hx hb dX9_isTurned_61 rfl hl (by decide) rfl (fun ls hl => ?_)
            refine lv_goto (tgt := 4) hx hb dX9_isTurned_62 (by decide) ?_
            exact ih4 k4 (1 : Int32) (v3_6 * (10 : Int32)) _ _ _ (lv_sub hl [4, 5, 1, 0] rfl) hP hS hs hk4
  refine L4 LF _ (0 : Int32) (1 : Int32) _ _ _ (lv_sub hl [2, 3, 1, 0] rfl) hP hS hs (fun u2_6 H locs ls hl hP hS hs => ?_)
  refine lv_iload_n hx hb dX9_isTurned_65 rfl (lv_at hl 2 rfl) ?_
  refine lv_if_eq (tgt := 84) hx hb dX9_isTurned_66 (by decide) (fun b12 => ?_) (fun b12 => ?_)
  · have hs := ite_t hs b12
    refine lv_iconst (v := (0 : Int32)) hx hb dX9_isTurned_84 (by decide) ?_
    exact hret _ hs (Or.inl rfl) hP hS dX9_isTurned_85
  · have hs := ite_f hs b12
    refine lv_iload_n hx hb dX9_isTurned_69 rfl (lv_at hl 0 rfl) ?_
    obtain ⟨q13, eq13, hs⟩ := ob hs
    refine nd_callS (As := [.int x0]) (rest := []) (st1 := [.int q13]) hx hb hml hown hts hl hP hK hD hS hA hN (mX9_digits eq13) is_X9_digits wd_630 rfl rfl ⟨Nat.le_of_ble_eq_true rfl, Nat.le_of_ble_eq_true rfl⟩ (Nat.le_of_ble_eq_true rfl) ⟨Nat.zero_le _, Nat.zero_le _⟩ dX9_isTurned_70 rfl rfl (fun H locs hP hD hS => ?_)
    refine lv_iload_n hx hb dX9_isTurned_73 rfl (lv_at hl 1 rfl) ?_
    obtain ⟨q14, eq14, hs⟩ := ob hs
    refine nd_callS (As := [.int x1]) (rest := [.int q13]) (st1 := [.int q14, .int q13]) hx hb hml hown hts hl hP hK hD hS hA hN (mX9_digits eq14) is_X9_digits wd_630 rfl rfl ⟨Nat.le_of_ble_eq_true rfl, Nat.le_of_ble_eq_true rfl⟩ (Nat.le_of_ble_eq_true rfl) ⟨Nat.zero_le _, Nat.zero_le _⟩ dX9_isTurned_74 rfl rfl (fun H locs hP hD hS => ?_)
    refine lv_icmp_ne (tgt := 84) hx hb dX9_isTurned_77 (by decide) (fun b15 => ?_) (fun b15 => ?_)
    · have hs := ite_f hs b15
      refine lv_iconst (v := (0 : Int32)) hx hb dX9_isTurned_84 (by decide) ?_
      exact hret _ hs (Or.inl rfl) hP hS dX9_isTurned_85
    · have hs := ite_t hs b15
      refine lv_iconst (v := (1 : Int32)) hx hb dX9_isTurned_80 (by decide) ?_
      refine lv_goto (tgt := 85) hx hb dX9_isTurned_81 (by decide) ?_
      exact hret _ hs (Or.inr rfl) hP hS dX9_isTurned_85
def tX9_stateOf_0 : List (Nat × Instr × Nat) := [(0, .iload_n 1, 1), (1, .iload_n 2, 1), (2, .invokestatic 37, 3), (5, .istore_n 3, 1), (6, .aload_n 0, 1), (7, .iload_n 1, 1), (8, .iload_n 2, 1), (9, .invokevirtual 47, 3), (12, .istore 4, 2), (14, .aload_n 0, 1), (15, .getfield 7, 3), (18, .iload_n 3, 1), (19, .bipush 7, 2), (21, .iadd, 1), (22, .iaload, 1), (23, .istore 5, 2), (25, .iload 5, 2), (27, .iload 4, 2), (29, .if_icmp .eq 13, 3), (32, .iload 5, 2), (34, .iload 4, 2), (36, .invokestatic 50, 3), (39, .ifCond .eq 16, 3), (42, .iload 5, 2), (44, .iload 4, 2), (46, .if_icmp .ne 7, 3), (49, .iconst 0, 1), (50, .goto 4, 3), (53, .iconst 1, 1), (54, .ireturn, 1), (55, .iconst 0, 1), (56, .istore 6, 2), (58, .iconst 0, 1), (59, .istore 7, 2), (61, .iconst 0, 1), (62, .istore 8, 2), (64, .iload 8, 2), (66, .aload_n 0, 1), (67, .getfield 7, 3), (70, .iload_n 3, 1), (71, .iconst 2, 1), (72, .iadd, 1), (73, .iaload, 1), (74, .if_icmp .ge 71, 3), (77, .iload 6, 2), (79, .ifCond .ne 22, 3), (82, .iload 5, 2), (84, .iload 4, 2), (86, .aload_n 0, 1), (87, .getfield 7, 3), (90, .iload_n 3, 1), (91, .iconst 3, 1), (92, .iadd, 1), (93, .iload 8, 2), (95, .iadd, 1), (96, .iaload, 1), (97, .isub, 1), (98, .if_icmp .ne 7, 3), (101, .iconst 1, 1), (102, .goto 4, 3)]
theorem tX9_stateOf_0_ok : tX9_stateOf_0.all (fun q => decide (decode cX9_stateOf q.1 = .ok q.2)) = true := by decide +kernel
theorem dX9_stateOf_0 : decode cX9_stateOf 0 = .ok (.iload_n 1, 1) := td tX9_stateOf_0_ok 0 (q := (0, .iload_n 1, 1)) rfl
theorem dX9_stateOf_1 : decode cX9_stateOf 1 = .ok (.iload_n 2, 1) := td tX9_stateOf_0_ok 1 (q := (1, .iload_n 2, 1)) rfl
theorem dX9_stateOf_2 : decode cX9_stateOf 2 = .ok (.invokestatic 37, 3) := td tX9_stateOf_0_ok 2 (q := (2, .invokestatic 37, 3)) rfl
theorem dX9_stateOf_5 : decode cX9_stateOf 5 = .ok (.istore_n 3, 1) := td tX9_stateOf_0_ok 3 (q := (5, .istore_n 3, 1)) rfl
theorem dX9_stateOf_6 : decode cX9_stateOf 6 = .ok (.aload_n 0, 1) := td tX9_stateOf_0_ok 4 (q := (6, .aload_n 0, 1)) rfl
theorem dX9_stateOf_7 : decode cX9_stateOf 7 = .ok (.iload_n 1, 1) := td tX9_stateOf_0_ok 5 (q := (7, .iload_n 1, 1)) rfl
theorem dX9_stateOf_8 : decode cX9_stateOf 8 = .ok (.iload_n 2, 1) := td tX9_stateOf_0_ok 6 (q := (8, .iload_n 2, 1)) rfl
theorem dX9_stateOf_9 : decode cX9_stateOf 9 = .ok (.invokevirtual 47, 3) := td tX9_stateOf_0_ok 7 (q := (9, .invokevirtual 47, 3)) rfl
theorem dX9_stateOf_12 : decode cX9_stateOf 12 = .ok (.istore 4, 2) := td tX9_stateOf_0_ok 8 (q := (12, .istore 4, 2)) rfl
theorem dX9_stateOf_14 : decode cX9_stateOf 14 = .ok (.aload_n 0, 1) := td tX9_stateOf_0_ok 9 (q := (14, .aload_n 0, 1)) rfl
theorem dX9_stateOf_15 : decode cX9_stateOf 15 = .ok (.getfield 7, 3) := td tX9_stateOf_0_ok 10 (q := (15, .getfield 7, 3)) rfl
theorem dX9_stateOf_18 : decode cX9_stateOf 18 = .ok (.iload_n 3, 1) := td tX9_stateOf_0_ok 11 (q := (18, .iload_n 3, 1)) rfl
theorem dX9_stateOf_19 : decode cX9_stateOf 19 = .ok (.bipush 7, 2) := td tX9_stateOf_0_ok 12 (q := (19, .bipush 7, 2)) rfl
theorem dX9_stateOf_21 : decode cX9_stateOf 21 = .ok (.iadd, 1) := td tX9_stateOf_0_ok 13 (q := (21, .iadd, 1)) rfl
theorem dX9_stateOf_22 : decode cX9_stateOf 22 = .ok (.iaload, 1) := td tX9_stateOf_0_ok 14 (q := (22, .iaload, 1)) rfl
theorem dX9_stateOf_23 : decode cX9_stateOf 23 = .ok (.istore 5, 2) := td tX9_stateOf_0_ok 15 (q := (23, .istore 5, 2)) rfl
theorem dX9_stateOf_25 : decode cX9_stateOf 25 = .ok (.iload 5, 2) := td tX9_stateOf_0_ok 16 (q := (25, .iload 5, 2)) rfl
theorem dX9_stateOf_27 : decode cX9_stateOf 27 = .ok (.iload 4, 2) := td tX9_stateOf_0_ok 17 (q := (27, .iload 4, 2)) rfl
theorem dX9_stateOf_29 : decode cX9_stateOf 29 = .ok (.if_icmp .eq 13, 3) := td tX9_stateOf_0_ok 18 (q := (29, .if_icmp .eq 13, 3)) rfl
theorem dX9_stateOf_32 : decode cX9_stateOf 32 = .ok (.iload 5, 2) := td tX9_stateOf_0_ok 19 (q := (32, .iload 5, 2)) rfl
theorem dX9_stateOf_34 : decode cX9_stateOf 34 = .ok (.iload 4, 2) := td tX9_stateOf_0_ok 20 (q := (34, .iload 4, 2)) rfl
theorem dX9_stateOf_36 : decode cX9_stateOf 36 = .ok (.invokestatic 50, 3) := td tX9_stateOf_0_ok 21 (q := (36, .invokestatic 50, 3)) rfl
theorem dX9_stateOf_39 : decode cX9_stateOf 39 = .ok (.ifCond .eq 16, 3) := td tX9_stateOf_0_ok 22 (q := (39, .ifCond .eq 16, 3)) rfl
theorem dX9_stateOf_42 : decode cX9_stateOf 42 = .ok (.iload 5, 2) := td tX9_stateOf_0_ok 23 (q := (42, .iload 5, 2)) rfl
theorem dX9_stateOf_44 : decode cX9_stateOf 44 = .ok (.iload 4, 2) := td tX9_stateOf_0_ok 24 (q := (44, .iload 4, 2)) rfl
theorem dX9_stateOf_46 : decode cX9_stateOf 46 = .ok (.if_icmp .ne 7, 3) := td tX9_stateOf_0_ok 25 (q := (46, .if_icmp .ne 7, 3)) rfl
theorem dX9_stateOf_49 : decode cX9_stateOf 49 = .ok (.iconst 0, 1) := td tX9_stateOf_0_ok 26 (q := (49, .iconst 0, 1)) rfl
theorem dX9_stateOf_50 : decode cX9_stateOf 50 = .ok (.goto 4, 3) := td tX9_stateOf_0_ok 27 (q := (50, .goto 4, 3)) rfl
theorem dX9_stateOf_53 : decode cX9_stateOf 53 = .ok (.iconst 1, 1) := td tX9_stateOf_0_ok 28 (q := (53, .iconst 1, 1)) rfl
theorem dX9_stateOf_54 : decode cX9_stateOf 54 = .ok (.ireturn, 1) := td tX9_stateOf_0_ok 29 (q := (54, .ireturn, 1)) rfl
theorem dX9_stateOf_55 : decode cX9_stateOf 55 = .ok (.iconst 0, 1) := td tX9_stateOf_0_ok 30 (q := (55, .iconst 0, 1)) rfl
theorem dX9_stateOf_56 : decode cX9_stateOf 56 = .ok (.istore 6, 2) := td tX9_stateOf_0_ok 31 (q := (56, .istore 6, 2)) rfl
theorem dX9_stateOf_58 : decode cX9_stateOf 58 = .ok (.iconst 0, 1) := td tX9_stateOf_0_ok 32 (q := (58, .iconst 0, 1)) rfl
theorem dX9_stateOf_59 : decode cX9_stateOf 59 = .ok (.istore 7, 2) := td tX9_stateOf_0_ok 33 (q := (59, .istore 7, 2)) rfl
theorem dX9_stateOf_61 : decode cX9_stateOf 61 = .ok (.iconst 0, 1) := td tX9_stateOf_0_ok 34 (q := (61, .iconst 0, 1)) rfl
theorem dX9_stateOf_62 : decode cX9_stateOf 62 = .ok (.istore 8, 2) := td tX9_stateOf_0_ok 35 (q := (62, .istore 8, 2)) rfl
theorem dX9_stateOf_64 : decode cX9_stateOf 64 = .ok (.iload 8, 2) := td tX9_stateOf_0_ok 36 (q := (64, .iload 8, 2)) rfl
theorem dX9_stateOf_66 : decode cX9_stateOf 66 = .ok (.aload_n 0, 1) := td tX9_stateOf_0_ok 37 (q := (66, .aload_n 0, 1)) rfl
theorem dX9_stateOf_67 : decode cX9_stateOf 67 = .ok (.getfield 7, 3) := td tX9_stateOf_0_ok 38 (q := (67, .getfield 7, 3)) rfl
theorem dX9_stateOf_70 : decode cX9_stateOf 70 = .ok (.iload_n 3, 1) := td tX9_stateOf_0_ok 39 (q := (70, .iload_n 3, 1)) rfl
theorem dX9_stateOf_71 : decode cX9_stateOf 71 = .ok (.iconst 2, 1) := td tX9_stateOf_0_ok 40 (q := (71, .iconst 2, 1)) rfl
theorem dX9_stateOf_72 : decode cX9_stateOf 72 = .ok (.iadd, 1) := td tX9_stateOf_0_ok 41 (q := (72, .iadd, 1)) rfl
theorem dX9_stateOf_73 : decode cX9_stateOf 73 = .ok (.iaload, 1) := td tX9_stateOf_0_ok 42 (q := (73, .iaload, 1)) rfl
theorem dX9_stateOf_74 : decode cX9_stateOf 74 = .ok (.if_icmp .ge 71, 3) := td tX9_stateOf_0_ok 43 (q := (74, .if_icmp .ge 71, 3)) rfl
theorem dX9_stateOf_77 : decode cX9_stateOf 77 = .ok (.iload 6, 2) := td tX9_stateOf_0_ok 44 (q := (77, .iload 6, 2)) rfl
theorem dX9_stateOf_79 : decode cX9_stateOf 79 = .ok (.ifCond .ne 22, 3) := td tX9_stateOf_0_ok 45 (q := (79, .ifCond .ne 22, 3)) rfl
theorem dX9_stateOf_82 : decode cX9_stateOf 82 = .ok (.iload 5, 2) := td tX9_stateOf_0_ok 46 (q := (82, .iload 5, 2)) rfl
theorem dX9_stateOf_84 : decode cX9_stateOf 84 = .ok (.iload 4, 2) := td tX9_stateOf_0_ok 47 (q := (84, .iload 4, 2)) rfl
theorem dX9_stateOf_86 : decode cX9_stateOf 86 = .ok (.aload_n 0, 1) := td tX9_stateOf_0_ok 48 (q := (86, .aload_n 0, 1)) rfl
theorem dX9_stateOf_87 : decode cX9_stateOf 87 = .ok (.getfield 7, 3) := td tX9_stateOf_0_ok 49 (q := (87, .getfield 7, 3)) rfl
theorem dX9_stateOf_90 : decode cX9_stateOf 90 = .ok (.iload_n 3, 1) := td tX9_stateOf_0_ok 50 (q := (90, .iload_n 3, 1)) rfl
theorem dX9_stateOf_91 : decode cX9_stateOf 91 = .ok (.iconst 3, 1) := td tX9_stateOf_0_ok 51 (q := (91, .iconst 3, 1)) rfl
theorem dX9_stateOf_92 : decode cX9_stateOf 92 = .ok (.iadd, 1) := td tX9_stateOf_0_ok 52 (q := (92, .iadd, 1)) rfl
theorem dX9_stateOf_93 : decode cX9_stateOf 93 = .ok (.iload 8, 2) := td tX9_stateOf_0_ok 53 (q := (93, .iload 8, 2)) rfl
theorem dX9_stateOf_95 : decode cX9_stateOf 95 = .ok (.iadd, 1) := td tX9_stateOf_0_ok 54 (q := (95, .iadd, 1)) rfl
theorem dX9_stateOf_96 : decode cX9_stateOf 96 = .ok (.iaload, 1) := td tX9_stateOf_0_ok 55 (q := (96, .iaload, 1)) rfl
theorem dX9_stateOf_97 : decode cX9_stateOf 97 = .ok (.isub, 1) := td tX9_stateOf_0_ok 56 (q := (97, .isub, 1)) rfl
theorem dX9_stateOf_98 : decode cX9_stateOf 98 = .ok (.if_icmp .ne 7, 3) := td tX9_stateOf_0_ok 57 (q := (98, .if_icmp .ne 7, 3)) rfl
theorem dX9_stateOf_101 : decode cX9_stateOf 101 = .ok (.iconst 1, 1) := td tX9_stateOf_0_ok 58 (q := (101, .iconst 1, 1)) rfl
theorem dX9_stateOf_102 : decode cX9_stateOf 102 = .ok (.goto 4, 3) := td tX9_stateOf_0_ok 59 (q := (102, .goto 4, 3)) rfl
def tX9_stateOf_1 : List (Nat × Instr × Nat) := [(105, .iconst 0, 1), (106, .istore 6, 2), (108, .iload 7, 2), (110, .ifCond .ne 22, 3), (113, .iload 5, 2), (115, .iload 4, 2), (117, .aload_n 0, 1), (118, .getfield 7, 3), (121, .iload_n 3, 1), (122, .iconst 3, 1), (123, .iadd, 1), (124, .iload 8, 2), (126, .iadd, 1), (127, .iaload, 1), (128, .iadd, 1), (129, .if_icmp .ne 7, 3), (132, .iconst 1, 1), (133, .goto 4, 3), (136, .iconst 0, 1), (137, .istore 7, 2), (139, .iinc 8 1, 3), (142, .goto (-78), 3), (145, .iload 6, 2), (147, .ifCond .eq 7, 3), (150, .iconst 2, 1), (151, .goto 13, 3), (154, .iload 7, 2), (156, .ifCond .eq 7, 3), (159, .iconst 3, 1), (160, .goto 4, 3), (163, .iconst 4, 1), (164, .ireturn, 1)]
theorem tX9_stateOf_1_ok : tX9_stateOf_1.all (fun q => decide (decode cX9_stateOf q.1 = .ok q.2)) = true := by decide +kernel
theorem dX9_stateOf_105 : decode cX9_stateOf 105 = .ok (.iconst 0, 1) := td tX9_stateOf_1_ok 0 (q := (105, .iconst 0, 1)) rfl
theorem dX9_stateOf_106 : decode cX9_stateOf 106 = .ok (.istore 6, 2) := td tX9_stateOf_1_ok 1 (q := (106, .istore 6, 2)) rfl
theorem dX9_stateOf_108 : decode cX9_stateOf 108 = .ok (.iload 7, 2) := td tX9_stateOf_1_ok 2 (q := (108, .iload 7, 2)) rfl
theorem dX9_stateOf_110 : decode cX9_stateOf 110 = .ok (.ifCond .ne 22, 3) := td tX9_stateOf_1_ok 3 (q := (110, .ifCond .ne 22, 3)) rfl
theorem dX9_stateOf_113 : decode cX9_stateOf 113 = .ok (.iload 5, 2) := td tX9_stateOf_1_ok 4 (q := (113, .iload 5, 2)) rfl
theorem dX9_stateOf_115 : decode cX9_stateOf 115 = .ok (.iload 4, 2) := td tX9_stateOf_1_ok 5 (q := (115, .iload 4, 2)) rfl
theorem dX9_stateOf_117 : decode cX9_stateOf 117 = .ok (.aload_n 0, 1) := td tX9_stateOf_1_ok 6 (q := (117, .aload_n 0, 1)) rfl
theorem dX9_stateOf_118 : decode cX9_stateOf 118 = .ok (.getfield 7, 3) := td tX9_stateOf_1_ok 7 (q := (118, .getfield 7, 3)) rfl
theorem dX9_stateOf_121 : decode cX9_stateOf 121 = .ok (.iload_n 3, 1) := td tX9_stateOf_1_ok 8 (q := (121, .iload_n 3, 1)) rfl
theorem dX9_stateOf_122 : decode cX9_stateOf 122 = .ok (.iconst 3, 1) := td tX9_stateOf_1_ok 9 (q := (122, .iconst 3, 1)) rfl
theorem dX9_stateOf_123 : decode cX9_stateOf 123 = .ok (.iadd, 1) := td tX9_stateOf_1_ok 10 (q := (123, .iadd, 1)) rfl
theorem dX9_stateOf_124 : decode cX9_stateOf 124 = .ok (.iload 8, 2) := td tX9_stateOf_1_ok 11 (q := (124, .iload 8, 2)) rfl
theorem dX9_stateOf_126 : decode cX9_stateOf 126 = .ok (.iadd, 1) := td tX9_stateOf_1_ok 12 (q := (126, .iadd, 1)) rfl
theorem dX9_stateOf_127 : decode cX9_stateOf 127 = .ok (.iaload, 1) := td tX9_stateOf_1_ok 13 (q := (127, .iaload, 1)) rfl
theorem dX9_stateOf_128 : decode cX9_stateOf 128 = .ok (.iadd, 1) := td tX9_stateOf_1_ok 14 (q := (128, .iadd, 1)) rfl
theorem dX9_stateOf_129 : decode cX9_stateOf 129 = .ok (.if_icmp .ne 7, 3) := td tX9_stateOf_1_ok 15 (q := (129, .if_icmp .ne 7, 3)) rfl
theorem dX9_stateOf_132 : decode cX9_stateOf 132 = .ok (.iconst 1, 1) := td tX9_stateOf_1_ok 16 (q := (132, .iconst 1, 1)) rfl
theorem dX9_stateOf_133 : decode cX9_stateOf 133 = .ok (.goto 4, 3) := td tX9_stateOf_1_ok 17 (q := (133, .goto 4, 3)) rfl
theorem dX9_stateOf_136 : decode cX9_stateOf 136 = .ok (.iconst 0, 1) := td tX9_stateOf_1_ok 18 (q := (136, .iconst 0, 1)) rfl
theorem dX9_stateOf_137 : decode cX9_stateOf 137 = .ok (.istore 7, 2) := td tX9_stateOf_1_ok 19 (q := (137, .istore 7, 2)) rfl
theorem dX9_stateOf_139 : decode cX9_stateOf 139 = .ok (.iinc 8 1, 3) := td tX9_stateOf_1_ok 20 (q := (139, .iinc 8 1, 3)) rfl
theorem dX9_stateOf_142 : decode cX9_stateOf 142 = .ok (.goto (-78), 3) := td tX9_stateOf_1_ok 21 (q := (142, .goto (-78), 3)) rfl
theorem dX9_stateOf_145 : decode cX9_stateOf 145 = .ok (.iload 6, 2) := td tX9_stateOf_1_ok 22 (q := (145, .iload 6, 2)) rfl
theorem dX9_stateOf_147 : decode cX9_stateOf 147 = .ok (.ifCond .eq 7, 3) := td tX9_stateOf_1_ok 23 (q := (147, .ifCond .eq 7, 3)) rfl
theorem dX9_stateOf_150 : decode cX9_stateOf 150 = .ok (.iconst 2, 1) := td tX9_stateOf_1_ok 24 (q := (150, .iconst 2, 1)) rfl
theorem dX9_stateOf_151 : decode cX9_stateOf 151 = .ok (.goto 13, 3) := td tX9_stateOf_1_ok 25 (q := (151, .goto 13, 3)) rfl
theorem dX9_stateOf_154 : decode cX9_stateOf 154 = .ok (.iload 7, 2) := td tX9_stateOf_1_ok 26 (q := (154, .iload 7, 2)) rfl
theorem dX9_stateOf_156 : decode cX9_stateOf 156 = .ok (.ifCond .eq 7, 3) := td tX9_stateOf_1_ok 27 (q := (156, .ifCond .eq 7, 3)) rfl
theorem dX9_stateOf_159 : decode cX9_stateOf 159 = .ok (.iconst 3, 1) := td tX9_stateOf_1_ok 28 (q := (159, .iconst 3, 1)) rfl
theorem dX9_stateOf_160 : decode cX9_stateOf 160 = .ok (.goto 4, 3) := td tX9_stateOf_1_ok 29 (q := (160, .goto 4, 3)) rfl
theorem dX9_stateOf_163 : decode cX9_stateOf 163 = .ok (.iconst 4, 1) := td tX9_stateOf_1_ok 30 (q := (163, .iconst 4, 1)) rfl
theorem dX9_stateOf_164 : decode cX9_stateOf 164 = .ok (.ireturn, 1) := td tX9_stateOf_1_ok 31 (q := (164, .ireturn, 1)) rfl
def fX9_stateOf_64 (k64 : Int32 → Int32 → Option (Int32)) (ms : (Nat → Int32)) (x3 : Int32) (x4 : Int32) (x5 : Int32) : Nat → Int32 → Int32 → Int32 → Option (Int32)
  | 0, _, _, _ => none
  | n64 + 1, x6, x7, x8 => (Option.bind (aget ms 531 (x3 + (2 : Int32))) (fun t8 => (if t8 ≤ x8 then (k64 x6 x7) else (if x6 = 0 then (Option.bind (aget ms 531 ((x3 + (3 : Int32)) + x8)) (fun t14 => (if x5 = (x4 - t14) then (if x7 = 0 then (Option.bind (aget ms 531 ((x3 + (3 : Int32)) + x8)) (fun t20 => (if x5 = (x4 + t20) then (fX9_stateOf_64 k64 ms x3 x4 x5 n64 (1 : Int32) (1 : Int32) (x8 + (1 : Int32))) else (fX9_stateOf_64 k64 ms x3 x4 x5 n64 (1 : Int32) (0 : Int32) (x8 + (1 : Int32)))))) else (fX9_stateOf_64 k64 ms x3 x4 x5 n64 (1 : Int32) (1 : Int32) (x8 + (1 : Int32)))) else (if x7 = 0 then (Option.bind (aget ms 531 ((x3 + (3 : Int32)) + x8)) (fun t17 => (if x5 = (x4 + t17) then (fX9_stateOf_64 k64 ms x3 x4 x5 n64 (0 : Int32) (1 : Int32) (x8 + (1 : Int32))) else (fX9_stateOf_64 k64 ms x3 x4 x5 n64 (0 : Int32) (0 : Int32) (x8 + (1 : Int32)))))) else (fX9_stateOf_64 k64 ms x3 x4 x5 n64 (0 : Int32) (1 : Int32) (x8 + (1 : Int32))))))) else (if x7 = 0 then (Option.bind (aget ms 531 ((x3 + (3 : Int32)) + x8)) (fun t12 => (if x5 = (x4 + t12) then (fX9_stateOf_64 k64 ms x3 x4 x5 n64 (1 : Int32) (1 : Int32) (x8 + (1 : Int32))) else (fX9_stateOf_64 k64 ms x3 x4 x5 n64 (1 : Int32) (0 : Int32) (x8 + (1 : Int32)))))) else (fX9_stateOf_64 k64 ms x3 x4 x5 n64 (1 : Int32) (1 : Int32) (x8 + (1 : Int32))))))))
def fX9_stateOf (ms : (Nat → Int32)) (x1 : Int32) (x2 : Int32) : Option (Int32) :=
  (Option.bind (fX9_placeOf x1 x2) (fun q1 => (Option.bind (fX9_sumOf ms x1 x2) (fun q2 => (Option.bind (aget ms 531 (q1 + (7 : Int32))) (fun t3 => (if t3 = q2 then (if t3 = q2 then (some (0 : Int32)) else (some (1 : Int32))) else (Option.bind (fX9_isTurned t3 q2) (fun q6 => (if q6 = 0 then (fX9_stateOf_64 (fun (u6_22 : Int32) (u7_22 : Int32) => (if u6_22 = 0 then (if u7_22 = 0 then (some (4 : Int32)) else (some (3 : Int32))) else (some (2 : Int32)))) ms q1 q2 t3 LF (0 : Int32) (0 : Int32) (0 : Int32)) else (if t3 = q2 then (some (0 : Int32)) else (some (1 : Int32)))))))))))))
set_option maxHeartbeats 4000000 in
set_option maxRecDepth 100000 in
theorem mX9_stateOf {l : Launch} {D : va_G} {bd : Nat → Nat} {cI : ClassId} {ms : (Nat → Int32)} {msv : (Nat → Int32)} {mb : (Nat → Int32)} {mf : (Nat → Int32)} {mr : (Nat → Int32)} {mt : Int32} {mn : Int32} {ml : Int32} {mat : Int32} {mw : Int32} {mm : Int32} {mh : Int64} {x1 : Int32} {x2 : Int32} {r : Int32} (hs : fX9_stateOf ms x1 x2 = some r) : nd_C l yX9_stateOf cX9_stateOf 9 (some .int) 2 46 D [(cI, .int)] [.ref (bd 0), .int x1, .int x2] (MW bd cI ms msv mb mf mr mt mn ml mat mw mm mh) (MW bd cI ms msv mb mf mr mt mn ml mat mw mm mh) (some (.int r)) := by
  refine nd_ofCi (by decide) (Nat.le_of_ble_eq_true rfl) (fun p e s m args below meth c_ ls A Q hx hb hml hown hts hl hP hK hD hS hA hN hret => ?_)
  have hown : s.vm.findClass RX9 = some m.cls := hown
  have hl : lv_has ls 9 [(0, .ref (bd 0)), (1, .int x1), (2, .int x2)] := hl
  have hret : ∀ (z0 : Int32) {H : Heap} {locs : List Loc} {pc : Nat} {ls : Array Slot}, some z0 = some r → va_P D vwCl (MW bd cI ms msv mb mf mr mt mn ml mat mw mm mh) H → va_S A s.heap H locs → decode cX9_stateOf pc = .ok (.ireturn, 1) → W p l e ⟨2, 0, 0, 46⟩ s m args below meth c_ H locs 0 0 Q (F0 m pc ls [.int z0]) := by
    intro z0 H locs pc ls h hP hS hd
    cases h
    exact hret hP hS hd
  rw [fX9_stateOf] at hs
  refine lv_iload_n hx hb dX9_stateOf_0 rfl (lv_at hl 1 rfl) ?_
  refine lv_iload_n hx hb dX9_stateOf_1 rfl (lv_at hl 2 rfl) ?_
  obtain ⟨q1, eq1, hs⟩ := ob hs
  refine nd_callS (As := [.int x1, .int x2]) (rest := []) (st1 := [.int q1]) hx hb hml hown hts hl hP hK hD hS hA hN (mX9_placeOf eq1) is_X9_placeOf wd_319 rfl rfl ⟨Nat.le_of_ble_eq_true rfl, Nat.le_of_ble_eq_true rfl⟩ (Nat.le_of_ble_eq_true rfl) ⟨Nat.zero_le _, Nat.zero_le _⟩ dX9_stateOf_2 rfl rfl (fun H locs hP hD hS => ?_)
  refine lv_istore_n (lv' := [(3, .int q1), (0, .ref (bd 0)), (1, .int x1), (2, .int x2)]) hx hb dX9_stateOf_5 rfl hl (by decide) rfl (fun ls hl => ?_)
  refine lv_aload_n hx hb dX9_stateOf_6 rfl (lv_at hl 1 rfl) ?_
  refine lv_iload_n hx hb dX9_stateOf_7 rfl (lv_at hl 2 rfl) ?_
  refine lv_iload_n hx hb dX9_stateOf_8 rfl (lv_at hl 3 rfl) ?_
  obtain ⟨q2, eq2, hs⟩ := ob hs
  refine nd_callV (As := [.int x1, .int x2]) (rest := []) (st1 := [.int q2]) hx hb hml hown hts hl hP hK hD hS hA hN (mX9_sumOf eq2) iv_X9_sumOf wd_345 0 rfl rfl rfl rfl ⟨Nat.le_of_ble_eq_true rfl, Nat.le_of_ble_eq_true rfl⟩ (Nat.le_of_ble_eq_true rfl) ⟨Nat.zero_le _, Nat.zero_le _⟩ dX9_stateOf_9 rfl rfl (fun H locs hP hD hS => ?_)
  refine lv_istore (lv' := [(4, .int q2), (3, .int q1), (0, .ref (bd 0)), (1, .int x1), (2, .int x2)]) hx hb dX9_stateOf_12 hl (by decide) rfl (fun ls hl => ?_)
  refine lv_aload_n hx hb dX9_stateOf_14 rfl (lv_at hl 2 rfl) ?_
  refine gf_X9_7 hx hb hts hown hK hP 0 rfl rfl dX9_stateOf_15 ?_
  refine lv_iload_n hx hb dX9_stateOf_18 rfl (lv_at hl 1 rfl) ?_
  refine lv_bipush (v := (7 : Int32)) hx hb dX9_stateOf_19 (by decide) ?_
  refine lv_iadd hx hb dX9_stateOf_21 ?_
  obtain ⟨t3, et3, hs⟩ := ob hs
  refine nd_iald hx hb hK hP 1 0 rfl rfl et3 dX9_stateOf_22 ?_
  refine lv_istore (lv' := [(5, .int t3), (4, .int q2), (3, .int q1), (0, .ref (bd 0)), (1, .int x1), (2, .int x2)]) hx hb dX9_stateOf_23 hl (by decide) rfl (fun ls hl => ?_)
  refine lv_iload hx hb dX9_stateOf_25 (lv_at hl 0 rfl) ?_
  refine lv_iload hx hb dX9_stateOf_27 (lv_at hl 1 rfl) ?_
  refine lv_icmp_eq (tgt := 42) hx hb dX9_stateOf_29 (by decide) (fun b4 => ?_) (fun b4 => ?_)
  · have hs := ite_t hs b4
    refine lv_iload hx hb dX9_stateOf_42 (lv_at hl 0 rfl) ?_
    refine lv_iload hx hb dX9_stateOf_44 (lv_at hl 1 rfl) ?_
    refine lv_icmp_ne (tgt := 53) hx hb dX9_stateOf_46 (by decide) (fun b5 => ?_) (fun b5 => ?_)
    · have hs := ite_f hs b5
      refine lv_iconst (v := (1 : Int32)) hx hb dX9_stateOf_53 (by decide) ?_
      exact hret _ hs hP hS dX9_stateOf_54
    · have hs := ite_t hs b5
      refine lv_iconst (v := (0 : Int32)) hx hb dX9_stateOf_49 (by decide) ?_
      refine lv_goto (tgt := 54) hx hb dX9_stateOf_50 (by decide) ?_
      exact hret _ hs hP hS dX9_stateOf_54
  · have hs := ite_f hs b4
    refine lv_iload hx hb dX9_stateOf_32 (lv_at hl 0 rfl) ?_
    refine lv_iload hx hb dX9_stateOf_34 (lv_at hl 1 rfl) ?_
    obtain ⟨q6, eq6, hs⟩ := ob hs
    refine nd_callS (As := [.int t3, .int q2]) (rest := []) (st1 := [.int q6]) hx hb hml hown hts hl hP hK hD hS hA hN (mX9_isTurned eq6) is_X9_isTurned wd_627 rfl rfl ⟨Nat.le_of_ble_eq_true rfl, Nat.le_of_ble_eq_true rfl⟩ (Nat.le_of_ble_eq_true rfl) ⟨Nat.zero_le _, Nat.zero_le _⟩ dX9_stateOf_36 rfl rfl (fun H locs hP hD hS => ?_)
    refine lv_if_eq (tgt := 55) hx hb dX9_stateOf_39 (by decide) (fun b7 => ?_) (fun b7 => ?_)
    · have hs := ite_t hs b7
      refine lv_iconst (v := (0 : Int32)) hx hb dX9_stateOf_55 (by decide) ?_
      refine lv_istore (lv' := [(6, .int (0 : Int32)), (5, .int t3), (4, .int q2), (3, .int q1), (0, .ref (bd 0)), (1, .int x1), (2, .int x2)]) hx hb dX9_stateOf_56 hl (by decide) rfl (fun ls hl => ?_)
      refine lv_iconst (v := (0 : Int32)) hx hb dX9_stateOf_58 (by decide) ?_
      refine lv_istore (lv' := [(7, .int (0 : Int32)), (6, .int (0 : Int32)), (5, .int t3), (4, .int q2), (3, .int q1), (0, .ref (bd 0)), (1, .int x1), (2, .int x2)]) hx hb dX9_stateOf_59 hl (by decide) rfl (fun ls hl => ?_)
      refine lv_iconst (v := (0 : Int32)) hx hb dX9_stateOf_61 (by decide) ?_
      refine lv_istore (lv' := [(8, .int (0 : Int32)), (7, .int (0 : Int32)), (6, .int (0 : Int32)), (5, .int t3), (4, .int q2), (3, .int q1), (0, .ref (bd 0)), (1, .int x1), (2, .int x2)]) hx hb dX9_stateOf_62 hl (by decide) rfl (fun ls hl => ?_)
      have L64 : ∀ (n64 : Nat) (k64 : Int32 → Int32 → Option (Int32)) (v6_22 : Int32) (v7_22 : Int32) (v8_22 : Int32) (H : Heap) (locs : List Loc) (ls : Array Slot), lv_has ls 9 [(0, .ref (bd 0)), (3, .int q1), (4, .int q2), (5, .int t3), (6, .int v6_22), (7, .int v7_22), (8, .int v8_22)] → va_P D vwCl (MW bd cI ms msv mb mf mr mt mn ml mat mw mm mh) H → va_S A s.heap H locs → fX9_stateOf_64 k64 ms q1 q2 t3 n64 v6_22 v7_22 v8_22 = some r → (∀ (u6_22 : Int32) (u7_22 : Int32) (H : Heap) (locs : List Loc) (ls : Array Slot), lv_has ls 9 [(6, .int u6_22), (7, .int u7_22)] → va_P D vwCl (MW bd cI ms msv mb mf mr mt mn ml mat mw mm mh) H → va_S A s.heap H locs → k64 u6_22 u7_22 = some r → W p l e ⟨2, 0, 0, 46⟩ s m args below meth c_ H locs 0 0 Q (F0 m 145 ls [])) → W p l e ⟨2, 0, 0, 46⟩ s m args below meth c_ H locs 0 0 Q (F0 m 64 ls []) := by
        intro n64
        induction n64 with
        | zero =>
          intro k64 v6_22 v7_22 v8_22 H locs ls hl hP hS hs hk64
          rw [fX9_stateOf_64] at hs
          cases hs
        | succ n64 ih64 =>
          intro k64 v6_22 v7_22 v8_22 H locs ls hl hP hS hs hk64
          rw [fX9_stateOf_64] at hs
          refine lv_iload hx hb dX9_stateOf_64 (lv_at hl 6 rfl) ?_
          refine lv_aload_n hx hb dX9_stateOf_66 rfl (lv_at hl 0 rfl) ?_
          refine gf_X9_7 hx hb hts hown hK hP 0 rfl rfl dX9_stateOf_67 ?_
          refine lv_iload_n hx hb dX9_stateOf_70 rfl (lv_at hl 1 rfl) ?_
          refine lv_iconst (v := (2 : Int32)) hx hb dX9_stateOf_71 (by decide) ?_
          refine lv_iadd hx hb dX9_stateOf_72 ?_
          obtain ⟨t23, et23, hs⟩ := ob hs
          refine nd_iald hx hb hK hP 1 0 rfl rfl et23 dX9_stateOf_73 ?_
          refine lv_icmp_ge (tgt := 145) hx hb dX9_stateOf_74 (by decide) (fun b24 => ?_) (fun b24 => ?_)
          · have hs := ite_t hs b24
            exact hk64 v6_22 v7_22 _ _ _ (lv_sub hl [4, 5] rfl) hP hS hs
          · have hs := ite_f hs b24
            refine lv_iload hx hb dX9_stateOf_77 (lv_at hl 4 rfl) ?_
            refine lv_if_ne (tgt := 101) hx hb dX9_stateOf_79 (by decide) (fun b25 => ?_) (fun b25 => ?_)
            · have hs := ite_f hs b25
              refine lv_iconst (v := (1 : Int32)) hx hb dX9_stateOf_101 (by decide) ?_
              refine lv_goto (tgt := 106) hx hb dX9_stateOf_102 (by decide) ?_
              refine lv_istore (lv' := [(6, .int (1 : Int32)), (0, .ref (bd 0)), (3, .int q1), (4, .int q2), (5, .int t3), (7, .int v7_22), (8, .int v8_22)]) hx hb dX9_stateOf_106 hl (by decide) rfl (fun ls hl => ?_)
              refine lv_iload hx hb dX9_stateOf_108 (lv_at hl 5 rfl) ?_
              refine lv_if_ne (tgt := 132) hx hb dX9_stateOf_110 (by decide) (fun b26 => ?_) (fun b26 => ?_)
              · have hs := ite_f hs b26
                refine lv_iconst (v := (1 : Int32)) hx hb dX9_stateOf_132 (by decide) ?_
                refine lv_goto (tgt := 137) hx hb dX9_stateOf_133 (by decide) ?_
                refine lv_istore (lv' := [(7, .int (1 : Int32)), (6, .int (1 : Int32)), (0, .ref (bd 0)), (3, .int q1), (4, .int q2), (5, .int t3), (8, .int v8_22)]) hx hb dX9_stateOf_137 hl (by decide) rfl (fun ls hl => ?_)
                refine lv_iinc (v := v8_22 + (1 : Int32)) (lv' := [(8, .int (v8_22 + (1 : Int32))), (7, .int (1 : Int32)), (6, .int (1 : Int32)), (0, .ref (bd 0)), (3, .int q1), (4, .int q2), (5, .int t3)]) hx hb dX9_stateOf_139 hl (k := 6) rfl rfl (by decide) rfl (fun ls hl => ?_)
                refine lv_goto (tgt := 64) hx hb dX9_stateOf_142 (by decide) ?_
                exact ih64 k64 (1 : Int32) (1 : Int32) (v8_22 + (1 : Int32)) _ _ _ (lv_sub hl [3, 4, 5, 6, 2, 1, 0] rfl) hP hS hs hk64
              · have hs := ite_t hs b26
                refine lv_iload hx hb dX9_stateOf_113 (lv_at hl 4 rfl) ?_
                refine lv_iload hx hb dX9_stateOf_115 (lv_at hl 3 rfl) ?_
                refine lv_aload_n hx hb dX9_stateOf_117 rfl (lv_at hl 1 rfl) ?_
                refine gf_X9_7 hx hb hts hown hK hP 0 rfl rfl dX9_stateOf_118 ?_
                refine lv_iload_n hx hb dX9_stateOf_121 rfl (lv_at hl 2 rfl) ?_
                refine lv_iconst (v := (3 : Int32)) hx hb dX9_stateOf_122 (by decide) ?_
                refine lv_iadd hx hb dX9_stateOf_123 ?_
                refine lv_iload hx hb dX9_stateOf_124 (lv_at hl 6 rfl) ?_
                refine lv_iadd hx hb dX9_stateOf_126 ?_
                obtain ⟨t27, et27, hs⟩ := ob hs
                refine nd_iald hx hb hK hP 1 0 rfl rfl et27 dX9_stateOf_127 ?_
                refine lv_iadd hx hb dX9_stateOf_128 ?_
                refine lv_icmp_ne (tgt := 136) hx hb dX9_stateOf_129 (by decide) (fun b28 => ?_) (fun b28 => ?_)
                · have hs := ite_f hs b28
                  refine lv_iconst (v := (0 : Int32)) hx hb dX9_stateOf_136 (by decide) ?_
                  refine lv_istore (lv' := [(7, .int (0 : Int32)), (6, .int (1 : Int32)), (0, .ref (bd 0)), (3, .int q1), (4, .int q2), (5, .int t3), (8, .int v8_22)]) hx hb dX9_stateOf_137 hl (by decide) rfl (fun ls hl => ?_)
                  refine lv_iinc (v := v8_22 + (1 : Int32)) (lv' := [(8, .int (v8_22 + (1 : Int32))), (7, .int (0 : Int32)), (6, .int (1 : Int32)), (0, .ref (bd 0)), (3, .int q1), (4, .int q2), (5, .int t3)]) hx hb dX9_stateOf_139 hl (k := 6) rfl rfl (by decide) rfl (fun ls hl => ?_)
                  refine lv_goto (tgt := 64) hx hb dX9_stateOf_142 (by decide) ?_
                  exact ih64 k64 (1 : Int32) (0 : Int32) (v8_22 + (1 : Int32)) _ _ _ (lv_sub hl [3, 4, 5, 6, 2, 1, 0] rfl) hP hS hs hk64
                · have hs := ite_t hs b28
                  refine lv_iconst (v := (1 : Int32)) hx hb dX9_stateOf_132 (by decide) ?_
                  refine lv_goto (tgt := 137) hx hb dX9_stateOf_133 (by decide) ?_
                  refine lv_istore (lv' := [(7, .int (1 : Int32)), (6, .int (1 : Int32)), (0, .ref (bd 0)), (3, .int q1), (4, .int q2), (5, .int t3), (8, .int v8_22)]) hx hb dX9_stateOf_137 hl (by decide) rfl (fun ls hl => ?_)
                  refine lv_iinc (v := v8_22 + (1 : Int32)) (lv' := [(8, .int (v8_22 + (1 : Int32))), (7, .int (1 : Int32)), (6, .int (1 : Int32)), (0, .ref (bd 0)), (3, .int q1), (4, .int q2), (5, .int t3)]) hx hb dX9_stateOf_139 hl (k := 6) rfl rfl (by decide) rfl (fun ls hl => ?_)
                  refine lv_goto (tgt := 64) hx hb dX9_stateOf_142 (by decide) ?_
                  exact ih64 k64 (1 : Int32) (1 : Int32) (v8_22 + (1 : Int32)) _ _ _ (lv_sub hl [3, 4, 5, 6, 2, 1, 0] rfl) hP hS hs hk64
            · have hs := ite_t hs b25
              refine lv_iload hx hb dX9_stateOf_82 (lv_at hl 3 rfl) ?_
              refine lv_iload hx hb dX9_stateOf_84 (lv_at hl 2 rfl) ?_
              refine lv_aload_n hx hb dX9_stateOf_86 rfl (lv_at hl 0 rfl) ?_
              refine gf_X9_7 hx hb hts hown hK hP 0 rfl rfl dX9_stateOf_87 ?_
              refine lv_iload_n hx hb dX9_stateOf_90 rfl (lv_at hl 1 rfl) ?_
              refine lv_iconst (v := (3 : Int32)) hx hb dX9_stateOf_91 (by decide) ?_
              refine lv_iadd hx hb dX9_stateOf_92 ?_
              refine lv_iload hx hb dX9_stateOf_93 (lv_at hl 6 rfl) ?_
              refine lv_iadd hx hb dX9_stateOf_95 ?_
              obtain ⟨t29, et29, hs⟩ := ob hs
              refine nd_iald hx hb hK hP 1 0 rfl rfl et29 dX9_stateOf_96 ?_
              refine lv_isub hx hb dX9_stateOf_97 ?_
              refine lv_icmp_ne (tgt := 105) hx hb dX9_stateOf_98 (by decide) (fun b30 => ?_) (fun b30 => ?_)
              · have hs := ite_f hs b30
                refine lv_iconst (v := (0 : Int32)) hx hb dX9_stateOf_105 (by decide) ?_
                refine lv_istore (lv' := [(6, .int (0 : Int32)), (0, .ref (bd 0)), (3, .int q1), (4, .int q2), (5, .int t3), (7, .int v7_22), (8, .int v8_22)]) hx hb dX9_stateOf_106 hl (by decide) rfl (fun ls hl => ?_)
                refine lv_iload hx hb dX9_stateOf_108 (lv_at hl 5 rfl) ?_
                refine lv_if_ne (tgt := 132) hx hb dX9_stateOf_110 (by decide) (fun b31 => ?_) (fun b31 => ?_)
                · have hs := ite_f hs b31
                  refine lv_iconst (v := (1 : Int32)) hx hb dX9_stateOf_132 (by decide) ?_
                  refine lv_goto (tgt := 137) hx hb dX9_stateOf_133 (by decide) ?_
                  refine lv_istore (lv' := [(7, .int (1 : Int32)), (6, .int (0 : Int32)), (0, .ref (bd 0)), (3, .int q1), (4, .int q2), (5, .int t3), (8, .int v8_22)]) hx hb dX9_stateOf_137 hl (by decide) rfl (fun ls hl => ?_)
                  refine lv_iinc (v := v8_22 + (1 : Int32)) (lv' := [(8, .int (v8_22 + (1 : Int32))), (7, .int (1 : Int32)), (6, .int (0 : Int32)), (0, .ref (bd 0)), (3, .int q1), (4, .int q2), (5, .int t3)]) hx hb dX9_stateOf_139 hl (k := 6) rfl rfl (by decide) rfl (fun ls hl => ?_)
                  refine lv_goto (tgt := 64) hx hb dX9_stateOf_142 (by decide) ?_
                  exact ih64 k64 (0 : Int32) (1 : Int32) (v8_22 + (1 : Int32)) _ _ _ (lv_sub hl [3, 4, 5, 6, 2, 1, 0] rfl) hP hS hs hk64
                · have hs := ite_t hs b31
                  refine lv_iload hx hb dX9_stateOf_113 (lv_at hl 4 rfl) ?_
                  refine lv_iload hx hb dX9_stateOf_115 (lv_at hl 3 rfl) ?_
                  refine lv_aload_n hx hb dX9_stateOf_117 rfl (lv_at hl 1 rfl) ?_
                  refine gf_X9_7 hx hb hts hown hK hP 0 rfl rfl dX9_stateOf_118 ?_
                  refine lv_iload_n hx hb dX9_stateOf_121 rfl (lv_at hl 2 rfl) ?_
                  refine lv_iconst (v := (3 : Int32)) hx hb dX9_stateOf_122 (by decide) ?_
                  refine lv_iadd hx hb dX9_stateOf_123 ?_
                  refine lv_iload hx hb dX9_stateOf_124 (lv_at hl 6 rfl) ?_
                  refine lv_iadd hx hb dX9_stateOf_126 ?_
                  obtain ⟨t32, et32, hs⟩ := ob hs
                  refine nd_iald hx hb hK hP 1 0 rfl rfl et32 dX9_stateOf_127 ?_
                  refine lv_iadd hx hb dX9_stateOf_128 ?_
                  refine lv_icmp_ne (tgt := 136) hx hb dX9_stateOf_129 (by decide) (fun b33 => ?_) (fun b33 => ?_)
                  · have hs := ite_f hs b33
                    refine lv_iconst (v := (0 : Int32)) hx hb dX9_stateOf_136 (by decide) ?_
                    refine lv_istore (lv' := [(7, .int (0 : Int32)), (6, .int (0 : Int32)), (0, .ref (bd 0)), (3, .int q1), (4, .int q2), (5, .int t3), (8, .int v8_22)]) hx hb dX9_stateOf_137 hl (by decide) rfl (fun ls hl => ?_)
                    refine lv_iinc (v := v8_22 + (1 : Int32)) (lv' := [(8, .int (v8_22 + (1 : Int32))), (7, .int (0 : Int32)), (6, .int (0 : Int32)), (0, .ref (bd 0)), (3, .int q1), (4, .int q2), (5, .int t3)]) hx hb dX9_stateOf_139 hl (k := 6) rfl rfl (by decide) rfl (fun ls hl => ?_)
                    refine lv_goto (tgt := 64) hx hb dX9_stateOf_142 (by decide) ?_
                    exact ih64 k64 (0 : Int32) (0 : Int32) (v8_22 + (1 : Int32)) _ _ _ (lv_sub hl [3, 4, 5, 6, 2, 1, 0] rfl) hP hS hs hk64
                  · have hs := ite_t hs b33
                    refine lv_iconst (v := (1 : Int32)) hx hb dX9_stateOf_132 (by decide) ?_
                    refine lv_goto (tgt := 137) hx hb dX9_stateOf_133 (by decide) ?_
                    refine lv_istore (lv' := [(7, .int (1 : Int32)), (6, .int (0 : Int32)), (0, .ref (bd 0)), (3, .int q1), (4, .int q2), (5, .int t3), (8, .int v8_22)]) hx hb dX9_stateOf_137 hl (by decide) rfl (fun ls hl => ?_)
                    refine lv_iinc (v := v8_22 + (1 : Int32)) (lv' := [(8, .int (v8_22 + (1 : Int32))), (7, .int (1 : Int32)), (6, .int (0 : Int32)), (0, .ref (bd 0)), (3, .int q1), (4, .int q2), (5, .int t3)]) hx hb dX9_stateOf_139 hl (k := 6) rfl rfl (by decide) rfl (fun ls hl => ?_)
                    refine lv_goto (tgt := 64) hx hb dX9_stateOf_142 (by decide) ?_
                    exact ih64 k64 (0 : Int32) (1 : Int32) (v8_22 + (1 : Int32)) _ _ _ (lv_sub hl [3, 4, 5, 6, 2, 1, 0] rfl) hP hS hs hk64
              · have hs := ite_t hs b30
                refine lv_iconst (v := (1 : Int32)) hx hb dX9_stateOf_101 (by decide) ?_
                refine lv_goto (tgt := 106) hx hb dX9_stateOf_102 (by decide) ?_
                refine lv_istore (lv' := [(6, .int (1 : Int32)), (0, .ref (bd 0)), (3, .int q1), (4, .int q2), (5, .int t3), (7, .int v7_22), (8, .int v8_22)]) hx hb dX9_stateOf_106 hl (by decide) rfl (fun ls hl => ?_)
                refine lv_iload hx hb dX9_stateOf_108 (lv_at hl 5 rfl) ?_
                refine lv_if_ne (tgt := 132) hx hb dX9_stateOf_110 (by decide) (fun b34 => ?_) (fun b34 => ?_)
                · have hs := ite_f hs b34
                  refine lv_iconst (v := (1 : Int32)) hx hb dX9_stateOf_132 (by decide) ?_
                  refine lv_goto (tgt := 137) hx hb dX9_stateOf_133 (by decide) ?_
                  refine lv_istore (lv' := [(7, .int (1 : Int32)), (6, .int (1 : Int32)), (0, .ref (bd 0)), (3, .int q1), (4, .int q2), (5, .int t3), (8, .int v8_22)]) hx hb dX9_stateOf_137 hl (by decide) rfl (fun ls hl => ?_)
                  refine lv_iinc (v := v8_22 + (1 : Int32)) (lv' := [(8, .int (v8_22 + (1 : Int32))), (7, .int (1 : Int32)), (6, .int (1 : Int32)), (0, .ref (bd 0)), (3, .int q1), (4, .int q2), (5, .int t3)]) hx hb dX9_stateOf_139 hl (k := 6) rfl rfl (by decide) rfl (fun ls hl => ?_)
                  refine lv_goto (tgt := 64) hx hb dX9_stateOf_142 (by decide) ?_
                  exact ih64 k64 (1 : Int32) (1 : Int32) (v8_22 + (1 : Int32)) _ _ _ (lv_sub hl [3, 4, 5, 6, 2, 1, 0] rfl) hP hS hs hk64
                · have hs := ite_t hs b34
                  refine lv_iload hx hb dX9_stateOf_113 (lv_at hl 4 rfl) ?_
                  refine lv_iload hx hb dX9_stateOf_115 (lv_at hl 3 rfl) ?_
                  refine lv_aload_n hx hb dX9_stateOf_117 rfl (lv_at hl 1 rfl) ?_
                  refine gf_X9_7 hx hb hts hown hK hP 0 rfl rfl dX9_stateOf_118 ?_
                  refine lv_iload_n hx hb dX9_stateOf_121 rfl (lv_at hl 2 rfl) ?_
                  refine lv_iconst (v := (3 : Int32)) hx hb dX9_stateOf_122 (by decide) ?_
                  refine lv_iadd hx hb dX9_stateOf_123 ?_
                  refine lv_iload hx hb dX9_stateOf_124 (lv_at hl 6 rfl) ?_
                  refine lv_iadd hx hb dX9_stateOf_126 ?_
                  obtain ⟨t35, et35, hs⟩ := ob hs
                  refine nd_iald hx hb hK hP 1 0 rfl rfl et35 dX9_stateOf_127 ?_
                  refine lv_iadd hx hb dX9_stateOf_128 ?_
                  refine lv_icmp_ne (tgt := 136) hx hb dX9_stateOf_129 (by decide) (fun b36 => ?_) (fun b36 => ?_)
                  · have hs := ite_f hs b36
                    refine lv_iconst (v := (0 : Int32)) hx hb dX9_stateOf_136 (by decide) ?_
                    refine lv_istore (lv' := [(7, .int (0 : Int32)), (6, .int (1 : Int32)), (0, .ref (bd 0)), (3, .int q1), (4, .int q2), (5, .int t3), (8, .int v8_22)]) hx hb dX9_stateOf_137 hl (by decide) rfl (fun ls hl => ?_)
                    refine lv_iinc (v := v8_22 + (1 : Int32)) (lv' := [(8, .int (v8_22 + (1 : Int32))), (7, .int (0 : Int32)), (6, .int (1 : Int32)), (0, .ref (bd 0)), (3, .int q1), (4, .int q2), (5, .int t3)]) hx hb dX9_stateOf_139 hl (k := 6) rfl rfl (by decide) rfl (fun ls hl => ?_)
                    refine lv_goto (tgt := 64) hx hb dX9_stateOf_142 (by decide) ?_
                    exact ih64 k64 (1 : Int32) (0 : Int32) (v8_22 + (1 : Int32)) _ _ _ (lv_sub hl [3, 4, 5, 6, 2, 1, 0] rfl) hP hS hs hk64
                  · have hs := ite_t hs b36
                    refine lv_iconst (v := (1 : Int32)) hx hb dX9_stateOf_132 (by decide) ?_
                    refine lv_goto (tgt := 137) hx hb dX9_stateOf_133 (by decide) ?_
                    refine lv_istore (lv' := [(7, .int (1 : Int32)), (6, .int (1 : Int32)), (0, .ref (bd 0)), (3, .int q1), (4, .int q2), (5, .int t3), (8, .int v8_22)]) hx hb dX9_stateOf_137 hl (by decide) rfl (fun ls hl => ?_)
                    refine lv_iinc (v := v8_22 + (1 : Int32)) (lv' := [(8, .int (v8_22 + (1 : Int32))), (7, .int (1 : Int32)), (6, .int (1 : Int32)), (0, .ref (bd 0)), (3, .int q1), (4, .int q2), (5, .int t3)]) hx hb dX9_stateOf_139 hl (k := 6) rfl rfl (by decide) rfl (fun ls hl => ?_)
                    refine lv_goto (tgt := 64) hx hb dX9_stateOf_142 (by decide) ?_
                    exact ih64 k64 (1 : Int32) (1 : Int32) (v8_22 + (1 : Int32)) _ _ _ (lv_sub hl [3, 4, 5, 6, 2, 1, 0] rfl) hP hS hs hk64
      refine L64 LF _ (0 : Int32) (0 : Int32) (0 : Int32) _ _ _ (lv_sub hl [6, 5, 4, 3, 2, 1, 0] rfl) hP hS hs (fun u6_22 u7_22 H locs ls hl hP hS hs => ?_)
      refine lv_iload hx hb dX9_stateOf_145 (lv_at hl 0 rfl) ?_
      refine lv_if_eq (tgt := 154) hx hb dX9_stateOf_147 (by decide) (fun b37 => ?_) (fun b37 => ?_)
      · have hs := ite_t hs b37
        refine lv_iload hx hb dX9_stateOf_154 (lv_at hl 1 rfl) ?_
        refine lv_if_eq (tgt := 163) hx hb dX9_stateOf_156 (by decide) (fun b38 => ?_) (fun b38 => ?_)
        · have hs := ite_t hs b38
          refine lv_iconst (v := (4 : Int32)) hx hb dX9_stateOf_163 (by decide) ?_
          exact hret _ hs hP hS dX9_stateOf_164
        · have hs := ite_f hs b38
          refine lv_iconst (v := (3 : Int32)) hx hb dX9_stateOf_159 (by decide) ?_
          refine lv_goto (tgt := 164) hx hb dX9_stateOf_160 (by decide) ?_
          exact hret _ hs hP hS dX9_stateOf_164
      · have hs := ite_f hs b37
        refine lv_iconst (v := (2 : Int32)) hx hb dX9_stateOf_150 (by decide) ?_
        refine lv_goto (tgt := 164) hx hb dX9_stateOf_151 (by decide) ?_
        exact hret _ hs hP hS dX9_stateOf_164
    · have hs := ite_f hs b7
      refine lv_iload hx hb dX9_stateOf_42 (lv_at hl 0 rfl) ?_
      refine lv_iload hx hb dX9_stateOf_44 (lv_at hl 1 rfl) ?_
      refine lv_icmp_ne (tgt := 53) hx hb dX9_stateOf_46 (by decide) (fun b39 => ?_) (fun b39 => ?_)
      · have hs := ite_f hs b39
        refine lv_iconst (v := (1 : Int32)) hx hb dX9_stateOf_53 (by decide) ?_
        exact hret _ hs hP hS dX9_stateOf_54
      · have hs := ite_t hs b39
        refine lv_iconst (v := (0 : Int32)) hx hb dX9_stateOf_49 (by decide) ?_
        refine lv_goto (tgt := 54) hx hb dX9_stateOf_50 (by decide) ?_
        exact hret _ hs hP hS dX9_stateOf_54
