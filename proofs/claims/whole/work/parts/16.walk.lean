def tX9_firstOf_0 : List (Nat × Instr × Nat) := [(0, .iload_n 1, 1), (1, .istore_n 2, 1), (2, .aload_n 0, 1), (3, .iload_n 2, 1), (4, .invokevirtual 54, 3), (7, .iconst (-1), 1), (8, .if_icmp .eq 12, 3), (11, .aload_n 0, 1), (12, .iload_n 2, 1), (13, .invokevirtual 54, 3), (16, .istore_n 2, 1), (17, .goto (-15), 3), (20, .iload_n 2, 1), (21, .ireturn, 1)]
theorem tX9_firstOf_0_ok : tX9_firstOf_0.all (fun q => decide (decode cX9_firstOf q.1 = .ok q.2)) = true := by decide +kernel
theorem dX9_firstOf_0 : decode cX9_firstOf 0 = .ok (.iload_n 1, 1) := td tX9_firstOf_0_ok 0 (q := (0, .iload_n 1, 1)) rfl
theorem dX9_firstOf_1 : decode cX9_firstOf 1 = .ok (.istore_n 2, 1) := td tX9_firstOf_0_ok 1 (q := (1, .istore_n 2, 1)) rfl
theorem dX9_firstOf_2 : decode cX9_firstOf 2 = .ok (.aload_n 0, 1) := td tX9_firstOf_0_ok 2 (q := (2, .aload_n 0, 1)) rfl
theorem dX9_firstOf_3 : decode cX9_firstOf 3 = .ok (.iload_n 2, 1) := td tX9_firstOf_0_ok 3 (q := (3, .iload_n 2, 1)) rfl
theorem dX9_firstOf_4 : decode cX9_firstOf 4 = .ok (.invokevirtual 54, 3) := td tX9_firstOf_0_ok 4 (q := (4, .invokevirtual 54, 3)) rfl
theorem dX9_firstOf_7 : decode cX9_firstOf 7 = .ok (.iconst (-1), 1) := td tX9_firstOf_0_ok 5 (q := (7, .iconst (-1), 1)) rfl
theorem dX9_firstOf_8 : decode cX9_firstOf 8 = .ok (.if_icmp .eq 12, 3) := td tX9_firstOf_0_ok 6 (q := (8, .if_icmp .eq 12, 3)) rfl
theorem dX9_firstOf_11 : decode cX9_firstOf 11 = .ok (.aload_n 0, 1) := td tX9_firstOf_0_ok 7 (q := (11, .aload_n 0, 1)) rfl
theorem dX9_firstOf_12 : decode cX9_firstOf 12 = .ok (.iload_n 2, 1) := td tX9_firstOf_0_ok 8 (q := (12, .iload_n 2, 1)) rfl
theorem dX9_firstOf_13 : decode cX9_firstOf 13 = .ok (.invokevirtual 54, 3) := td tX9_firstOf_0_ok 9 (q := (13, .invokevirtual 54, 3)) rfl
theorem dX9_firstOf_16 : decode cX9_firstOf 16 = .ok (.istore_n 2, 1) := td tX9_firstOf_0_ok 10 (q := (16, .istore_n 2, 1)) rfl
theorem dX9_firstOf_17 : decode cX9_firstOf 17 = .ok (.goto (-15), 3) := td tX9_firstOf_0_ok 11 (q := (17, .goto (-15), 3)) rfl
theorem dX9_firstOf_20 : decode cX9_firstOf 20 = .ok (.iload_n 2, 1) := td tX9_firstOf_0_ok 12 (q := (20, .iload_n 2, 1)) rfl
theorem dX9_firstOf_21 : decode cX9_firstOf 21 = .ok (.ireturn, 1) := td tX9_firstOf_0_ok 13 (q := (21, .ireturn, 1)) rfl
def fX9_firstOf_2 (k2 : Int32 → Option (Int32)) (ms : (Nat → Int32)) : Nat → Int32 → Option (Int32)
  | 0, _ => none
  | n2 + 1, x2 => (Option.bind (fX9_upperOf ms x2) (fun q1 => (if q1 = (-1 : Int32) then (k2 x2) else (Option.bind (fX9_upperOf ms x2) (fun q3 => (fX9_firstOf_2 k2 ms n2 q3))))))
def fX9_firstOf (ms : (Nat → Int32)) (x1 : Int32) : Option (Int32) :=
  (fX9_firstOf_2 (fun (u2_4 : Int32) => (some u2_4)) ms LF x1)
set_option maxHeartbeats 4000000 in
set_option maxRecDepth 100000 in
theorem mX9_firstOf {l : Launch} {D : va_G} {bd : Nat → Nat} {cI : ClassId} {ms : (Nat → Int32)} {msv : (Nat → Int32)} {mb : (Nat → Int32)} {mf : (Nat → Int32)} {mr : (Nat → Int32)} {mt : Int32} {mn : Int32} {ml : Int32} {mat : Int32} {mw : Int32} {mm : Int32} {mh : Int64} {x1 : Int32} {r : Int32} (hs : fX9_firstOf ms x1 = some r) : nd_C l yX9_firstOf cX9_firstOf 3 (some .int) 2 43 D [(cI, .int)] [.ref (bd 0), .int x1] (MW bd cI ms msv mb mf mr mt mn ml mat mw mm mh) (MW bd cI ms msv mb mf mr mt mn ml mat mw mm mh) (some (.int r)) := by
  refine nd_ofCi (by decide) (Nat.le_of_ble_eq_true rfl) (fun p e s m args below meth c_ ls A Q hx hb hml hown hts hl hP hK hD hS hA hN hret => ?_)
  have hown : s.vm.findClass RX9 = some m.cls := hown
  have hl : lv_has ls 3 [(0, .ref (bd 0)), (1, .int x1)] := hl
  have hret : ∀ (z0 : Int32) {H : Heap} {locs : List Loc} {pc : Nat} {ls : Array Slot}, some z0 = some r → va_P D vwCl (MW bd cI ms msv mb mf mr mt mn ml mat mw mm mh) H → va_S A s.heap H locs → decode cX9_firstOf pc = .ok (.ireturn, 1) → W p l e ⟨2, 0, 0, 43⟩ s m args below meth c_ H locs 0 0 Q (F0 m pc ls [.int z0]) := by
    intro z0 H locs pc ls h hP hS hd
    cases h
    exact hret hP hS hd
  rw [fX9_firstOf] at hs
  refine lv_iload_n hx hb dX9_firstOf_0 rfl (lv_at hl 1 rfl) ?_
  refine lv_istore_n (lv' := [(2, .int x1), (0, .ref (bd 0)), (1, .int x1)]) hx hb dX9_firstOf_1 rfl hl (by decide) rfl (fun ls hl => ?_)
  have L2 : ∀ (n2 : Nat) (k2 : Int32 → Option (Int32)) (v2_4 : Int32) (H : Heap) (locs : List Loc) (ls : Array Slot), lv_has ls 3 [(0, .ref (bd 0)), (2, .int v2_4)] → va_P D vwCl (MW bd cI ms msv mb mf mr mt mn ml mat mw mm mh) H → va_S A s.heap H locs → fX9_firstOf_2 k2 ms n2 v2_4 = some r → (∀ (u2_4 : Int32) (H : Heap) (locs : List Loc) (ls : Array Slot), lv_has ls 3 [(2, .int u2_4)] → va_P D vwCl (MW bd cI ms msv mb mf mr mt mn ml mat mw mm mh) H → va_S A s.heap H locs → k2 u2_4 = some r → W p l e ⟨2, 0, 0, 43⟩ s m args below meth c_ H locs 0 0 Q (F0 m 20 ls [])) → W p l e ⟨2, 0, 0, 43⟩ s m args below meth c_ H locs 0 0 Q (F0 m 2 ls []) := by
    intro n2
    induction n2 with
    | zero =>
      intro k2 v2_4 H locs ls hl hP hS hs hk2
      rw [fX9_firstOf_2] at hs
      cases hs
    | succ n2 ih2 =>
      intro k2 v2_4 H locs ls hl hP hS hs hk2
      rw [fX9_firstOf_2] at hs
      refine lv_aload_n hx hb dX9_firstOf_2 rfl (lv_at hl 0 rfl) ?_
      refine lv_iload_n hx hb dX9_firstOf_3 rfl (lv_at hl 1 rfl) ?_
      obtain ⟨q5, eq5, hs⟩ := ob hs
      refine nd_callV (As := [.int v2_4]) (rest := []) (st1 := [.int q5]) hx hb hml hown hts hl hP hK hD hS hA hN (mX9_upperOf eq5) iv_X9_upperOf wd_326 0 rfl rfl rfl rfl ⟨Nat.le_of_ble_eq_true rfl, Nat.le_of_ble_eq_true rfl⟩ (Nat.le_of_ble_eq_true rfl) ⟨Nat.zero_le _, Nat.zero_le _⟩ dX9_firstOf_4 rfl rfl (fun H locs hP hD hS => ?_)
      refine lv_iconst (v := (-1 : Int32)) hx hb dX9_firstOf_7 (by decide) ?_
      refine lv_icmp_eq (tgt := 20) hx hb dX9_firstOf_8 (by decide) (fun b6 => ?_) (fun b6 => ?_)
      · have hs := ite_t hs b6
        exact hk2 v2_4 _ _ _ (lv_sub hl [1] rfl) hP hS hs
      · have hs := ite_f hs b6
        refine lv_aload_n hx hb dX9_firstOf_11 rfl (lv_at hl 0 rfl) ?_
        refine lv_iload_n hx hb dX9_firstOf_12 rfl (lv_at hl 1 rfl) ?_
        obtain ⟨q7, eq7, hs⟩ := ob hs
        refine nd_callV (As := [.int v2_4]) (rest := []) (st1 := [.int q7]) hx hb hml hown hts hl hP hK hD hS hA hN (mX9_upperOf eq7) iv_X9_upperOf wd_326 0 rfl rfl rfl rfl ⟨Nat.le_of_ble_eq_true rfl, Nat.le_of_ble_eq_true rfl⟩ (Nat.le_of_ble_eq_true rfl) ⟨Nat.zero_le _, Nat.zero_le _⟩ dX9_firstOf_13 rfl rfl (fun H locs hP hD hS => ?_)
        refine lv_istore_n (lv' := [(2, .int q7), (0, .ref (bd 0))]) hx hb dX9_firstOf_16 rfl hl (by decide) rfl (fun ls hl => ?_)
        refine lv_goto (tgt := 2) hx hb dX9_firstOf_17 (by decide) ?_
        exact ih2 k2 q7 _ _ _ (lv_sub hl [1, 0] rfl) hP hS hs hk2
  refine L2 LF _ x1 _ _ _ (lv_sub hl [1, 0] rfl) hP hS hs (fun u2_4 H locs ls hl hP hS hs => ?_)
  refine lv_iload_n hx hb dX9_firstOf_20 rfl (lv_at hl 0 rfl) ?_
  exact hret _ hs hP hS dX9_firstOf_21
def tX9_lastTime_0 : List (Nat × Instr × Nat) := [(0, .iload_n 1, 1), (1, .istore_n 2, 1), (2, .iload_n 2, 1), (3, .iconst (-1), 1), (4, .if_icmp .eq 35, 3), (7, .aload_n 0, 1), (8, .iload_n 2, 1), (9, .iconst 2, 1), (10, .invokevirtual 33, 3), (13, .ifCond .le 17, 3), (16, .aload_n 0, 1), (17, .iload_n 2, 1), (18, .aload_n 0, 1), (19, .iload_n 2, 1), (20, .iconst 2, 1), (21, .invokevirtual 33, 3), (24, .iconst 1, 1), (25, .isub, 1), (26, .invokevirtual 57, 3), (29, .ireturn, 1), (30, .aload_n 0, 1), (31, .iload_n 2, 1), (32, .invokevirtual 54, 3), (35, .istore_n 2, 1), (36, .goto (-34), 3), (39, .iconst (-1), 1), (40, .ireturn, 1)]
theorem tX9_lastTime_0_ok : tX9_lastTime_0.all (fun q => decide (decode cX9_lastTime q.1 = .ok q.2)) = true := by decide +kernel
theorem dX9_lastTime_0 : decode cX9_lastTime 0 = .ok (.iload_n 1, 1) := td tX9_lastTime_0_ok 0 (q := (0, .iload_n 1, 1)) rfl
theorem dX9_lastTime_1 : decode cX9_lastTime 1 = .ok (.istore_n 2, 1) := td tX9_lastTime_0_ok 1 (q := (1, .istore_n 2, 1)) rfl
theorem dX9_lastTime_2 : decode cX9_lastTime 2 = .ok (.iload_n 2, 1) := td tX9_lastTime_0_ok 2 (q := (2, .iload_n 2, 1)) rfl
theorem dX9_lastTime_3 : decode cX9_lastTime 3 = .ok (.iconst (-1), 1) := td tX9_lastTime_0_ok 3 (q := (3, .iconst (-1), 1)) rfl
theorem dX9_lastTime_4 : decode cX9_lastTime 4 = .ok (.if_icmp .eq 35, 3) := td tX9_lastTime_0_ok 4 (q := (4, .if_icmp .eq 35, 3)) rfl
theorem dX9_lastTime_7 : decode cX9_lastTime 7 = .ok (.aload_n 0, 1) := td tX9_lastTime_0_ok 5 (q := (7, .aload_n 0, 1)) rfl
theorem dX9_lastTime_8 : decode cX9_lastTime 8 = .ok (.iload_n 2, 1) := td tX9_lastTime_0_ok 6 (q := (8, .iload_n 2, 1)) rfl
theorem dX9_lastTime_9 : decode cX9_lastTime 9 = .ok (.iconst 2, 1) := td tX9_lastTime_0_ok 7 (q := (9, .iconst 2, 1)) rfl
theorem dX9_lastTime_10 : decode cX9_lastTime 10 = .ok (.invokevirtual 33, 3) := td tX9_lastTime_0_ok 8 (q := (10, .invokevirtual 33, 3)) rfl
theorem dX9_lastTime_13 : decode cX9_lastTime 13 = .ok (.ifCond .le 17, 3) := td tX9_lastTime_0_ok 9 (q := (13, .ifCond .le 17, 3)) rfl
theorem dX9_lastTime_16 : decode cX9_lastTime 16 = .ok (.aload_n 0, 1) := td tX9_lastTime_0_ok 10 (q := (16, .aload_n 0, 1)) rfl
theorem dX9_lastTime_17 : decode cX9_lastTime 17 = .ok (.iload_n 2, 1) := td tX9_lastTime_0_ok 11 (q := (17, .iload_n 2, 1)) rfl
theorem dX9_lastTime_18 : decode cX9_lastTime 18 = .ok (.aload_n 0, 1) := td tX9_lastTime_0_ok 12 (q := (18, .aload_n 0, 1)) rfl
theorem dX9_lastTime_19 : decode cX9_lastTime 19 = .ok (.iload_n 2, 1) := td tX9_lastTime_0_ok 13 (q := (19, .iload_n 2, 1)) rfl
theorem dX9_lastTime_20 : decode cX9_lastTime 20 = .ok (.iconst 2, 1) := td tX9_lastTime_0_ok 14 (q := (20, .iconst 2, 1)) rfl
theorem dX9_lastTime_21 : decode cX9_lastTime 21 = .ok (.invokevirtual 33, 3) := td tX9_lastTime_0_ok 15 (q := (21, .invokevirtual 33, 3)) rfl
theorem dX9_lastTime_24 : decode cX9_lastTime 24 = .ok (.iconst 1, 1) := td tX9_lastTime_0_ok 16 (q := (24, .iconst 1, 1)) rfl
theorem dX9_lastTime_25 : decode cX9_lastTime 25 = .ok (.isub, 1) := td tX9_lastTime_0_ok 17 (q := (25, .isub, 1)) rfl
theorem dX9_lastTime_26 : decode cX9_lastTime 26 = .ok (.invokevirtual 57, 3) := td tX9_lastTime_0_ok 18 (q := (26, .invokevirtual 57, 3)) rfl
theorem dX9_lastTime_29 : decode cX9_lastTime 29 = .ok (.ireturn, 1) := td tX9_lastTime_0_ok 19 (q := (29, .ireturn, 1)) rfl
theorem dX9_lastTime_30 : decode cX9_lastTime 30 = .ok (.aload_n 0, 1) := td tX9_lastTime_0_ok 20 (q := (30, .aload_n 0, 1)) rfl
theorem dX9_lastTime_31 : decode cX9_lastTime 31 = .ok (.iload_n 2, 1) := td tX9_lastTime_0_ok 21 (q := (31, .iload_n 2, 1)) rfl
theorem dX9_lastTime_32 : decode cX9_lastTime 32 = .ok (.invokevirtual 54, 3) := td tX9_lastTime_0_ok 22 (q := (32, .invokevirtual 54, 3)) rfl
theorem dX9_lastTime_35 : decode cX9_lastTime 35 = .ok (.istore_n 2, 1) := td tX9_lastTime_0_ok 23 (q := (35, .istore_n 2, 1)) rfl
theorem dX9_lastTime_36 : decode cX9_lastTime 36 = .ok (.goto (-34), 3) := td tX9_lastTime_0_ok 24 (q := (36, .goto (-34), 3)) rfl
theorem dX9_lastTime_39 : decode cX9_lastTime 39 = .ok (.iconst (-1), 1) := td tX9_lastTime_0_ok 25 (q := (39, .iconst (-1), 1)) rfl
theorem dX9_lastTime_40 : decode cX9_lastTime 40 = .ok (.ireturn, 1) := td tX9_lastTime_0_ok 26 (q := (40, .ireturn, 1)) rfl
def fX9_lastTime_2 (k2 : Unit → Option (Int32)) (ms : (Nat → Int32)) : Nat → Int32 → Option (Int32)
  | 0, _ => none
  | n2 + 1, x2 => (if x2 = (-1 : Int32) then (k2 ()) else (Option.bind (fX9_of ms x2 (2 : Int32)) (fun q2 => (if q2 ≤ 0 then (Option.bind (fX9_upperOf ms x2) (fun q4 => (fX9_lastTime_2 k2 ms n2 q4))) else (Option.bind (fX9_of ms x2 (2 : Int32)) (fun q5 => (Option.bind (fX9_timeOf ms x2 (q5 - (1 : Int32))) (fun q6 => (some q6)))))))))
def fX9_lastTime (ms : (Nat → Int32)) (x1 : Int32) : Option (Int32) :=
  (fX9_lastTime_2 (fun (_ : Unit) => (some (-1 : Int32))) ms LF x1)
set_option maxHeartbeats 4000000 in
set_option maxRecDepth 100000 in
theorem mX9_lastTime {l : Launch} {D : va_G} {bd : Nat → Nat} {cI : ClassId} {ms : (Nat → Int32)} {msv : (Nat → Int32)} {mb : (Nat → Int32)} {mf : (Nat → Int32)} {mr : (Nat → Int32)} {mt : Int32} {mn : Int32} {ml : Int32} {mat : Int32} {mw : Int32} {mm : Int32} {mh : Int64} {x1 : Int32} {r : Int32} (hs : fX9_lastTime ms x1 = some r) : nd_C l yX9_lastTime cX9_lastTime 3 (some .int) 2 43 D [(cI, .int)] [.ref (bd 0), .int x1] (MW bd cI ms msv mb mf mr mt mn ml mat mw mm mh) (MW bd cI ms msv mb mf mr mt mn ml mat mw mm mh) (some (.int r)) := by
  refine nd_ofCi (by decide) (Nat.le_of_ble_eq_true rfl) (fun p e s m args below meth c_ ls A Q hx hb hml hown hts hl hP hK hD hS hA hN hret => ?_)
  have hown : s.vm.findClass RX9 = some m.cls := hown
  have hl : lv_has ls 3 [(0, .ref (bd 0)), (1, .int x1)] := hl
  have hret : ∀ (z0 : Int32) {H : Heap} {locs : List Loc} {pc : Nat} {ls : Array Slot}, some z0 = some r → va_P D vwCl (MW bd cI ms msv mb mf mr mt mn ml mat mw mm mh) H → va_S A s.heap H locs → decode cX9_lastTime pc = .ok (.ireturn, 1) → W p l e ⟨2, 0, 0, 43⟩ s m args below meth c_ H locs 0 0 Q (F0 m pc ls [.int z0]) := by
    intro z0 H locs pc ls h hP hS hd
    cases h
    exact hret hP hS hd
  rw [fX9_lastTime] at hs
  refine lv_iload_n hx hb dX9_lastTime_0 rfl (lv_at hl 1 rfl) ?_
  refine lv_istore_n (lv' := [(2, .int x1), (0, .ref (bd 0)), (1, .int x1)]) hx hb dX9_lastTime_1 rfl hl (by decide) rfl (fun ls hl => ?_)
  have L2 : ∀ (n2 : Nat) (k2 : Unit → Option (Int32)) (v2_7 : Int32) (H : Heap) (locs : List Loc) (ls : Array Slot), lv_has ls 3 [(0, .ref (bd 0)), (2, .int v2_7)] → va_P D vwCl (MW bd cI ms msv mb mf mr mt mn ml mat mw mm mh) H → va_S A s.heap H locs → fX9_lastTime_2 k2 ms n2 v2_7 = some r → (∀ (H : Heap) (locs : List Loc) (ls : Array Slot), lv_has ls 3 [] → va_P D vwCl (MW bd cI ms msv mb mf mr mt mn ml mat mw mm mh) H → va_S A s.heap H locs → k2 () = some r → W p l e ⟨2, 0, 0, 43⟩ s m args below meth c_ H locs 0 0 Q (F0 m 39 ls [])) → W p l e ⟨2, 0, 0, 43⟩ s m args below meth c_ H locs 0 0 Q (F0 m 2 ls []) := by
    intro n2
    induction n2 with
    | zero =>
      intro k2 v2_7 H locs ls hl hP hS hs hk2
      rw [fX9_lastTime_2] at hs
      cases hs
    | succ n2 ih2 =>
      intro k2 v2_7 H locs ls hl hP hS hs hk2
      rw [fX9_lastTime_2] at hs
      refine lv_iload_n hx hb dX9_lastTime_2 rfl (lv_at hl 1 rfl) ?_
      refine lv_iconst (v := (-1 : Int32)) hx hb dX9_lastTime_3 (by decide) ?_
      refine lv_icmp_eq (tgt := 39) hx hb dX9_lastTime_4 (by decide) (fun b8 => ?_) (fun b8 => ?_)
      · have hs := ite_t hs b8
        exact hk2  _ _ _ (lv_sub hl [] rfl) hP hS hs
      · have hs := ite_f hs b8
        refine lv_aload_n hx hb dX9_lastTime_7 rfl (lv_at hl 0 rfl) ?_
        refine lv_iload_n hx hb dX9_lastTime_8 rfl (lv_at hl 1 rfl) ?_
        refine lv_iconst (v := (2 : Int32)) hx hb dX9_lastTime_9 (by decide) ?_
        obtain ⟨q9, eq9, hs⟩ := ob hs
        refine nd_callV (As := [.int v2_7, .int (2 : Int32)]) (rest := []) (st1 := [.int q9]) hx hb hml hown hts hl hP hK hD hS hA hN (mX9_of eq9) iv_X9_of wd_307 0 rfl rfl rfl rfl ⟨Nat.le_of_ble_eq_true rfl, Nat.le_of_ble_eq_true rfl⟩ (Nat.le_of_ble_eq_true rfl) ⟨Nat.zero_le _, Nat.zero_le _⟩ dX9_lastTime_10 rfl rfl (fun H locs hP hD hS => ?_)
        refine lv_if_le (tgt := 30) hx hb dX9_lastTime_13 (by decide) (fun b10 => ?_) (fun b10 => ?_)
        · have hs := ite_t hs b10
          refine lv_aload_n hx hb dX9_lastTime_30 rfl (lv_at hl 0 rfl) ?_
          refine lv_iload_n hx hb dX9_lastTime_31 rfl (lv_at hl 1 rfl) ?_
          obtain ⟨q11, eq11, hs⟩ := ob hs
          refine nd_callV (As := [.int v2_7]) (rest := []) (st1 := [.int q11]) hx hb hml hown hts hl hP hK hD hS hA hN (mX9_upperOf eq11) iv_X9_upperOf wd_326 0 rfl rfl rfl rfl ⟨Nat.le_of_ble_eq_true rfl, Nat.le_of_ble_eq_true rfl⟩ (Nat.le_of_ble_eq_true rfl) ⟨Nat.zero_le _, Nat.zero_le _⟩ dX9_lastTime_32 rfl rfl (fun H locs hP hD hS => ?_)
          refine lv_istore_n (lv' := [(2, .int q11), (0, .ref (bd 0))]) hx hb dX9_lastTime_35 rfl hl (by decide) rfl (fun ls hl => ?_)
          refine lv_goto (tgt := 2) hx hb dX9_lastTime_36 (by decide) ?_
          exact ih2 k2 q11 _ _ _ (lv_sub hl [1, 0] rfl) hP hS hs hk2
        · have hs := ite_f hs b10
          refine lv_aload_n hx hb dX9_lastTime_16 rfl (lv_at hl 0 rfl) ?_
          refine lv_iload_n hx hb dX9_lastTime_17 rfl (lv_at hl 1 rfl) ?_
          refine lv_aload_n hx hb dX9_lastTime_18 rfl (lv_at hl 0 rfl) ?_
          refine lv_iload_n hx hb dX9_lastTime_19 rfl (lv_at hl 1 rfl) ?_
          refine lv_iconst (v := (2 : Int32)) hx hb dX9_lastTime_20 (by decide) ?_
          obtain ⟨q12, eq12, hs⟩ := ob hs
          refine nd_callV (As := [.int v2_7, .int (2 : Int32)]) (rest := [.int v2_7, .ref (bd 0)]) (st1 := [.int q12, .int v2_7, .ref (bd 0)]) hx hb hml hown hts hl hP hK hD hS hA hN (mX9_of eq12) iv_X9_of wd_307 0 rfl rfl rfl rfl ⟨Nat.le_of_ble_eq_true rfl, Nat.le_of_ble_eq_true rfl⟩ (Nat.le_of_ble_eq_true rfl) ⟨Nat.zero_le _, Nat.zero_le _⟩ dX9_lastTime_21 rfl rfl (fun H locs hP hD hS => ?_)
          refine lv_iconst (v := (1 : Int32)) hx hb dX9_lastTime_24 (by decide) ?_
          refine lv_isub hx hb dX9_lastTime_25 ?_
          obtain ⟨q13, eq13, hs⟩ := ob hs
          refine nd_callV (As := [.int v2_7, .int (q12 - (1 : Int32))]) (rest := []) (st1 := [.int q13]) hx hb hml hown hts hl hP hK hD hS hA hN (mX9_timeOf eq13) iv_X9_timeOf wd_315 0 rfl rfl rfl rfl ⟨Nat.le_of_ble_eq_true rfl, Nat.le_of_ble_eq_true rfl⟩ (Nat.le_of_ble_eq_true rfl) ⟨Nat.zero_le _, Nat.zero_le _⟩ dX9_lastTime_26 rfl rfl (fun H locs hP hD hS => ?_)
          exact hret _ hs hP hS dX9_lastTime_29
  refine L2 LF _ x1 _ _ _ (lv_sub hl [1, 0] rfl) hP hS hs (fun  H locs ls hl hP hS hs => ?_)
  refine lv_iconst (v := (-1 : Int32)) hx hb dX9_lastTime_39 (by decide) ?_
  exact hret _ hs hP hS dX9_lastTime_40
def tX9_firstTime_0 : List (Nat × Instr × Nat) := [(0, .iload_n 1, 1), (1, .istore_n 2, 1), (2, .iload_n 2, 1), (3, .iconst (-1), 1), (4, .if_icmp .eq 28, 3), (7, .aload_n 0, 1), (8, .iload_n 2, 1), (9, .iconst 2, 1), (10, .invokevirtual 33, 3), (13, .ifCond .le 10, 3), (16, .aload_n 0, 1), (17, .iload_n 2, 1), (18, .iconst 0, 1), (19, .invokevirtual 57, 3), (22, .ireturn, 1), (23, .aload_n 0, 1), (24, .iload_n 2, 1), (25, .invokevirtual 60, 3), (28, .istore_n 2, 1), (29, .goto (-27), 3), (32, .iconst (-1), 1), (33, .ireturn, 1)]
theorem tX9_firstTime_0_ok : tX9_firstTime_0.all (fun q => decide (decode cX9_firstTime q.1 = .ok q.2)) = true := by decide +kernel
theorem dX9_firstTime_0 : decode cX9_firstTime 0 = .ok (.iload_n 1, 1) := td tX9_firstTime_0_ok 0 (q := (0, .iload_n 1, 1)) rfl
theorem dX9_firstTime_1 : decode cX9_firstTime 1 = .ok (.istore_n 2, 1) := td tX9_firstTime_0_ok 1 (q := (1, .istore_n 2, 1)) rfl
theorem dX9_firstTime_2 : decode cX9_firstTime 2 = .ok (.iload_n 2, 1) := td tX9_firstTime_0_ok 2 (q := (2, .iload_n 2, 1)) rfl
theorem dX9_firstTime_3 : decode cX9_firstTime 3 = .ok (.iconst (-1), 1) := td tX9_firstTime_0_ok 3 (q := (3, .iconst (-1), 1)) rfl
theorem dX9_firstTime_4 : decode cX9_firstTime 4 = .ok (.if_icmp .eq 28, 3) := td tX9_firstTime_0_ok 4 (q := (4, .if_icmp .eq 28, 3)) rfl
theorem dX9_firstTime_7 : decode cX9_firstTime 7 = .ok (.aload_n 0, 1) := td tX9_firstTime_0_ok 5 (q := (7, .aload_n 0, 1)) rfl
theorem dX9_firstTime_8 : decode cX9_firstTime 8 = .ok (.iload_n 2, 1) := td tX9_firstTime_0_ok 6 (q := (8, .iload_n 2, 1)) rfl
theorem dX9_firstTime_9 : decode cX9_firstTime 9 = .ok (.iconst 2, 1) := td tX9_firstTime_0_ok 7 (q := (9, .iconst 2, 1)) rfl
theorem dX9_firstTime_10 : decode cX9_firstTime 10 = .ok (.invokevirtual 33, 3) := td tX9_firstTime_0_ok 8 (q := (10, .invokevirtual 33, 3)) rfl
theorem dX9_firstTime_13 : decode cX9_firstTime 13 = .ok (.ifCond .le 10, 3) := td tX9_firstTime_0_ok 9 (q := (13, .ifCond .le 10, 3)) rfl
theorem dX9_firstTime_16 : decode cX9_firstTime 16 = .ok (.aload_n 0, 1) := td tX9_firstTime_0_ok 10 (q := (16, .aload_n 0, 1)) rfl
theorem dX9_firstTime_17 : decode cX9_firstTime 17 = .ok (.iload_n 2, 1) := td tX9_firstTime_0_ok 11 (q := (17, .iload_n 2, 1)) rfl
theorem dX9_firstTime_18 : decode cX9_firstTime 18 = .ok (.iconst 0, 1) := td tX9_firstTime_0_ok 12 (q := (18, .iconst 0, 1)) rfl
theorem dX9_firstTime_19 : decode cX9_firstTime 19 = .ok (.invokevirtual 57, 3) := td tX9_firstTime_0_ok 13 (q := (19, .invokevirtual 57, 3)) rfl
theorem dX9_firstTime_22 : decode cX9_firstTime 22 = .ok (.ireturn, 1) := td tX9_firstTime_0_ok 14 (q := (22, .ireturn, 1)) rfl
theorem dX9_firstTime_23 : decode cX9_firstTime 23 = .ok (.aload_n 0, 1) := td tX9_firstTime_0_ok 15 (q := (23, .aload_n 0, 1)) rfl
theorem dX9_firstTime_24 : decode cX9_firstTime 24 = .ok (.iload_n 2, 1) := td tX9_firstTime_0_ok 16 (q := (24, .iload_n 2, 1)) rfl
theorem dX9_firstTime_25 : decode cX9_firstTime 25 = .ok (.invokevirtual 60, 3) := td tX9_firstTime_0_ok 17 (q := (25, .invokevirtual 60, 3)) rfl
theorem dX9_firstTime_28 : decode cX9_firstTime 28 = .ok (.istore_n 2, 1) := td tX9_firstTime_0_ok 18 (q := (28, .istore_n 2, 1)) rfl
theorem dX9_firstTime_29 : decode cX9_firstTime 29 = .ok (.goto (-27), 3) := td tX9_firstTime_0_ok 19 (q := (29, .goto (-27), 3)) rfl
theorem dX9_firstTime_32 : decode cX9_firstTime 32 = .ok (.iconst (-1), 1) := td tX9_firstTime_0_ok 20 (q := (32, .iconst (-1), 1)) rfl
theorem dX9_firstTime_33 : decode cX9_firstTime 33 = .ok (.ireturn, 1) := td tX9_firstTime_0_ok 21 (q := (33, .ireturn, 1)) rfl
def fX9_firstTime_2 (k2 : Unit → Option (Int32)) (ms : (Nat → Int32)) : Nat → Int32 → Option (Int32)
  | 0, _ => none
  | n2 + 1, x2 => (if x2 = (-1 : Int32) then (k2 ()) else (Option.bind (fX9_of ms x2 (2 : Int32)) (fun q2 => (if q2 ≤ 0 then (Option.bind (fX9_lowerOf ms x2) (fun q4 => (fX9_firstTime_2 k2 ms n2 q4))) else (Option.bind (fX9_timeOf ms x2 (0 : Int32)) (fun q5 => (some q5)))))))
def fX9_firstTime (ms : (Nat → Int32)) (x1 : Int32) : Option (Int32) :=
  (fX9_firstTime_2 (fun (_ : Unit) => (some (-1 : Int32))) ms LF x1)
set_option maxHeartbeats 4000000 in
set_option maxRecDepth 100000 in
theorem mX9_firstTime {l : Launch} {D : va_G} {bd : Nat → Nat} {cI : ClassId} {ms : (Nat → Int32)} {msv : (Nat → Int32)} {mb : (Nat → Int32)} {mf : (Nat → Int32)} {mr : (Nat → Int32)} {mt : Int32} {mn : Int32} {ml : Int32} {mat : Int32} {mw : Int32} {mm : Int32} {mh : Int64} {x1 : Int32} {r : Int32} (hs : fX9_firstTime ms x1 = some r) : nd_C l yX9_firstTime cX9_firstTime 3 (some .int) 2 43 D [(cI, .int)] [.ref (bd 0), .int x1] (MW bd cI ms msv mb mf mr mt mn ml mat mw mm mh) (MW bd cI ms msv mb mf mr mt mn ml mat mw mm mh) (some (.int r)) := by
  refine nd_ofCi (by decide) (Nat.le_of_ble_eq_true rfl) (fun p e s m args below meth c_ ls A Q hx hb hml hown hts hl hP hK hD hS hA hN hret => ?_)
  have hown : s.vm.findClass RX9 = some m.cls := hown
  have hl : lv_has ls 3 [(0, .ref (bd 0)), (1, .int x1)] := hl
  have hret : ∀ (z0 : Int32) {H : Heap} {locs : List Loc} {pc : Nat} {ls : Array Slot}, some z0 = some r → va_P D vwCl (MW bd cI ms msv mb mf mr mt mn ml mat mw mm mh) H → va_S A s.heap H locs → decode cX9_firstTime pc = .ok (.ireturn, 1) → W p l e ⟨2, 0, 0, 43⟩ s m args below meth c_ H locs 0 0 Q (F0 m pc ls [.int z0]) := by
    intro z0 H locs pc ls h hP hS hd
    cases h
    exact hret hP hS hd
  rw [fX9_firstTime] at hs
  refine lv_iload_n hx hb dX9_firstTime_0 rfl (lv_at hl 1 rfl) ?_
  refine lv_istore_n (lv' := [(2, .int x1), (0, .ref (bd 0)), (1, .int x1)]) hx hb dX9_firstTime_1 rfl hl (by decide) rfl (fun ls hl => ?_)
  have L2 : ∀ (n2 : Nat) (k2 : Unit → Option (Int32)) (v2_6 : Int32) (H : Heap) (locs : List Loc) (ls : Array Slot), lv_has ls 3 [(0, .ref (bd 0)), (2, .int v2_6)] → va_P D vwCl (MW bd cI ms msv mb mf mr mt mn ml mat mw mm mh) H → va_S A s.heap H locs → fX9_firstTime_2 k2 ms n2 v2_6 = some r → (∀ (H : Heap) (locs : List Loc) (ls : Array Slot), lv_has ls 3 [] → va_P D vwCl (MW bd cI ms msv mb mf mr mt mn ml mat mw mm mh) H → va_S A s.heap H locs → k2 () = some r → W p l e ⟨2, 0, 0, 43⟩ s m args below meth c_ H locs 0 0 Q (F0 m 32 ls [])) → W p l e ⟨2, 0, 0, 43⟩ s m args below meth c_ H locs 0 0 Q (F0 m 2 ls []) := by
    intro n2
    induction n2 with
    | zero =>
      intro k2 v2_6 H locs ls hl hP hS hs hk2
      rw [fX9_firstTime_2] at hs
      cases hs
    | succ n2 ih2 =>
      intro k2 v2_6 H locs ls hl hP hS hs hk2
      rw [fX9_firstTime_2] at hs
      refine lv_iload_n hx hb dX9_firstTime_2 rfl (lv_at hl 1 rfl) ?_
      refine lv_iconst (v := (-1 : Int32)) hx hb dX9_firstTime_3 (by decide) ?_
      refine lv_icmp_eq (tgt := 32) hx hb dX9_firstTime_4 (by decide) (fun b7 => ?_) (fun b7 => ?_)
      · have hs := ite_t hs b7
        exact hk2  _ _ _ (lv_sub hl [] rfl) hP hS hs
      · have hs := ite_f hs b7
        refine lv_aload_n hx hb dX9_firstTime_7 rfl (lv_at hl 0 rfl) ?_
        refine lv_iload_n hx hb dX9_firstTime_8 rfl (lv_at hl 1 rfl) ?_
        refine lv_iconst (v := (2 : Int32)) hx hb dX9_firstTime_9 (by decide) ?_
        obtain ⟨q8, eq8, hs⟩ := ob hs
        refine nd_callV (As := [.int v2_6, .int (2 : Int32)]) (rest := []) (st1 := [.int q8]) hx hb hml hown hts hl hP hK hD hS hA hN (mX9_of eq8) iv_X9_of wd_307 0 rfl rfl rfl rfl ⟨Nat.le_of_ble_eq_true rfl, Nat.le_of_ble_eq_true rfl⟩ (Nat.le_of_ble_eq_true rfl) ⟨Nat.zero_le _, Nat.zero_le _⟩ dX9_firstTime_10 rfl rfl (fun H locs hP hD hS => ?_)
        refine lv_if_le (tgt := 23) hx hb dX9_firstTime_13 (by decide) (fun b9 => ?_) (fun b9 => ?_)
        · have hs := ite_t hs b9
          refine lv_aload_n hx hb dX9_firstTime_23 rfl (lv_at hl 0 rfl) ?_
          refine lv_iload_n hx hb dX9_firstTime_24 rfl (lv_at hl 1 rfl) ?_
          obtain ⟨q10, eq10, hs⟩ := ob hs
          refine nd_callV (As := [.int v2_6]) (rest := []) (st1 := [.int q10]) hx hb hml hown hts hl hP hK hD hS hA hN (mX9_lowerOf eq10) iv_X9_lowerOf wd_303 0 rfl rfl rfl rfl ⟨Nat.le_of_ble_eq_true rfl, Nat.le_of_ble_eq_true rfl⟩ (Nat.le_of_ble_eq_true rfl) ⟨Nat.zero_le _, Nat.zero_le _⟩ dX9_firstTime_25 rfl rfl (fun H locs hP hD hS => ?_)
          refine lv_istore_n (lv' := [(2, .int q10), (0, .ref (bd 0))]) hx hb dX9_firstTime_28 rfl hl (by decide) rfl (fun ls hl => ?_)
          refine lv_goto (tgt := 2) hx hb dX9_firstTime_29 (by decide) ?_
          exact ih2 k2 q10 _ _ _ (lv_sub hl [1, 0] rfl) hP hS hs hk2
        · have hs := ite_f hs b9
          refine lv_aload_n hx hb dX9_firstTime_16 rfl (lv_at hl 0 rfl) ?_
          refine lv_iload_n hx hb dX9_firstTime_17 rfl (lv_at hl 1 rfl) ?_
          refine lv_iconst (v := (0 : Int32)) hx hb dX9_firstTime_18 (by decide) ?_
          obtain ⟨q11, eq11, hs⟩ := ob hs
          refine nd_callV (As := [.int v2_6, .int (0 : Int32)]) (rest := []) (st1 := [.int q11]) hx hb hml hown hts hl hP hK hD hS hA hN (mX9_timeOf eq11) iv_X9_timeOf wd_315 0 rfl rfl rfl rfl ⟨Nat.le_of_ble_eq_true rfl, Nat.le_of_ble_eq_true rfl⟩ (Nat.le_of_ble_eq_true rfl) ⟨Nat.zero_le _, Nat.zero_le _⟩ dX9_firstTime_19 rfl rfl (fun H locs hP hD hS => ?_)
          exact hret _ hs hP hS dX9_firstTime_22
  refine L2 LF _ x1 _ _ _ (lv_sub hl [1, 0] rfl) hP hS hs (fun  H locs ls hl hP hS hs => ?_)
  refine lv_iconst (v := (-1 : Int32)) hx hb dX9_firstTime_32 (by decide) ?_
  exact hret _ hs hP hS dX9_firstTime_33
def tX9_fitting_0 : List (Nat × Instr × Nat) := [(0, .aload_n 0, 1), (1, .iload_n 1, 1), (2, .iconst 1, 1), (3, .invokevirtual 33, 3), (6, .aload_n 0, 1), (7, .iload_n 2, 1), (8, .iconst 0, 1), (9, .invokevirtual 33, 3), (12, .iadd, 1), (13, .bipush 99, 2), (15, .if_icmp .eq 5, 3), (18, .iconst 1, 1), (19, .ireturn, 1), (20, .aload_n 0, 1), (21, .iload_n 1, 1), (22, .invokevirtual 60, 3), (25, .iconst (-1), 1), (26, .if_icmp .ne 12, 3), (29, .aload_n 0, 1), (30, .iload_n 2, 1), (31, .invokevirtual 54, 3), (34, .iconst (-1), 1), (35, .if_icmp .eq 18, 3), (38, .aload_n 0, 1), (39, .iload_n 1, 1), (40, .invokevirtual 60, 3), (43, .iconst (-1), 1), (44, .if_icmp .eq 7, 3), (47, .iconst 2, 1), (48, .goto 4, 3), (51, .iconst 3, 1), (52, .ireturn, 1), (53, .aload_n 0, 1), (54, .iload_n 1, 1), (55, .invokevirtual 63, 3), (58, .aload_n 0, 1), (59, .iload_n 2, 1), (60, .invokevirtual 63, 3), (63, .if_icmp .ne 5, 3), (66, .iconst 4, 1), (67, .ireturn, 1), (68, .aload_n 0, 1), (69, .iload_n 2, 1), (70, .invokevirtual 66, 3), (73, .istore_n 3, 1), (74, .iload_n 3, 1), (75, .iconst (-1), 1), (76, .if_icmp .eq 16, 3), (79, .aload_n 0, 1), (80, .iload_n 1, 1), (81, .invokevirtual 69, 3), (84, .iload_n 3, 1), (85, .if_icmp .le 7, 3), (88, .iconst 5, 1), (89, .goto 4, 3), (92, .iconst 0, 1), (93, .ireturn, 1)]
theorem tX9_fitting_0_ok : tX9_fitting_0.all (fun q => decide (decode cX9_fitting q.1 = .ok q.2)) = true := by decide +kernel
theorem dX9_fitting_0 : decode cX9_fitting 0 = .ok (.aload_n 0, 1) := td tX9_fitting_0_ok 0 (q := (0, .aload_n 0, 1)) rfl
theorem dX9_fitting_1 : decode cX9_fitting 1 = .ok (.iload_n 1, 1) := td tX9_fitting_0_ok 1 (q := (1, .iload_n 1, 1)) rfl
theorem dX9_fitting_2 : decode cX9_fitting 2 = .ok (.iconst 1, 1) := td tX9_fitting_0_ok 2 (q := (2, .iconst 1, 1)) rfl
theorem dX9_fitting_3 : decode cX9_fitting 3 = .ok (.invokevirtual 33, 3) := td tX9_fitting_0_ok 3 (q := (3, .invokevirtual 33, 3)) rfl
theorem dX9_fitting_6 : decode cX9_fitting 6 = .ok (.aload_n 0, 1) := td tX9_fitting_0_ok 4 (q := (6, .aload_n 0, 1)) rfl
theorem dX9_fitting_7 : decode cX9_fitting 7 = .ok (.iload_n 2, 1) := td tX9_fitting_0_ok 5 (q := (7, .iload_n 2, 1)) rfl
theorem dX9_fitting_8 : decode cX9_fitting 8 = .ok (.iconst 0, 1) := td tX9_fitting_0_ok 6 (q := (8, .iconst 0, 1)) rfl
theorem dX9_fitting_9 : decode cX9_fitting 9 = .ok (.invokevirtual 33, 3) := td tX9_fitting_0_ok 7 (q := (9, .invokevirtual 33, 3)) rfl
theorem dX9_fitting_12 : decode cX9_fitting 12 = .ok (.iadd, 1) := td tX9_fitting_0_ok 8 (q := (12, .iadd, 1)) rfl
theorem dX9_fitting_13 : decode cX9_fitting 13 = .ok (.bipush 99, 2) := td tX9_fitting_0_ok 9 (q := (13, .bipush 99, 2)) rfl
theorem dX9_fitting_15 : decode cX9_fitting 15 = .ok (.if_icmp .eq 5, 3) := td tX9_fitting_0_ok 10 (q := (15, .if_icmp .eq 5, 3)) rfl
theorem dX9_fitting_18 : decode cX9_fitting 18 = .ok (.iconst 1, 1) := td tX9_fitting_0_ok 11 (q := (18, .iconst 1, 1)) rfl
theorem dX9_fitting_19 : decode cX9_fitting 19 = .ok (.ireturn, 1) := td tX9_fitting_0_ok 12 (q := (19, .ireturn, 1)) rfl
theorem dX9_fitting_20 : decode cX9_fitting 20 = .ok (.aload_n 0, 1) := td tX9_fitting_0_ok 13 (q := (20, .aload_n 0, 1)) rfl
theorem dX9_fitting_21 : decode cX9_fitting 21 = .ok (.iload_n 1, 1) := td tX9_fitting_0_ok 14 (q := (21, .iload_n 1, 1)) rfl
theorem dX9_fitting_22 : decode cX9_fitting 22 = .ok (.invokevirtual 60, 3) := td tX9_fitting_0_ok 15 (q := (22, .invokevirtual 60, 3)) rfl
theorem dX9_fitting_25 : decode cX9_fitting 25 = .ok (.iconst (-1), 1) := td tX9_fitting_0_ok 16 (q := (25, .iconst (-1), 1)) rfl
theorem dX9_fitting_26 : decode cX9_fitting 26 = .ok (.if_icmp .ne 12, 3) := td tX9_fitting_0_ok 17 (q := (26, .if_icmp .ne 12, 3)) rfl
theorem dX9_fitting_29 : decode cX9_fitting 29 = .ok (.aload_n 0, 1) := td tX9_fitting_0_ok 18 (q := (29, .aload_n 0, 1)) rfl
theorem dX9_fitting_30 : decode cX9_fitting 30 = .ok (.iload_n 2, 1) := td tX9_fitting_0_ok 19 (q := (30, .iload_n 2, 1)) rfl
theorem dX9_fitting_31 : decode cX9_fitting 31 = .ok (.invokevirtual 54, 3) := td tX9_fitting_0_ok 20 (q := (31, .invokevirtual 54, 3)) rfl
theorem dX9_fitting_34 : decode cX9_fitting 34 = .ok (.iconst (-1), 1) := td tX9_fitting_0_ok 21 (q := (34, .iconst (-1), 1)) rfl
theorem dX9_fitting_35 : decode cX9_fitting 35 = .ok (.if_icmp .eq 18, 3) := td tX9_fitting_0_ok 22 (q := (35, .if_icmp .eq 18, 3)) rfl
theorem dX9_fitting_38 : decode cX9_fitting 38 = .ok (.aload_n 0, 1) := td tX9_fitting_0_ok 23 (q := (38, .aload_n 0, 1)) rfl
theorem dX9_fitting_39 : decode cX9_fitting 39 = .ok (.iload_n 1, 1) := td tX9_fitting_0_ok 24 (q := (39, .iload_n 1, 1)) rfl
theorem dX9_fitting_40 : decode cX9_fitting 40 = .ok (.invokevirtual 60, 3) := td tX9_fitting_0_ok 25 (q := (40, .invokevirtual 60, 3)) rfl
theorem dX9_fitting_43 : decode cX9_fitting 43 = .ok (.iconst (-1), 1) := td tX9_fitting_0_ok 26 (q := (43, .iconst (-1), 1)) rfl
theorem dX9_fitting_44 : decode cX9_fitting 44 = .ok (.if_icmp .eq 7, 3) := td tX9_fitting_0_ok 27 (q := (44, .if_icmp .eq 7, 3)) rfl
theorem dX9_fitting_47 : decode cX9_fitting 47 = .ok (.iconst 2, 1) := td tX9_fitting_0_ok 28 (q := (47, .iconst 2, 1)) rfl
theorem dX9_fitting_48 : decode cX9_fitting 48 = .ok (.goto 4, 3) := td tX9_fitting_0_ok 29 (q := (48, .goto 4, 3)) rfl
theorem dX9_fitting_51 : decode cX9_fitting 51 = .ok (.iconst 3, 1) := td tX9_fitting_0_ok 30 (q := (51, .iconst 3, 1)) rfl
theorem dX9_fitting_52 : decode cX9_fitting 52 = .ok (.ireturn, 1) := td tX9_fitting_0_ok 31 (q := (52, .ireturn, 1)) rfl
theorem dX9_fitting_53 : decode cX9_fitting 53 = .ok (.aload_n 0, 1) := td tX9_fitting_0_ok 32 (q := (53, .aload_n 0, 1)) rfl
theorem dX9_fitting_54 : decode cX9_fitting 54 = .ok (.iload_n 1, 1) := td tX9_fitting_0_ok 33 (q := (54, .iload_n 1, 1)) rfl
theorem dX9_fitting_55 : decode cX9_fitting 55 = .ok (.invokevirtual 63, 3) := td tX9_fitting_0_ok 34 (q := (55, .invokevirtual 63, 3)) rfl
theorem dX9_fitting_58 : decode cX9_fitting 58 = .ok (.aload_n 0, 1) := td tX9_fitting_0_ok 35 (q := (58, .aload_n 0, 1)) rfl
theorem dX9_fitting_59 : decode cX9_fitting 59 = .ok (.iload_n 2, 1) := td tX9_fitting_0_ok 36 (q := (59, .iload_n 2, 1)) rfl
theorem dX9_fitting_60 : decode cX9_fitting 60 = .ok (.invokevirtual 63, 3) := td tX9_fitting_0_ok 37 (q := (60, .invokevirtual 63, 3)) rfl
theorem dX9_fitting_63 : decode cX9_fitting 63 = .ok (.if_icmp .ne 5, 3) := td tX9_fitting_0_ok 38 (q := (63, .if_icmp .ne 5, 3)) rfl
theorem dX9_fitting_66 : decode cX9_fitting 66 = .ok (.iconst 4, 1) := td tX9_fitting_0_ok 39 (q := (66, .iconst 4, 1)) rfl
theorem dX9_fitting_67 : decode cX9_fitting 67 = .ok (.ireturn, 1) := td tX9_fitting_0_ok 40 (q := (67, .ireturn, 1)) rfl
theorem dX9_fitting_68 : decode cX9_fitting 68 = .ok (.aload_n 0, 1) := td tX9_fitting_0_ok 41 (q := (68, .aload_n 0, 1)) rfl
theorem dX9_fitting_69 : decode cX9_fitting 69 = .ok (.iload_n 2, 1) := td tX9_fitting_0_ok 42 (q := (69, .iload_n 2, 1)) rfl
theorem dX9_fitting_70 : decode cX9_fitting 70 = .ok (.invokevirtual 66, 3) := td tX9_fitting_0_ok 43 (q := (70, .invokevirtual 66, 3)) rfl
theorem dX9_fitting_73 : decode cX9_fitting 73 = .ok (.istore_n 3, 1) := td tX9_fitting_0_ok 44 (q := (73, .istore_n 3, 1)) rfl
theorem dX9_fitting_74 : decode cX9_fitting 74 = .ok (.iload_n 3, 1) := td tX9_fitting_0_ok 45 (q := (74, .iload_n 3, 1)) rfl
theorem dX9_fitting_75 : decode cX9_fitting 75 = .ok (.iconst (-1), 1) := td tX9_fitting_0_ok 46 (q := (75, .iconst (-1), 1)) rfl
theorem dX9_fitting_76 : decode cX9_fitting 76 = .ok (.if_icmp .eq 16, 3) := td tX9_fitting_0_ok 47 (q := (76, .if_icmp .eq 16, 3)) rfl
theorem dX9_fitting_79 : decode cX9_fitting 79 = .ok (.aload_n 0, 1) := td tX9_fitting_0_ok 48 (q := (79, .aload_n 0, 1)) rfl
theorem dX9_fitting_80 : decode cX9_fitting 80 = .ok (.iload_n 1, 1) := td tX9_fitting_0_ok 49 (q := (80, .iload_n 1, 1)) rfl
theorem dX9_fitting_81 : decode cX9_fitting 81 = .ok (.invokevirtual 69, 3) := td tX9_fitting_0_ok 50 (q := (81, .invokevirtual 69, 3)) rfl
theorem dX9_fitting_84 : decode cX9_fitting 84 = .ok (.iload_n 3, 1) := td tX9_fitting_0_ok 51 (q := (84, .iload_n 3, 1)) rfl
theorem dX9_fitting_85 : decode cX9_fitting 85 = .ok (.if_icmp .le 7, 3) := td tX9_fitting_0_ok 52 (q := (85, .if_icmp .le 7, 3)) rfl
theorem dX9_fitting_88 : decode cX9_fitting 88 = .ok (.iconst 5, 1) := td tX9_fitting_0_ok 53 (q := (88, .iconst 5, 1)) rfl
theorem dX9_fitting_89 : decode cX9_fitting 89 = .ok (.goto 4, 3) := td tX9_fitting_0_ok 54 (q := (89, .goto 4, 3)) rfl
theorem dX9_fitting_92 : decode cX9_fitting 92 = .ok (.iconst 0, 1) := td tX9_fitting_0_ok 55 (q := (92, .iconst 0, 1)) rfl
theorem dX9_fitting_93 : decode cX9_fitting 93 = .ok (.ireturn, 1) := td tX9_fitting_0_ok 56 (q := (93, .ireturn, 1)) rfl
def fX9_fitting (ms : (Nat → Int32)) (x1 : Int32) (x2 : Int32) : Option (Int32) :=
  (Option.bind (fX9_of ms x1 (1 : Int32)) (fun q1 => (Option.bind (fX9_of ms x2 (0 : Int32)) (fun q2 => (if (q1 + q2) = (99 : Int32) then (Option.bind (fX9_lowerOf ms x1) (fun q4 => (if q4 = (-1 : Int32) then (Option.bind (fX9_upperOf ms x2) (fun q8 => (if q8 = (-1 : Int32) then (Option.bind (fX9_firstOf ms x1) (fun q10 => (Option.bind (fX9_firstOf ms x2) (fun q11 => (if q10 = q11 then (some (4 : Int32)) else (Option.bind (fX9_firstTime ms x2) (fun q13 => (if q13 = (-1 : Int32) then (some (0 : Int32)) else (Option.bind (fX9_lastTime ms x1) (fun q15 => (if q15 ≤ q13 then (some (0 : Int32)) else (some (5 : Int32))))))))))))) else (Option.bind (fX9_lowerOf ms x1) (fun q17 => (if q17 = (-1 : Int32) then (some (3 : Int32)) else (some (2 : Int32)))))))) else (Option.bind (fX9_lowerOf ms x1) (fun q6 => (if q6 = (-1 : Int32) then (some (3 : Int32)) else (some (2 : Int32)))))))) else (some (1 : Int32)))))))
set_option maxHeartbeats 4000000 in
set_option maxRecDepth 100000 in
theorem mX9_fitting {l : Launch} {D : va_G} {bd : Nat → Nat} {cI : ClassId} {ms : (Nat → Int32)} {msv : (Nat → Int32)} {mb : (Nat → Int32)} {mf : (Nat → Int32)} {mr : (Nat → Int32)} {mt : Int32} {mn : Int32} {ml : Int32} {mat : Int32} {mw : Int32} {mm : Int32} {mh : Int64} {x1 : Int32} {x2 : Int32} {r : Int32} (hs : fX9_fitting ms x1 x2 = some r) : nd_C l yX9_fitting cX9_fitting 4 (some .int) 3 65 D [(cI, .int)] [.ref (bd 0), .int x1, .int x2] (MW bd cI ms msv mb mf mr mt mn ml mat mw mm mh) (MW bd cI ms msv mb mf mr mt mn ml mat mw mm mh) (some (.int r)) := by
  refine nd_ofCi (by decide) (Nat.le_of_ble_eq_true rfl) (fun p e s m args below meth c_ ls A Q hx hb hml hown hts hl hP hK hD hS hA hN hret => ?_)
  have hown : s.vm.findClass RX9 = some m.cls := hown
  have hl : lv_has ls 4 [(0, .ref (bd 0)), (1, .int x1), (2, .int x2)] := hl
  have hret : ∀ (z0 : Int32) {H : Heap} {locs : List Loc} {pc : Nat} {ls : Array Slot}, some z0 = some r → va_P D vwCl (MW bd cI ms msv mb mf mr mt mn ml mat mw mm mh) H → va_S A s.heap H locs → decode cX9_fitting pc = .ok (.ireturn, 1) → W p l e ⟨3, 0, 0, 65⟩ s m args below meth c_ H locs 0 0 Q (F0 m pc ls [.int z0]) := by
    intro z0 H locs pc ls h hP hS hd
    cases h
    exact hret hP hS hd
  rw [fX9_fitting] at hs
  refine lv_aload_n hx hb dX9_fitting_0 rfl (lv_at hl 0 rfl) ?_
  refine lv_iload_n hx hb dX9_fitting_1 rfl (lv_at hl 1 rfl) ?_
  refine lv_iconst (v := (1 : Int32)) hx hb dX9_fitting_2 (by decide) ?_
  obtain ⟨q1, eq1, hs⟩ := ob hs
  refine nd_callV (As := [.int x1, .int (1 : Int32)]) (rest := []) (st1 := [.int q1]) hx hb hml hown hts hl hP hK hD hS hA hN (mX9_of eq1) iv_X9_of wd_307 0 rfl rfl rfl rfl ⟨Nat.le_of_ble_eq_true rfl, Nat.le_of_ble_eq_true rfl⟩ (Nat.le_of_ble_eq_true rfl) ⟨Nat.zero_le _, Nat.zero_le _⟩ dX9_fitting_3 rfl rfl (fun H locs hP hD hS => ?_)
  refine lv_aload_n hx hb dX9_fitting_6 rfl (lv_at hl 0 rfl) ?_
  refine lv_iload_n hx hb dX9_fitting_7 rfl (lv_at hl 2 rfl) ?_
  refine lv_iconst (v := (0 : Int32)) hx hb dX9_fitting_8 (by decide) ?_
  obtain ⟨q2, eq2, hs⟩ := ob hs
  refine nd_callV (As := [.int x2, .int (0 : Int32)]) (rest := [.int q1]) (st1 := [.int q2, .int q1]) hx hb hml hown hts hl hP hK hD hS hA hN (mX9_of eq2) iv_X9_of wd_307 0 rfl rfl rfl rfl ⟨Nat.le_of_ble_eq_true rfl, Nat.le_of_ble_eq_true rfl⟩ (Nat.le_of_ble_eq_true rfl) ⟨Nat.zero_le _, Nat.zero_le _⟩ dX9_fitting_9 rfl rfl (fun H locs hP hD hS => ?_)
  refine lv_iadd hx hb dX9_fitting_12 ?_
  refine lv_bipush (v := (99 : Int32)) hx hb dX9_fitting_13 (by decide) ?_
  refine lv_icmp_eq (tgt := 20) hx hb dX9_fitting_15 (by decide) (fun b3 => ?_) (fun b3 => ?_)
  · have hs := ite_t hs b3
    refine lv_aload_n hx hb dX9_fitting_20 rfl (lv_at hl 0 rfl) ?_
    refine lv_iload_n hx hb dX9_fitting_21 rfl (lv_at hl 1 rfl) ?_
    obtain ⟨q4, eq4, hs⟩ := ob hs
    refine nd_callV (As := [.int x1]) (rest := []) (st1 := [.int q4]) hx hb hml hown hts hl hP hK hD hS hA hN (mX9_lowerOf eq4) iv_X9_lowerOf wd_303 0 rfl rfl rfl rfl ⟨Nat.le_of_ble_eq_true rfl, Nat.le_of_ble_eq_true rfl⟩ (Nat.le_of_ble_eq_true rfl) ⟨Nat.zero_le _, Nat.zero_le _⟩ dX9_fitting_22 rfl rfl (fun H locs hP hD hS => ?_)
    refine lv_iconst (v := (-1 : Int32)) hx hb dX9_fitting_25 (by decide) ?_
    refine lv_icmp_ne (tgt := 38) hx hb dX9_fitting_26 (by decide) (fun b5 => ?_) (fun b5 => ?_)
    · have hs := ite_f hs b5
      refine lv_aload_n hx hb dX9_fitting_38 rfl (lv_at hl 0 rfl) ?_
      refine lv_iload_n hx hb dX9_fitting_39 rfl (lv_at hl 1 rfl) ?_
      obtain ⟨q6, eq6, hs⟩ := ob hs
      refine nd_callV (As := [.int x1]) (rest := []) (st1 := [.int q6]) hx hb hml hown hts hl hP hK hD hS hA hN (mX9_lowerOf eq6) iv_X9_lowerOf wd_303 0 rfl rfl rfl rfl ⟨Nat.le_of_ble_eq_true rfl, Nat.le_of_ble_eq_true rfl⟩ (Nat.le_of_ble_eq_true rfl) ⟨Nat.zero_le _, Nat.zero_le _⟩ dX9_fitting_40 rfl rfl (fun H locs hP hD hS => ?_)
      refine lv_iconst (v := (-1 : Int32)) hx hb dX9_fitting_43 (by decide) ?_
      refine lv_icmp_eq (tgt := 51) hx hb dX9_fitting_44 (by decide) (fun b7 => ?_) (fun b7 => ?_)
      · have hs := ite_t hs b7
        refine lv_iconst (v := (3 : Int32)) hx hb dX9_fitting_51 (by decide) ?_
        exact hret _ hs hP hS dX9_fitting_52
      · have hs := ite_f hs b7
        refine lv_iconst (v := (2 : Int32)) hx hb dX9_fitting_47 (by decide) ?_
        refine lv_goto (tgt := 52) hx hb dX9_fitting_48 (by decide) ?_
        exact hret _ hs hP hS dX9_fitting_52
    · have hs := ite_t hs b5
      refine lv_aload_n hx hb dX9_fitting_29 rfl (lv_at hl 0 rfl) ?_
      refine lv_iload_n hx hb dX9_fitting_30 rfl (lv_at hl 2 rfl) ?_
      obtain ⟨q8, eq8, hs⟩ := ob hs
      refine nd_callV (As := [.int x2]) (rest := []) (st1 := [.int q8]) hx hb hml hown hts hl hP hK hD hS hA hN (mX9_upperOf eq8) iv_X9_upperOf wd_326 0 rfl rfl rfl rfl ⟨Nat.le_of_ble_eq_true rfl, Nat.le_of_ble_eq_true rfl⟩ (Nat.le_of_ble_eq_true rfl) ⟨Nat.zero_le _, Nat.zero_le _⟩ dX9_fitting_31 rfl rfl (fun H locs hP hD hS => ?_)
      refine lv_iconst (v := (-1 : Int32)) hx hb dX9_fitting_34 (by decide) ?_
      refine lv_icmp_eq (tgt := 53) hx hb dX9_fitting_35 (by decide) (fun b9 => ?_) (fun b9 => ?_)
      · have hs := ite_t hs b9
        refine lv_aload_n hx hb dX9_fitting_53 rfl (lv_at hl 0 rfl) ?_
        refine lv_iload_n hx hb dX9_fitting_54 rfl (lv_at hl 1 rfl) ?_
        obtain ⟨q10, eq10, hs⟩ := ob hs
        refine nd_callV (As := [.int x1]) (rest := []) (st1 := [.int q10]) hx hb hml hown hts hl hP hK hD hS hA hN (mX9_firstOf eq10) iv_X9_firstOf wd_407 0 rfl rfl rfl rfl ⟨Nat.le_of_ble_eq_true rfl, Nat.le_of_ble_eq_true rfl⟩ (Nat.le_of_ble_eq_true rfl) ⟨Nat.zero_le _, Nat.zero_le _⟩ dX9_fitting_55 rfl rfl (fun H locs hP hD hS => ?_)
        refine lv_aload_n hx hb dX9_fitting_58 rfl (lv_at hl 0 rfl) ?_
        refine lv_iload_n hx hb dX9_fitting_59 rfl (lv_at hl 2 rfl) ?_
        obtain ⟨q11, eq11, hs⟩ := ob hs
        refine nd_callV (As := [.int x2]) (rest := [.int q10]) (st1 := [.int q11, .int q10]) hx hb hml hown hts hl hP hK hD hS hA hN (mX9_firstOf eq11) iv_X9_firstOf wd_407 0 rfl rfl rfl rfl ⟨Nat.le_of_ble_eq_true rfl, Nat.le_of_ble_eq_true rfl⟩ (Nat.le_of_ble_eq_true rfl) ⟨Nat.zero_le _, Nat.zero_le _⟩ dX9_fitting_60 rfl rfl (fun H locs hP hD hS => ?_)
        refine lv_icmp_ne (tgt := 68) hx hb dX9_fitting_63 (by decide) (fun b12 => ?_) (fun b12 => ?_)
        · have hs := ite_f hs b12
          refine lv_aload_n hx hb dX9_fitting_68 rfl (lv_at hl 0 rfl) ?_
          refine lv_iload_n hx hb dX9_fitting_69 rfl (lv_at hl 2 rfl) ?_
          obtain ⟨q13, eq13, hs⟩ := ob hs
          refine nd_callV (As := [.int x2]) (rest := []) (st1 := [.int q13]) hx hb hml hown hts hl hP hK hD hS hA hN (mX9_firstTime eq13) iv_X9_firstTime wd_311 0 rfl rfl rfl rfl ⟨Nat.le_of_ble_eq_true rfl, Nat.le_of_ble_eq_true rfl⟩ (Nat.le_of_ble_eq_true rfl) ⟨Nat.zero_le _, Nat.zero_le _⟩ dX9_fitting_70 rfl rfl (fun H locs hP hD hS => ?_)
          refine lv_istore_n (lv' := [(3, .int q13), (0, .ref (bd 0)), (1, .int x1), (2, .int x2)]) hx hb dX9_fitting_73 rfl hl (by decide) rfl (fun ls hl => ?_)
          refine lv_iload_n hx hb dX9_fitting_74 rfl (lv_at hl 0 rfl) ?_
          refine lv_iconst (v := (-1 : Int32)) hx hb dX9_fitting_75 (by decide) ?_
          refine lv_icmp_eq (tgt := 92) hx hb dX9_fitting_76 (by decide) (fun b14 => ?_) (fun b14 => ?_)
          · have hs := ite_t hs b14
            refine lv_iconst (v := (0 : Int32)) hx hb dX9_fitting_92 (by decide) ?_
            exact hret _ hs hP hS dX9_fitting_93
          · have hs := ite_f hs b14
            refine lv_aload_n hx hb dX9_fitting_79 rfl (lv_at hl 1 rfl) ?_
            refine lv_iload_n hx hb dX9_fitting_80 rfl (lv_at hl 2 rfl) ?_
            obtain ⟨q15, eq15, hs⟩ := ob hs
            refine nd_callV (As := [.int x1]) (rest := []) (st1 := [.int q15]) hx hb hml hown hts hl hP hK hD hS hA hN (mX9_lastTime eq15) iv_X9_lastTime wd_322 0 rfl rfl rfl rfl ⟨Nat.le_of_ble_eq_true rfl, Nat.le_of_ble_eq_true rfl⟩ (Nat.le_of_ble_eq_true rfl) ⟨Nat.zero_le _, Nat.zero_le _⟩ dX9_fitting_81 rfl rfl (fun H locs hP hD hS => ?_)
            refine lv_iload_n hx hb dX9_fitting_84 rfl (lv_at hl 0 rfl) ?_
            refine lv_icmp_le (tgt := 92) hx hb dX9_fitting_85 (by decide) (fun b16 => ?_) (fun b16 => ?_)
            · have hs := ite_t hs b16
              refine lv_iconst (v := (0 : Int32)) hx hb dX9_fitting_92 (by decide) ?_
              exact hret _ hs hP hS dX9_fitting_93
            · have hs := ite_f hs b16
              refine lv_iconst (v := (5 : Int32)) hx hb dX9_fitting_88 (by decide) ?_
              refine lv_goto (tgt := 93) hx hb dX9_fitting_89 (by decide) ?_
              exact hret _ hs hP hS dX9_fitting_93
        · have hs := ite_t hs b12
          refine lv_iconst (v := (4 : Int32)) hx hb dX9_fitting_66 (by decide) ?_
          exact hret _ hs hP hS dX9_fitting_67
      · have hs := ite_f hs b9
        refine lv_aload_n hx hb dX9_fitting_38 rfl (lv_at hl 0 rfl) ?_
        refine lv_iload_n hx hb dX9_fitting_39 rfl (lv_at hl 1 rfl) ?_
        obtain ⟨q17, eq17, hs⟩ := ob hs
        refine nd_callV (As := [.int x1]) (rest := []) (st1 := [.int q17]) hx hb hml hown hts hl hP hK hD hS hA hN (mX9_lowerOf eq17) iv_X9_lowerOf wd_303 0 rfl rfl rfl rfl ⟨Nat.le_of_ble_eq_true rfl, Nat.le_of_ble_eq_true rfl⟩ (Nat.le_of_ble_eq_true rfl) ⟨Nat.zero_le _, Nat.zero_le _⟩ dX9_fitting_40 rfl rfl (fun H locs hP hD hS => ?_)
        refine lv_iconst (v := (-1 : Int32)) hx hb dX9_fitting_43 (by decide) ?_
        refine lv_icmp_eq (tgt := 51) hx hb dX9_fitting_44 (by decide) (fun b18 => ?_) (fun b18 => ?_)
        · have hs := ite_t hs b18
          refine lv_iconst (v := (3 : Int32)) hx hb dX9_fitting_51 (by decide) ?_
          exact hret _ hs hP hS dX9_fitting_52
        · have hs := ite_f hs b18
          refine lv_iconst (v := (2 : Int32)) hx hb dX9_fitting_47 (by decide) ?_
          refine lv_goto (tgt := 52) hx hb dX9_fitting_48 (by decide) ?_
          exact hret _ hs hP hS dX9_fitting_52
  · have hs := ite_f hs b3
    refine lv_iconst (v := (1 : Int32)) hx hb dX9_fitting_18 (by decide) ?_
    exact hret _ hs hP hS dX9_fitting_19
def tX9_canBelow_0 : List (Nat × Instr × Nat) := [(0, .iconst 0, 1), (1, .istore_n 2, 1), (2, .iconst 0, 1), (3, .istore_n 3, 1), (4, .iload_n 3, 1), (5, .aload_n 0, 1), (6, .getfield 7, 3), (9, .iconst 0, 1), (10, .iaload, 1), (11, .if_icmp .ge 28, 3), (14, .iload_n 2, 1), (15, .aload_n 0, 1), (16, .iload_n 1, 1), (17, .iload_n 3, 1), (18, .invokevirtual 72, 3), (21, .ifCond .ne 9, 3), (24, .iconst 1, 1), (25, .iload_n 3, 1), (26, .ishl, 1), (27, .goto 4, 3), (30, .iconst 0, 1), (31, .ior, 1), (32, .istore_n 2, 1), (33, .iinc 3 1, 3), (36, .goto (-32), 3), (39, .iload_n 2, 1), (40, .ireturn, 1)]
theorem tX9_canBelow_0_ok : tX9_canBelow_0.all (fun q => decide (decode cX9_canBelow q.1 = .ok q.2)) = true := by decide +kernel
theorem dX9_canBelow_0 : decode cX9_canBelow 0 = .ok (.iconst 0, 1) := td tX9_canBelow_0_ok 0 (q := (0, .iconst 0, 1)) rfl
theorem dX9_canBelow_1 : decode cX9_canBelow 1 = .ok (.istore_n 2, 1) := td tX9_canBelow_0_ok 1 (q := (1, .istore_n 2, 1)) rfl
theorem dX9_canBelow_2 : decode cX9_canBelow 2 = .ok (.iconst 0, 1) := td tX9_canBelow_0_ok 2 (q := (2, .iconst 0, 1)) rfl
theorem dX9_canBelow_3 : decode cX9_canBelow 3 = .ok (.istore_n 3, 1) := td tX9_canBelow_0_ok 3 (q := (3, .istore_n 3, 1)) rfl
theorem dX9_canBelow_4 : decode cX9_canBelow 4 = .ok (.iload_n 3, 1) := td tX9_canBelow_0_ok 4 (q := (4, .iload_n 3, 1)) rfl
theorem dX9_canBelow_5 : decode cX9_canBelow 5 = .ok (.aload_n 0, 1) := td tX9_canBelow_0_ok 5 (q := (5, .aload_n 0, 1)) rfl
theorem dX9_canBelow_6 : decode cX9_canBelow 6 = .ok (.getfield 7, 3) := td tX9_canBelow_0_ok 6 (q := (6, .getfield 7, 3)) rfl
theorem dX9_canBelow_9 : decode cX9_canBelow 9 = .ok (.iconst 0, 1) := td tX9_canBelow_0_ok 7 (q := (9, .iconst 0, 1)) rfl
theorem dX9_canBelow_10 : decode cX9_canBelow 10 = .ok (.iaload, 1) := td tX9_canBelow_0_ok 8 (q := (10, .iaload, 1)) rfl
theorem dX9_canBelow_11 : decode cX9_canBelow 11 = .ok (.if_icmp .ge 28, 3) := td tX9_canBelow_0_ok 9 (q := (11, .if_icmp .ge 28, 3)) rfl
theorem dX9_canBelow_14 : decode cX9_canBelow 14 = .ok (.iload_n 2, 1) := td tX9_canBelow_0_ok 10 (q := (14, .iload_n 2, 1)) rfl
theorem dX9_canBelow_15 : decode cX9_canBelow 15 = .ok (.aload_n 0, 1) := td tX9_canBelow_0_ok 11 (q := (15, .aload_n 0, 1)) rfl
theorem dX9_canBelow_16 : decode cX9_canBelow 16 = .ok (.iload_n 1, 1) := td tX9_canBelow_0_ok 12 (q := (16, .iload_n 1, 1)) rfl
theorem dX9_canBelow_17 : decode cX9_canBelow 17 = .ok (.iload_n 3, 1) := td tX9_canBelow_0_ok 13 (q := (17, .iload_n 3, 1)) rfl
theorem dX9_canBelow_18 : decode cX9_canBelow 18 = .ok (.invokevirtual 72, 3) := td tX9_canBelow_0_ok 14 (q := (18, .invokevirtual 72, 3)) rfl
theorem dX9_canBelow_21 : decode cX9_canBelow 21 = .ok (.ifCond .ne 9, 3) := td tX9_canBelow_0_ok 15 (q := (21, .ifCond .ne 9, 3)) rfl
theorem dX9_canBelow_24 : decode cX9_canBelow 24 = .ok (.iconst 1, 1) := td tX9_canBelow_0_ok 16 (q := (24, .iconst 1, 1)) rfl
theorem dX9_canBelow_25 : decode cX9_canBelow 25 = .ok (.iload_n 3, 1) := td tX9_canBelow_0_ok 17 (q := (25, .iload_n 3, 1)) rfl
theorem dX9_canBelow_26 : decode cX9_canBelow 26 = .ok (.ishl, 1) := td tX9_canBelow_0_ok 18 (q := (26, .ishl, 1)) rfl
theorem dX9_canBelow_27 : decode cX9_canBelow 27 = .ok (.goto 4, 3) := td tX9_canBelow_0_ok 19 (q := (27, .goto 4, 3)) rfl
theorem dX9_canBelow_30 : decode cX9_canBelow 30 = .ok (.iconst 0, 1) := td tX9_canBelow_0_ok 20 (q := (30, .iconst 0, 1)) rfl
theorem dX9_canBelow_31 : decode cX9_canBelow 31 = .ok (.ior, 1) := td tX9_canBelow_0_ok 21 (q := (31, .ior, 1)) rfl
theorem dX9_canBelow_32 : decode cX9_canBelow 32 = .ok (.istore_n 2, 1) := td tX9_canBelow_0_ok 22 (q := (32, .istore_n 2, 1)) rfl
theorem dX9_canBelow_33 : decode cX9_canBelow 33 = .ok (.iinc 3 1, 3) := td tX9_canBelow_0_ok 23 (q := (33, .iinc 3 1, 3)) rfl
theorem dX9_canBelow_36 : decode cX9_canBelow 36 = .ok (.goto (-32), 3) := td tX9_canBelow_0_ok 24 (q := (36, .goto (-32), 3)) rfl
theorem dX9_canBelow_39 : decode cX9_canBelow 39 = .ok (.iload_n 2, 1) := td tX9_canBelow_0_ok 25 (q := (39, .iload_n 2, 1)) rfl
theorem dX9_canBelow_40 : decode cX9_canBelow 40 = .ok (.ireturn, 1) := td tX9_canBelow_0_ok 26 (q := (40, .ireturn, 1)) rfl
def fX9_canBelow_4 (k4 : Int32 → Option (Int32)) (ms : (Nat → Int32)) (x1 : Int32) : Nat → Int32 → Int32 → Option (Int32)
  | 0, _, _ => none
  | n4 + 1, x2, x3 => (Option.bind (aget ms 531 (0 : Int32)) (fun t1 => (if t1 ≤ x3 then (k4 x2) else (Option.bind (fX9_fitting ms x1 x3) (fun q3 => (if q3 = 0 then (fX9_canBelow_4 k4 ms x1 n4 (x2 ||| ((1 : Int32) <<< (x3 &&& 31))) (x3 + (1 : Int32))) else (fX9_canBelow_4 k4 ms x1 n4 (x2 ||| (0 : Int32)) (x3 + (1 : Int32)))))))))
def fX9_canBelow (ms : (Nat → Int32)) (x1 : Int32) : Option (Int32) :=
  (fX9_canBelow_4 (fun (u2_5 : Int32) => (some u2_5)) ms x1 LF (0 : Int32) (0 : Int32))
set_option maxHeartbeats 4000000 in
set_option maxRecDepth 100000 in
theorem mX9_canBelow {l : Launch} {D : va_G} {bd : Nat → Nat} {cI : ClassId} {ms : (Nat → Int32)} {msv : (Nat → Int32)} {mb : (Nat → Int32)} {mf : (Nat → Int32)} {mr : (Nat → Int32)} {mt : Int32} {mn : Int32} {ml : Int32} {mat : Int32} {mw : Int32} {mm : Int32} {mh : Int64} {x1 : Int32} {r : Int32} (hs : fX9_canBelow ms x1 = some r) : nd_C l yX9_canBelow cX9_canBelow 4 (some .int) 4 88 D [(cI, .int)] [.ref (bd 0), .int x1] (MW bd cI ms msv mb mf mr mt mn ml mat mw mm mh) (MW bd cI ms msv mb mf mr mt mn ml mat mw mm mh) (some (.int r)) := by
  refine nd_ofCi (by decide) (Nat.le_of_ble_eq_true rfl) (fun p e s m args below meth c_ ls A Q hx hb hml hown hts hl hP hK hD hS hA hN hret => ?_)
  have hown : s.vm.findClass RX9 = some m.cls := hown
  have hl : lv_has ls 4 [(0, .ref (bd 0)), (1, .int x1)] := hl
  have hret : ∀ (z0 : Int32) {H : Heap} {locs : List Loc} {pc : Nat} {ls : Array Slot}, some z0 = some r → va_P D vwCl (MW bd cI ms msv mb mf mr mt mn ml mat mw mm mh) H → va_S A s.heap H locs → decode cX9_canBelow pc = .ok (.ireturn, 1) → W p l e ⟨4, 0, 0, 88⟩ s m args below meth c_ H locs 0 0 Q (F0 m pc ls [.int z0]) := by
    intro z0 H locs pc ls h hP hS hd
    cases h
    exact hret hP hS hd
  rw [fX9_canBelow] at hs
  refine lv_iconst (v := (0 : Int32)) hx hb dX9_canBelow_0 (by decide) ?_
  refine lv_istore_n (lv' := [(2, .int (0 : Int32)), (0, .ref (bd 0)), (1, .int x1)]) hx hb dX9_canBelow_1 rfl hl (by decide) rfl (fun ls hl => ?_)
  refine lv_iconst (v := (0 : Int32)) hx hb dX9_canBelow_2 (by decide) ?_
  refine lv_istore_n (lv' := [(3, .int (0 : Int32)), (2, .int (0 : Int32)), (0, .ref (bd 0)), (1, .int x1)]) hx hb dX9_canBelow_3 rfl hl (by decide) rfl (fun ls hl => ?_)
  have L4 : ∀ (n4 : Nat) (k4 : Int32 → Option (Int32)) (v2_5 : Int32) (v3_5 : Int32) (H : Heap) (locs : List Loc) (ls : Array Slot), lv_has ls 4 [(0, .ref (bd 0)), (1, .int x1), (2, .int v2_5), (3, .int v3_5)] → va_P D vwCl (MW bd cI ms msv mb mf mr mt mn ml mat mw mm mh) H → va_S A s.heap H locs → fX9_canBelow_4 k4 ms x1 n4 v2_5 v3_5 = some r → (∀ (u2_5 : Int32) (H : Heap) (locs : List Loc) (ls : Array Slot), lv_has ls 4 [(2, .int u2_5)] → va_P D vwCl (MW bd cI ms msv mb mf mr mt mn ml mat mw mm mh) H → va_S A s.heap H locs → k4 u2_5 = some r → W p l e ⟨4, 0, 0, 88⟩ s m args below meth c_ H locs 0 0 Q (F0 m 39 ls [])) → W p l e ⟨4, 0, 0, 88⟩ s m args below meth c_ H locs 0 0 Q (F0 m 4 ls []) := by
    intro n4
    induction n4 with
    | zero =>
      intro k4 v2_5 v3_5 H locs ls hl hP hS hs hk4
      rw [fX9_canBelow_4] at hs
      cases hs
    | succ n4 ih4 =>
      intro k4 v2_5 v3_5 H locs ls hl hP hS hs hk4
      rw [fX9_canBelow_4] at hs
      refine lv_iload_n hx hb dX9_canBelow_4 rfl (lv_at hl 3 rfl) ?_
      refine lv_aload_n hx hb dX9_canBelow_5 rfl (lv_at hl 0 rfl) ?_
      refine gf_X9_7 hx hb hts hown hK hP 0 rfl rfl dX9_canBelow_6 ?_
      refine lv_iconst (v := (0 : Int32)) hx hb dX9_canBelow_9 (by decide) ?_
      obtain ⟨t6, et6, hs⟩ := ob hs
      refine nd_iald hx hb hK hP 1 0 rfl rfl et6 dX9_canBelow_10 ?_
      refine lv_icmp_ge (tgt := 39) hx hb dX9_canBelow_11 (by decide) (fun b7 => ?_) (fun b7 => ?_)
      · have hs := ite_t hs b7
        exact hk4 v2_5 _ _ _ (lv_sub hl [2] rfl) hP hS hs
      · have hs := ite_f hs b7
        refine lv_iload_n hx hb dX9_canBelow_14 rfl (lv_at hl 2 rfl) ?_
        refine lv_aload_n hx hb dX9_canBelow_15 rfl (lv_at hl 0 rfl) ?_
        refine lv_iload_n hx hb dX9_canBelow_16 rfl (lv_at hl 1 rfl) ?_
        refine lv_iload_n hx hb dX9_canBelow_17 rfl (lv_at hl 3 rfl) ?_
        obtain ⟨q8, eq8, hs⟩ := ob hs
        refine nd_callV (As := [.int x1, .int v3_5]) (rest := [.int v2_5]) (st1 := [.int q8, .int v2_5]) hx hb hml hown hts hl hP hK hD hS hA hN (mX9_fitting eq8) iv_X9_fitting wd_403 0 rfl rfl rfl rfl ⟨Nat.le_of_ble_eq_true rfl, Nat.le_of_ble_eq_true rfl⟩ (Nat.le_of_ble_eq_true rfl) ⟨Nat.zero_le _, Nat.zero_le _⟩ dX9_canBelow_18 rfl rfl (fun H locs hP hD hS => ?_)
        refine lv_if_ne (tgt := 30) hx hb dX9_canBelow_21 (by decide) (fun b9 => ?_) (fun b9 => ?_)
        · have hs := ite_f hs b9
          refine lv_iconst (v := (0 : Int32)) hx hb dX9_canBelow_30 (by decide) ?_
          refine lv_ior hx hb dX9_canBelow_31 ?_
          refine lv_istore_n (lv' := [(2, .int (v2_5 ||| (0 : Int32))), (0, .ref (bd 0)), (1, .int x1), (3, .int v3_5)]) hx hb dX9_canBelow_32 rfl hl (by decide) rfl (fun ls hl => ?_)
          refine lv_iinc (v := v3_5 + (1 : Int32)) (lv' := [(3, .int (v3_5 + (1 : Int32))), (2, .int (v2_5 ||| (0 : Int32))), (0, .ref (bd 0)), (1, .int x1)]) hx hb dX9_canBelow_33 hl (k := 3) rfl rfl (by decide) rfl (fun ls hl => ?_)
          refine lv_goto (tgt := 4) hx hb dX9_canBelow_36 (by decide) ?_
          exact ih4 k4 (v2_5 ||| (0 : Int32)) (v3_5 + (1 : Int32)) _ _ _ (lv_sub hl [2, 3, 1, 0] rfl) hP hS hs hk4
        · have hs := ite_t hs b9
          refine lv_iconst (v := (1 : Int32)) hx hb dX9_canBelow_24 (by decide) ?_
          refine lv_iload_n hx hb dX9_canBelow_25 rfl (lv_at hl 3 rfl) ?_
          refine lv_ishl hx hb dX9_canBelow_26 ?_
          refine lv_goto (tgt := 31) hx hb dX9_canBelow_27 (by decide) ?_
          refine lv_ior hx hb dX9_canBelow_31 ?_
          refine lv_istore_n (lv' := [(2, .int (v2_5 ||| ((1 : Int32) <<< (v3_5 &&& 31)))), (0, .ref (bd 0)), (1, .int x1), (3, .int v3_5)]) hx hb dX9_canBelow_32 rfl hl (by decide) rfl (fun ls hl => ?_)
          refine lv_iinc (v := v3_5 + (1 : Int32)) (lv' := [(3, .int (v3_5 + (1 : Int32))), (2, .int (v2_5 ||| ((1 : Int32) <<< (v3_5 &&& 31)))), (0, .ref (bd 0)), (1, .int x1)]) hx hb dX9_canBelow_33 hl (k := 3) rfl rfl (by decide) rfl (fun ls hl => ?_)
          refine lv_goto (tgt := 4) hx hb dX9_canBelow_36 (by decide) ?_
          exact ih4 k4 (v2_5 ||| ((1 : Int32) <<< (v3_5 &&& 31))) (v3_5 + (1 : Int32)) _ _ _ (lv_sub hl [2, 3, 1, 0] rfl) hP hS hs hk4
  refine L4 LF _ (0 : Int32) (0 : Int32) _ _ _ (lv_sub hl [2, 3, 1, 0] rfl) hP hS hs (fun u2_5 H locs ls hl hP hS hs => ?_)
  refine lv_iload_n hx hb dX9_canBelow_39 rfl (lv_at hl 0 rfl) ?_
  exact hret _ hs hP hS dX9_canBelow_40
def tX9_canAbove_0 : List (Nat × Instr × Nat) := [(0, .iconst 0, 1), (1, .istore_n 2, 1), (2, .iconst 0, 1), (3, .istore_n 3, 1), (4, .iload_n 3, 1), (5, .aload_n 0, 1), (6, .getfield 7, 3), (9, .iconst 0, 1), (10, .iaload, 1), (11, .if_icmp .ge 28, 3), (14, .iload_n 2, 1), (15, .aload_n 0, 1), (16, .iload_n 3, 1), (17, .iload_n 1, 1), (18, .invokevirtual 72, 3), (21, .ifCond .ne 9, 3), (24, .iconst 1, 1), (25, .iload_n 3, 1), (26, .ishl, 1), (27, .goto 4, 3), (30, .iconst 0, 1), (31, .ior, 1), (32, .istore_n 2, 1), (33, .iinc 3 1, 3), (36, .goto (-32), 3), (39, .iload_n 2, 1), (40, .ireturn, 1)]
theorem tX9_canAbove_0_ok : tX9_canAbove_0.all (fun q => decide (decode cX9_canAbove q.1 = .ok q.2)) = true := by decide +kernel
theorem dX9_canAbove_0 : decode cX9_canAbove 0 = .ok (.iconst 0, 1) := td tX9_canAbove_0_ok 0 (q := (0, .iconst 0, 1)) rfl
theorem dX9_canAbove_1 : decode cX9_canAbove 1 = .ok (.istore_n 2, 1) := td tX9_canAbove_0_ok 1 (q := (1, .istore_n 2, 1)) rfl
theorem dX9_canAbove_2 : decode cX9_canAbove 2 = .ok (.iconst 0, 1) := td tX9_canAbove_0_ok 2 (q := (2, .iconst 0, 1)) rfl
theorem dX9_canAbove_3 : decode cX9_canAbove 3 = .ok (.istore_n 3, 1) := td tX9_canAbove_0_ok 3 (q := (3, .istore_n 3, 1)) rfl
theorem dX9_canAbove_4 : decode cX9_canAbove 4 = .ok (.iload_n 3, 1) := td tX9_canAbove_0_ok 4 (q := (4, .iload_n 3, 1)) rfl
theorem dX9_canAbove_5 : decode cX9_canAbove 5 = .ok (.aload_n 0, 1) := td tX9_canAbove_0_ok 5 (q := (5, .aload_n 0, 1)) rfl
theorem dX9_canAbove_6 : decode cX9_canAbove 6 = .ok (.getfield 7, 3) := td tX9_canAbove_0_ok 6 (q := (6, .getfield 7, 3)) rfl
theorem dX9_canAbove_9 : decode cX9_canAbove 9 = .ok (.iconst 0, 1) := td tX9_canAbove_0_ok 7 (q := (9, .iconst 0, 1)) rfl
theorem dX9_canAbove_10 : decode cX9_canAbove 10 = .ok (.iaload, 1) := td tX9_canAbove_0_ok 8 (q := (10, .iaload, 1)) rfl
theorem dX9_canAbove_11 : decode cX9_canAbove 11 = .ok (.if_icmp .ge 28, 3) := td tX9_canAbove_0_ok 9 (q := (11, .if_icmp .ge 28, 3)) rfl
theorem dX9_canAbove_14 : decode cX9_canAbove 14 = .ok (.iload_n 2, 1) := td tX9_canAbove_0_ok 10 (q := (14, .iload_n 2, 1)) rfl
theorem dX9_canAbove_15 : decode cX9_canAbove 15 = .ok (.aload_n 0, 1) := td tX9_canAbove_0_ok 11 (q := (15, .aload_n 0, 1)) rfl
theorem dX9_canAbove_16 : decode cX9_canAbove 16 = .ok (.iload_n 3, 1) := td tX9_canAbove_0_ok 12 (q := (16, .iload_n 3, 1)) rfl
theorem dX9_canAbove_17 : decode cX9_canAbove 17 = .ok (.iload_n 1, 1) := td tX9_canAbove_0_ok 13 (q := (17, .iload_n 1, 1)) rfl
theorem dX9_canAbove_18 : decode cX9_canAbove 18 = .ok (.invokevirtual 72, 3) := td tX9_canAbove_0_ok 14 (q := (18, .invokevirtual 72, 3)) rfl
theorem dX9_canAbove_21 : decode cX9_canAbove 21 = .ok (.ifCond .ne 9, 3) := td tX9_canAbove_0_ok 15 (q := (21, .ifCond .ne 9, 3)) rfl
theorem dX9_canAbove_24 : decode cX9_canAbove 24 = .ok (.iconst 1, 1) := td tX9_canAbove_0_ok 16 (q := (24, .iconst 1, 1)) rfl
theorem dX9_canAbove_25 : decode cX9_canAbove 25 = .ok (.iload_n 3, 1) := td tX9_canAbove_0_ok 17 (q := (25, .iload_n 3, 1)) rfl
theorem dX9_canAbove_26 : decode cX9_canAbove 26 = .ok (.ishl, 1) := td tX9_canAbove_0_ok 18 (q := (26, .ishl, 1)) rfl
theorem dX9_canAbove_27 : decode cX9_canAbove 27 = .ok (.goto 4, 3) := td tX9_canAbove_0_ok 19 (q := (27, .goto 4, 3)) rfl
theorem dX9_canAbove_30 : decode cX9_canAbove 30 = .ok (.iconst 0, 1) := td tX9_canAbove_0_ok 20 (q := (30, .iconst 0, 1)) rfl
theorem dX9_canAbove_31 : decode cX9_canAbove 31 = .ok (.ior, 1) := td tX9_canAbove_0_ok 21 (q := (31, .ior, 1)) rfl
theorem dX9_canAbove_32 : decode cX9_canAbove 32 = .ok (.istore_n 2, 1) := td tX9_canAbove_0_ok 22 (q := (32, .istore_n 2, 1)) rfl
theorem dX9_canAbove_33 : decode cX9_canAbove 33 = .ok (.iinc 3 1, 3) := td tX9_canAbove_0_ok 23 (q := (33, .iinc 3 1, 3)) rfl
theorem dX9_canAbove_36 : decode cX9_canAbove 36 = .ok (.goto (-32), 3) := td tX9_canAbove_0_ok 24 (q := (36, .goto (-32), 3)) rfl
theorem dX9_canAbove_39 : decode cX9_canAbove 39 = .ok (.iload_n 2, 1) := td tX9_canAbove_0_ok 25 (q := (39, .iload_n 2, 1)) rfl
theorem dX9_canAbove_40 : decode cX9_canAbove 40 = .ok (.ireturn, 1) := td tX9_canAbove_0_ok 26 (q := (40, .ireturn, 1)) rfl
def fX9_canAbove_4 (k4 : Int32 → Option (Int32)) (ms : (Nat → Int32)) (x1 : Int32) : Nat → Int32 → Int32 → Option (Int32)
  | 0, _, _ => none
  | n4 + 1, x2, x3 => (Option.bind (aget ms 531 (0 : Int32)) (fun t1 => (if t1 ≤ x3 then (k4 x2) else (Option.bind (fX9_fitting ms x3 x1) (fun q3 => (if q3 = 0 then (fX9_canAbove_4 k4 ms x1 n4 (x2 ||| ((1 : Int32) <<< (x3 &&& 31))) (x3 + (1 : Int32))) else (fX9_canAbove_4 k4 ms x1 n4 (x2 ||| (0 : Int32)) (x3 + (1 : Int32)))))))))
def fX9_canAbove (ms : (Nat → Int32)) (x1 : Int32) : Option (Int32) :=
  (fX9_canAbove_4 (fun (u2_5 : Int32) => (some u2_5)) ms x1 LF (0 : Int32) (0 : Int32))
set_option maxHeartbeats 4000000 in
set_option maxRecDepth 100000 in
theorem mX9_canAbove {l : Launch} {D : va_G} {bd : Nat → Nat} {cI : ClassId} {ms : (Nat → Int32)} {msv : (Nat → Int32)} {mb : (Nat → Int32)} {mf : (Nat → Int32)} {mr : (Nat → Int32)} {mt : Int32} {mn : Int32} {ml : Int32} {mat : Int32} {mw : Int32} {mm : Int32} {mh : Int64} {x1 : Int32} {r : Int32} (hs : fX9_canAbove ms x1 = some r) : nd_C l yX9_canAbove cX9_canAbove 4 (some .int) 4 88 D [(cI, .int)] [.ref (bd 0), .int x1] (MW bd cI ms msv mb mf mr mt mn ml mat mw mm mh) (MW bd cI ms msv mb mf mr mt mn ml mat mw mm mh) (some (.int r)) := by
  refine nd_ofCi (by decide) (Nat.le_of_ble_eq_true rfl) (fun p e s m args below meth c_ ls A Q hx hb hml hown hts hl hP hK hD hS hA hN hret => ?_)
  have hown : s.vm.findClass RX9 = some m.cls := hown
  have hl : lv_has ls 4 [(0, .ref (bd 0)), (1, .int x1)] := hl
  have hret : ∀ (z0 : Int32) {H : Heap} {locs : List Loc} {pc : Nat} {ls : Array Slot}, some z0 = some r → va_P D vwCl (MW bd cI ms msv mb mf mr mt mn ml mat mw mm mh) H → va_S A s.heap H locs → decode cX9_canAbove pc = .ok (.ireturn, 1) → W p l e ⟨4, 0, 0, 88⟩ s m args below meth c_ H locs 0 0 Q (F0 m pc ls [.int z0]) := by
    intro z0 H locs pc ls h hP hS hd
    cases h
    exact hret hP hS hd
  rw [fX9_canAbove] at hs
  refine lv_iconst (v := (0 : Int32)) hx hb dX9_canAbove_0 (by decide) ?_
  refine lv_istore_n (lv' := [(2, .int (0 : Int32)), (0, .ref (bd 0)), (1, .int x1)]) hx hb dX9_canAbove_1 rfl hl (by decide) rfl (fun ls hl => ?_)
  refine lv_iconst (v := (0 : Int32)) hx hb dX9_canAbove_2 (by decide) ?_
  refine lv_istore_n (lv' := [(3, .int (0 : Int32)), (2, .int (0 : Int32)), (0, .ref (bd 0)), (1, .int x1)]) hx hb dX9_canAbove_3 rfl hl (by decide) rfl (fun ls hl => ?_)
  have L4 : ∀ (n4 : Nat) (k4 : Int32 → Option (Int32)) (v2_5 : Int32) (v3_5 : Int32) (H : Heap) (locs : List Loc) (ls : Array Slot), lv_has ls 4 [(0, .ref (bd 0)), (1, .int x1), (2, .int v2_5), (3, .int v3_5)] → va_P D vwCl (MW bd cI ms msv mb mf mr mt mn ml mat mw mm mh) H → va_S A s.heap H locs → fX9_canAbove_4 k4 ms x1 n4 v2_5 v3_5 = some r → (∀ (u2_5 : Int32) (H : Heap) (locs : List Loc) (ls : Array Slot), lv_has ls 4 [(2, .int u2_5)] → va_P D vwCl (MW bd cI ms msv mb mf mr mt mn ml mat mw mm mh) H → va_S A s.heap H locs → k4 u2_5 = some r → W p l e ⟨4, 0, 0, 88⟩ s m args below meth c_ H locs 0 0 Q (F0 m 39 ls [])) → W p l e ⟨4, 0, 0, 88⟩ s m args below meth c_ H locs 0 0 Q (F0 m 4 ls []) := by
    intro n4
    induction n4 with
    | zero =>
      intro k4 v2_5 v3_5 H locs ls hl hP hS hs hk4
      rw [fX9_canAbove_4] at hs
      cases hs
    | succ n4 ih4 =>
      intro k4 v2_5 v3_5 H locs ls hl hP hS hs hk4
      rw [fX9_canAbove_4] at hs
      refine lv_iload_n hx hb dX9_canAbove_4 rfl (lv_at hl 3 rfl) ?_
      refine lv_aload_n hx hb dX9_canAbove_5 rfl (lv_at hl 0 rfl) ?_
      refine gf_X9_7 hx hb hts hown hK hP 0 rfl rfl dX9_canAbove_6 ?_
      refine lv_iconst (v := (0 : Int32)) hx hb dX9_canAbove_9 (by decide) ?_
      obtain ⟨t6, et6, hs⟩ := ob hs
      refine nd_iald hx hb hK hP 1 0 rfl rfl et6 dX9_canAbove_10 ?_
      refine lv_icmp_ge (tgt := 39) hx hb dX9_canAbove_11 (by decide) (fun b7 => ?_) (fun b7 => ?_)
      · have hs := ite_t hs b7
        exact hk4 v2_5 _ _ _ (lv_sub hl [2] rfl) hP hS hs
      · have hs := ite_f hs b7
        refine lv_iload_n hx hb dX9_canAbove_14 rfl (lv_at hl 2 rfl) ?_
        refine lv_aload_n hx hb dX9_canAbove_15 rfl (lv_at hl 0 rfl) ?_
        refine lv_iload_n hx hb dX9_canAbove_16 rfl (lv_at hl 3 rfl) ?_
        refine lv_iload_n hx hb dX9_canAbove_17 rfl (lv_at hl 1 rfl) ?_
        obtain ⟨q8, eq8, hs⟩ := ob hs
        refine nd_callV (As := [.int v3_5, .int x1]) (rest := [.int v2_5]) (st1 := [.int q8, .int v2_5]) hx hb hml hown hts hl hP hK hD hS hA hN (mX9_fitting eq8) iv_X9_fitting wd_403 0 rfl rfl rfl rfl ⟨Nat.le_of_ble_eq_true rfl, Nat.le_of_ble_eq_true rfl⟩ (Nat.le_of_ble_eq_true rfl) ⟨Nat.zero_le _, Nat.zero_le _⟩ dX9_canAbove_18 rfl rfl (fun H locs hP hD hS => ?_)
        refine lv_if_ne (tgt := 30) hx hb dX9_canAbove_21 (by decide) (fun b9 => ?_) (fun b9 => ?_)
        · have hs := ite_f hs b9
          refine lv_iconst (v := (0 : Int32)) hx hb dX9_canAbove_30 (by decide) ?_
          refine lv_ior hx hb dX9_canAbove_31 ?_
          refine lv_istore_n (lv' := [(2, .int (v2_5 ||| (0 : Int32))), (0, .ref (bd 0)), (1, .int x1), (3, .int v3_5)]) hx hb dX9_canAbove_32 rfl hl (by decide) rfl (fun ls hl => ?_)
          refine lv_iinc (v := v3_5 + (1 : Int32)) (lv' := [(3, .int (v3_5 + (1 : Int32))), (2, .int (v2_5 ||| (0 : Int32))), (0, .ref (bd 0)), (1, .int x1)]) hx hb dX9_canAbove_33 hl (k := 3) rfl rfl (by decide) rfl (fun ls hl => ?_)
          refine lv_goto (tgt := 4) hx hb dX9_canAbove_36 (by decide) ?_
          exact ih4 k4 (v2_5 ||| (0 : Int32)) (v3_5 + (1 : Int32)) _ _ _ (lv_sub hl [2, 3, 1, 0] rfl) hP hS hs hk4
        · have hs := ite_t hs b9
          refine lv_iconst (v := (1 : Int32)) hx hb dX9_canAbove_24 (by decide) ?_
          refine lv_iload_n hx hb dX9_canAbove_25 rfl (lv_at hl 3 rfl) ?_
          refine lv_ishl hx hb dX9_canAbove_26 ?_
          refine lv_goto (tgt := 31) hx hb dX9_canAbove_27 (by decide) ?_
          refine lv_ior hx hb dX9_canAbove_31 ?_
          refine lv_istore_n (lv' := [(2, .int (v2_5 ||| ((1 : Int32) <<< (v3_5 &&& 31)))), (0, .ref (bd 0)), (1, .int x1), (3, .int v3_5)]) hx hb dX9_canAbove_32 rfl hl (by decide) rfl (fun ls hl => ?_)
          refine lv_iinc (v := v3_5 + (1 : Int32)) (lv' := [(3, .int (v3_5 + (1 : Int32))), (2, .int (v2_5 ||| ((1 : Int32) <<< (v3_5 &&& 31)))), (0, .ref (bd 0)), (1, .int x1)]) hx hb dX9_canAbove_33 hl (k := 3) rfl rfl (by decide) rfl (fun ls hl => ?_)
          refine lv_goto (tgt := 4) hx hb dX9_canAbove_36 (by decide) ?_
          exact ih4 k4 (v2_5 ||| ((1 : Int32) <<< (v3_5 &&& 31))) (v3_5 + (1 : Int32)) _ _ _ (lv_sub hl [2, 3, 1, 0] rfl) hP hS hs hk4
  refine L4 LF _ (0 : Int32) (0 : Int32) _ _ _ (lv_sub hl [2, 3, 1, 0] rfl) hP hS hs (fun u2_5 H locs ls hl hP hS hs => ?_)
  refine lv_iload_n hx hb dX9_canAbove_39 rfl (lv_at hl 0 rfl) ?_
  exact hret _ hs hP hS dX9_canAbove_40
def tX9_ones_0 : List (Nat × Instr × Nat) := [(0, .iconst 0, 1), (1, .istore_n 1, 1), (2, .iconst 0, 1), (3, .istore_n 2, 1), (4, .iload_n 2, 1), (5, .bipush 10, 2), (7, .if_icmp .ge 17, 3), (10, .iload_n 1, 1), (11, .iload_n 0, 1), (12, .iload_n 2, 1), (13, .ishr, 1), (14, .iconst 1, 1), (15, .iand, 1), (16, .iadd, 1), (17, .istore_n 1, 1), (18, .iinc 2 1, 3), (21, .goto (-17), 3), (24, .iload_n 1, 1), (25, .ireturn, 1)]
theorem tX9_ones_0_ok : tX9_ones_0.all (fun q => decide (decode cX9_ones q.1 = .ok q.2)) = true := by decide +kernel
theorem dX9_ones_0 : decode cX9_ones 0 = .ok (.iconst 0, 1) := td tX9_ones_0_ok 0 (q := (0, .iconst 0, 1)) rfl
theorem dX9_ones_1 : decode cX9_ones 1 = .ok (.istore_n 1, 1) := td tX9_ones_0_ok 1 (q := (1, .istore_n 1, 1)) rfl
theorem dX9_ones_2 : decode cX9_ones 2 = .ok (.iconst 0, 1) := td tX9_ones_0_ok 2 (q := (2, .iconst 0, 1)) rfl
theorem dX9_ones_3 : decode cX9_ones 3 = .ok (.istore_n 2, 1) := td tX9_ones_0_ok 3 (q := (3, .istore_n 2, 1)) rfl
theorem dX9_ones_4 : decode cX9_ones 4 = .ok (.iload_n 2, 1) := td tX9_ones_0_ok 4 (q := (4, .iload_n 2, 1)) rfl
theorem dX9_ones_5 : decode cX9_ones 5 = .ok (.bipush 10, 2) := td tX9_ones_0_ok 5 (q := (5, .bipush 10, 2)) rfl
theorem dX9_ones_7 : decode cX9_ones 7 = .ok (.if_icmp .ge 17, 3) := td tX9_ones_0_ok 6 (q := (7, .if_icmp .ge 17, 3)) rfl
theorem dX9_ones_10 : decode cX9_ones 10 = .ok (.iload_n 1, 1) := td tX9_ones_0_ok 7 (q := (10, .iload_n 1, 1)) rfl
theorem dX9_ones_11 : decode cX9_ones 11 = .ok (.iload_n 0, 1) := td tX9_ones_0_ok 8 (q := (11, .iload_n 0, 1)) rfl
theorem dX9_ones_12 : decode cX9_ones 12 = .ok (.iload_n 2, 1) := td tX9_ones_0_ok 9 (q := (12, .iload_n 2, 1)) rfl
theorem dX9_ones_13 : decode cX9_ones 13 = .ok (.ishr, 1) := td tX9_ones_0_ok 10 (q := (13, .ishr, 1)) rfl
theorem dX9_ones_14 : decode cX9_ones 14 = .ok (.iconst 1, 1) := td tX9_ones_0_ok 11 (q := (14, .iconst 1, 1)) rfl
theorem dX9_ones_15 : decode cX9_ones 15 = .ok (.iand, 1) := td tX9_ones_0_ok 12 (q := (15, .iand, 1)) rfl
theorem dX9_ones_16 : decode cX9_ones 16 = .ok (.iadd, 1) := td tX9_ones_0_ok 13 (q := (16, .iadd, 1)) rfl
theorem dX9_ones_17 : decode cX9_ones 17 = .ok (.istore_n 1, 1) := td tX9_ones_0_ok 14 (q := (17, .istore_n 1, 1)) rfl
theorem dX9_ones_18 : decode cX9_ones 18 = .ok (.iinc 2 1, 3) := td tX9_ones_0_ok 15 (q := (18, .iinc 2 1, 3)) rfl
theorem dX9_ones_21 : decode cX9_ones 21 = .ok (.goto (-17), 3) := td tX9_ones_0_ok 16 (q := (21, .goto (-17), 3)) rfl
theorem dX9_ones_24 : decode cX9_ones 24 = .ok (.iload_n 1, 1) := td tX9_ones_0_ok 17 (q := (24, .iload_n 1, 1)) rfl
theorem dX9_ones_25 : decode cX9_ones 25 = .ok (.ireturn, 1) := td tX9_ones_0_ok 18 (q := (25, .ireturn, 1)) rfl
def fX9_ones_4 (k4 : Int32 → Option (Int32)) (x0 : Int32) : Nat → Int32 → Int32 → Option (Int32)
  | 0, _, _ => none
  | n4 + 1, x1, x2 => (if (10 : Int32) ≤ x2 then (k4 x1) else (fX9_ones_4 k4 x0 n4 (x1 + ((x0 >>> (x2 &&& 31)) &&& (1 : Int32))) (x2 + (1 : Int32))))
def fX9_ones (x0 : Int32) : Option (Int32) :=
  (fX9_ones_4 (fun (u1_2 : Int32) => (some u1_2)) x0 LF (0 : Int32) (0 : Int32))
set_option maxHeartbeats 4000000 in
set_option maxRecDepth 100000 in
theorem mX9_ones {l : Launch} {D : va_G} {W0 : va_W} {tys : nd_T} {x0 : Int32} {r : Int32} (hs : fX9_ones x0 = some r) : nd_C l yX9_ones cX9_ones 3 (some .int) 0 0 D tys [.int x0] W0 W0 (some (.int r)) := by
  refine nd_ofCi (by decide) (Nat.le_of_ble_eq_true rfl) (fun p e s m args below meth c_ ls A Q hx hb hml hown hts hl hP hK hD hS hA hN hret => ?_)
  have hown : s.vm.findClass RX9 = some m.cls := hown
  have hl : lv_has ls 3 [(0, .int x0)] := hl
  have hret : ∀ (z0 : Int32) {H : Heap} {locs : List Loc} {pc : Nat} {ls : Array Slot}, some z0 = some r → va_P D vwCl W0 H → va_S A s.heap H locs → decode cX9_ones pc = .ok (.ireturn, 1) → W p l e ⟨0, 0, 0, 0⟩ s m args below meth c_ H locs 0 0 Q (F0 m pc ls [.int z0]) := by
    intro z0 H locs pc ls h hP hS hd
    cases h
    exact hret hP hS hd
  rw [fX9_ones] at hs
  refine lv_iconst (v := (0 : Int32)) hx hb dX9_ones_0 (by decide) ?_
  refine lv_istore_n (lv' := [(1, .int (0 : Int32)), (0, .int x0)]) hx hb dX9_ones_1 rfl hl (by decide) rfl (fun ls hl => ?_)
  refine lv_iconst (v := (0 : Int32)) hx hb dX9_ones_2 (by decide) ?_
  refine lv_istore_n (lv' := [(2, .int (0 : Int32)), (1, .int (0 : Int32)), (0, .int x0)]) hx hb dX9_ones_3 rfl hl (by decide) rfl (fun ls hl => ?_)
  have L4 : ∀ (n4 : Nat) (k4 : Int32 → Option (Int32)) (v1_2 : Int32) (v2_2 : Int32) (H : Heap) (locs : List Loc) (ls : Array Slot), lv_has ls 3 [(0, .int x0), (1, .int v1_2), (2, .int v2_2)] → va_P D vwCl W0 H → va_S A s.heap H locs → fX9_ones_4 k4 x0 n4 v1_2 v2_2 = some r → (∀ (u1_2 : Int32) (H : Heap) (locs : List Loc) (ls : Array Slot), lv_has ls 3 [(1, .int u1_2)] → va_P D vwCl W0 H → va_S A s.heap H locs → k4 u1_2 = some r → W p l e ⟨0, 0, 0, 0⟩ s m args below meth c_ H locs 0 0 Q (F0 m 24 ls [])) → W p l e ⟨0, 0, 0, 0⟩ s m args below meth c_ H locs 0 0 Q (F0 m 4 ls []) := by
    intro n4
    induction n4 with
    | zero =>
      intro k4 v1_2 v2_2 H locs ls hl hP hS hs hk4
      rw [fX9_ones_4] at hs
      cases hs
    | succ n4 ih4 =>
      intro k4 v1_2 v2_2 H locs ls hl hP hS hs hk4
      rw [fX9_ones_4] at hs
      refine lv_iload_n hx hb dX9_ones_4 rfl (lv_at hl 2 rfl) ?_
      refine lv_bipush (v := (10 : Int32)) hx hb dX9_ones_5 (by decide) ?_
      refine lv_icmp_ge (tgt := 24) hx hb dX9_ones_7 (by decide) (fun b3 => ?_) (fun b3 => ?_)
      · have hs := ite_t hs b3
        exact hk4 v1_2 _ _ _ (lv_sub hl [1] rfl) hP hS hs
      · have hs := ite_f hs b3
        refine lv_iload_n hx hb dX9_ones_10 rfl (lv_at hl 1 rfl) ?_
        refine lv_iload_n hx hb dX9_ones_11 rfl (lv_at hl 0 rfl) ?_
        refine lv_iload_n hx hb dX9_ones_12 rfl (lv_at hl 2 rfl) ?_
        refine lv_ishr hx hb dX9_ones_13 ?_
        refine lv_iconst (v := (1 : Int32)) hx hb dX9_ones_14 (by decide) ?_
        refine lv_iand hx hb dX9_ones_15 ?_
        refine lv_iadd hx hb dX9_ones_16 ?_
        refine lv_istore_n (lv' := [(1, .int (v1_2 + ((x0 >>> (v2_2 &&& 31)) &&& (1 : Int32)))), (0, .int x0), (2, .int v2_2)]) hx hb dX9_ones_17 rfl hl (by decide) rfl (fun ls hl => ?_)
        refine lv_iinc (v := v2_2 + (1 : Int32)) (lv' := [(2, .int (v2_2 + (1 : Int32))), (1, .int (v1_2 + ((x0 >>> (v2_2 &&& 31)) &&& (1 : Int32)))), (0, .int x0)]) hx hb dX9_ones_18 hl (k := 2) rfl rfl (by decide) rfl (fun ls hl => ?_)
        refine lv_goto (tgt := 4) hx hb dX9_ones_21 (by decide) ?_
        exact ih4 k4 (v1_2 + ((x0 >>> (v2_2 &&& 31)) &&& (1 : Int32))) (v2_2 + (1 : Int32)) _ _ _ (lv_sub hl [2, 1, 0] rfl) hP hS hs hk4
  refine L4 LF _ (0 : Int32) (0 : Int32) _ _ _ (lv_sub hl [2, 1, 0] rfl) hP hS hs (fun u1_2 H locs ls hl hP hS hs => ?_)
  refine lv_iload_n hx hb dX9_ones_24 rfl (lv_at hl 0 rfl) ?_
  exact hret _ hs hP hS dX9_ones_25
def tX9_lowest_0 : List (Nat × Instr × Nat) := [(0, .iconst 0, 1), (1, .istore_n 1, 1), (2, .iload_n 0, 1), (3, .iload_n 1, 1), (4, .ishr, 1), (5, .iconst 1, 1), (6, .iand, 1), (7, .ifCond .ne 9, 3), (10, .iinc 1 1, 3), (13, .goto (-11), 3), (16, .iload_n 1, 1), (17, .ireturn, 1)]
theorem tX9_lowest_0_ok : tX9_lowest_0.all (fun q => decide (decode cX9_lowest q.1 = .ok q.2)) = true := by decide +kernel
theorem dX9_lowest_0 : decode cX9_lowest 0 = .ok (.iconst 0, 1) := td tX9_lowest_0_ok 0 (q := (0, .iconst 0, 1)) rfl
theorem dX9_lowest_1 : decode cX9_lowest 1 = .ok (.istore_n 1, 1) := td tX9_lowest_0_ok 1 (q := (1, .istore_n 1, 1)) rfl
theorem dX9_lowest_2 : decode cX9_lowest 2 = .ok (.iload_n 0, 1) := td tX9_lowest_0_ok 2 (q := (2, .iload_n 0, 1)) rfl
theorem dX9_lowest_3 : decode cX9_lowest 3 = .ok (.iload_n 1, 1) := td tX9_lowest_0_ok 3 (q := (3, .iload_n 1, 1)) rfl
theorem dX9_lowest_4 : decode cX9_lowest 4 = .ok (.ishr, 1) := td tX9_lowest_0_ok 4 (q := (4, .ishr, 1)) rfl
theorem dX9_lowest_5 : decode cX9_lowest 5 = .ok (.iconst 1, 1) := td tX9_lowest_0_ok 5 (q := (5, .iconst 1, 1)) rfl
theorem dX9_lowest_6 : decode cX9_lowest 6 = .ok (.iand, 1) := td tX9_lowest_0_ok 6 (q := (6, .iand, 1)) rfl
theorem dX9_lowest_7 : decode cX9_lowest 7 = .ok (.ifCond .ne 9, 3) := td tX9_lowest_0_ok 7 (q := (7, .ifCond .ne 9, 3)) rfl
theorem dX9_lowest_10 : decode cX9_lowest 10 = .ok (.iinc 1 1, 3) := td tX9_lowest_0_ok 8 (q := (10, .iinc 1 1, 3)) rfl
theorem dX9_lowest_13 : decode cX9_lowest 13 = .ok (.goto (-11), 3) := td tX9_lowest_0_ok 9 (q := (13, .goto (-11), 3)) rfl
theorem dX9_lowest_16 : decode cX9_lowest 16 = .ok (.iload_n 1, 1) := td tX9_lowest_0_ok 10 (q := (16, .iload_n 1, 1)) rfl
theorem dX9_lowest_17 : decode cX9_lowest 17 = .ok (.ireturn, 1) := td tX9_lowest_0_ok 11 (q := (17, .ireturn, 1)) rfl
def fX9_lowest_2 (k2 : Int32 → Option (Int32)) (x0 : Int32) : Nat → Int32 → Option (Int32)
  | 0, _ => none
  | n2 + 1, x1 => (if ((x0 >>> (x1 &&& 31)) &&& (1 : Int32)) = 0 then (fX9_lowest_2 k2 x0 n2 (x1 + (1 : Int32))) else (k2 x1))
def fX9_lowest (x0 : Int32) : Option (Int32) :=
  (fX9_lowest_2 (fun (u1_2 : Int32) => (some u1_2)) x0 LF (0 : Int32))
set_option maxHeartbeats 4000000 in
set_option maxRecDepth 100000 in
theorem mX9_lowest {l : Launch} {D : va_G} {W0 : va_W} {tys : nd_T} {x0 : Int32} {r : Int32} (hs : fX9_lowest x0 = some r) : nd_C l yX9_lowest cX9_lowest 2 (some .int) 0 0 D tys [.int x0] W0 W0 (some (.int r)) := by
  refine nd_ofCi (by decide) (Nat.le_of_ble_eq_true rfl) (fun p e s m args below meth c_ ls A Q hx hb hml hown hts hl hP hK hD hS hA hN hret => ?_)
  have hown : s.vm.findClass RX9 = some m.cls := hown
  have hl : lv_has ls 2 [(0, .int x0)] := hl
  have hret : ∀ (z0 : Int32) {H : Heap} {locs : List Loc} {pc : Nat} {ls : Array Slot}, some z0 = some r → va_P D vwCl W0 H → va_S A s.heap H locs → decode cX9_lowest pc = .ok (.ireturn, 1) → W p l e ⟨0, 0, 0, 0⟩ s m args below meth c_ H locs 0 0 Q (F0 m pc ls [.int z0]) := by
    intro z0 H locs pc ls h hP hS hd
    cases h
    exact hret hP hS hd
  rw [fX9_lowest] at hs
  refine lv_iconst (v := (0 : Int32)) hx hb dX9_lowest_0 (by decide) ?_
  refine lv_istore_n (lv' := [(1, .int (0 : Int32)), (0, .int x0)]) hx hb dX9_lowest_1 rfl hl (by decide) rfl (fun ls hl => ?_)
  have L2 : ∀ (n2 : Nat) (k2 : Int32 → Option (Int32)) (v1_2 : Int32) (H : Heap) (locs : List Loc) (ls : Array Slot), lv_has ls 2 [(0, .int x0), (1, .int v1_2)] → va_P D vwCl W0 H → va_S A s.heap H locs → fX9_lowest_2 k2 x0 n2 v1_2 = some r → (∀ (u1_2 : Int32) (H : Heap) (locs : List Loc) (ls : Array Slot), lv_has ls 2 [(1, .int u1_2)] → va_P D vwCl W0 H → va_S A s.heap H locs → k2 u1_2 = some r → W p l e ⟨0, 0, 0, 0⟩ s m args below meth c_ H locs 0 0 Q (F0 m 16 ls [])) → W p l e ⟨0, 0, 0, 0⟩ s m args below meth c_ H locs 0 0 Q (F0 m 2 ls []) := by
    intro n2
    induction n2 with
    | zero =>
      intro k2 v1_2 H locs ls hl hP hS hs hk2
      rw [fX9_lowest_2] at hs
      cases hs
    | succ n2 ih2 =>
      intro k2 v1_2 H locs ls hl hP hS hs hk2
      rw [fX9_lowest_2] at hs
      refine lv_iload_n hx hb dX9_lowest_2 rfl (lv_at hl 0 rfl) ?_
      refine lv_iload_n hx hb dX9_lowest_3 rfl (lv_at hl 1 rfl) ?_
      refine lv_ishr hx hb dX9_lowest_4 ?_
      refine lv_iconst (v := (1 : Int32)) hx hb dX9_lowest_5 (by decide) ?_
      refine lv_iand hx hb dX9_lowest_6 ?_
      refine lv_if_ne (tgt := 16) hx hb dX9_lowest_7 (by decide) (fun b3 => ?_) (fun b3 => ?_)
      · have hs := ite_f hs b3
        exact hk2 v1_2 _ _ _ (lv_sub hl [1] rfl) hP hS hs
      · have hs := ite_t hs b3
        refine lv_iinc (v := v1_2 + (1 : Int32)) (lv' := [(1, .int (v1_2 + (1 : Int32))), (0, .int x0)]) hx hb dX9_lowest_10 hl (k := 1) rfl rfl (by decide) rfl (fun ls hl => ?_)
        refine lv_goto (tgt := 2) hx hb dX9_lowest_13 (by decide) ?_
        exact ih2 k2 (v1_2 + (1 : Int32)) _ _ _ (lv_sub hl [1, 0] rfl) hP hS hs hk2
  refine L2 LF _ (0 : Int32) _ _ _ (lv_sub hl [1, 0] rfl) hP hS hs (fun u1_2 H locs ls hl hP hS hs => ?_)
  refine lv_iload_n hx hb dX9_lowest_16 rfl (lv_at hl 0 rfl) ?_
  exact hret _ hs hP hS dX9_lowest_17
def tX9_joins_0 : List (Nat × Instr × Nat) := [(0, .aload_n 0, 1), (1, .iload_n 1, 1), (2, .iconst 4, 1), (3, .iload_n 2, 1), (4, .iconst 1, 1), (5, .iadd, 1), (6, .invokevirtual 75, 3), (9, .aload_n 0, 1), (10, .iload_n 2, 1), (11, .iconst 3, 1), (12, .iload_n 1, 1), (13, .iconst 1, 1), (14, .iadd, 1), (15, .invokevirtual 75, 3), (18, .return_, 1)]
theorem tX9_joins_0_ok : tX9_joins_0.all (fun q => decide (decode cX9_joins q.1 = .ok q.2)) = true := by decide +kernel
theorem dX9_joins_0 : decode cX9_joins 0 = .ok (.aload_n 0, 1) := td tX9_joins_0_ok 0 (q := (0, .aload_n 0, 1)) rfl
theorem dX9_joins_1 : decode cX9_joins 1 = .ok (.iload_n 1, 1) := td tX9_joins_0_ok 1 (q := (1, .iload_n 1, 1)) rfl
theorem dX9_joins_2 : decode cX9_joins 2 = .ok (.iconst 4, 1) := td tX9_joins_0_ok 2 (q := (2, .iconst 4, 1)) rfl
theorem dX9_joins_3 : decode cX9_joins 3 = .ok (.iload_n 2, 1) := td tX9_joins_0_ok 3 (q := (3, .iload_n 2, 1)) rfl
theorem dX9_joins_4 : decode cX9_joins 4 = .ok (.iconst 1, 1) := td tX9_joins_0_ok 4 (q := (4, .iconst 1, 1)) rfl
theorem dX9_joins_5 : decode cX9_joins 5 = .ok (.iadd, 1) := td tX9_joins_0_ok 5 (q := (5, .iadd, 1)) rfl
theorem dX9_joins_6 : decode cX9_joins 6 = .ok (.invokevirtual 75, 3) := td tX9_joins_0_ok 6 (q := (6, .invokevirtual 75, 3)) rfl
theorem dX9_joins_9 : decode cX9_joins 9 = .ok (.aload_n 0, 1) := td tX9_joins_0_ok 7 (q := (9, .aload_n 0, 1)) rfl
theorem dX9_joins_10 : decode cX9_joins 10 = .ok (.iload_n 2, 1) := td tX9_joins_0_ok 8 (q := (10, .iload_n 2, 1)) rfl
theorem dX9_joins_11 : decode cX9_joins 11 = .ok (.iconst 3, 1) := td tX9_joins_0_ok 9 (q := (11, .iconst 3, 1)) rfl
theorem dX9_joins_12 : decode cX9_joins 12 = .ok (.iload_n 1, 1) := td tX9_joins_0_ok 10 (q := (12, .iload_n 1, 1)) rfl
theorem dX9_joins_13 : decode cX9_joins 13 = .ok (.iconst 1, 1) := td tX9_joins_0_ok 11 (q := (13, .iconst 1, 1)) rfl
theorem dX9_joins_14 : decode cX9_joins 14 = .ok (.iadd, 1) := td tX9_joins_0_ok 12 (q := (14, .iadd, 1)) rfl
theorem dX9_joins_15 : decode cX9_joins 15 = .ok (.invokevirtual 75, 3) := td tX9_joins_0_ok 13 (q := (15, .invokevirtual 75, 3)) rfl
theorem dX9_joins_18 : decode cX9_joins 18 = .ok (.return_, 1) := td tX9_joins_0_ok 14 (q := (18, .return_, 1)) rfl
def fX9_joins (ms : (Nat → Int32)) (x1 : Int32) (x2 : Int32) : Option ((Nat → Int32)) :=
  (Option.bind (fX9_lay ms x1 (4 : Int32) (x2 + (1 : Int32))) (fun q1 => (Option.bind (fX9_lay q1 x2 (3 : Int32) (x1 + (1 : Int32))) (fun q2 => (some q2)))))
set_option maxHeartbeats 4000000 in
set_option maxRecDepth 100000 in
theorem mX9_joins {l : Launch} {D : va_G} {bd : Nat → Nat} {cI : ClassId} {ms : (Nat → Int32)} {msv : (Nat → Int32)} {mb : (Nat → Int32)} {mf : (Nat → Int32)} {mr : (Nat → Int32)} {mt : Int32} {mn : Int32} {ml : Int32} {mat : Int32} {mw : Int32} {mm : Int32} {mh : Int64} {x1 : Int32} {x2 : Int32} {ms' : (Nat → Int32)} (hs : fX9_joins ms x1 x2 = some ms') : nd_C l yX9_joins cX9_joins 3 none 1 23 D [(cI, .int)] [.ref (bd 0), .int x1, .int x2] (MW bd cI ms msv mb mf mr mt mn ml mat mw mm mh) (MW bd cI ms' msv mb mf mr mt mn ml mat mw mm mh) none := by
  refine nd_ofCv (by decide) (Nat.le_of_ble_eq_true rfl) (fun p e s m args below meth c_ ls A Q hx hb hml hown hts hl hP hK hD hS hA hN hret => ?_)
  have hown : s.vm.findClass RX9 = some m.cls := hown
  have hl : lv_has ls 3 [(0, .ref (bd 0)), (1, .int x1), (2, .int x2)] := hl
  have hret : ∀ (z0 : (Nat → Int32)) {H : Heap} {locs : List Loc} {pc : Nat} {ls : Array Slot}, some z0 = some ms' → va_P D vwCl (MW bd cI z0 msv mb mf mr mt mn ml mat mw mm mh) H → va_S A s.heap H locs → decode cX9_joins pc = .ok (.return_, 1) → W p l e ⟨1, 0, 0, 23⟩ s m args below meth c_ H locs 0 0 Q (F0 m pc ls []) := by
    intro z0 H locs pc ls h hP hS hd
    cases h
    exact hret hP hS hd
  rw [fX9_joins] at hs
  refine lv_aload_n hx hb dX9_joins_0 rfl (lv_at hl 0 rfl) ?_
  refine lv_iload_n hx hb dX9_joins_1 rfl (lv_at hl 1 rfl) ?_
  refine lv_iconst (v := (4 : Int32)) hx hb dX9_joins_2 (by decide) ?_
  refine lv_iload_n hx hb dX9_joins_3 rfl (lv_at hl 2 rfl) ?_
  refine lv_iconst (v := (1 : Int32)) hx hb dX9_joins_4 (by decide) ?_
  refine lv_iadd hx hb dX9_joins_5 ?_
  obtain ⟨q1, eq1, hs⟩ := ob hs
  refine nd_callV (As := [.int x1, .int (4 : Int32), .int (x2 + (1 : Int32))]) (rest := []) (st1 := []) hx hb hml hown hts hl hP hK hD hS hA hN (mX9_lay eq1) iv_X9_lay wd_139 0 rfl rfl rfl rfl ⟨Nat.le_of_ble_eq_true rfl, Nat.le_of_ble_eq_true rfl⟩ (Nat.le_of_ble_eq_true rfl) ⟨Nat.zero_le _, Nat.zero_le _⟩ dX9_joins_6 rfl rfl (fun H locs hP hD hS => ?_)
  refine lv_aload_n hx hb dX9_joins_9 rfl (lv_at hl 0 rfl) ?_
  refine lv_iload_n hx hb dX9_joins_10 rfl (lv_at hl 2 rfl) ?_
  refine lv_iconst (v := (3 : Int32)) hx hb dX9_joins_11 (by decide) ?_
  refine lv_iload_n hx hb dX9_joins_12 rfl (lv_at hl 1 rfl) ?_
  refine lv_iconst (v := (1 : Int32)) hx hb dX9_joins_13 (by decide) ?_
  refine lv_iadd hx hb dX9_joins_14 ?_
  obtain ⟨q2, eq2, hs⟩ := ob hs
  refine nd_callV (As := [.int x2, .int (3 : Int32), .int (x1 + (1 : Int32))]) (rest := []) (st1 := []) hx hb hml hown hts hl hP hK hD hS hA hN (mX9_lay eq2) iv_X9_lay wd_139 0 rfl rfl rfl rfl ⟨Nat.le_of_ble_eq_true rfl, Nat.le_of_ble_eq_true rfl⟩ (Nat.le_of_ble_eq_true rfl) ⟨Nat.zero_le _, Nat.zero_le _⟩ dX9_joins_15 rfl rfl (fun H locs hP hD hS => ?_)
  exact hret _ hs hP hS dX9_joins_18
def tX9_piecesOfRoll_0 : List (Nat × Instr × Nat) := [(0, .iconst 0, 1), (1, .istore_n 2, 1), (2, .aload_n 0, 1), (3, .iload_n 1, 1), (4, .invokevirtual 63, 3), (7, .istore_n 3, 1), (8, .iload_n 3, 1), (9, .iconst (-1), 1), (10, .if_icmp .eq 15, 3), (13, .iinc 2 1, 3), (16, .aload_n 0, 1), (17, .iload_n 3, 1), (18, .invokevirtual 60, 3), (21, .istore_n 3, 1), (22, .goto (-14), 3), (25, .iload_n 2, 1), (26, .ireturn, 1)]
theorem tX9_piecesOfRoll_0_ok : tX9_piecesOfRoll_0.all (fun q => decide (decode cX9_piecesOfRoll q.1 = .ok q.2)) = true := by decide +kernel
theorem dX9_piecesOfRoll_0 : decode cX9_piecesOfRoll 0 = .ok (.iconst 0, 1) := td tX9_piecesOfRoll_0_ok 0 (q := (0, .iconst 0, 1)) rfl
theorem dX9_piecesOfRoll_1 : decode cX9_piecesOfRoll 1 = .ok (.istore_n 2, 1) := td tX9_piecesOfRoll_0_ok 1 (q := (1, .istore_n 2, 1)) rfl
theorem dX9_piecesOfRoll_2 : decode cX9_piecesOfRoll 2 = .ok (.aload_n 0, 1) := td tX9_piecesOfRoll_0_ok 2 (q := (2, .aload_n 0, 1)) rfl
theorem dX9_piecesOfRoll_3 : decode cX9_piecesOfRoll 3 = .ok (.iload_n 1, 1) := td tX9_piecesOfRoll_0_ok 3 (q := (3, .iload_n 1, 1)) rfl
theorem dX9_piecesOfRoll_4 : decode cX9_piecesOfRoll 4 = .ok (.invokevirtual 63, 3) := td tX9_piecesOfRoll_0_ok 4 (q := (4, .invokevirtual 63, 3)) rfl
theorem dX9_piecesOfRoll_7 : decode cX9_piecesOfRoll 7 = .ok (.istore_n 3, 1) := td tX9_piecesOfRoll_0_ok 5 (q := (7, .istore_n 3, 1)) rfl
theorem dX9_piecesOfRoll_8 : decode cX9_piecesOfRoll 8 = .ok (.iload_n 3, 1) := td tX9_piecesOfRoll_0_ok 6 (q := (8, .iload_n 3, 1)) rfl
theorem dX9_piecesOfRoll_9 : decode cX9_piecesOfRoll 9 = .ok (.iconst (-1), 1) := td tX9_piecesOfRoll_0_ok 7 (q := (9, .iconst (-1), 1)) rfl
theorem dX9_piecesOfRoll_10 : decode cX9_piecesOfRoll 10 = .ok (.if_icmp .eq 15, 3) := td tX9_piecesOfRoll_0_ok 8 (q := (10, .if_icmp .eq 15, 3)) rfl
theorem dX9_piecesOfRoll_13 : decode cX9_piecesOfRoll 13 = .ok (.iinc 2 1, 3) := td tX9_piecesOfRoll_0_ok 9 (q := (13, .iinc 2 1, 3)) rfl
theorem dX9_piecesOfRoll_16 : decode cX9_piecesOfRoll 16 = .ok (.aload_n 0, 1) := td tX9_piecesOfRoll_0_ok 10 (q := (16, .aload_n 0, 1)) rfl
theorem dX9_piecesOfRoll_17 : decode cX9_piecesOfRoll 17 = .ok (.iload_n 3, 1) := td tX9_piecesOfRoll_0_ok 11 (q := (17, .iload_n 3, 1)) rfl
theorem dX9_piecesOfRoll_18 : decode cX9_piecesOfRoll 18 = .ok (.invokevirtual 60, 3) := td tX9_piecesOfRoll_0_ok 12 (q := (18, .invokevirtual 60, 3)) rfl
theorem dX9_piecesOfRoll_21 : decode cX9_piecesOfRoll 21 = .ok (.istore_n 3, 1) := td tX9_piecesOfRoll_0_ok 13 (q := (21, .istore_n 3, 1)) rfl
theorem dX9_piecesOfRoll_22 : decode cX9_piecesOfRoll 22 = .ok (.goto (-14), 3) := td tX9_piecesOfRoll_0_ok 14 (q := (22, .goto (-14), 3)) rfl
theorem dX9_piecesOfRoll_25 : decode cX9_piecesOfRoll 25 = .ok (.iload_n 2, 1) := td tX9_piecesOfRoll_0_ok 15 (q := (25, .iload_n 2, 1)) rfl
theorem dX9_piecesOfRoll_26 : decode cX9_piecesOfRoll 26 = .ok (.ireturn, 1) := td tX9_piecesOfRoll_0_ok 16 (q := (26, .ireturn, 1)) rfl
def fX9_piecesOfRoll_8 (k8 : Int32 → Option (Int32)) (ms : (Nat → Int32)) : Nat → Int32 → Int32 → Option (Int32)
  | 0, _, _ => none
  | n8 + 1, x2, x3 => (if x3 = (-1 : Int32) then (k8 x2) else (Option.bind (fX9_lowerOf ms x3) (fun q3 => (fX9_piecesOfRoll_8 k8 ms n8 (x2 + (1 : Int32)) q3))))
def fX9_piecesOfRoll (ms : (Nat → Int32)) (x1 : Int32) : Option (Int32) :=
  (Option.bind (fX9_firstOf ms x1) (fun q1 => (fX9_piecesOfRoll_8 (fun (u2_4 : Int32) => (some u2_4)) ms LF (0 : Int32) q1)))
set_option maxHeartbeats 4000000 in
set_option maxRecDepth 100000 in
theorem mX9_piecesOfRoll {l : Launch} {D : va_G} {bd : Nat → Nat} {cI : ClassId} {ms : (Nat → Int32)} {msv : (Nat → Int32)} {mb : (Nat → Int32)} {mf : (Nat → Int32)} {mr : (Nat → Int32)} {mt : Int32} {mn : Int32} {ml : Int32} {mat : Int32} {mw : Int32} {mm : Int32} {mh : Int64} {x1 : Int32} {r : Int32} (hs : fX9_piecesOfRoll ms x1 = some r) : nd_C l yX9_piecesOfRoll cX9_piecesOfRoll 4 (some .int) 3 65 D [(cI, .int)] [.ref (bd 0), .int x1] (MW bd cI ms msv mb mf mr mt mn ml mat mw mm mh) (MW bd cI ms msv mb mf mr mt mn ml mat mw mm mh) (some (.int r)) := by
  refine nd_ofCi (by decide) (Nat.le_of_ble_eq_true rfl) (fun p e s m args below meth c_ ls A Q hx hb hml hown hts hl hP hK hD hS hA hN hret => ?_)
  have hown : s.vm.findClass RX9 = some m.cls := hown
  have hl : lv_has ls 4 [(0, .ref (bd 0)), (1, .int x1)] := hl
  have hret : ∀ (z0 : Int32) {H : Heap} {locs : List Loc} {pc : Nat} {ls : Array Slot}, some z0 = some r → va_P D vwCl (MW bd cI ms msv mb mf mr mt mn ml mat mw mm mh) H → va_S A s.heap H locs → decode cX9_piecesOfRoll pc = .ok (.ireturn, 1) → W p l e ⟨3, 0, 0, 65⟩ s m args below meth c_ H locs 0 0 Q (F0 m pc ls [.int z0]) := by
    intro z0 H locs pc ls h hP hS hd
    cases h
    exact hret hP hS hd
  rw [fX9_piecesOfRoll] at hs
  refine lv_iconst (v := (0 : Int32)) hx hb dX9_piecesOfRoll_0 (by decide) ?_
  refine lv_istore_n (lv' := [(2, .int (0 : Int32)), (0, .ref (bd 0)), (1, .int x1)]) hx hb dX9_piecesOfRoll_1 rfl hl (by decide) rfl (fun ls hl => ?_)
  refine lv_aload_n hx hb dX9_piecesOfRoll_2 rfl (lv_at hl 1 rfl) ?_
  refine lv_iload_n hx hb dX9_piecesOfRoll_3 rfl (lv_at hl 2 rfl) ?_
  obtain ⟨q1, eq1, hs⟩ := ob hs
  refine nd_callV (As := [.int x1]) (rest := []) (st1 := [.int q1]) hx hb hml hown hts hl hP hK hD hS hA hN (mX9_firstOf eq1) iv_X9_firstOf wd_407 0 rfl rfl rfl rfl ⟨Nat.le_of_ble_eq_true rfl, Nat.le_of_ble_eq_true rfl⟩ (Nat.le_of_ble_eq_true rfl) ⟨Nat.zero_le _, Nat.zero_le _⟩ dX9_piecesOfRoll_4 rfl rfl (fun H locs hP hD hS => ?_)
  refine lv_istore_n (lv' := [(3, .int q1), (2, .int (0 : Int32)), (0, .ref (bd 0)), (1, .int x1)]) hx hb dX9_piecesOfRoll_7 rfl hl (by decide) rfl (fun ls hl => ?_)
  have L8 : ∀ (n8 : Nat) (k8 : Int32 → Option (Int32)) (v2_4 : Int32) (v3_4 : Int32) (H : Heap) (locs : List Loc) (ls : Array Slot), lv_has ls 4 [(0, .ref (bd 0)), (2, .int v2_4), (3, .int v3_4)] → va_P D vwCl (MW bd cI ms msv mb mf mr mt mn ml mat mw mm mh) H → va_S A s.heap H locs → fX9_piecesOfRoll_8 k8 ms n8 v2_4 v3_4 = some r → (∀ (u2_4 : Int32) (H : Heap) (locs : List Loc) (ls : Array Slot), lv_has ls 4 [(2, .int u2_4)] → va_P D vwCl (MW bd cI ms msv mb mf mr mt mn ml mat mw mm mh) H → va_S A s.heap H locs → k8 u2_4 = some r → W p l e ⟨3, 0, 0, 65⟩ s m args below meth c_ H locs 0 0 Q (F0 m 25 ls [])) → W p l e ⟨3, 0, 0, 65⟩ s m args below meth c_ H locs 0 0 Q (F0 m 8 ls []) := by
    intro n8
    induction n8 with
    | zero =>
      intro k8 v2_4 v3_4 H locs ls hl hP hS hs hk8
      rw [fX9_piecesOfRoll_8] at hs
      cases hs
    | succ n8 ih8 =>
      intro k8 v2_4 v3_4 H locs ls hl hP hS hs hk8
      rw [fX9_piecesOfRoll_8] at hs
      refine lv_iload_n hx hb dX9_piecesOfRoll_8 rfl (lv_at hl 2 rfl) ?_
      refine lv_iconst (v := (-1 : Int32)) hx hb dX9_piecesOfRoll_9 (by decide) ?_
      refine lv_icmp_eq (tgt := 25) hx hb dX9_piecesOfRoll_10 (by decide) (fun b5 => ?_) (fun b5 => ?_)
      · have hs := ite_t hs b5
        exact hk8 v2_4 _ _ _ (lv_sub hl [1] rfl) hP hS hs
      · have hs := ite_f hs b5
        refine lv_iinc (v := v2_4 + (1 : Int32)) (lv' := [(2, .int (v2_4 + (1 : Int32))), (0, .ref (bd 0)), (3, .int v3_4)]) hx hb dX9_piecesOfRoll_13 hl (k := 1) rfl rfl (by decide) rfl (fun ls hl => ?_)
        refine lv_aload_n hx hb dX9_piecesOfRoll_16 rfl (lv_at hl 1 rfl) ?_
        refine lv_iload_n hx hb dX9_piecesOfRoll_17 rfl (lv_at hl 2 rfl) ?_
        obtain ⟨q6, eq6, hs⟩ := ob hs
        refine nd_callV (As := [.int v3_4]) (rest := []) (st1 := [.int q6]) hx hb hml hown hts hl hP hK hD hS hA hN (mX9_lowerOf eq6) iv_X9_lowerOf wd_303 0 rfl rfl rfl rfl ⟨Nat.le_of_ble_eq_true rfl, Nat.le_of_ble_eq_true rfl⟩ (Nat.le_of_ble_eq_true rfl) ⟨Nat.zero_le _, Nat.zero_le _⟩ dX9_piecesOfRoll_18 rfl rfl (fun H locs hP hD hS => ?_)
        refine lv_istore_n (lv' := [(3, .int q6), (2, .int (v2_4 + (1 : Int32))), (0, .ref (bd 0))]) hx hb dX9_piecesOfRoll_21 rfl hl (by decide) rfl (fun ls hl => ?_)
        refine lv_goto (tgt := 8) hx hb dX9_piecesOfRoll_22 (by decide) ?_
        exact ih8 k8 (v2_4 + (1 : Int32)) q6 _ _ _ (lv_sub hl [2, 1, 0] rfl) hP hS hs hk8
  refine L8 LF _ (0 : Int32) q1 _ _ _ (lv_sub hl [2, 1, 0] rfl) hP hS hs (fun u2_4 H locs ls hl hP hS hs => ?_)
  refine lv_iload_n hx hb dX9_piecesOfRoll_25 rfl (lv_at hl 0 rfl) ?_
  exact hret _ hs hP hS dX9_piecesOfRoll_26
def tX9_piece_0 : List (Nat × Instr × Nat) := [(0, .aload_n 0, 1), (1, .iconst 0, 1), (2, .putfield 25, 3), (5, .iload_n 1, 1), (6, .iconst 0, 1), (7, .bipush 99, 2), (9, .invokestatic 29, 3), (12, .ifCond .eq 13, 3), (15, .iload_n 2, 1), (16, .iconst 0, 1), (17, .bipush 99, 2), (19, .invokestatic 29, 3), (22, .ifCond .ne 9, 3), (25, .aload_n 0, 1), (26, .iconst 1, 1), (27, .invokevirtual 79, 3), (30, .ireturn, 1), (31, .aload_n 0, 1), (32, .getfield 7, 3), (35, .iconst 0, 1), (36, .iaload, 1), (37, .bipush 10, 2), (39, .if_icmp .ne 9, 3), (42, .aload_n 0, 1), (43, .iconst 2, 1), (44, .invokevirtual 79, 3), (47, .ireturn, 1), (48, .aload_n 0, 1), (49, .invokevirtual 82, 3), (52, .aload_n 0, 1), (53, .aload_n 0, 1), (54, .getfield 7, 3), (57, .iconst 0, 1), (58, .iaload, 1), (59, .iconst 0, 1), (60, .iload_n 1, 1), (61, .invokevirtual 75, 3), (64, .aload_n 0, 1), (65, .aload_n 0, 1), (66, .getfield 7, 3), (69, .iconst 0, 1), (70, .iaload, 1), (71, .iconst 1, 1), (72, .iload_n 2, 1), (73, .invokevirtual 75, 3), (76, .aload_n 0, 1), (77, .getfield 7, 3), (80, .iconst 0, 1), (81, .dup2, 1), (82, .iaload, 1), (83, .iconst 1, 1), (84, .iadd, 1), (85, .iastore, 1), (86, .aload_n 0, 1), (87, .getfield 7, 3), (90, .iconst 0, 1), (91, .iaload, 1), (92, .iconst 1, 1), (93, .isub, 1), (94, .ireturn, 1)]
theorem tX9_piece_0_ok : tX9_piece_0.all (fun q => decide (decode cX9_piece q.1 = .ok q.2)) = true := by decide +kernel
theorem dX9_piece_0 : decode cX9_piece 0 = .ok (.aload_n 0, 1) := td tX9_piece_0_ok 0 (q := (0, .aload_n 0, 1)) rfl
theorem dX9_piece_1 : decode cX9_piece 1 = .ok (.iconst 0, 1) := td tX9_piece_0_ok 1 (q := (1, .iconst 0, 1)) rfl
theorem dX9_piece_2 : decode cX9_piece 2 = .ok (.putfield 25, 3) := td tX9_piece_0_ok 2 (q := (2, .putfield 25, 3)) rfl
theorem dX9_piece_5 : decode cX9_piece 5 = .ok (.iload_n 1, 1) := td tX9_piece_0_ok 3 (q := (5, .iload_n 1, 1)) rfl
theorem dX9_piece_6 : decode cX9_piece 6 = .ok (.iconst 0, 1) := td tX9_piece_0_ok 4 (q := (6, .iconst 0, 1)) rfl
theorem dX9_piece_7 : decode cX9_piece 7 = .ok (.bipush 99, 2) := td tX9_piece_0_ok 5 (q := (7, .bipush 99, 2)) rfl
theorem dX9_piece_9 : decode cX9_piece 9 = .ok (.invokestatic 29, 3) := td tX9_piece_0_ok 6 (q := (9, .invokestatic 29, 3)) rfl
theorem dX9_piece_12 : decode cX9_piece 12 = .ok (.ifCond .eq 13, 3) := td tX9_piece_0_ok 7 (q := (12, .ifCond .eq 13, 3)) rfl
theorem dX9_piece_15 : decode cX9_piece 15 = .ok (.iload_n 2, 1) := td tX9_piece_0_ok 8 (q := (15, .iload_n 2, 1)) rfl
theorem dX9_piece_16 : decode cX9_piece 16 = .ok (.iconst 0, 1) := td tX9_piece_0_ok 9 (q := (16, .iconst 0, 1)) rfl
theorem dX9_piece_17 : decode cX9_piece 17 = .ok (.bipush 99, 2) := td tX9_piece_0_ok 10 (q := (17, .bipush 99, 2)) rfl
theorem dX9_piece_19 : decode cX9_piece 19 = .ok (.invokestatic 29, 3) := td tX9_piece_0_ok 11 (q := (19, .invokestatic 29, 3)) rfl
theorem dX9_piece_22 : decode cX9_piece 22 = .ok (.ifCond .ne 9, 3) := td tX9_piece_0_ok 12 (q := (22, .ifCond .ne 9, 3)) rfl
theorem dX9_piece_25 : decode cX9_piece 25 = .ok (.aload_n 0, 1) := td tX9_piece_0_ok 13 (q := (25, .aload_n 0, 1)) rfl
theorem dX9_piece_26 : decode cX9_piece 26 = .ok (.iconst 1, 1) := td tX9_piece_0_ok 14 (q := (26, .iconst 1, 1)) rfl
theorem dX9_piece_27 : decode cX9_piece 27 = .ok (.invokevirtual 79, 3) := td tX9_piece_0_ok 15 (q := (27, .invokevirtual 79, 3)) rfl
theorem dX9_piece_30 : decode cX9_piece 30 = .ok (.ireturn, 1) := td tX9_piece_0_ok 16 (q := (30, .ireturn, 1)) rfl
theorem dX9_piece_31 : decode cX9_piece 31 = .ok (.aload_n 0, 1) := td tX9_piece_0_ok 17 (q := (31, .aload_n 0, 1)) rfl
theorem dX9_piece_32 : decode cX9_piece 32 = .ok (.getfield 7, 3) := td tX9_piece_0_ok 18 (q := (32, .getfield 7, 3)) rfl
theorem dX9_piece_35 : decode cX9_piece 35 = .ok (.iconst 0, 1) := td tX9_piece_0_ok 19 (q := (35, .iconst 0, 1)) rfl
theorem dX9_piece_36 : decode cX9_piece 36 = .ok (.iaload, 1) := td tX9_piece_0_ok 20 (q := (36, .iaload, 1)) rfl
theorem dX9_piece_37 : decode cX9_piece 37 = .ok (.bipush 10, 2) := td tX9_piece_0_ok 21 (q := (37, .bipush 10, 2)) rfl
theorem dX9_piece_39 : decode cX9_piece 39 = .ok (.if_icmp .ne 9, 3) := td tX9_piece_0_ok 22 (q := (39, .if_icmp .ne 9, 3)) rfl
theorem dX9_piece_42 : decode cX9_piece 42 = .ok (.aload_n 0, 1) := td tX9_piece_0_ok 23 (q := (42, .aload_n 0, 1)) rfl
theorem dX9_piece_43 : decode cX9_piece 43 = .ok (.iconst 2, 1) := td tX9_piece_0_ok 24 (q := (43, .iconst 2, 1)) rfl
theorem dX9_piece_44 : decode cX9_piece 44 = .ok (.invokevirtual 79, 3) := td tX9_piece_0_ok 25 (q := (44, .invokevirtual 79, 3)) rfl
theorem dX9_piece_47 : decode cX9_piece 47 = .ok (.ireturn, 1) := td tX9_piece_0_ok 26 (q := (47, .ireturn, 1)) rfl
theorem dX9_piece_48 : decode cX9_piece 48 = .ok (.aload_n 0, 1) := td tX9_piece_0_ok 27 (q := (48, .aload_n 0, 1)) rfl
theorem dX9_piece_49 : decode cX9_piece 49 = .ok (.invokevirtual 82, 3) := td tX9_piece_0_ok 28 (q := (49, .invokevirtual 82, 3)) rfl
theorem dX9_piece_52 : decode cX9_piece 52 = .ok (.aload_n 0, 1) := td tX9_piece_0_ok 29 (q := (52, .aload_n 0, 1)) rfl
theorem dX9_piece_53 : decode cX9_piece 53 = .ok (.aload_n 0, 1) := td tX9_piece_0_ok 30 (q := (53, .aload_n 0, 1)) rfl
theorem dX9_piece_54 : decode cX9_piece 54 = .ok (.getfield 7, 3) := td tX9_piece_0_ok 31 (q := (54, .getfield 7, 3)) rfl
theorem dX9_piece_57 : decode cX9_piece 57 = .ok (.iconst 0, 1) := td tX9_piece_0_ok 32 (q := (57, .iconst 0, 1)) rfl
theorem dX9_piece_58 : decode cX9_piece 58 = .ok (.iaload, 1) := td tX9_piece_0_ok 33 (q := (58, .iaload, 1)) rfl
theorem dX9_piece_59 : decode cX9_piece 59 = .ok (.iconst 0, 1) := td tX9_piece_0_ok 34 (q := (59, .iconst 0, 1)) rfl
theorem dX9_piece_60 : decode cX9_piece 60 = .ok (.iload_n 1, 1) := td tX9_piece_0_ok 35 (q := (60, .iload_n 1, 1)) rfl
theorem dX9_piece_61 : decode cX9_piece 61 = .ok (.invokevirtual 75, 3) := td tX9_piece_0_ok 36 (q := (61, .invokevirtual 75, 3)) rfl
theorem dX9_piece_64 : decode cX9_piece 64 = .ok (.aload_n 0, 1) := td tX9_piece_0_ok 37 (q := (64, .aload_n 0, 1)) rfl
theorem dX9_piece_65 : decode cX9_piece 65 = .ok (.aload_n 0, 1) := td tX9_piece_0_ok 38 (q := (65, .aload_n 0, 1)) rfl
theorem dX9_piece_66 : decode cX9_piece 66 = .ok (.getfield 7, 3) := td tX9_piece_0_ok 39 (q := (66, .getfield 7, 3)) rfl
theorem dX9_piece_69 : decode cX9_piece 69 = .ok (.iconst 0, 1) := td tX9_piece_0_ok 40 (q := (69, .iconst 0, 1)) rfl
theorem dX9_piece_70 : decode cX9_piece 70 = .ok (.iaload, 1) := td tX9_piece_0_ok 41 (q := (70, .iaload, 1)) rfl
theorem dX9_piece_71 : decode cX9_piece 71 = .ok (.iconst 1, 1) := td tX9_piece_0_ok 42 (q := (71, .iconst 1, 1)) rfl
theorem dX9_piece_72 : decode cX9_piece 72 = .ok (.iload_n 2, 1) := td tX9_piece_0_ok 43 (q := (72, .iload_n 2, 1)) rfl
theorem dX9_piece_73 : decode cX9_piece 73 = .ok (.invokevirtual 75, 3) := td tX9_piece_0_ok 44 (q := (73, .invokevirtual 75, 3)) rfl
theorem dX9_piece_76 : decode cX9_piece 76 = .ok (.aload_n 0, 1) := td tX9_piece_0_ok 45 (q := (76, .aload_n 0, 1)) rfl
theorem dX9_piece_77 : decode cX9_piece 77 = .ok (.getfield 7, 3) := td tX9_piece_0_ok 46 (q := (77, .getfield 7, 3)) rfl
theorem dX9_piece_80 : decode cX9_piece 80 = .ok (.iconst 0, 1) := td tX9_piece_0_ok 47 (q := (80, .iconst 0, 1)) rfl
theorem dX9_piece_81 : decode cX9_piece 81 = .ok (.dup2, 1) := td tX9_piece_0_ok 48 (q := (81, .dup2, 1)) rfl
theorem dX9_piece_82 : decode cX9_piece 82 = .ok (.iaload, 1) := td tX9_piece_0_ok 49 (q := (82, .iaload, 1)) rfl
theorem dX9_piece_83 : decode cX9_piece 83 = .ok (.iconst 1, 1) := td tX9_piece_0_ok 50 (q := (83, .iconst 1, 1)) rfl
theorem dX9_piece_84 : decode cX9_piece 84 = .ok (.iadd, 1) := td tX9_piece_0_ok 51 (q := (84, .iadd, 1)) rfl
theorem dX9_piece_85 : decode cX9_piece 85 = .ok (.iastore, 1) := td tX9_piece_0_ok 52 (q := (85, .iastore, 1)) rfl
theorem dX9_piece_86 : decode cX9_piece 86 = .ok (.aload_n 0, 1) := td tX9_piece_0_ok 53 (q := (86, .aload_n 0, 1)) rfl
theorem dX9_piece_87 : decode cX9_piece 87 = .ok (.getfield 7, 3) := td tX9_piece_0_ok 54 (q := (87, .getfield 7, 3)) rfl
theorem dX9_piece_90 : decode cX9_piece 90 = .ok (.iconst 0, 1) := td tX9_piece_0_ok 55 (q := (90, .iconst 0, 1)) rfl
theorem dX9_piece_91 : decode cX9_piece 91 = .ok (.iaload, 1) := td tX9_piece_0_ok 56 (q := (91, .iaload, 1)) rfl
theorem dX9_piece_92 : decode cX9_piece 92 = .ok (.iconst 1, 1) := td tX9_piece_0_ok 57 (q := (92, .iconst 1, 1)) rfl
theorem dX9_piece_93 : decode cX9_piece 93 = .ok (.isub, 1) := td tX9_piece_0_ok 58 (q := (93, .isub, 1)) rfl
theorem dX9_piece_94 : decode cX9_piece 94 = .ok (.ireturn, 1) := td tX9_piece_0_ok 59 (q := (94, .ireturn, 1)) rfl
def fX9_piece (ms : (Nat → Int32)) (msv : (Nat → Int32)) (mt : Int32) (mn : Int32) (x1 : Int32) (x2 : Int32) : Option (Int32 × (Nat → Int32) × (Nat → Int32) × Int32 × Int32) :=
  (Option.bind (fX9_in x1 (0 : Int32) (99 : Int32)) (fun q1 => (if q1 = 0 then (Option.bind (fX9_fails (0 : Int32) (1 : Int32)) (fun q3 => (some (q3.1, ms, msv, q3.2, mn)))) else (Option.bind (fX9_in x2 (0 : Int32) (99 : Int32)) (fun q4 => (if q4 = 0 then (Option.bind (fX9_fails (0 : Int32) (1 : Int32)) (fun q17 => (some (q17.1, ms, msv, q17.2, mn)))) else (Option.bind (aget ms 531 (0 : Int32)) (fun t6 => (if t6 = (10 : Int32) then (Option.bind (fX9_fails (0 : Int32) (2 : Int32)) (fun q16 => (some (q16.1, ms, msv, q16.2, mn)))) else (Option.bind (fX9_saves ms msv mn) (fun q8 => (Option.bind (aget ms 531 (0 : Int32)) (fun t9 => (Option.bind (fX9_lay ms t9 (0 : Int32) x1) (fun q10 => (Option.bind (aget q10 531 (0 : Int32)) (fun t11 => (Option.bind (fX9_lay q10 t11 (1 : Int32) x2) (fun q12 => (Option.bind (aget q12 531 (0 : Int32)) (fun t13 => (Option.bind (aput q12 531 (0 : Int32) (t13 + (1 : Int32))) (fun c14 => (Option.bind (aget c14 531 (0 : Int32)) (fun t15 => (some (t15 - (1 : Int32), c14, q8.1, (0 : Int32), q8.2)))))))))))))))))))))))))))
set_option maxHeartbeats 4000000 in
set_option maxRecDepth 100000 in
theorem mX9_piece {l : Launch} {D : va_G} {bd : Nat → Nat} {cI : ClassId} {ms : (Nat → Int32)} {msv : (Nat → Int32)} {mb : (Nat → Int32)} {mf : (Nat → Int32)} {mr : (Nat → Int32)} {mt : Int32} {mn : Int32} {ml : Int32} {mat : Int32} {mw : Int32} {mm : Int32} {mh : Int64} {x1 : Int32} {x2 : Int32} {r : Int32} {ms' : (Nat → Int32)} {msv' : (Nat → Int32)} {mt' : Int32} {mn' : Int32} (hs : fX9_piece ms msv mt mn x1 x2 = some (r, ms', msv', mt', mn')) : nd_C l yX9_piece cX9_piece 3 (some .int) 1 23 D [(cI, .int)] [.ref (bd 0), .int x1, .int x2] (MW bd cI ms msv mb mf mr mt mn ml mat mw mm mh) (MW bd cI ms' msv' mb mf mr mt' mn' ml mat mw mm mh) (some (.int r)) := by
  refine nd_ofCi (by decide) (Nat.le_of_ble_eq_true rfl) (fun p e s m args below meth c_ ls A Q hx hb hml hown hts hl hP hK hD hS hA hN hret => ?_)
  have hown : s.vm.findClass RX9 = some m.cls := hown
  have hl : lv_has ls 3 [(0, .ref (bd 0)), (1, .int x1), (2, .int x2)] := hl
  have hret : ∀ (z0 : Int32) (z1 : (Nat → Int32)) (z2 : (Nat → Int32)) (z3 : Int32) (z4 : Int32) {H : Heap} {locs : List Loc} {pc : Nat} {ls : Array Slot}, some (z0, z1, z2, z3, z4) = some (r, ms', msv', mt', mn') → va_P D vwCl (MW bd cI z1 z2 mb mf mr z3 z4 ml mat mw mm mh) H → va_S A s.heap H locs → decode cX9_piece pc = .ok (.ireturn, 1) → W p l e ⟨1, 0, 0, 23⟩ s m args below meth c_ H locs 0 0 Q (F0 m pc ls [.int z0]) := by
    intro z0 z1 z2 z3 z4 H locs pc ls h hP hS hd
    cases h
    exact hret hP hS hd
  rw [fX9_piece] at hs
  refine lv_aload_n hx hb dX9_piece_0 rfl (lv_at hl 0 rfl) ?_
  refine lv_iconst (v := (0 : Int32)) hx hb dX9_piece_1 (by decide) ?_
  refine pf_X9_25 hx hb hts hown hK hP hD hS 0 rfl rfl dX9_piece_2 (fun H locs hP hD hS => ?_)
  have hP : va_P D vwCl (MW bd cI ms msv mb mf mr (0 : Int32) mn ml mat mw mm mh) H := hP
  have hD : va_D A (MW bd cI ms msv mb mf mr (0 : Int32) mn ml mat mw mm mh) := hD
  refine lv_iload_n hx hb dX9_piece_5 rfl (lv_at hl 1 rfl) ?_
  refine lv_iconst (v := (0 : Int32)) hx hb dX9_piece_6 (by decide) ?_
  refine lv_bipush (v := (99 : Int32)) hx hb dX9_piece_7 (by decide) ?_
  obtain ⟨q1, eq1, hs⟩ := ob hs
  refine nd_callS (As := [.int x1, .int (0 : Int32), .int (99 : Int32)]) (rest := []) (st1 := [.int q1]) hx hb hml hown hts hl hP hK hD hS hA hN (mX9_in eq1) is_X9_in wd_127 rfl rfl ⟨Nat.le_of_ble_eq_true rfl, Nat.le_of_ble_eq_true rfl⟩ (Nat.le_of_ble_eq_true rfl) ⟨Nat.zero_le _, Nat.zero_le _⟩ dX9_piece_9 rfl rfl (fun H locs hP hD hS => ?_)
  refine lv_if_eq (tgt := 25) hx hb dX9_piece_12 (by decide) (fun b2 => ?_) (fun b2 => ?_)
  · have hs := ite_t hs b2
    refine lv_aload_n hx hb dX9_piece_25 rfl (lv_at hl 0 rfl) ?_
    refine lv_iconst (v := (1 : Int32)) hx hb dX9_piece_26 (by decide) ?_
    obtain ⟨q3, eq3, hs⟩ := ob hs
    refine nd_callV (As := [.int (1 : Int32)]) (rest := []) (st1 := [.int q3.1]) hx hb hml hown hts hl hP hK hD hS hA hN (mX9_fails eq3) iv_X9_fails wd_130 0 rfl rfl rfl rfl ⟨Nat.le_of_ble_eq_true rfl, Nat.le_of_ble_eq_true rfl⟩ (Nat.le_of_ble_eq_true rfl) ⟨Nat.zero_le _, Nat.zero_le _⟩ dX9_piece_27 rfl rfl (fun H locs hP hD hS => ?_)
    exact hret _ _ _ _ _ hs hP hS dX9_piece_30
  · have hs := ite_f hs b2
    refine lv_iload_n hx hb dX9_piece_15 rfl (lv_at hl 2 rfl) ?_
    refine lv_iconst (v := (0 : Int32)) hx hb dX9_piece_16 (by decide) ?_
    refine lv_bipush (v := (99 : Int32)) hx hb dX9_piece_17 (by decide) ?_
    obtain ⟨q4, eq4, hs⟩ := ob hs
    refine nd_callS (As := [.int x2, .int (0 : Int32), .int (99 : Int32)]) (rest := []) (st1 := [.int q4]) hx hb hml hown hts hl hP hK hD hS hA hN (mX9_in eq4) is_X9_in wd_127 rfl rfl ⟨Nat.le_of_ble_eq_true rfl, Nat.le_of_ble_eq_true rfl⟩ (Nat.le_of_ble_eq_true rfl) ⟨Nat.zero_le _, Nat.zero_le _⟩ dX9_piece_19 rfl rfl (fun H locs hP hD hS => ?_)
    refine lv_if_ne (tgt := 31) hx hb dX9_piece_22 (by decide) (fun b5 => ?_) (fun b5 => ?_)
    · have hs := ite_f hs b5
      refine lv_aload_n hx hb dX9_piece_31 rfl (lv_at hl 0 rfl) ?_
      refine gf_X9_7 hx hb hts hown hK hP 0 rfl rfl dX9_piece_32 ?_
      refine lv_iconst (v := (0 : Int32)) hx hb dX9_piece_35 (by decide) ?_
      obtain ⟨t6, et6, hs⟩ := ob hs
      refine nd_iald hx hb hK hP 1 0 rfl rfl et6 dX9_piece_36 ?_
      refine lv_bipush (v := (10 : Int32)) hx hb dX9_piece_37 (by decide) ?_
      refine lv_icmp_ne (tgt := 48) hx hb dX9_piece_39 (by decide) (fun b7 => ?_) (fun b7 => ?_)
      · have hs := ite_f hs b7
        refine lv_aload_n hx hb dX9_piece_48 rfl (lv_at hl 0 rfl) ?_
        obtain ⟨q8, eq8, hs⟩ := ob hs
        refine nd_callV (As := []) (rest := []) (st1 := []) hx hb hml hown hts hl hP hK hD hS hA hN (mX9_saves eq8) iv_X9_saves wd_134 0 rfl rfl rfl rfl ⟨Nat.le_of_ble_eq_true rfl, Nat.le_of_ble_eq_true rfl⟩ (Nat.le_of_ble_eq_true rfl) ⟨Nat.zero_le _, Nat.zero_le _⟩ dX9_piece_49 rfl rfl (fun H locs hP hD hS => ?_)
        refine lv_aload_n hx hb dX9_piece_52 rfl (lv_at hl 0 rfl) ?_
        refine lv_aload_n hx hb dX9_piece_53 rfl (lv_at hl 0 rfl) ?_
        refine gf_X9_7 hx hb hts hown hK hP 0 rfl rfl dX9_piece_54 ?_
        refine lv_iconst (v := (0 : Int32)) hx hb dX9_piece_57 (by decide) ?_
        obtain ⟨t9, et9, hs⟩ := ob hs
        refine nd_iald hx hb hK hP 1 0 rfl rfl et9 dX9_piece_58 ?_
        refine lv_iconst (v := (0 : Int32)) hx hb dX9_piece_59 (by decide) ?_
        refine lv_iload_n hx hb dX9_piece_60 rfl (lv_at hl 1 rfl) ?_
        obtain ⟨q10, eq10, hs⟩ := ob hs
        refine nd_callV (As := [.int t9, .int (0 : Int32), .int x1]) (rest := []) (st1 := []) hx hb hml hown hts hl hP hK hD hS hA hN (mX9_lay eq10) iv_X9_lay wd_139 0 rfl rfl rfl rfl ⟨Nat.le_of_ble_eq_true rfl, Nat.le_of_ble_eq_true rfl⟩ (Nat.le_of_ble_eq_true rfl) ⟨Nat.zero_le _, Nat.zero_le _⟩ dX9_piece_61 rfl rfl (fun H locs hP hD hS => ?_)
        refine lv_aload_n hx hb dX9_piece_64 rfl (lv_at hl 0 rfl) ?_
        refine lv_aload_n hx hb dX9_piece_65 rfl (lv_at hl 0 rfl) ?_
        refine gf_X9_7 hx hb hts hown hK hP 0 rfl rfl dX9_piece_66 ?_
        refine lv_iconst (v := (0 : Int32)) hx hb dX9_piece_69 (by decide) ?_
        obtain ⟨t11, et11, hs⟩ := ob hs
        refine nd_iald hx hb hK hP 1 0 rfl rfl et11 dX9_piece_70 ?_
        refine lv_iconst (v := (1 : Int32)) hx hb dX9_piece_71 (by decide) ?_
        refine lv_iload_n hx hb dX9_piece_72 rfl (lv_at hl 2 rfl) ?_
        obtain ⟨q12, eq12, hs⟩ := ob hs
        refine nd_callV (As := [.int t11, .int (1 : Int32), .int x2]) (rest := []) (st1 := []) hx hb hml hown hts hl hP hK hD hS hA hN (mX9_lay eq12) iv_X9_lay wd_139 0 rfl rfl rfl rfl ⟨Nat.le_of_ble_eq_true rfl, Nat.le_of_ble_eq_true rfl⟩ (Nat.le_of_ble_eq_true rfl) ⟨Nat.zero_le _, Nat.zero_le _⟩ dX9_piece_73 rfl rfl (fun H locs hP hD hS => ?_)
        refine lv_aload_n hx hb dX9_piece_76 rfl (lv_at hl 0 rfl) ?_
        refine gf_X9_7 hx hb hts hown hK hP 0 rfl rfl dX9_piece_77 ?_
        refine lv_iconst (v := (0 : Int32)) hx hb dX9_piece_80 (by decide) ?_
        refine lv_dup2_11 hx hb dX9_piece_81 rfl rfl ?_
        obtain ⟨t13, et13, hs⟩ := ob hs
        refine nd_iald hx hb hK hP 1 0 rfl rfl et13 dX9_piece_82 ?_
        refine lv_iconst (v := (1 : Int32)) hx hb dX9_piece_83 (by decide) ?_
        refine lv_iadd hx hb dX9_piece_84 ?_
        obtain ⟨c14, ec14, hs⟩ := ob hs
        refine nd_iast hx hb hK hP hD hS 1 0 rfl rfl ec14 dX9_piece_85 (fun H locs hP hD hS => ?_)
        have hP : va_P D vwCl (MW bd cI c14 q8.1 mb mf mr (0 : Int32) q8.2 ml mat mw mm mh) H := hP
        have hD : va_D A (MW bd cI c14 q8.1 mb mf mr (0 : Int32) q8.2 ml mat mw mm mh) := hD
        refine lv_aload_n hx hb dX9_piece_86 rfl (lv_at hl 0 rfl) ?_
        refine gf_X9_7 hx hb hts hown hK hP 0 rfl rfl dX9_piece_87 ?_
        refine lv_iconst (v := (0 : Int32)) hx hb dX9_piece_90 (by decide) ?_
        obtain ⟨t15, et15, hs⟩ := ob hs
        refine nd_iald hx hb hK hP 1 0 rfl rfl et15 dX9_piece_91 ?_
        refine lv_iconst (v := (1 : Int32)) hx hb dX9_piece_92 (by decide) ?_
        refine lv_isub hx hb dX9_piece_93 ?_
        exact hret _ _ _ _ _ hs hP hS dX9_piece_94
      · have hs := ite_t hs b7
        refine lv_aload_n hx hb dX9_piece_42 rfl (lv_at hl 0 rfl) ?_
        refine lv_iconst (v := (2 : Int32)) hx hb dX9_piece_43 (by decide) ?_
        obtain ⟨q16, eq16, hs⟩ := ob hs
        refine nd_callV (As := [.int (2 : Int32)]) (rest := []) (st1 := [.int q16.1]) hx hb hml hown hts hl hP hK hD hS hA hN (mX9_fails eq16) iv_X9_fails wd_130 0 rfl rfl rfl rfl ⟨Nat.le_of_ble_eq_true rfl, Nat.le_of_ble_eq_true rfl⟩ (Nat.le_of_ble_eq_true rfl) ⟨Nat.zero_le _, Nat.zero_le _⟩ dX9_piece_44 rfl rfl (fun H locs hP hD hS => ?_)
        exact hret _ _ _ _ _ hs hP hS dX9_piece_47
    · have hs := ite_t hs b5
      refine lv_aload_n hx hb dX9_piece_25 rfl (lv_at hl 0 rfl) ?_
      refine lv_iconst (v := (1 : Int32)) hx hb dX9_piece_26 (by decide) ?_
      obtain ⟨q17, eq17, hs⟩ := ob hs
      refine nd_callV (As := [.int (1 : Int32)]) (rest := []) (st1 := [.int q17.1]) hx hb hml hown hts hl hP hK hD hS hA hN (mX9_fails eq17) iv_X9_fails wd_130 0 rfl rfl rfl rfl ⟨Nat.le_of_ble_eq_true rfl, Nat.le_of_ble_eq_true rfl⟩ (Nat.le_of_ble_eq_true rfl) ⟨Nat.zero_le _, Nat.zero_le _⟩ dX9_piece_27 rfl rfl (fun H locs hP hD hS => ?_)
      exact hret _ _ _ _ _ hs hP hS dX9_piece_30
def tX9_canAdd_0 : List (Nat × Instr × Nat) := [(0, .aload_n 0, 1), (1, .iload_n 1, 1), (2, .invokevirtual 60, 3), (5, .iconst (-1), 1), (6, .if_icmp .ne 7, 3), (9, .iconst (-1), 1), (10, .goto 12, 3), (13, .aload_n 0, 1), (14, .aload_n 0, 1), (15, .iload_n 1, 1), (16, .invokevirtual 60, 3), (19, .invokevirtual 66, 3), (22, .istore_n 3, 1), (23, .aload_n 0, 1), (24, .iload_n 1, 1), (25, .iconst 2, 1), (26, .invokevirtual 33, 3), (29, .bipush 6, 2), (31, .if_icmp .ge 26, 3), (34, .iload_n 2, 1), (35, .aload_n 0, 1), (36, .iload_n 1, 1), (37, .invokevirtual 69, 3), (40, .if_icmp .lt 17, 3), (43, .iload_n 3, 1), (44, .iconst (-1), 1), (45, .if_icmp .eq 8, 3), (48, .iload_n 2, 1), (49, .iload_n 3, 1), (50, .if_icmp .gt 7, 3), (53, .iconst 1, 1), (54, .goto 4, 3), (57, .iconst 0, 1), (58, .ireturn, 1)]
theorem tX9_canAdd_0_ok : tX9_canAdd_0.all (fun q => decide (decode cX9_canAdd q.1 = .ok q.2)) = true := by decide +kernel
theorem dX9_canAdd_0 : decode cX9_canAdd 0 = .ok (.aload_n 0, 1) := td tX9_canAdd_0_ok 0 (q := (0, .aload_n 0, 1)) rfl
theorem dX9_canAdd_1 : decode cX9_canAdd 1 = .ok (.iload_n 1, 1) := td tX9_canAdd_0_ok 1 (q := (1, .iload_n 1, 1)) rfl
theorem dX9_canAdd_2 : decode cX9_canAdd 2 = .ok (.invokevirtual 60, 3) := td tX9_canAdd_0_ok 2 (q := (2, .invokevirtual 60, 3)) rfl
theorem dX9_canAdd_5 : decode cX9_canAdd 5 = .ok (.iconst (-1), 1) := td tX9_canAdd_0_ok 3 (q := (5, .iconst (-1), 1)) rfl
theorem dX9_canAdd_6 : decode cX9_canAdd 6 = .ok (.if_icmp .ne 7, 3) := td tX9_canAdd_0_ok 4 (q := (6, .if_icmp .ne 7, 3)) rfl
theorem dX9_canAdd_9 : decode cX9_canAdd 9 = .ok (.iconst (-1), 1) := td tX9_canAdd_0_ok 5 (q := (9, .iconst (-1), 1)) rfl
theorem dX9_canAdd_10 : decode cX9_canAdd 10 = .ok (.goto 12, 3) := td tX9_canAdd_0_ok 6 (q := (10, .goto 12, 3)) rfl
theorem dX9_canAdd_13 : decode cX9_canAdd 13 = .ok (.aload_n 0, 1) := td tX9_canAdd_0_ok 7 (q := (13, .aload_n 0, 1)) rfl
theorem dX9_canAdd_14 : decode cX9_canAdd 14 = .ok (.aload_n 0, 1) := td tX9_canAdd_0_ok 8 (q := (14, .aload_n 0, 1)) rfl
theorem dX9_canAdd_15 : decode cX9_canAdd 15 = .ok (.iload_n 1, 1) := td tX9_canAdd_0_ok 9 (q := (15, .iload_n 1, 1)) rfl
theorem dX9_canAdd_16 : decode cX9_canAdd 16 = .ok (.invokevirtual 60, 3) := td tX9_canAdd_0_ok 10 (q := (16, .invokevirtual 60, 3)) rfl
theorem dX9_canAdd_19 : decode cX9_canAdd 19 = .ok (.invokevirtual 66, 3) := td tX9_canAdd_0_ok 11 (q := (19, .invokevirtual 66, 3)) rfl
theorem dX9_canAdd_22 : decode cX9_canAdd 22 = .ok (.istore_n 3, 1) := td tX9_canAdd_0_ok 12 (q := (22, .istore_n 3, 1)) rfl
theorem dX9_canAdd_23 : decode cX9_canAdd 23 = .ok (.aload_n 0, 1) := td tX9_canAdd_0_ok 13 (q := (23, .aload_n 0, 1)) rfl
theorem dX9_canAdd_24 : decode cX9_canAdd 24 = .ok (.iload_n 1, 1) := td tX9_canAdd_0_ok 14 (q := (24, .iload_n 1, 1)) rfl
theorem dX9_canAdd_25 : decode cX9_canAdd 25 = .ok (.iconst 2, 1) := td tX9_canAdd_0_ok 15 (q := (25, .iconst 2, 1)) rfl
theorem dX9_canAdd_26 : decode cX9_canAdd 26 = .ok (.invokevirtual 33, 3) := td tX9_canAdd_0_ok 16 (q := (26, .invokevirtual 33, 3)) rfl
theorem dX9_canAdd_29 : decode cX9_canAdd 29 = .ok (.bipush 6, 2) := td tX9_canAdd_0_ok 17 (q := (29, .bipush 6, 2)) rfl
theorem dX9_canAdd_31 : decode cX9_canAdd 31 = .ok (.if_icmp .ge 26, 3) := td tX9_canAdd_0_ok 18 (q := (31, .if_icmp .ge 26, 3)) rfl
theorem dX9_canAdd_34 : decode cX9_canAdd 34 = .ok (.iload_n 2, 1) := td tX9_canAdd_0_ok 19 (q := (34, .iload_n 2, 1)) rfl
theorem dX9_canAdd_35 : decode cX9_canAdd 35 = .ok (.aload_n 0, 1) := td tX9_canAdd_0_ok 20 (q := (35, .aload_n 0, 1)) rfl
theorem dX9_canAdd_36 : decode cX9_canAdd 36 = .ok (.iload_n 1, 1) := td tX9_canAdd_0_ok 21 (q := (36, .iload_n 1, 1)) rfl
theorem dX9_canAdd_37 : decode cX9_canAdd 37 = .ok (.invokevirtual 69, 3) := td tX9_canAdd_0_ok 22 (q := (37, .invokevirtual 69, 3)) rfl
theorem dX9_canAdd_40 : decode cX9_canAdd 40 = .ok (.if_icmp .lt 17, 3) := td tX9_canAdd_0_ok 23 (q := (40, .if_icmp .lt 17, 3)) rfl
theorem dX9_canAdd_43 : decode cX9_canAdd 43 = .ok (.iload_n 3, 1) := td tX9_canAdd_0_ok 24 (q := (43, .iload_n 3, 1)) rfl
theorem dX9_canAdd_44 : decode cX9_canAdd 44 = .ok (.iconst (-1), 1) := td tX9_canAdd_0_ok 25 (q := (44, .iconst (-1), 1)) rfl
theorem dX9_canAdd_45 : decode cX9_canAdd 45 = .ok (.if_icmp .eq 8, 3) := td tX9_canAdd_0_ok 26 (q := (45, .if_icmp .eq 8, 3)) rfl
theorem dX9_canAdd_48 : decode cX9_canAdd 48 = .ok (.iload_n 2, 1) := td tX9_canAdd_0_ok 27 (q := (48, .iload_n 2, 1)) rfl
theorem dX9_canAdd_49 : decode cX9_canAdd 49 = .ok (.iload_n 3, 1) := td tX9_canAdd_0_ok 28 (q := (49, .iload_n 3, 1)) rfl
theorem dX9_canAdd_50 : decode cX9_canAdd 50 = .ok (.if_icmp .gt 7, 3) := td tX9_canAdd_0_ok 29 (q := (50, .if_icmp .gt 7, 3)) rfl
theorem dX9_canAdd_53 : decode cX9_canAdd 53 = .ok (.iconst 1, 1) := td tX9_canAdd_0_ok 30 (q := (53, .iconst 1, 1)) rfl
theorem dX9_canAdd_54 : decode cX9_canAdd 54 = .ok (.goto 4, 3) := td tX9_canAdd_0_ok 31 (q := (54, .goto 4, 3)) rfl
theorem dX9_canAdd_57 : decode cX9_canAdd 57 = .ok (.iconst 0, 1) := td tX9_canAdd_0_ok 32 (q := (57, .iconst 0, 1)) rfl
theorem dX9_canAdd_58 : decode cX9_canAdd 58 = .ok (.ireturn, 1) := td tX9_canAdd_0_ok 33 (q := (58, .ireturn, 1)) rfl
def fX9_canAdd (ms : (Nat → Int32)) (x1 : Int32) (x2 : Int32) : Option (Int32) :=
  (Option.bind (fX9_lowerOf ms x1) (fun q1 => (if q1 = (-1 : Int32) then (Option.bind (fX9_of ms x1 (2 : Int32)) (fun q11 => (if (6 : Int32) ≤ q11 then (some (0 : Int32)) else (Option.bind (fX9_lastTime ms x1) (fun q13 => (if x2 < q13 then (some (0 : Int32)) else (some (1 : Int32)))))))) else (Option.bind (fX9_lowerOf ms x1) (fun q3 => (Option.bind (fX9_firstTime ms q3) (fun q4 => (Option.bind (fX9_of ms x1 (2 : Int32)) (fun q5 => (if (6 : Int32) ≤ q5 then (some (0 : Int32)) else (Option.bind (fX9_lastTime ms x1) (fun q7 => (if x2 < q7 then (some (0 : Int32)) else (if q4 = (-1 : Int32) then (some (1 : Int32)) else (if q4 < x2 then (some (0 : Int32)) else (some (1 : Int32)))))))))))))))))
set_option maxHeartbeats 4000000 in
set_option maxRecDepth 100000 in
theorem mX9_canAdd {l : Launch} {D : va_G} {bd : Nat → Nat} {cI : ClassId} {ms : (Nat → Int32)} {msv : (Nat → Int32)} {mb : (Nat → Int32)} {mf : (Nat → Int32)} {mr : (Nat → Int32)} {mt : Int32} {mn : Int32} {ml : Int32} {mat : Int32} {mw : Int32} {mm : Int32} {mh : Int64} {x1 : Int32} {x2 : Int32} {r : Int32} (hs : fX9_canAdd ms x1 x2 = some r) : nd_C l yX9_canAdd cX9_canAdd 4 (some .boolean) 3 65 D [(cI, .int)] [.ref (bd 0), .int x1, .int x2] (MW bd cI ms msv mb mf mr mt mn ml mat mw mm mh) (MW bd cI ms msv mb mf mr mt mn ml mat mw mm mh) (some (.int r)) := by
  refine nd_ofCz (by decide) (Nat.le_of_ble_eq_true rfl) (fun p e s m args below meth c_ ls A Q hx hb hml hown hts hl hP hK hD hS hA hN hret => ?_)
  have hown : s.vm.findClass RX9 = some m.cls := hown
  have hl : lv_has ls 4 [(0, .ref (bd 0)), (1, .int x1), (2, .int x2)] := hl
  have hret : ∀ (z0 : Int32) {H : Heap} {locs : List Loc} {pc : Nat} {ls : Array Slot}, some z0 = some r → (z0 = 0 ∨ z0 = 1) → va_P D vwCl (MW bd cI ms msv mb mf mr mt mn ml mat mw mm mh) H → va_S A s.heap H locs → decode cX9_canAdd pc = .ok (.ireturn, 1) → W p l e ⟨3, 0, 0, 65⟩ s m args below meth c_ H locs 0 0 Q (F0 m pc ls [.int z0]) := by
    intro z0 H locs pc ls h hz hP hS hd
    cases h
    exact hret hz hP hS hd
  rw [fX9_canAdd] at hs
  refine lv_aload_n hx hb dX9_canAdd_0 rfl (lv_at hl 0 rfl) ?_
  refine lv_iload_n hx hb dX9_canAdd_1 rfl (lv_at hl 1 rfl) ?_
  obtain ⟨q1, eq1, hs⟩ := ob hs
  refine nd_callV (As := [.int x1]) (rest := []) (st1 := [.int q1]) hx hb hml hown hts hl hP hK hD hS hA hN (mX9_lowerOf eq1) iv_X9_lowerOf wd_303 0 rfl rfl rfl rfl ⟨Nat.le_of_ble_eq_true rfl, Nat.le_of_ble_eq_true rfl⟩ (Nat.le_of_ble_eq_true rfl) ⟨Nat.zero_le _, Nat.zero_le _⟩ dX9_canAdd_2 rfl rfl (fun H locs hP hD hS => ?_)
  refine lv_iconst (v := (-1 : Int32)) hx hb dX9_canAdd_5 (by decide) ?_
  refine lv_icmp_ne (tgt := 13) hx hb dX9_canAdd_6 (by decide) (fun b2 => ?_) (fun b2 => ?_)
  · have hs := ite_f hs b2
    refine lv_aload_n hx hb dX9_canAdd_13 rfl (lv_at hl 0 rfl) ?_
    refine lv_aload_n hx hb dX9_canAdd_14 rfl (lv_at hl 0 rfl) ?_
    refine lv_iload_n hx hb dX9_canAdd_15 rfl (lv_at hl 1 rfl) ?_
    obtain ⟨q3, eq3, hs⟩ := ob hs
    refine nd_callV (As := [.int x1]) (rest := [.ref (bd 0)]) (st1 := [.int q3, .ref (bd 0)]) hx hb hml hown hts hl hP hK hD hS hA hN (mX9_lowerOf eq3) iv_X9_lowerOf wd_303 0 rfl rfl rfl rfl ⟨Nat.le_of_ble_eq_true rfl, Nat.le_of_ble_eq_true rfl⟩ (Nat.le_of_ble_eq_true rfl) ⟨Nat.zero_le _, Nat.zero_le _⟩ dX9_canAdd_16 rfl rfl (fun H locs hP hD hS => ?_)
    obtain ⟨q4, eq4, hs⟩ := ob hs
    refine nd_callV (As := [.int q3]) (rest := []) (st1 := [.int q4]) hx hb hml hown hts hl hP hK hD hS hA hN (mX9_firstTime eq4) iv_X9_firstTime wd_311 0 rfl rfl rfl rfl ⟨Nat.le_of_ble_eq_true rfl, Nat.le_of_ble_eq_true rfl⟩ (Nat.le_of_ble_eq_true rfl) ⟨Nat.zero_le _, Nat.zero_le _⟩ dX9_canAdd_19 rfl rfl (fun H locs hP hD hS => ?_)
    refine lv_istore_n (lv' := [(3, .int q4), (0, .ref (bd 0)), (1, .int x1), (2, .int x2)]) hx hb dX9_canAdd_22 rfl hl (by decide) rfl (fun ls hl => ?_)
    refine lv_aload_n hx hb dX9_canAdd_23 rfl (lv_at hl 1 rfl) ?_
    refine lv_iload_n hx hb dX9_canAdd_24 rfl (lv_at hl 2 rfl) ?_
    refine lv_iconst (v := (2 : Int32)) hx hb dX9_canAdd_25 (by decide) ?_
    obtain ⟨q5, eq5, hs⟩ := ob hs
    refine nd_callV (As := [.int x1, .int (2 : Int32)]) (rest := []) (st1 := [.int q5]) hx hb hml hown hts hl hP hK hD hS hA hN (mX9_of eq5) iv_X9_of wd_307 0 rfl rfl rfl rfl ⟨Nat.le_of_ble_eq_true rfl, Nat.le_of_ble_eq_true rfl⟩ (Nat.le_of_ble_eq_true rfl) ⟨Nat.zero_le _, Nat.zero_le _⟩ dX9_canAdd_26 rfl rfl (fun H locs hP hD hS => ?_)
    refine lv_bipush (v := (6 : Int32)) hx hb dX9_canAdd_29 (by decide) ?_
    refine lv_icmp_ge (tgt := 57) hx hb dX9_canAdd_31 (by decide) (fun b6 => ?_) (fun b6 => ?_)
    · have hs := ite_t hs b6
      refine lv_iconst (v := (0 : Int32)) hx hb dX9_canAdd_57 (by decide) ?_
      exact hret _ hs (Or.inl rfl) hP hS dX9_canAdd_58
    · have hs := ite_f hs b6
      refine lv_iload_n hx hb dX9_canAdd_34 rfl (lv_at hl 3 rfl) ?_
      refine lv_aload_n hx hb dX9_canAdd_35 rfl (lv_at hl 1 rfl) ?_
      refine lv_iload_n hx hb dX9_canAdd_36 rfl (lv_at hl 2 rfl) ?_
      obtain ⟨q7, eq7, hs⟩ := ob hs
      refine nd_callV (As := [.int x1]) (rest := [.int x2]) (st1 := [.int q7, .int x2]) hx hb hml hown hts hl hP hK hD hS hA hN (mX9_lastTime eq7) iv_X9_lastTime wd_322 0 rfl rfl rfl rfl ⟨Nat.le_of_ble_eq_true rfl, Nat.le_of_ble_eq_true rfl⟩ (Nat.le_of_ble_eq_true rfl) ⟨Nat.zero_le _, Nat.zero_le _⟩ dX9_canAdd_37 rfl rfl (fun H locs hP hD hS => ?_)
      refine lv_icmp_lt (tgt := 57) hx hb dX9_canAdd_40 (by decide) (fun b8 => ?_) (fun b8 => ?_)
      · have hs := ite_t hs b8
        refine lv_iconst (v := (0 : Int32)) hx hb dX9_canAdd_57 (by decide) ?_
        exact hret _ hs (Or.inl rfl) hP hS dX9_canAdd_58
      · have hs := ite_f hs b8
        refine lv_iload_n hx hb dX9_canAdd_43 rfl (lv_at hl 0 rfl) ?_
        refine lv_iconst (v := (-1 : Int32)) hx hb dX9_canAdd_44 (by decide) ?_
        refine lv_icmp_eq (tgt := 53) hx hb dX9_canAdd_45 (by decide) (fun b9 => ?_) (fun b9 => ?_)
        · have hs := ite_t hs b9
          refine lv_iconst (v := (1 : Int32)) hx hb dX9_canAdd_53 (by decide) ?_
          refine lv_goto (tgt := 58) hx hb dX9_canAdd_54 (by decide) ?_
          exact hret _ hs (Or.inr rfl) hP hS dX9_canAdd_58
        · have hs := ite_f hs b9
          refine lv_iload_n hx hb dX9_canAdd_48 rfl (lv_at hl 3 rfl) ?_
          refine lv_iload_n hx hb dX9_canAdd_49 rfl (lv_at hl 0 rfl) ?_
          refine lv_icmp_gt (tgt := 57) hx hb dX9_canAdd_50 (by decide) (fun b10 => ?_) (fun b10 => ?_)
          · have hs := ite_t hs b10
            refine lv_iconst (v := (0 : Int32)) hx hb dX9_canAdd_57 (by decide) ?_
            exact hret _ hs (Or.inl rfl) hP hS dX9_canAdd_58
          · have hs := ite_f hs b10
            refine lv_iconst (v := (1 : Int32)) hx hb dX9_canAdd_53 (by decide) ?_
            refine lv_goto (tgt := 58) hx hb dX9_canAdd_54 (by decide) ?_
            exact hret _ hs (Or.inr rfl) hP hS dX9_canAdd_58
  · have hs := ite_t hs b2
    refine lv_iconst (v := (-1 : Int32)) hx hb dX9_canAdd_9 (by decide) ?_
    refine lv_goto (tgt := 22) hx hb dX9_canAdd_10 (by decide) ?_
    refine lv_istore_n (lv' := [(3, .int (-1 : Int32)), (0, .ref (bd 0)), (1, .int x1), (2, .int x2)]) hx hb dX9_canAdd_22 rfl hl (by decide) rfl (fun ls hl => ?_)
    refine lv_aload_n hx hb dX9_canAdd_23 rfl (lv_at hl 1 rfl) ?_
    refine lv_iload_n hx hb dX9_canAdd_24 rfl (lv_at hl 2 rfl) ?_
    refine lv_iconst (v := (2 : Int32)) hx hb dX9_canAdd_25 (by decide) ?_
    obtain ⟨q11, eq11, hs⟩ := ob hs
    refine nd_callV (As := [.int x1, .int (2 : Int32)]) (rest := []) (st1 := [.int q11]) hx hb hml hown hts hl hP hK hD hS hA hN (mX9_of eq11) iv_X9_of wd_307 0 rfl rfl rfl rfl ⟨Nat.le_of_ble_eq_true rfl, Nat.le_of_ble_eq_true rfl⟩ (Nat.le_of_ble_eq_true rfl) ⟨Nat.zero_le _, Nat.zero_le _⟩ dX9_canAdd_26 rfl rfl (fun H locs hP hD hS => ?_)
    refine lv_bipush (v := (6 : Int32)) hx hb dX9_canAdd_29 (by decide) ?_
    refine lv_icmp_ge (tgt := 57) hx hb dX9_canAdd_31 (by decide) (fun b12 => ?_) (fun b12 => ?_)
    · have hs := ite_t hs b12
      refine lv_iconst (v := (0 : Int32)) hx hb dX9_canAdd_57 (by decide) ?_
      exact hret _ hs (Or.inl rfl) hP hS dX9_canAdd_58
    · have hs := ite_f hs b12
      refine lv_iload_n hx hb dX9_canAdd_34 rfl (lv_at hl 3 rfl) ?_
      refine lv_aload_n hx hb dX9_canAdd_35 rfl (lv_at hl 1 rfl) ?_
      refine lv_iload_n hx hb dX9_canAdd_36 rfl (lv_at hl 2 rfl) ?_
      obtain ⟨q13, eq13, hs⟩ := ob hs
      refine nd_callV (As := [.int x1]) (rest := [.int x2]) (st1 := [.int q13, .int x2]) hx hb hml hown hts hl hP hK hD hS hA hN (mX9_lastTime eq13) iv_X9_lastTime wd_322 0 rfl rfl rfl rfl ⟨Nat.le_of_ble_eq_true rfl, Nat.le_of_ble_eq_true rfl⟩ (Nat.le_of_ble_eq_true rfl) ⟨Nat.zero_le _, Nat.zero_le _⟩ dX9_canAdd_37 rfl rfl (fun H locs hP hD hS => ?_)
      refine lv_icmp_lt (tgt := 57) hx hb dX9_canAdd_40 (by decide) (fun b14 => ?_) (fun b14 => ?_)
      · have hs := ite_t hs b14
        refine lv_iconst (v := (0 : Int32)) hx hb dX9_canAdd_57 (by decide) ?_
        exact hret _ hs (Or.inl rfl) hP hS dX9_canAdd_58
      · have hs := ite_f hs b14
        refine lv_iload_n hx hb dX9_canAdd_43 rfl (lv_at hl 0 rfl) ?_
        refine lv_iconst (v := (-1 : Int32)) hx hb dX9_canAdd_44 (by decide) ?_
        refine lv_icmp_eq (tgt := 53) hx hb dX9_canAdd_45 (by decide) (fun _ => ?_) (fun h => absurd (by decide) h)
        refine lv_iconst (v := (1 : Int32)) hx hb dX9_canAdd_53 (by decide) ?_
        refine lv_goto (tgt := 58) hx hb dX9_canAdd_54 (by decide) ?_
        exact hret _ hs (Or.inr rfl) hP hS dX9_canAdd_58
def tX9_sign_0 : List (Nat × Instr × Nat) := [(0, .aload_n 0, 1), (1, .getfield 134, 3), (4, .aload_n 0, 1), (5, .getfield 96, 3), (8, .if_icmp .ge 15, 3), (11, .aload_n 0, 1), (12, .getfield 16, 3), (15, .aload_n 0, 1), (16, .getfield 134, 3), (19, .iaload, 1), (20, .goto 4, 3), (23, .iconst 0, 1), (24, .ireturn, 1)]
theorem tX9_sign_0_ok : tX9_sign_0.all (fun q => decide (decode cX9_sign q.1 = .ok q.2)) = true := by decide +kernel
theorem dX9_sign_0 : decode cX9_sign 0 = .ok (.aload_n 0, 1) := td tX9_sign_0_ok 0 (q := (0, .aload_n 0, 1)) rfl
theorem dX9_sign_1 : decode cX9_sign 1 = .ok (.getfield 134, 3) := td tX9_sign_0_ok 1 (q := (1, .getfield 134, 3)) rfl
theorem dX9_sign_4 : decode cX9_sign 4 = .ok (.aload_n 0, 1) := td tX9_sign_0_ok 2 (q := (4, .aload_n 0, 1)) rfl
theorem dX9_sign_5 : decode cX9_sign 5 = .ok (.getfield 96, 3) := td tX9_sign_0_ok 3 (q := (5, .getfield 96, 3)) rfl
theorem dX9_sign_8 : decode cX9_sign 8 = .ok (.if_icmp .ge 15, 3) := td tX9_sign_0_ok 4 (q := (8, .if_icmp .ge 15, 3)) rfl
theorem dX9_sign_11 : decode cX9_sign 11 = .ok (.aload_n 0, 1) := td tX9_sign_0_ok 5 (q := (11, .aload_n 0, 1)) rfl
theorem dX9_sign_12 : decode cX9_sign 12 = .ok (.getfield 16, 3) := td tX9_sign_0_ok 6 (q := (12, .getfield 16, 3)) rfl
theorem dX9_sign_15 : decode cX9_sign 15 = .ok (.aload_n 0, 1) := td tX9_sign_0_ok 7 (q := (15, .aload_n 0, 1)) rfl
theorem dX9_sign_16 : decode cX9_sign 16 = .ok (.getfield 134, 3) := td tX9_sign_0_ok 8 (q := (16, .getfield 134, 3)) rfl
theorem dX9_sign_19 : decode cX9_sign 19 = .ok (.iaload, 1) := td tX9_sign_0_ok 9 (q := (19, .iaload, 1)) rfl
theorem dX9_sign_20 : decode cX9_sign 20 = .ok (.goto 4, 3) := td tX9_sign_0_ok 10 (q := (20, .goto 4, 3)) rfl
theorem dX9_sign_23 : decode cX9_sign 23 = .ok (.iconst 0, 1) := td tX9_sign_0_ok 11 (q := (23, .iconst 0, 1)) rfl
theorem dX9_sign_24 : decode cX9_sign 24 = .ok (.ireturn, 1) := td tX9_sign_0_ok 12 (q := (24, .ireturn, 1)) rfl
def fX9_sign (mb : (Nat → Int32)) (ml : Int32) (mat : Int32) : Option (Int32) :=
  (if ml ≤ mat then (some (0 : Int32)) else (Option.bind (aget mb 60 mat) (fun t2 => (some t2))))
set_option maxHeartbeats 4000000 in
set_option maxRecDepth 100000 in
theorem mX9_sign {l : Launch} {D : va_G} {bd : Nat → Nat} {cI : ClassId} {ms : (Nat → Int32)} {msv : (Nat → Int32)} {mb : (Nat → Int32)} {mf : (Nat → Int32)} {mr : (Nat → Int32)} {mt : Int32} {mn : Int32} {ml : Int32} {mat : Int32} {mw : Int32} {mm : Int32} {mh : Int64} {r : Int32} (hs : fX9_sign mb ml mat = some r) : nd_C l yX9_sign cX9_sign 1 (some .int) 0 0 D [(cI, .int)] [.ref (bd 0)] (MW bd cI ms msv mb mf mr mt mn ml mat mw mm mh) (MW bd cI ms msv mb mf mr mt mn ml mat mw mm mh) (some (.int r)) := by
  refine nd_ofCi (by decide) (Nat.le_of_ble_eq_true rfl) (fun p e s m args below meth c_ ls A Q hx hb hml hown hts hl hP hK hD hS hA hN hret => ?_)
  have hown : s.vm.findClass RX9 = some m.cls := hown
  have hl : lv_has ls 1 [(0, .ref (bd 0))] := hl
  have hret : ∀ (z0 : Int32) {H : Heap} {locs : List Loc} {pc : Nat} {ls : Array Slot}, some z0 = some r → va_P D vwCl (MW bd cI ms msv mb mf mr mt mn ml mat mw mm mh) H → va_S A s.heap H locs → decode cX9_sign pc = .ok (.ireturn, 1) → W p l e ⟨0, 0, 0, 0⟩ s m args below meth c_ H locs 0 0 Q (F0 m pc ls [.int z0]) := by
    intro z0 H locs pc ls h hP hS hd
    cases h
    exact hret hP hS hd
  rw [fX9_sign] at hs
  refine lv_aload_n hx hb dX9_sign_0 rfl (lv_at hl 0 rfl) ?_
  refine gf_X9_134 hx hb hts hown hK hP 0 rfl rfl dX9_sign_1 ?_
  refine lv_aload_n hx hb dX9_sign_4 rfl (lv_at hl 0 rfl) ?_
  refine gf_X9_96 hx hb hts hown hK hP 0 rfl rfl dX9_sign_5 ?_
  refine lv_icmp_ge (tgt := 23) hx hb dX9_sign_8 (by decide) (fun b1 => ?_) (fun b1 => ?_)
  · have hs := ite_t hs b1
    refine lv_iconst (v := (0 : Int32)) hx hb dX9_sign_23 (by decide) ?_
    exact hret _ hs hP hS dX9_sign_24
  · have hs := ite_f hs b1
    refine lv_aload_n hx hb dX9_sign_11 rfl (lv_at hl 0 rfl) ?_
    refine gf_X9_16 hx hb hts hown hK hP 0 rfl rfl dX9_sign_12 ?_
    refine lv_aload_n hx hb dX9_sign_15 rfl (lv_at hl 0 rfl) ?_
    refine gf_X9_134 hx hb hts hown hK hP 0 rfl rfl dX9_sign_16 ?_
    obtain ⟨t2, et2, hs⟩ := ob hs
    refine nd_iald hx hb hK hP 3 0 rfl rfl et2 dX9_sign_19 ?_
    refine lv_goto (tgt := 24) hx hb dX9_sign_20 (by decide) ?_
    exact hret _ hs hP hS dX9_sign_24
def tX9_number_0 : List (Nat × Instr × Nat) := [(0, .aload_n 0, 1), (1, .aload_n 0, 1), (2, .getfield 92, 3), (5, .ifCond .eq 23, 3), (8, .aload_n 0, 1), (9, .invokevirtual 137, 3), (12, .bipush 48, 2), (14, .iload_n 1, 1), (15, .iadd, 1), (16, .bipush 57, 2), (18, .invokestatic 29, 3), (21, .ifCond .eq 7, 3), (24, .iconst 1, 1), (25, .goto 4, 3), (28, .iconst 0, 1), (29, .putfield 92, 3), (32, .aload_n 0, 1), (33, .invokevirtual 137, 3), (36, .bipush 48, 2), (38, .isub, 1), (39, .istore_n 3, 1), (40, .aload_n 0, 1), (41, .dup, 1), (42, .getfield 134, 3), (45, .aload_n 0, 1), (46, .getfield 92, 3), (49, .ifCond .eq 7, 3), (52, .iconst 1, 1), (53, .goto 4, 3), (56, .iconst 0, 1), (57, .iadd, 1), (58, .putfield 134, 3), (61, .aload_n 0, 1), (62, .getfield 92, 3), (65, .ifCond .eq 63, 3), (68, .iload_n 3, 1), (69, .ifCond .le 59, 3), (72, .aload_n 0, 1), (73, .invokevirtual 137, 3), (76, .bipush 48, 2), (78, .bipush 57, 2), (80, .invokestatic 29, 3), (83, .ifCond .eq 45, 3), (86, .bipush 10, 2), (88, .iload_n 3, 1), (89, .imul, 1), (90, .aload_n 0, 1), (91, .invokevirtual 137, 3), (94, .iadd, 1), (95, .bipush 48, 2), (97, .isub, 1), (98, .iload_n 2, 1), (99, .if_icmp .gt 29, 3), (102, .bipush 10, 2), (104, .iload_n 3, 1), (105, .imul, 1), (106, .aload_n 0, 1), (107, .invokevirtual 137, 3), (110, .iadd, 1), (111, .bipush 48, 2)]
theorem tX9_number_0_ok : tX9_number_0.all (fun q => decide (decode cX9_number q.1 = .ok q.2)) = true := by decide +kernel
theorem dX9_number_0 : decode cX9_number 0 = .ok (.aload_n 0, 1) := td tX9_number_0_ok 0 (q := (0, .aload_n 0, 1)) rfl
theorem dX9_number_1 : decode cX9_number 1 = .ok (.aload_n 0, 1) := td tX9_number_0_ok 1 (q := (1, .aload_n 0, 1)) rfl
theorem dX9_number_2 : decode cX9_number 2 = .ok (.getfield 92, 3) := td tX9_number_0_ok 2 (q := (2, .getfield 92, 3)) rfl
theorem dX9_number_5 : decode cX9_number 5 = .ok (.ifCond .eq 23, 3) := td tX9_number_0_ok 3 (q := (5, .ifCond .eq 23, 3)) rfl
theorem dX9_number_8 : decode cX9_number 8 = .ok (.aload_n 0, 1) := td tX9_number_0_ok 4 (q := (8, .aload_n 0, 1)) rfl
theorem dX9_number_9 : decode cX9_number 9 = .ok (.invokevirtual 137, 3) := td tX9_number_0_ok 5 (q := (9, .invokevirtual 137, 3)) rfl
theorem dX9_number_12 : decode cX9_number 12 = .ok (.bipush 48, 2) := td tX9_number_0_ok 6 (q := (12, .bipush 48, 2)) rfl
theorem dX9_number_14 : decode cX9_number 14 = .ok (.iload_n 1, 1) := td tX9_number_0_ok 7 (q := (14, .iload_n 1, 1)) rfl
theorem dX9_number_15 : decode cX9_number 15 = .ok (.iadd, 1) := td tX9_number_0_ok 8 (q := (15, .iadd, 1)) rfl
theorem dX9_number_16 : decode cX9_number 16 = .ok (.bipush 57, 2) := td tX9_number_0_ok 9 (q := (16, .bipush 57, 2)) rfl
theorem dX9_number_18 : decode cX9_number 18 = .ok (.invokestatic 29, 3) := td tX9_number_0_ok 10 (q := (18, .invokestatic 29, 3)) rfl
theorem dX9_number_21 : decode cX9_number 21 = .ok (.ifCond .eq 7, 3) := td tX9_number_0_ok 11 (q := (21, .ifCond .eq 7, 3)) rfl
theorem dX9_number_24 : decode cX9_number 24 = .ok (.iconst 1, 1) := td tX9_number_0_ok 12 (q := (24, .iconst 1, 1)) rfl
theorem dX9_number_25 : decode cX9_number 25 = .ok (.goto 4, 3) := td tX9_number_0_ok 13 (q := (25, .goto 4, 3)) rfl
theorem dX9_number_28 : decode cX9_number 28 = .ok (.iconst 0, 1) := td tX9_number_0_ok 14 (q := (28, .iconst 0, 1)) rfl
theorem dX9_number_29 : decode cX9_number 29 = .ok (.putfield 92, 3) := td tX9_number_0_ok 15 (q := (29, .putfield 92, 3)) rfl
theorem dX9_number_32 : decode cX9_number 32 = .ok (.aload_n 0, 1) := td tX9_number_0_ok 16 (q := (32, .aload_n 0, 1)) rfl
theorem dX9_number_33 : decode cX9_number 33 = .ok (.invokevirtual 137, 3) := td tX9_number_0_ok 17 (q := (33, .invokevirtual 137, 3)) rfl
theorem dX9_number_36 : decode cX9_number 36 = .ok (.bipush 48, 2) := td tX9_number_0_ok 18 (q := (36, .bipush 48, 2)) rfl
theorem dX9_number_38 : decode cX9_number 38 = .ok (.isub, 1) := td tX9_number_0_ok 19 (q := (38, .isub, 1)) rfl
theorem dX9_number_39 : decode cX9_number 39 = .ok (.istore_n 3, 1) := td tX9_number_0_ok 20 (q := (39, .istore_n 3, 1)) rfl
theorem dX9_number_40 : decode cX9_number 40 = .ok (.aload_n 0, 1) := td tX9_number_0_ok 21 (q := (40, .aload_n 0, 1)) rfl
theorem dX9_number_41 : decode cX9_number 41 = .ok (.dup, 1) := td tX9_number_0_ok 22 (q := (41, .dup, 1)) rfl
theorem dX9_number_42 : decode cX9_number 42 = .ok (.getfield 134, 3) := td tX9_number_0_ok 23 (q := (42, .getfield 134, 3)) rfl
theorem dX9_number_45 : decode cX9_number 45 = .ok (.aload_n 0, 1) := td tX9_number_0_ok 24 (q := (45, .aload_n 0, 1)) rfl
theorem dX9_number_46 : decode cX9_number 46 = .ok (.getfield 92, 3) := td tX9_number_0_ok 25 (q := (46, .getfield 92, 3)) rfl
theorem dX9_number_49 : decode cX9_number 49 = .ok (.ifCond .eq 7, 3) := td tX9_number_0_ok 26 (q := (49, .ifCond .eq 7, 3)) rfl
theorem dX9_number_52 : decode cX9_number 52 = .ok (.iconst 1, 1) := td tX9_number_0_ok 27 (q := (52, .iconst 1, 1)) rfl
theorem dX9_number_53 : decode cX9_number 53 = .ok (.goto 4, 3) := td tX9_number_0_ok 28 (q := (53, .goto 4, 3)) rfl
theorem dX9_number_56 : decode cX9_number 56 = .ok (.iconst 0, 1) := td tX9_number_0_ok 29 (q := (56, .iconst 0, 1)) rfl
theorem dX9_number_57 : decode cX9_number 57 = .ok (.iadd, 1) := td tX9_number_0_ok 30 (q := (57, .iadd, 1)) rfl
theorem dX9_number_58 : decode cX9_number 58 = .ok (.putfield 134, 3) := td tX9_number_0_ok 31 (q := (58, .putfield 134, 3)) rfl
theorem dX9_number_61 : decode cX9_number 61 = .ok (.aload_n 0, 1) := td tX9_number_0_ok 32 (q := (61, .aload_n 0, 1)) rfl
theorem dX9_number_62 : decode cX9_number 62 = .ok (.getfield 92, 3) := td tX9_number_0_ok 33 (q := (62, .getfield 92, 3)) rfl
theorem dX9_number_65 : decode cX9_number 65 = .ok (.ifCond .eq 63, 3) := td tX9_number_0_ok 34 (q := (65, .ifCond .eq 63, 3)) rfl
theorem dX9_number_68 : decode cX9_number 68 = .ok (.iload_n 3, 1) := td tX9_number_0_ok 35 (q := (68, .iload_n 3, 1)) rfl
theorem dX9_number_69 : decode cX9_number 69 = .ok (.ifCond .le 59, 3) := td tX9_number_0_ok 36 (q := (69, .ifCond .le 59, 3)) rfl
theorem dX9_number_72 : decode cX9_number 72 = .ok (.aload_n 0, 1) := td tX9_number_0_ok 37 (q := (72, .aload_n 0, 1)) rfl
theorem dX9_number_73 : decode cX9_number 73 = .ok (.invokevirtual 137, 3) := td tX9_number_0_ok 38 (q := (73, .invokevirtual 137, 3)) rfl
theorem dX9_number_76 : decode cX9_number 76 = .ok (.bipush 48, 2) := td tX9_number_0_ok 39 (q := (76, .bipush 48, 2)) rfl
theorem dX9_number_78 : decode cX9_number 78 = .ok (.bipush 57, 2) := td tX9_number_0_ok 40 (q := (78, .bipush 57, 2)) rfl
theorem dX9_number_80 : decode cX9_number 80 = .ok (.invokestatic 29, 3) := td tX9_number_0_ok 41 (q := (80, .invokestatic 29, 3)) rfl
theorem dX9_number_83 : decode cX9_number 83 = .ok (.ifCond .eq 45, 3) := td tX9_number_0_ok 42 (q := (83, .ifCond .eq 45, 3)) rfl
theorem dX9_number_86 : decode cX9_number 86 = .ok (.bipush 10, 2) := td tX9_number_0_ok 43 (q := (86, .bipush 10, 2)) rfl
theorem dX9_number_88 : decode cX9_number 88 = .ok (.iload_n 3, 1) := td tX9_number_0_ok 44 (q := (88, .iload_n 3, 1)) rfl
theorem dX9_number_89 : decode cX9_number 89 = .ok (.imul, 1) := td tX9_number_0_ok 45 (q := (89, .imul, 1)) rfl
theorem dX9_number_90 : decode cX9_number 90 = .ok (.aload_n 0, 1) := td tX9_number_0_ok 46 (q := (90, .aload_n 0, 1)) rfl
theorem dX9_number_91 : decode cX9_number 91 = .ok (.invokevirtual 137, 3) := td tX9_number_0_ok 47 (q := (91, .invokevirtual 137, 3)) rfl
theorem dX9_number_94 : decode cX9_number 94 = .ok (.iadd, 1) := td tX9_number_0_ok 48 (q := (94, .iadd, 1)) rfl
theorem dX9_number_95 : decode cX9_number 95 = .ok (.bipush 48, 2) := td tX9_number_0_ok 49 (q := (95, .bipush 48, 2)) rfl
theorem dX9_number_97 : decode cX9_number 97 = .ok (.isub, 1) := td tX9_number_0_ok 50 (q := (97, .isub, 1)) rfl
theorem dX9_number_98 : decode cX9_number 98 = .ok (.iload_n 2, 1) := td tX9_number_0_ok 51 (q := (98, .iload_n 2, 1)) rfl
theorem dX9_number_99 : decode cX9_number 99 = .ok (.if_icmp .gt 29, 3) := td tX9_number_0_ok 52 (q := (99, .if_icmp .gt 29, 3)) rfl
theorem dX9_number_102 : decode cX9_number 102 = .ok (.bipush 10, 2) := td tX9_number_0_ok 53 (q := (102, .bipush 10, 2)) rfl
theorem dX9_number_104 : decode cX9_number 104 = .ok (.iload_n 3, 1) := td tX9_number_0_ok 54 (q := (104, .iload_n 3, 1)) rfl
theorem dX9_number_105 : decode cX9_number 105 = .ok (.imul, 1) := td tX9_number_0_ok 55 (q := (105, .imul, 1)) rfl
theorem dX9_number_106 : decode cX9_number 106 = .ok (.aload_n 0, 1) := td tX9_number_0_ok 56 (q := (106, .aload_n 0, 1)) rfl
theorem dX9_number_107 : decode cX9_number 107 = .ok (.invokevirtual 137, 3) := td tX9_number_0_ok 57 (q := (107, .invokevirtual 137, 3)) rfl
theorem dX9_number_110 : decode cX9_number 110 = .ok (.iadd, 1) := td tX9_number_0_ok 58 (q := (110, .iadd, 1)) rfl
theorem dX9_number_111 : decode cX9_number 111 = .ok (.bipush 48, 2) := td tX9_number_0_ok 59 (q := (111, .bipush 48, 2)) rfl
def tX9_number_1 : List (Nat × Instr × Nat) := [(113, .isub, 1), (114, .istore_n 3, 1), (115, .aload_n 0, 1), (116, .dup, 1), (117, .getfield 134, 3), (120, .iconst 1, 1), (121, .iadd, 1), (122, .putfield 134, 3), (125, .goto (-64), 3), (128, .iload_n 3, 1), (129, .ireturn, 1)]
theorem tX9_number_1_ok : tX9_number_1.all (fun q => decide (decode cX9_number q.1 = .ok q.2)) = true := by decide +kernel
theorem dX9_number_113 : decode cX9_number 113 = .ok (.isub, 1) := td tX9_number_1_ok 0 (q := (113, .isub, 1)) rfl
theorem dX9_number_114 : decode cX9_number 114 = .ok (.istore_n 3, 1) := td tX9_number_1_ok 1 (q := (114, .istore_n 3, 1)) rfl
theorem dX9_number_115 : decode cX9_number 115 = .ok (.aload_n 0, 1) := td tX9_number_1_ok 2 (q := (115, .aload_n 0, 1)) rfl
theorem dX9_number_116 : decode cX9_number 116 = .ok (.dup, 1) := td tX9_number_1_ok 3 (q := (116, .dup, 1)) rfl
theorem dX9_number_117 : decode cX9_number 117 = .ok (.getfield 134, 3) := td tX9_number_1_ok 4 (q := (117, .getfield 134, 3)) rfl
theorem dX9_number_120 : decode cX9_number 120 = .ok (.iconst 1, 1) := td tX9_number_1_ok 5 (q := (120, .iconst 1, 1)) rfl
theorem dX9_number_121 : decode cX9_number 121 = .ok (.iadd, 1) := td tX9_number_1_ok 6 (q := (121, .iadd, 1)) rfl
theorem dX9_number_122 : decode cX9_number 122 = .ok (.putfield 134, 3) := td tX9_number_1_ok 7 (q := (122, .putfield 134, 3)) rfl
theorem dX9_number_125 : decode cX9_number 125 = .ok (.goto (-64), 3) := td tX9_number_1_ok 8 (q := (125, .goto (-64), 3)) rfl
theorem dX9_number_128 : decode cX9_number 128 = .ok (.iload_n 3, 1) := td tX9_number_1_ok 9 (q := (128, .iload_n 3, 1)) rfl
theorem dX9_number_129 : decode cX9_number 129 = .ok (.ireturn, 1) := td tX9_number_1_ok 10 (q := (129, .ireturn, 1)) rfl
def fX9_number_61 (k61 : Int32 → Int32 → Option (Int32 × Int32 × Int32)) (mb : (Nat → Int32)) (ml : Int32) (x2 : Int32) : Nat → Int32 → Int32 → Option (Int32 × Int32 × Int32)
  | 0, _, _ => none
  | n61 + 1, x3, mat => (k61 x3 mat)
def fX9_number_61a (k61 : Int32 → Int32 → Option (Int32 × Int32 × Int32)) (mb : (Nat → Int32)) (ml : Int32) (x2 : Int32) : Nat → Int32 → Int32 → Option (Int32 × Int32 × Int32)
  | 0, _, _ => none
  | n61 + 1, x3, mat => (if x3 ≤ 0 then (k61 x3 mat) else (Option.bind (fX9_sign mb ml mat) (fun q11 => (Option.bind (fX9_in q11 (48 : Int32) (57 : Int32)) (fun q12 => (if q12 = 0 then (k61 x3 mat) else (Option.bind (fX9_sign mb ml mat) (fun q14 => (if x2 < ((((10 : Int32) * x3) + q14) - (48 : Int32)) then (k61 x3 mat) else (Option.bind (fX9_sign mb ml mat) (fun q16 => (fX9_number_61a k61 mb ml x2 n61 ((((10 : Int32) * x3) + q16) - (48 : Int32)) (mat + (1 : Int32))))))))))))))
def fX9_number (mb : (Nat → Int32)) (ml : Int32) (mat : Int32) (mw : Int32) (x1 : Int32) (x2 : Int32) : Option (Int32 × Int32 × Int32) :=
  (if mw = 0 then (Option.bind (fX9_sign mb ml mat) (fun q2 => (fX9_number_61 (fun (u3_3 : Int32) (mat_u3 : Int32) => (some (u3_3, mat_u3, (0 : Int32)))) mb ml x2 LF (q2 - (48 : Int32)) (mat + (0 : Int32))))) else (Option.bind (fX9_sign mb ml mat) (fun q4 => (Option.bind (fX9_in q4 ((48 : Int32) + x1) (57 : Int32)) (fun q5 => (if q5 = 0 then (Option.bind (fX9_sign mb ml mat) (fun q7 => (fX9_number_61 (fun (u3_8 : Int32) (mat_u8 : Int32) => (some (u3_8, mat_u8, (0 : Int32)))) mb ml x2 LF (q7 - (48 : Int32)) (mat + (0 : Int32))))) else (Option.bind (fX9_sign mb ml mat) (fun q9 => (fX9_number_61a (fun (u3_17 : Int32) (mat_u17 : Int32) => (some (u3_17, mat_u17, (1 : Int32)))) mb ml x2 LF (q9 - (48 : Int32)) (mat + (1 : Int32)))))))))))
set_option maxHeartbeats 4000000 in
set_option maxRecDepth 100000 in
theorem mX9_number {l : Launch} {D : va_G} {bd : Nat → Nat} {cI : ClassId} {ms : (Nat → Int32)} {msv : (Nat → Int32)} {mb : (Nat → Int32)} {mf : (Nat → Int32)} {mr : (Nat → Int32)} {mt : Int32} {mn : Int32} {ml : Int32} {mat : Int32} {mw : Int32} {mm : Int32} {mh : Int64} {x1 : Int32} {x2 : Int32} {r : Int32} {mat' : Int32} {mw' : Int32} (hs : fX9_number mb ml mat mw x1 x2 = some (r, mat', mw')) : nd_C l yX9_number cX9_number 4 (some .int) 1 22 D [(cI, .int)] [.ref (bd 0), .int x1, .int x2] (MW bd cI ms msv mb mf mr mt mn ml mat mw mm mh) (MW bd cI ms msv mb mf mr mt mn ml mat' mw' mm mh) (some (.int r)) := by
  refine nd_ofCi (by decide) (Nat.le_of_ble_eq_true rfl) (fun p e s m args below meth c_ ls A Q hx hb hml hown hts hl hP hK hD hS hA hN hret => ?_)
  have hown : s.vm.findClass RX9 = some m.cls := hown
  have hl : lv_has ls 4 [(0, .ref (bd 0)), (1, .int x1), (2, .int x2)] := hl
  have hret : ∀ (z0 : Int32) (z1 : Int32) (z2 : Int32) {H : Heap} {locs : List Loc} {pc : Nat} {ls : Array Slot}, some (z0, z1, z2) = some (r, mat', mw') → va_P D vwCl (MW bd cI ms msv mb mf mr mt mn ml z1 z2 mm mh) H → va_S A s.heap H locs → decode cX9_number pc = .ok (.ireturn, 1) → W p l e ⟨1, 0, 0, 22⟩ s m args below meth c_ H locs 0 0 Q (F0 m pc ls [.int z0]) := by
    intro z0 z1 z2 H locs pc ls h hP hS hd
    cases h
    exact hret hP hS hd
  rw [fX9_number] at hs
  refine lv_aload_n hx hb dX9_number_0 rfl (lv_at hl 0 rfl) ?_
  refine lv_aload_n hx hb dX9_number_1 rfl (lv_at hl 0 rfl) ?_
  refine gf_X9_92 hx hb hts hown hK hP 0 rfl rfl dX9_number_2 ?_
  refine lv_if_eq (tgt := 28) hx hb dX9_number_5 (by decide) (fun b1 => ?_) (fun b1 => ?_)
  · have hs := ite_t hs b1
    refine lv_iconst (v := (0 : Int32)) hx hb dX9_number_28 (by decide) ?_
    refine pf_X9_92 hx hb hts hown hK hP hD hS 0 rfl rfl (Or.inl rfl) dX9_number_29 (fun H locs hP hD hS => ?_)
    have hP : va_P D vwCl (MW bd cI ms msv mb mf mr mt mn ml mat (0 : Int32) mm mh) H := hP
    have hD : va_D A (MW bd cI ms msv mb mf mr mt mn ml mat (0 : Int32) mm mh) := hD
    refine lv_aload_n hx hb dX9_number_32 rfl (lv_at hl 0 rfl) ?_
    obtain ⟨q2, eq2, hs⟩ := ob hs
    refine nd_callV (As := []) (rest := []) (st1 := [.int q2]) hx hb hml hown hts hl hP hK hD hS hA hN (mX9_sign eq2) iv_X9_sign wd_291 0 rfl rfl rfl rfl ⟨Nat.le_of_ble_eq_true rfl, Nat.le_of_ble_eq_true rfl⟩ (Nat.le_of_ble_eq_true rfl) ⟨Nat.zero_le _, Nat.zero_le _⟩ dX9_number_33 rfl rfl (fun H locs hP hD hS => ?_)
    refine lv_bipush (v := (48 : Int32)) hx hb dX9_number_36 (by decide) ?_
    refine lv_isub hx hb dX9_number_38 ?_
    refine lv_istore_n (lv' := [(3, .int (q2 - (48 : Int32))), (0, .ref (bd 0)), (1, .int x1), (2, .int x2)]) hx hb dX9_number_39 rfl hl (by decide) rfl (fun ls hl => ?_)
    refine lv_aload_n hx hb dX9_number_40 rfl (lv_at hl 1 rfl) ?_
    refine lv_dup hx hb dX9_number_41 rfl ?_
    refine gf_X9_134 hx hb hts hown hK hP 0 rfl rfl dX9_number_42 ?_
    refine lv_aload_n hx hb dX9_number_45 rfl (lv_at hl 1 rfl) ?_
    refine gf_X9_92 hx hb hts hown hK hP 0 rfl rfl dX9_number_46 ?_
    refine lv_if_eq (tgt := 56) hx hb dX9_number_49 (by decide) (fun _ => ?_) (fun h => absurd (by decide) h)
    refine lv_iconst (v := (0 : Int32)) hx hb dX9_number_56 (by decide) ?_
    refine lv_iadd hx hb dX9_number_57 ?_
    refine pf_X9_134 hx hb hts hown hK hP hD hS 0 rfl rfl dX9_number_58 (fun H locs hP hD hS => ?_)
    have hP : va_P D vwCl (MW bd cI ms msv mb mf mr mt mn ml (mat + (0 : Int32)) (0 : Int32) mm mh) H := hP
    have hD : va_D A (MW bd cI ms msv mb mf mr mt mn ml (mat + (0 : Int32)) (0 : Int32) mm mh) := hD
    have L61 : ∀ (n61 : Nat) (k61 : Int32 → Int32 → Option (Int32 × Int32 × Int32)) (v3_3 : Int32) (mat_3 : Int32) (H : Heap) (locs : List Loc) (ls : Array Slot), lv_has ls 4 [(0, .ref (bd 0)), (2, .int x2), (3, .int v3_3)] → va_P D vwCl (MW bd cI ms msv mb mf mr mt mn ml mat_3 (0 : Int32) mm mh) H → va_S A s.heap H locs → fX9_number_61 k61 mb ml x2 n61 v3_3 mat_3 = some (r, mat', mw') → (∀ (u3_3 : Int32) (mat_u3 : Int32) (H : Heap) (locs : List Loc) (ls : Array Slot), lv_has ls 4 [(3, .int u3_3)] → va_P D vwCl (MW bd cI ms msv mb mf mr mt mn ml mat_u3 (0 : Int32) mm mh) H → va_S A s.heap H locs → k61 u3_3 mat_u3 = some (r, mat', mw') → W p l e ⟨1, 0, 0, 22⟩ s m args below meth c_ H locs 0 0 Q (F0 m 128 ls [])) → W p l e ⟨1, 0, 0, 22⟩ s m args below meth c_ H locs 0 0 Q (F0 m 61 ls []) := by
      intro n61
      induction n61 with
      | zero =>
        intro k61 v3_3 mat_3 H locs ls hl hP hS hs hk61
        rw [fX9_number_61] at hs
        cases hs
      | succ n61 ih61 =>
        intro k61 v3_3 mat_3 H locs ls hl hP hS hs hk61
        rw [fX9_number_61] at hs
        have hD : va_D A (MW bd cI ms msv mb mf mr mt mn ml mat_3 (0 : Int32) mm mh) := nd_DD hD rfl
        refine lv_aload_n hx hb dX9_number_61 rfl (lv_at hl 0 rfl) ?_
        refine gf_X9_92 hx hb hts hown hK hP 0 rfl rfl dX9_number_62 ?_
        refine lv_if_eq (tgt := 128) hx hb dX9_number_65 (by decide) (fun _ => ?_) (fun h => absurd (by decide) h)
        exact hk61 v3_3 mat_3 _ _ _ (lv_sub hl [2] rfl) hP hS hs
    refine L61 LF _ (q2 - (48 : Int32)) (mat + (0 : Int32)) _ _ _ (lv_sub hl [1, 3, 0] rfl) hP hS hs (fun u3_3 mat_u3 H locs ls hl hP hS hs => ?_)
    have hD : va_D A (MW bd cI ms msv mb mf mr mt mn ml mat_u3 (0 : Int32) mm mh) := nd_DD hD rfl
    refine lv_iload_n hx hb dX9_number_128 rfl (lv_at hl 0 rfl) ?_
    exact hret _ _ _ hs hP hS dX9_number_129
  · have hs := ite_f hs b1
    refine lv_aload_n hx hb dX9_number_8 rfl (lv_at hl 0 rfl) ?_
    obtain ⟨q4, eq4, hs⟩ := ob hs
    refine nd_callV (As := []) (rest := [.ref (bd 0)]) (st1 := [.int q4, .ref (bd 0)]) hx hb hml hown hts hl hP hK hD hS hA hN (mX9_sign eq4) iv_X9_sign wd_291 0 rfl rfl rfl rfl ⟨Nat.le_of_ble_eq_true rfl, Nat.le_of_ble_eq_true rfl⟩ (Nat.le_of_ble_eq_true rfl) ⟨Nat.zero_le _, Nat.zero_le _⟩ dX9_number_9 rfl rfl (fun H locs hP hD hS => ?_)
    refine lv_bipush (v := (48 : Int32)) hx hb dX9_number_12 (by decide) ?_
    refine lv_iload_n hx hb dX9_number_14 rfl (lv_at hl 1 rfl) ?_
    refine lv_iadd hx hb dX9_number_15 ?_
    refine lv_bipush (v := (57 : Int32)) hx hb dX9_number_16 (by decide) ?_
    obtain ⟨q5, eq5, hs⟩ := ob hs
    refine nd_callS (As := [.int q4, .int ((48 : Int32) + x1), .int (57 : Int32)]) (rest := [.ref (bd 0)]) (st1 := [.int q5, .ref (bd 0)]) hx hb hml hown hts hl hP hK hD hS hA hN (mX9_in eq5) is_X9_in wd_127 rfl rfl ⟨Nat.le_of_ble_eq_true rfl, Nat.le_of_ble_eq_true rfl⟩ (Nat.le_of_ble_eq_true rfl) ⟨Nat.zero_le _, Nat.zero_le _⟩ dX9_number_18 rfl rfl (fun H locs hP hD hS => ?_)
    refine lv_if_eq (tgt := 28) hx hb dX9_number_21 (by decide) (fun b6 => ?_) (fun b6 => ?_)
    · have hs := ite_t hs b6
      refine lv_iconst (v := (0 : Int32)) hx hb dX9_number_28 (by decide) ?_
      refine pf_X9_92 hx hb hts hown hK hP hD hS 0 rfl rfl (Or.inl rfl) dX9_number_29 (fun H locs hP hD hS => ?_)
      have hP : va_P D vwCl (MW bd cI ms msv mb mf mr mt mn ml mat (0 : Int32) mm mh) H := hP
      have hD : va_D A (MW bd cI ms msv mb mf mr mt mn ml mat (0 : Int32) mm mh) := hD
      refine lv_aload_n hx hb dX9_number_32 rfl (lv_at hl 0 rfl) ?_
      obtain ⟨q7, eq7, hs⟩ := ob hs
      refine nd_callV (As := []) (rest := []) (st1 := [.int q7]) hx hb hml hown hts hl hP hK hD hS hA hN (mX9_sign eq7) iv_X9_sign wd_291 0 rfl rfl rfl rfl ⟨Nat.le_of_ble_eq_true rfl, Nat.le_of_ble_eq_true rfl⟩ (Nat.le_of_ble_eq_true rfl) ⟨Nat.zero_le _, Nat.zero_le _⟩ dX9_number_33 rfl rfl (fun H locs hP hD hS => ?_)
      refine lv_bipush (v := (48 : Int32)) hx hb dX9_number_36 (by decide) ?_
      refine lv_isub hx hb dX9_number_38 ?_
      refine lv_istore_n (lv' := [(3, .int (q7 - (48 : Int32))), (0, .ref (bd 0)), (1, .int x1), (2, .int x2)]) hx hb dX9_number_39 rfl hl (by decide) rfl (fun ls hl => ?_)
      refine lv_aload_n hx hb dX9_number_40 rfl (lv_at hl 1 rfl) ?_
      refine lv_dup hx hb dX9_number_41 rfl ?_
      refine gf_X9_134 hx hb hts hown hK hP 0 rfl rfl dX9_number_42 ?_
      refine lv_aload_n hx hb dX9_number_45 rfl (lv_at hl 1 rfl) ?_
      refine gf_X9_92 hx hb hts hown hK hP 0 rfl rfl dX9_number_46 ?_
      refine lv_if_eq (tgt := 56) hx hb dX9_number_49 (by decide) (fun _ => ?_) (fun h => absurd (by decide) h)
      refine lv_iconst (v := (0 : Int32)) hx hb dX9_number_56 (by decide) ?_
      refine lv_iadd hx hb dX9_number_57 ?_
      refine pf_X9_134 hx hb hts hown hK hP hD hS 0 rfl rfl dX9_number_58 (fun H locs hP hD hS => ?_)
      have hP : va_P D vwCl (MW bd cI ms msv mb mf mr mt mn ml (mat + (0 : Int32)) (0 : Int32) mm mh) H := hP
      have hD : va_D A (MW bd cI ms msv mb mf mr mt mn ml (mat + (0 : Int32)) (0 : Int32) mm mh) := hD
      have L61 : ∀ (n61 : Nat) (k61 : Int32 → Int32 → Option (Int32 × Int32 × Int32)) (v3_8 : Int32) (mat_8 : Int32) (H : Heap) (locs : List Loc) (ls : Array Slot), lv_has ls 4 [(0, .ref (bd 0)), (2, .int x2), (3, .int v3_8)] → va_P D vwCl (MW bd cI ms msv mb mf mr mt mn ml mat_8 (0 : Int32) mm mh) H → va_S A s.heap H locs → fX9_number_61 k61 mb ml x2 n61 v3_8 mat_8 = some (r, mat', mw') → (∀ (u3_8 : Int32) (mat_u8 : Int32) (H : Heap) (locs : List Loc) (ls : Array Slot), lv_has ls 4 [(3, .int u3_8)] → va_P D vwCl (MW bd cI ms msv mb mf mr mt mn ml mat_u8 (0 : Int32) mm mh) H → va_S A s.heap H locs → k61 u3_8 mat_u8 = some (r, mat', mw') → W p l e ⟨1, 0, 0, 22⟩ s m args below meth c_ H locs 0 0 Q (F0 m 128 ls [])) → W p l e ⟨1, 0, 0, 22⟩ s m args below meth c_ H locs 0 0 Q (F0 m 61 ls []) := by
        intro n61
        induction n61 with
        | zero =>
          intro k61 v3_8 mat_8 H locs ls hl hP hS hs hk61
          rw [fX9_number_61] at hs
          cases hs
        | succ n61 ih61 =>
          intro k61 v3_8 mat_8 H locs ls hl hP hS hs hk61
          rw [fX9_number_61] at hs
          have hD : va_D A (MW bd cI ms msv mb mf mr mt mn ml mat_8 (0 : Int32) mm mh) := nd_DD hD rfl
          refine lv_aload_n hx hb dX9_number_61 rfl (lv_at hl 0 rfl) ?_
          refine gf_X9_92 hx hb hts hown hK hP 0 rfl rfl dX9_number_62 ?_
          refine lv_if_eq (tgt := 128) hx hb dX9_number_65 (by decide) (fun _ => ?_) (fun h => absurd (by decide) h)
          exact hk61 v3_8 mat_8 _ _ _ (lv_sub hl [2] rfl) hP hS hs
      refine L61 LF _ (q7 - (48 : Int32)) (mat + (0 : Int32)) _ _ _ (lv_sub hl [1, 3, 0] rfl) hP hS hs (fun u3_8 mat_u8 H locs ls hl hP hS hs => ?_)
      have hD : va_D A (MW bd cI ms msv mb mf mr mt mn ml mat_u8 (0 : Int32) mm mh) := nd_DD hD rfl
      refine lv_iload_n hx hb dX9_number_128 rfl (lv_at hl 0 rfl) ?_
      exact hret _ _ _ hs hP hS dX9_number_129
    · have hs := ite_f hs b6
      refine lv_iconst (v := (1 : Int32)) hx hb dX9_number_24 (by decide) ?_
      refine lv_goto (tgt := 29) hx hb dX9_number_25 (by decide) ?_
      refine pf_X9_92 hx hb hts hown hK hP hD hS 0 rfl rfl (Or.inr rfl) dX9_number_29 (fun H locs hP hD hS => ?_)
      have hP : va_P D vwCl (MW bd cI ms msv mb mf mr mt mn ml mat (1 : Int32) mm mh) H := hP
      have hD : va_D A (MW bd cI ms msv mb mf mr mt mn ml mat (1 : Int32) mm mh) := hD
      refine lv_aload_n hx hb dX9_number_32 rfl (lv_at hl 0 rfl) ?_
      obtain ⟨q9, eq9, hs⟩ := ob hs
      refine nd_callV (As := []) (rest := []) (st1 := [.int q9]) hx hb hml hown hts hl hP hK hD hS hA hN (mX9_sign eq9) iv_X9_sign wd_291 0 rfl rfl rfl rfl ⟨Nat.le_of_ble_eq_true rfl, Nat.le_of_ble_eq_true rfl⟩ (Nat.le_of_ble_eq_true rfl) ⟨Nat.zero_le _, Nat.zero_le _⟩ dX9_number_33 rfl rfl (fun H locs hP hD hS => ?_)
      refine lv_bipush (v := (48 : Int32)) hx hb dX9_number_36 (by decide) ?_
      refine lv_isub hx hb dX9_number_38 ?_
      refine lv_istore_n (lv' := [(3, .int (q9 - (48 : Int32))), (0, .ref (bd 0)), (1, .int x1), (2, .int x2)]) hx hb dX9_number_39 rfl hl (by decide) rfl (fun ls hl => ?_)
      refine lv_aload_n hx hb dX9_number_40 rfl (lv_at hl 1 rfl) ?_
      refine lv_dup hx hb dX9_number_41 rfl ?_
      refine gf_X9_134 hx hb hts hown hK hP 0 rfl rfl dX9_number_42 ?_
      refine lv_aload_n hx hb dX9_number_45 rfl (lv_at hl 1 rfl) ?_
      refine gf_X9_92 hx hb hts hown hK hP 0 rfl rfl dX9_number_46 ?_
      refine lv_if_eq (tgt := 56) hx hb dX9_number_49 (by decide) (fun h => absurd h (by decide)) (fun _ => ?_)
      refine lv_iconst (v := (1 : Int32)) hx hb dX9_number_52 (by decide) ?_
      refine lv_goto (tgt := 57) hx hb dX9_number_53 (by decide) ?_
      refine lv_iadd hx hb dX9_number_57 ?_
      refine pf_X9_134 hx hb hts hown hK hP hD hS 0 rfl rfl dX9_number_58 (fun H locs hP hD hS => ?_)
      have hP : va_P D vwCl (MW bd cI ms msv mb mf mr mt mn ml (mat + (1 : Int32)) (1 : Int32) mm mh) H := hP
      have hD : va_D A (MW bd cI ms msv mb mf mr mt mn ml (mat + (1 : Int32)) (1 : Int32) mm mh) := hD
      have L61 : ∀ (n61 : Nat) (k61 : Int32 → Int32 → Option (Int32 × Int32 × Int32)) (v3_17 : Int32) (mat_17 : Int32) (H : Heap) (locs : List Loc) (ls : Array Slot), lv_has ls 4 [(0, .ref (bd 0)), (2, .int x2), (3, .int v3_17)] → va_P D vwCl (MW bd cI ms msv mb mf mr mt mn ml mat_17 (1 : Int32) mm mh) H → va_S A s.heap H locs → fX9_number_61a k61 mb ml x2 n61 v3_17 mat_17 = some (r, mat', mw') → (∀ (u3_17 : Int32) (mat_u17 : Int32) (H : Heap) (locs : List Loc) (ls : Array Slot), lv_has ls 4 [(3, .int u3_17)] → va_P D vwCl (MW bd cI ms msv mb mf mr mt mn ml mat_u17 (1 : Int32) mm mh) H → va_S A s.heap H locs → k61 u3_17 mat_u17 = some (r, mat', mw') → W p l e ⟨1, 0, 0, 22⟩ s m args below meth c_ H locs 0 0 Q (F0 m 128 ls [])) → W p l e ⟨1, 0, 0, 22⟩ s m args below meth c_ H locs 0 0 Q (F0 m 61 ls []) := by
        intro n61
        induction n61 with
        | zero =>
          intro k61 v3_17 mat_17 H locs ls hl hP hS hs hk61
          rw [fX9_number_61a] at hs
          cases hs
        | succ n61 ih61 =>
          intro k61 v3_17 mat_17 H locs ls hl hP hS hs hk61
          rw [fX9_number_61a] at hs
          have hD : va_D A (MW bd cI ms msv mb mf mr mt mn ml mat_17 (1 : Int32) mm mh) := nd_DD hD rfl
          refine lv_aload_n hx hb dX9_number_61 rfl (lv_at hl 0 rfl) ?_
          refine gf_X9_92 hx hb hts hown hK hP 0 rfl rfl dX9_number_62 ?_
          refine lv_if_eq (tgt := 128) hx hb dX9_number_65 (by decide) (fun h => absurd h (by decide)) (fun _ => ?_)
          refine lv_iload_n hx hb dX9_number_68 rfl (lv_at hl 2 rfl) ?_
          refine lv_if_le (tgt := 128) hx hb dX9_number_69 (by decide) (fun b18 => ?_) (fun b18 => ?_)
          · have hs := ite_t hs b18
            exact hk61 v3_17 mat_17 _ _ _ (lv_sub hl [2] rfl) hP hS hs
          · have hs := ite_f hs b18
            refine lv_aload_n hx hb dX9_number_72 rfl (lv_at hl 0 rfl) ?_
            obtain ⟨q19, eq19, hs⟩ := ob hs
            refine nd_callV (As := []) (rest := []) (st1 := [.int q19]) hx hb hml hown hts hl hP hK hD hS hA hN (mX9_sign eq19) iv_X9_sign wd_291 0 rfl rfl rfl rfl ⟨Nat.le_of_ble_eq_true rfl, Nat.le_of_ble_eq_true rfl⟩ (Nat.le_of_ble_eq_true rfl) ⟨Nat.zero_le _, Nat.zero_le _⟩ dX9_number_73 rfl rfl (fun H locs hP hD hS => ?_)
            refine lv_bipush (v := (48 : Int32)) hx hb dX9_number_76 (by decide) ?_
            refine lv_bipush (v := (57 : Int32)) hx hb dX9_number_78 (by decide) ?_
            obtain ⟨q20, eq20, hs⟩ := ob hs
            refine nd_callS (As := [.int q19, .int (48 : Int32), .int (57 : Int32)]) (rest := []) (st1 := [.int q20]) hx hb hml hown hts hl hP hK hD hS hA hN (mX9_in eq20) is_X9_in wd_127 rfl rfl ⟨Nat.le_of_ble_eq_true rfl, Nat.le_of_ble_eq_true rfl⟩ (Nat.le_of_ble_eq_true rfl) ⟨Nat.zero_le _, Nat.zero_le _⟩ dX9_number_80 rfl rfl (fun H locs hP hD hS => ?_)
            refine lv_if_eq (tgt := 128) hx hb dX9_number_83 (by decide) (fun b21 => ?_) (fun b21 => ?_)
            · have hs := ite_t hs b21
              exact hk61 v3_17 mat_17 _ _ _ (lv_sub hl [2] rfl) hP hS hs
            · have hs := ite_f hs b21
              refine lv_bipush (v := (10 : Int32)) hx hb dX9_number_86 (by decide) ?_
              refine lv_iload_n hx hb dX9_number_88 rfl (lv_at hl 2 rfl) ?_
              refine lv_imul hx hb dX9_number_89 ?_
              refine lv_aload_n hx hb dX9_number_90 rfl (lv_at hl 0 rfl) ?_
              obtain ⟨q22, eq22, hs⟩ := ob hs
              refine nd_callV (As := []) (rest := [.int ((10 : Int32) * v3_17)]) (st1 := [.int q22, .int ((10 : Int32) * v3_17)]) hx hb hml hown hts hl hP hK hD hS hA hN (mX9_sign eq22) iv_X9_sign wd_291 0 rfl rfl rfl rfl ⟨Nat.le_of_ble_eq_true rfl, Nat.le_of_ble_eq_true rfl⟩ (Nat.le_of_ble_eq_true rfl) ⟨Nat.zero_le _, Nat.zero_le _⟩ dX9_number_91 rfl rfl (fun H locs hP hD hS => ?_)
              refine lv_iadd hx hb dX9_number_94 ?_
              refine lv_bipush (v := (48 : Int32)) hx hb dX9_number_95 (by decide) ?_
              refine lv_isub hx hb dX9_number_97 ?_
              refine lv_iload_n hx hb dX9_number_98 rfl (lv_at hl 1 rfl) ?_
              refine lv_icmp_gt (tgt := 128) hx hb dX9_number_99 (by decide) (fun b23 => ?_) (fun b23 => ?_)
              · have hs := ite_t hs b23
                exact hk61 v3_17 mat_17 _ _ _ (lv_sub hl [2] rfl) hP hS hs
              · have hs := ite_f hs b23
                refine lv_bipush (v := (10 : Int32)) hx hb dX9_number_102 (by decide) ?_
                refine lv_iload_n hx hb dX9_number_104 rfl (lv_at hl 2 rfl) ?_
                refine lv_imul hx hb dX9_number_105 ?_
                refine lv_aload_n hx hb dX9_number_106 rfl (lv_at hl 0 rfl) ?_
                obtain ⟨q24, eq24, hs⟩ := ob hs
                refine nd_callV (As := []) (rest := [.int ((10 : Int32) * v3_17)]) (st1 := [.int q24, .int ((10 : Int32) * v3_17)]) hx hb hml hown hts hl hP hK hD hS hA hN (mX9_sign eq24) iv_X9_sign wd_291 0 rfl rfl rfl rfl ⟨Nat.le_of_ble_eq_true rfl, Nat.le_of_ble_eq_true rfl⟩ (Nat.le_of_ble_eq_true rfl) ⟨Nat.zero_le _, Nat.zero_le _⟩ dX9_number_107 rfl rfl (fun H locs hP hD hS => ?_)
                refine lv_iadd hx hb dX9_number_110 ?_
                refine lv_bipush (v := (48 : Int32)) hx hb dX9_number_111 (by decide) ?_
                refine lv_isub hx hb dX9_number_113 ?_
                refine lv_istore_n (lv' := [(3, .int ((((10 : Int32) * v3_17) + q24) - (48 : Int32))), (0, .ref (bd 0)), (2, .int x2)]) hx hb dX9_number_114 rfl hl (by decide) rfl (fun ls hl => ?_)
                refine lv_aload_n hx hb dX9_number_115 rfl (lv_at hl 1 rfl) ?_
                refine lv_dup hx hb dX9_number_116 rfl ?_
                refine gf_X9_134 hx hb hts hown hK hP 0 rfl rfl dX9_number_117 ?_
                refine lv_iconst (v := (1 : Int32)) hx hb dX9_number_120 (by decide) ?_
                refine lv_iadd hx hb dX9_number_121 ?_
                refine pf_X9_134 hx hb hts hown hK hP hD hS 0 rfl rfl dX9_number_122 (fun H locs hP hD hS => ?_)
                have hP : va_P D vwCl (MW bd cI ms msv mb mf mr mt mn ml (mat_17 + (1 : Int32)) (1 : Int32) mm mh) H := hP
                have hD : va_D A (MW bd cI ms msv mb mf mr mt mn ml (mat_17 + (1 : Int32)) (1 : Int32) mm mh) := hD
                refine lv_goto (tgt := 61) hx hb dX9_number_125 (by decide) ?_
                exact ih61 k61 ((((10 : Int32) * v3_17) + q24) - (48 : Int32)) (mat_17 + (1 : Int32)) _ _ _ (lv_sub hl [1, 2, 0] rfl) hP hS hs hk61
      refine L61 LF _ (q9 - (48 : Int32)) (mat + (1 : Int32)) _ _ _ (lv_sub hl [1, 3, 0] rfl) hP hS hs (fun u3_17 mat_u17 H locs ls hl hP hS hs => ?_)
      have hD : va_D A (MW bd cI ms msv mb mf mr mt mn ml mat_u17 (1 : Int32) mm mh) := nd_DD hD rfl
      refine lv_iload_n hx hb dX9_number_128 rfl (lv_at hl 0 rfl) ?_
      exact hret _ _ _ hs hP hS dX9_number_129
def tX9_takes_0 : List (Nat × Instr × Nat) := [(0, .aload_n 0, 1), (1, .getfield 92, 3), (4, .ifCond .eq 15, 3), (7, .aload_n 0, 1), (8, .invokevirtual 137, 3), (11, .iload_n 1, 1), (12, .if_icmp .ne 7, 3), (15, .iconst 1, 1), (16, .goto 4, 3), (19, .iconst 0, 1), (20, .istore_n 2, 1), (21, .aload_n 0, 1), (22, .dup, 1), (23, .getfield 134, 3), (26, .iload_n 2, 1), (27, .ifCond .eq 7, 3), (30, .iconst 1, 1), (31, .goto 4, 3), (34, .iconst 0, 1), (35, .iadd, 1), (36, .putfield 134, 3), (39, .iload_n 2, 1), (40, .ireturn, 1)]
theorem tX9_takes_0_ok : tX9_takes_0.all (fun q => decide (decode cX9_takes q.1 = .ok q.2)) = true := by decide +kernel
theorem dX9_takes_0 : decode cX9_takes 0 = .ok (.aload_n 0, 1) := td tX9_takes_0_ok 0 (q := (0, .aload_n 0, 1)) rfl
theorem dX9_takes_1 : decode cX9_takes 1 = .ok (.getfield 92, 3) := td tX9_takes_0_ok 1 (q := (1, .getfield 92, 3)) rfl
theorem dX9_takes_4 : decode cX9_takes 4 = .ok (.ifCond .eq 15, 3) := td tX9_takes_0_ok 2 (q := (4, .ifCond .eq 15, 3)) rfl
theorem dX9_takes_7 : decode cX9_takes 7 = .ok (.aload_n 0, 1) := td tX9_takes_0_ok 3 (q := (7, .aload_n 0, 1)) rfl
theorem dX9_takes_8 : decode cX9_takes 8 = .ok (.invokevirtual 137, 3) := td tX9_takes_0_ok 4 (q := (8, .invokevirtual 137, 3)) rfl
theorem dX9_takes_11 : decode cX9_takes 11 = .ok (.iload_n 1, 1) := td tX9_takes_0_ok 5 (q := (11, .iload_n 1, 1)) rfl
theorem dX9_takes_12 : decode cX9_takes 12 = .ok (.if_icmp .ne 7, 3) := td tX9_takes_0_ok 6 (q := (12, .if_icmp .ne 7, 3)) rfl
theorem dX9_takes_15 : decode cX9_takes 15 = .ok (.iconst 1, 1) := td tX9_takes_0_ok 7 (q := (15, .iconst 1, 1)) rfl
theorem dX9_takes_16 : decode cX9_takes 16 = .ok (.goto 4, 3) := td tX9_takes_0_ok 8 (q := (16, .goto 4, 3)) rfl
theorem dX9_takes_19 : decode cX9_takes 19 = .ok (.iconst 0, 1) := td tX9_takes_0_ok 9 (q := (19, .iconst 0, 1)) rfl
theorem dX9_takes_20 : decode cX9_takes 20 = .ok (.istore_n 2, 1) := td tX9_takes_0_ok 10 (q := (20, .istore_n 2, 1)) rfl
theorem dX9_takes_21 : decode cX9_takes 21 = .ok (.aload_n 0, 1) := td tX9_takes_0_ok 11 (q := (21, .aload_n 0, 1)) rfl
theorem dX9_takes_22 : decode cX9_takes 22 = .ok (.dup, 1) := td tX9_takes_0_ok 12 (q := (22, .dup, 1)) rfl
theorem dX9_takes_23 : decode cX9_takes 23 = .ok (.getfield 134, 3) := td tX9_takes_0_ok 13 (q := (23, .getfield 134, 3)) rfl
theorem dX9_takes_26 : decode cX9_takes 26 = .ok (.iload_n 2, 1) := td tX9_takes_0_ok 14 (q := (26, .iload_n 2, 1)) rfl
theorem dX9_takes_27 : decode cX9_takes 27 = .ok (.ifCond .eq 7, 3) := td tX9_takes_0_ok 15 (q := (27, .ifCond .eq 7, 3)) rfl
theorem dX9_takes_30 : decode cX9_takes 30 = .ok (.iconst 1, 1) := td tX9_takes_0_ok 16 (q := (30, .iconst 1, 1)) rfl
theorem dX9_takes_31 : decode cX9_takes 31 = .ok (.goto 4, 3) := td tX9_takes_0_ok 17 (q := (31, .goto 4, 3)) rfl
theorem dX9_takes_34 : decode cX9_takes 34 = .ok (.iconst 0, 1) := td tX9_takes_0_ok 18 (q := (34, .iconst 0, 1)) rfl
theorem dX9_takes_35 : decode cX9_takes 35 = .ok (.iadd, 1) := td tX9_takes_0_ok 19 (q := (35, .iadd, 1)) rfl
theorem dX9_takes_36 : decode cX9_takes 36 = .ok (.putfield 134, 3) := td tX9_takes_0_ok 20 (q := (36, .putfield 134, 3)) rfl
theorem dX9_takes_39 : decode cX9_takes 39 = .ok (.iload_n 2, 1) := td tX9_takes_0_ok 21 (q := (39, .iload_n 2, 1)) rfl
theorem dX9_takes_40 : decode cX9_takes 40 = .ok (.ireturn, 1) := td tX9_takes_0_ok 22 (q := (40, .ireturn, 1)) rfl
def fX9_takes (mb : (Nat → Int32)) (ml : Int32) (mat : Int32) (mw : Int32) (x1 : Int32) : Option (Int32 × Int32) :=
  (if mw = 0 then (some ((0 : Int32), mat + (0 : Int32))) else (Option.bind (fX9_sign mb ml mat) (fun q2 => (if q2 = x1 then (some ((1 : Int32), mat + (1 : Int32))) else (some ((0 : Int32), mat + (0 : Int32)))))))
set_option maxHeartbeats 4000000 in
set_option maxRecDepth 100000 in
theorem mX9_takes {l : Launch} {D : va_G} {bd : Nat → Nat} {cI : ClassId} {ms : (Nat → Int32)} {msv : (Nat → Int32)} {mb : (Nat → Int32)} {mf : (Nat → Int32)} {mr : (Nat → Int32)} {mt : Int32} {mn : Int32} {ml : Int32} {mat : Int32} {mw : Int32} {mm : Int32} {mh : Int64} {x1 : Int32} {r : Int32} {mat' : Int32} (hs : fX9_takes mb ml mat mw x1 = some (r, mat')) : nd_C l yX9_takes cX9_takes 3 (some .boolean) 1 20 D [(cI, .int)] [.ref (bd 0), .int x1] (MW bd cI ms msv mb mf mr mt mn ml mat mw mm mh) (MW bd cI ms msv mb mf mr mt mn ml mat' mw mm mh) (some (.int r)) := by
  refine nd_ofCz (by decide) (Nat.le_of_ble_eq_true rfl) (fun p e s m args below meth c_ ls A Q hx hb hml hown hts hl hP hK hD hS hA hN hret => ?_)
  have hown : s.vm.findClass RX9 = some m.cls := hown
  have hl : lv_has ls 3 [(0, .ref (bd 0)), (1, .int x1)] := hl
  have hret : ∀ (z0 : Int32) (z1 : Int32) {H : Heap} {locs : List Loc} {pc : Nat} {ls : Array Slot}, some (z0, z1) = some (r, mat') → (z0 = 0 ∨ z0 = 1) → va_P D vwCl (MW bd cI ms msv mb mf mr mt mn ml z1 mw mm mh) H → va_S A s.heap H locs → decode cX9_takes pc = .ok (.ireturn, 1) → W p l e ⟨1, 0, 0, 20⟩ s m args below meth c_ H locs 0 0 Q (F0 m pc ls [.int z0]) := by
    intro z0 z1 H locs pc ls h hz hP hS hd
    cases h
    exact hret hz hP hS hd
  rw [fX9_takes] at hs
  refine lv_aload_n hx hb dX9_takes_0 rfl (lv_at hl 0 rfl) ?_
  refine gf_X9_92 hx hb hts hown hK hP 0 rfl rfl dX9_takes_1 ?_
  refine lv_if_eq (tgt := 19) hx hb dX9_takes_4 (by decide) (fun b1 => ?_) (fun b1 => ?_)
  · have hs := ite_t hs b1
    refine lv_iconst (v := (0 : Int32)) hx hb dX9_takes_19 (by decide) ?_
    refine lv_istore_n (lv' := [(2, .int (0 : Int32)), (0, .ref (bd 0)), (1, .int x1)]) hx hb dX9_takes_20 rfl hl (by decide) rfl (fun ls hl => ?_)
    refine lv_aload_n hx hb dX9_takes_21 rfl (lv_at hl 1 rfl) ?_
    refine lv_dup hx hb dX9_takes_22 rfl ?_
    refine gf_X9_134 hx hb hts hown hK hP 0 rfl rfl dX9_takes_23 ?_
    refine lv_iload_n hx hb dX9_takes_26 rfl (lv_at hl 0 rfl) ?_
    refine lv_if_eq (tgt := 34) hx hb dX9_takes_27 (by decide) (fun _ => ?_) (fun h => absurd (by decide) h)
    refine lv_iconst (v := (0 : Int32)) hx hb dX9_takes_34 (by decide) ?_
    refine lv_iadd hx hb dX9_takes_35 ?_
    refine pf_X9_134 hx hb hts hown hK hP hD hS 0 rfl rfl dX9_takes_36 (fun H locs hP hD hS => ?_)
    have hP : va_P D vwCl (MW bd cI ms msv mb mf mr mt mn ml (mat + (0 : Int32)) mw mm mh) H := hP
    have hD : va_D A (MW bd cI ms msv mb mf mr mt mn ml (mat + (0 : Int32)) mw mm mh) := hD
    refine lv_iload_n hx hb dX9_takes_39 rfl (lv_at hl 0 rfl) ?_
    exact hret _ _ hs (Or.inl rfl) hP hS dX9_takes_40
  · have hs := ite_f hs b1
    refine lv_aload_n hx hb dX9_takes_7 rfl (lv_at hl 0 rfl) ?_
    obtain ⟨q2, eq2, hs⟩ := ob hs
    refine nd_callV (As := []) (rest := []) (st1 := [.int q2]) hx hb hml hown hts hl hP hK hD hS hA hN (mX9_sign eq2) iv_X9_sign wd_291 0 rfl rfl rfl rfl ⟨Nat.le_of_ble_eq_true rfl, Nat.le_of_ble_eq_true rfl⟩ (Nat.le_of_ble_eq_true rfl) ⟨Nat.zero_le _, Nat.zero_le _⟩ dX9_takes_8 rfl rfl (fun H locs hP hD hS => ?_)
    refine lv_iload_n hx hb dX9_takes_11 rfl (lv_at hl 1 rfl) ?_
    refine lv_icmp_ne (tgt := 19) hx hb dX9_takes_12 (by decide) (fun b3 => ?_) (fun b3 => ?_)
    · have hs := ite_f hs b3
      refine lv_iconst (v := (0 : Int32)) hx hb dX9_takes_19 (by decide) ?_
      refine lv_istore_n (lv' := [(2, .int (0 : Int32)), (0, .ref (bd 0)), (1, .int x1)]) hx hb dX9_takes_20 rfl hl (by decide) rfl (fun ls hl => ?_)
      refine lv_aload_n hx hb dX9_takes_21 rfl (lv_at hl 1 rfl) ?_
      refine lv_dup hx hb dX9_takes_22 rfl ?_
      refine gf_X9_134 hx hb hts hown hK hP 0 rfl rfl dX9_takes_23 ?_
      refine lv_iload_n hx hb dX9_takes_26 rfl (lv_at hl 0 rfl) ?_
      refine lv_if_eq (tgt := 34) hx hb dX9_takes_27 (by decide) (fun _ => ?_) (fun h => absurd (by decide) h)
      refine lv_iconst (v := (0 : Int32)) hx hb dX9_takes_34 (by decide) ?_
      refine lv_iadd hx hb dX9_takes_35 ?_
      refine pf_X9_134 hx hb hts hown hK hP hD hS 0 rfl rfl dX9_takes_36 (fun H locs hP hD hS => ?_)
      have hP : va_P D vwCl (MW bd cI ms msv mb mf mr mt mn ml (mat + (0 : Int32)) mw mm mh) H := hP
      have hD : va_D A (MW bd cI ms msv mb mf mr mt mn ml (mat + (0 : Int32)) mw mm mh) := hD
      refine lv_iload_n hx hb dX9_takes_39 rfl (lv_at hl 0 rfl) ?_
      exact hret _ _ hs (Or.inl rfl) hP hS dX9_takes_40
    · have hs := ite_t hs b3
      refine lv_iconst (v := (1 : Int32)) hx hb dX9_takes_15 (by decide) ?_
      refine lv_goto (tgt := 20) hx hb dX9_takes_16 (by decide) ?_
      refine lv_istore_n (lv' := [(2, .int (1 : Int32)), (0, .ref (bd 0)), (1, .int x1)]) hx hb dX9_takes_20 rfl hl (by decide) rfl (fun ls hl => ?_)
      refine lv_aload_n hx hb dX9_takes_21 rfl (lv_at hl 1 rfl) ?_
      refine lv_dup hx hb dX9_takes_22 rfl ?_
      refine gf_X9_134 hx hb hts hown hK hP 0 rfl rfl dX9_takes_23 ?_
      refine lv_iload_n hx hb dX9_takes_26 rfl (lv_at hl 0 rfl) ?_
      refine lv_if_eq (tgt := 34) hx hb dX9_takes_27 (by decide) (fun h => absurd h (by decide)) (fun _ => ?_)
      refine lv_iconst (v := (1 : Int32)) hx hb dX9_takes_30 (by decide) ?_
      refine lv_goto (tgt := 35) hx hb dX9_takes_31 (by decide) ?_
      refine lv_iadd hx hb dX9_takes_35 ?_
      refine pf_X9_134 hx hb hts hown hK hP hD hS 0 rfl rfl dX9_takes_36 (fun H locs hP hD hS => ?_)
      have hP : va_P D vwCl (MW bd cI ms msv mb mf mr mt mn ml (mat + (1 : Int32)) mw mm mh) H := hP
      have hD : va_D A (MW bd cI ms msv mb mf mr mt mn ml (mat + (1 : Int32)) mw mm mh) := hD
      refine lv_iload_n hx hb dX9_takes_39 rfl (lv_at hl 0 rfl) ?_
      exact hret _ _ hs (Or.inr rfl) hP hS dX9_takes_40
def tX9_readsReceipt_0 : List (Nat × Instr × Nat) := [(0, .bipush 8, 2), (2, .aload_n 0, 1), (3, .getfield 99, 3), (6, .imul, 1), (7, .istore_n 1, 1), (8, .iconst 0, 1), (9, .istore_n 2, 1), (10, .iload_n 2, 1), (11, .bipush 8, 2), (13, .if_icmp .ge 18, 3), (16, .aload_n 0, 1), (17, .getfield 22, 3), (20, .iload_n 1, 1), (21, .iload_n 2, 1), (22, .iadd, 1), (23, .iconst 0, 1), (24, .iastore, 1), (25, .iinc 2 1, 3), (28, .goto (-18), 3), (31, .aload_n 0, 1), (32, .getfield 22, 3), (35, .iload_n 1, 1), (36, .iconst 0, 1), (37, .iadd, 1), (38, .aload_n 0, 1), (39, .iconst 0, 1), (40, .sipush 9999, 3), (43, .invokevirtual 140, 3), (46, .iastore, 1), (47, .aload_n 0, 1), (48, .aload_n 0, 1), (49, .bipush 64, 2), (51, .invokevirtual 143, 3), (54, .putfield 92, 3), (57, .aload_n 0, 1), (58, .getfield 22, 3), (61, .iload_n 1, 1), (62, .iconst 1, 1), (63, .iadd, 1), (64, .aload_n 0, 1), (65, .iconst 0, 1), (66, .bipush 9, 2), (68, .invokevirtual 140, 3), (71, .iastore, 1), (72, .aload_n 0, 1), (73, .aload_n 0, 1), (74, .bipush 58, 2), (76, .invokevirtual 143, 3), (79, .putfield 92, 3), (82, .aload_n 0, 1), (83, .getfield 22, 3), (86, .iload_n 1, 1), (87, .iconst 3, 1), (88, .iadd, 1), (89, .aload_n 0, 1), (90, .iconst 1, 1), (91, .sipush 999, 3), (94, .invokevirtual 140, 3), (97, .iastore, 1), (98, .iconst 1, 1)]
theorem tX9_readsReceipt_0_ok : tX9_readsReceipt_0.all (fun q => decide (decode cX9_readsReceipt q.1 = .ok q.2)) = true := by decide +kernel
theorem dX9_readsReceipt_0 : decode cX9_readsReceipt 0 = .ok (.bipush 8, 2) := td tX9_readsReceipt_0_ok 0 (q := (0, .bipush 8, 2)) rfl
theorem dX9_readsReceipt_2 : decode cX9_readsReceipt 2 = .ok (.aload_n 0, 1) := td tX9_readsReceipt_0_ok 1 (q := (2, .aload_n 0, 1)) rfl
theorem dX9_readsReceipt_3 : decode cX9_readsReceipt 3 = .ok (.getfield 99, 3) := td tX9_readsReceipt_0_ok 2 (q := (3, .getfield 99, 3)) rfl
theorem dX9_readsReceipt_6 : decode cX9_readsReceipt 6 = .ok (.imul, 1) := td tX9_readsReceipt_0_ok 3 (q := (6, .imul, 1)) rfl
theorem dX9_readsReceipt_7 : decode cX9_readsReceipt 7 = .ok (.istore_n 1, 1) := td tX9_readsReceipt_0_ok 4 (q := (7, .istore_n 1, 1)) rfl
theorem dX9_readsReceipt_8 : decode cX9_readsReceipt 8 = .ok (.iconst 0, 1) := td tX9_readsReceipt_0_ok 5 (q := (8, .iconst 0, 1)) rfl
theorem dX9_readsReceipt_9 : decode cX9_readsReceipt 9 = .ok (.istore_n 2, 1) := td tX9_readsReceipt_0_ok 6 (q := (9, .istore_n 2, 1)) rfl
theorem dX9_readsReceipt_10 : decode cX9_readsReceipt 10 = .ok (.iload_n 2, 1) := td tX9_readsReceipt_0_ok 7 (q := (10, .iload_n 2, 1)) rfl
theorem dX9_readsReceipt_11 : decode cX9_readsReceipt 11 = .ok (.bipush 8, 2) := td tX9_readsReceipt_0_ok 8 (q := (11, .bipush 8, 2)) rfl
theorem dX9_readsReceipt_13 : decode cX9_readsReceipt 13 = .ok (.if_icmp .ge 18, 3) := td tX9_readsReceipt_0_ok 9 (q := (13, .if_icmp .ge 18, 3)) rfl
theorem dX9_readsReceipt_16 : decode cX9_readsReceipt 16 = .ok (.aload_n 0, 1) := td tX9_readsReceipt_0_ok 10 (q := (16, .aload_n 0, 1)) rfl
theorem dX9_readsReceipt_17 : decode cX9_readsReceipt 17 = .ok (.getfield 22, 3) := td tX9_readsReceipt_0_ok 11 (q := (17, .getfield 22, 3)) rfl
theorem dX9_readsReceipt_20 : decode cX9_readsReceipt 20 = .ok (.iload_n 1, 1) := td tX9_readsReceipt_0_ok 12 (q := (20, .iload_n 1, 1)) rfl
theorem dX9_readsReceipt_21 : decode cX9_readsReceipt 21 = .ok (.iload_n 2, 1) := td tX9_readsReceipt_0_ok 13 (q := (21, .iload_n 2, 1)) rfl
theorem dX9_readsReceipt_22 : decode cX9_readsReceipt 22 = .ok (.iadd, 1) := td tX9_readsReceipt_0_ok 14 (q := (22, .iadd, 1)) rfl
theorem dX9_readsReceipt_23 : decode cX9_readsReceipt 23 = .ok (.iconst 0, 1) := td tX9_readsReceipt_0_ok 15 (q := (23, .iconst 0, 1)) rfl
theorem dX9_readsReceipt_24 : decode cX9_readsReceipt 24 = .ok (.iastore, 1) := td tX9_readsReceipt_0_ok 16 (q := (24, .iastore, 1)) rfl
theorem dX9_readsReceipt_25 : decode cX9_readsReceipt 25 = .ok (.iinc 2 1, 3) := td tX9_readsReceipt_0_ok 17 (q := (25, .iinc 2 1, 3)) rfl
theorem dX9_readsReceipt_28 : decode cX9_readsReceipt 28 = .ok (.goto (-18), 3) := td tX9_readsReceipt_0_ok 18 (q := (28, .goto (-18), 3)) rfl
theorem dX9_readsReceipt_31 : decode cX9_readsReceipt 31 = .ok (.aload_n 0, 1) := td tX9_readsReceipt_0_ok 19 (q := (31, .aload_n 0, 1)) rfl
theorem dX9_readsReceipt_32 : decode cX9_readsReceipt 32 = .ok (.getfield 22, 3) := td tX9_readsReceipt_0_ok 20 (q := (32, .getfield 22, 3)) rfl
theorem dX9_readsReceipt_35 : decode cX9_readsReceipt 35 = .ok (.iload_n 1, 1) := td tX9_readsReceipt_0_ok 21 (q := (35, .iload_n 1, 1)) rfl
theorem dX9_readsReceipt_36 : decode cX9_readsReceipt 36 = .ok (.iconst 0, 1) := td tX9_readsReceipt_0_ok 22 (q := (36, .iconst 0, 1)) rfl
theorem dX9_readsReceipt_37 : decode cX9_readsReceipt 37 = .ok (.iadd, 1) := td tX9_readsReceipt_0_ok 23 (q := (37, .iadd, 1)) rfl
theorem dX9_readsReceipt_38 : decode cX9_readsReceipt 38 = .ok (.aload_n 0, 1) := td tX9_readsReceipt_0_ok 24 (q := (38, .aload_n 0, 1)) rfl
theorem dX9_readsReceipt_39 : decode cX9_readsReceipt 39 = .ok (.iconst 0, 1) := td tX9_readsReceipt_0_ok 25 (q := (39, .iconst 0, 1)) rfl
theorem dX9_readsReceipt_40 : decode cX9_readsReceipt 40 = .ok (.sipush 9999, 3) := td tX9_readsReceipt_0_ok 26 (q := (40, .sipush 9999, 3)) rfl
theorem dX9_readsReceipt_43 : decode cX9_readsReceipt 43 = .ok (.invokevirtual 140, 3) := td tX9_readsReceipt_0_ok 27 (q := (43, .invokevirtual 140, 3)) rfl
theorem dX9_readsReceipt_46 : decode cX9_readsReceipt 46 = .ok (.iastore, 1) := td tX9_readsReceipt_0_ok 28 (q := (46, .iastore, 1)) rfl
theorem dX9_readsReceipt_47 : decode cX9_readsReceipt 47 = .ok (.aload_n 0, 1) := td tX9_readsReceipt_0_ok 29 (q := (47, .aload_n 0, 1)) rfl
theorem dX9_readsReceipt_48 : decode cX9_readsReceipt 48 = .ok (.aload_n 0, 1) := td tX9_readsReceipt_0_ok 30 (q := (48, .aload_n 0, 1)) rfl
theorem dX9_readsReceipt_49 : decode cX9_readsReceipt 49 = .ok (.bipush 64, 2) := td tX9_readsReceipt_0_ok 31 (q := (49, .bipush 64, 2)) rfl
theorem dX9_readsReceipt_51 : decode cX9_readsReceipt 51 = .ok (.invokevirtual 143, 3) := td tX9_readsReceipt_0_ok 32 (q := (51, .invokevirtual 143, 3)) rfl
theorem dX9_readsReceipt_54 : decode cX9_readsReceipt 54 = .ok (.putfield 92, 3) := td tX9_readsReceipt_0_ok 33 (q := (54, .putfield 92, 3)) rfl
theorem dX9_readsReceipt_57 : decode cX9_readsReceipt 57 = .ok (.aload_n 0, 1) := td tX9_readsReceipt_0_ok 34 (q := (57, .aload_n 0, 1)) rfl
theorem dX9_readsReceipt_58 : decode cX9_readsReceipt 58 = .ok (.getfield 22, 3) := td tX9_readsReceipt_0_ok 35 (q := (58, .getfield 22, 3)) rfl
theorem dX9_readsReceipt_61 : decode cX9_readsReceipt 61 = .ok (.iload_n 1, 1) := td tX9_readsReceipt_0_ok 36 (q := (61, .iload_n 1, 1)) rfl
theorem dX9_readsReceipt_62 : decode cX9_readsReceipt 62 = .ok (.iconst 1, 1) := td tX9_readsReceipt_0_ok 37 (q := (62, .iconst 1, 1)) rfl
theorem dX9_readsReceipt_63 : decode cX9_readsReceipt 63 = .ok (.iadd, 1) := td tX9_readsReceipt_0_ok 38 (q := (63, .iadd, 1)) rfl
theorem dX9_readsReceipt_64 : decode cX9_readsReceipt 64 = .ok (.aload_n 0, 1) := td tX9_readsReceipt_0_ok 39 (q := (64, .aload_n 0, 1)) rfl
theorem dX9_readsReceipt_65 : decode cX9_readsReceipt 65 = .ok (.iconst 0, 1) := td tX9_readsReceipt_0_ok 40 (q := (65, .iconst 0, 1)) rfl
theorem dX9_readsReceipt_66 : decode cX9_readsReceipt 66 = .ok (.bipush 9, 2) := td tX9_readsReceipt_0_ok 41 (q := (66, .bipush 9, 2)) rfl
theorem dX9_readsReceipt_68 : decode cX9_readsReceipt 68 = .ok (.invokevirtual 140, 3) := td tX9_readsReceipt_0_ok 42 (q := (68, .invokevirtual 140, 3)) rfl
theorem dX9_readsReceipt_71 : decode cX9_readsReceipt 71 = .ok (.iastore, 1) := td tX9_readsReceipt_0_ok 43 (q := (71, .iastore, 1)) rfl
theorem dX9_readsReceipt_72 : decode cX9_readsReceipt 72 = .ok (.aload_n 0, 1) := td tX9_readsReceipt_0_ok 44 (q := (72, .aload_n 0, 1)) rfl
theorem dX9_readsReceipt_73 : decode cX9_readsReceipt 73 = .ok (.aload_n 0, 1) := td tX9_readsReceipt_0_ok 45 (q := (73, .aload_n 0, 1)) rfl
theorem dX9_readsReceipt_74 : decode cX9_readsReceipt 74 = .ok (.bipush 58, 2) := td tX9_readsReceipt_0_ok 46 (q := (74, .bipush 58, 2)) rfl
theorem dX9_readsReceipt_76 : decode cX9_readsReceipt 76 = .ok (.invokevirtual 143, 3) := td tX9_readsReceipt_0_ok 47 (q := (76, .invokevirtual 143, 3)) rfl
theorem dX9_readsReceipt_79 : decode cX9_readsReceipt 79 = .ok (.putfield 92, 3) := td tX9_readsReceipt_0_ok 48 (q := (79, .putfield 92, 3)) rfl
theorem dX9_readsReceipt_82 : decode cX9_readsReceipt 82 = .ok (.aload_n 0, 1) := td tX9_readsReceipt_0_ok 49 (q := (82, .aload_n 0, 1)) rfl
theorem dX9_readsReceipt_83 : decode cX9_readsReceipt 83 = .ok (.getfield 22, 3) := td tX9_readsReceipt_0_ok 50 (q := (83, .getfield 22, 3)) rfl
theorem dX9_readsReceipt_86 : decode cX9_readsReceipt 86 = .ok (.iload_n 1, 1) := td tX9_readsReceipt_0_ok 51 (q := (86, .iload_n 1, 1)) rfl
theorem dX9_readsReceipt_87 : decode cX9_readsReceipt 87 = .ok (.iconst 3, 1) := td tX9_readsReceipt_0_ok 52 (q := (87, .iconst 3, 1)) rfl
theorem dX9_readsReceipt_88 : decode cX9_readsReceipt 88 = .ok (.iadd, 1) := td tX9_readsReceipt_0_ok 53 (q := (88, .iadd, 1)) rfl
theorem dX9_readsReceipt_89 : decode cX9_readsReceipt 89 = .ok (.aload_n 0, 1) := td tX9_readsReceipt_0_ok 54 (q := (89, .aload_n 0, 1)) rfl
theorem dX9_readsReceipt_90 : decode cX9_readsReceipt 90 = .ok (.iconst 1, 1) := td tX9_readsReceipt_0_ok 55 (q := (90, .iconst 1, 1)) rfl
theorem dX9_readsReceipt_91 : decode cX9_readsReceipt 91 = .ok (.sipush 999, 3) := td tX9_readsReceipt_0_ok 56 (q := (91, .sipush 999, 3)) rfl
theorem dX9_readsReceipt_94 : decode cX9_readsReceipt 94 = .ok (.invokevirtual 140, 3) := td tX9_readsReceipt_0_ok 57 (q := (94, .invokevirtual 140, 3)) rfl
theorem dX9_readsReceipt_97 : decode cX9_readsReceipt 97 = .ok (.iastore, 1) := td tX9_readsReceipt_0_ok 58 (q := (97, .iastore, 1)) rfl
theorem dX9_readsReceipt_98 : decode cX9_readsReceipt 98 = .ok (.iconst 1, 1) := td tX9_readsReceipt_0_ok 59 (q := (98, .iconst 1, 1)) rfl
def tX9_readsReceipt_1 : List (Nat × Instr × Nat) := [(99, .istore_n 2, 1), (100, .iload_n 2, 1), (101, .iconst 4, 1), (102, .if_icmp .ge 36, 3), (105, .aload_n 0, 1), (106, .bipush 43, 2), (108, .invokevirtual 143, 3), (111, .ifCond .eq 27, 3), (114, .aload_n 0, 1), (115, .getfield 22, 3), (118, .iload_n 1, 1), (119, .iconst 3, 1), (120, .iadd, 1), (121, .iload_n 2, 1), (122, .iadd, 1), (123, .aload_n 0, 1), (124, .iconst 1, 1), (125, .sipush 999, 3), (128, .invokevirtual 140, 3), (131, .iastore, 1), (132, .iinc 2 1, 3), (135, .goto (-35), 3), (138, .aload_n 0, 1), (139, .getfield 22, 3), (142, .iload_n 1, 1), (143, .iconst 2, 1), (144, .iadd, 1), (145, .iload_n 2, 1), (146, .iastore, 1), (147, .aload_n 0, 1), (148, .aload_n 0, 1), (149, .bipush 61, 2), (151, .invokevirtual 143, 3), (154, .putfield 92, 3), (157, .aload_n 0, 1), (158, .getfield 22, 3), (161, .iload_n 1, 1), (162, .bipush 7, 2), (164, .iadd, 1), (165, .aload_n 0, 1), (166, .iconst 0, 1), (167, .sipush 9999, 3), (170, .invokevirtual 140, 3), (173, .iastore, 1), (174, .aload_n 0, 1), (175, .dup, 1), (176, .getfield 99, 3), (179, .aload_n 0, 1), (180, .getfield 92, 3), (183, .ifCond .eq 7, 3), (186, .iconst 1, 1), (187, .goto 4, 3), (190, .iconst 0, 1), (191, .iadd, 1), (192, .putfield 99, 3), (195, .return_, 1)]
theorem tX9_readsReceipt_1_ok : tX9_readsReceipt_1.all (fun q => decide (decode cX9_readsReceipt q.1 = .ok q.2)) = true := by decide +kernel
theorem dX9_readsReceipt_99 : decode cX9_readsReceipt 99 = .ok (.istore_n 2, 1) := td tX9_readsReceipt_1_ok 0 (q := (99, .istore_n 2, 1)) rfl
theorem dX9_readsReceipt_100 : decode cX9_readsReceipt 100 = .ok (.iload_n 2, 1) := td tX9_readsReceipt_1_ok 1 (q := (100, .iload_n 2, 1)) rfl
theorem dX9_readsReceipt_101 : decode cX9_readsReceipt 101 = .ok (.iconst 4, 1) := td tX9_readsReceipt_1_ok 2 (q := (101, .iconst 4, 1)) rfl
theorem dX9_readsReceipt_102 : decode cX9_readsReceipt 102 = .ok (.if_icmp .ge 36, 3) := td tX9_readsReceipt_1_ok 3 (q := (102, .if_icmp .ge 36, 3)) rfl
theorem dX9_readsReceipt_105 : decode cX9_readsReceipt 105 = .ok (.aload_n 0, 1) := td tX9_readsReceipt_1_ok 4 (q := (105, .aload_n 0, 1)) rfl
theorem dX9_readsReceipt_106 : decode cX9_readsReceipt 106 = .ok (.bipush 43, 2) := td tX9_readsReceipt_1_ok 5 (q := (106, .bipush 43, 2)) rfl
theorem dX9_readsReceipt_108 : decode cX9_readsReceipt 108 = .ok (.invokevirtual 143, 3) := td tX9_readsReceipt_1_ok 6 (q := (108, .invokevirtual 143, 3)) rfl
theorem dX9_readsReceipt_111 : decode cX9_readsReceipt 111 = .ok (.ifCond .eq 27, 3) := td tX9_readsReceipt_1_ok 7 (q := (111, .ifCond .eq 27, 3)) rfl
theorem dX9_readsReceipt_114 : decode cX9_readsReceipt 114 = .ok (.aload_n 0, 1) := td tX9_readsReceipt_1_ok 8 (q := (114, .aload_n 0, 1)) rfl
theorem dX9_readsReceipt_115 : decode cX9_readsReceipt 115 = .ok (.getfield 22, 3) := td tX9_readsReceipt_1_ok 9 (q := (115, .getfield 22, 3)) rfl
theorem dX9_readsReceipt_118 : decode cX9_readsReceipt 118 = .ok (.iload_n 1, 1) := td tX9_readsReceipt_1_ok 10 (q := (118, .iload_n 1, 1)) rfl
theorem dX9_readsReceipt_119 : decode cX9_readsReceipt 119 = .ok (.iconst 3, 1) := td tX9_readsReceipt_1_ok 11 (q := (119, .iconst 3, 1)) rfl
theorem dX9_readsReceipt_120 : decode cX9_readsReceipt 120 = .ok (.iadd, 1) := td tX9_readsReceipt_1_ok 12 (q := (120, .iadd, 1)) rfl
theorem dX9_readsReceipt_121 : decode cX9_readsReceipt 121 = .ok (.iload_n 2, 1) := td tX9_readsReceipt_1_ok 13 (q := (121, .iload_n 2, 1)) rfl
theorem dX9_readsReceipt_122 : decode cX9_readsReceipt 122 = .ok (.iadd, 1) := td tX9_readsReceipt_1_ok 14 (q := (122, .iadd, 1)) rfl
theorem dX9_readsReceipt_123 : decode cX9_readsReceipt 123 = .ok (.aload_n 0, 1) := td tX9_readsReceipt_1_ok 15 (q := (123, .aload_n 0, 1)) rfl
theorem dX9_readsReceipt_124 : decode cX9_readsReceipt 124 = .ok (.iconst 1, 1) := td tX9_readsReceipt_1_ok 16 (q := (124, .iconst 1, 1)) rfl
theorem dX9_readsReceipt_125 : decode cX9_readsReceipt 125 = .ok (.sipush 999, 3) := td tX9_readsReceipt_1_ok 17 (q := (125, .sipush 999, 3)) rfl
theorem dX9_readsReceipt_128 : decode cX9_readsReceipt 128 = .ok (.invokevirtual 140, 3) := td tX9_readsReceipt_1_ok 18 (q := (128, .invokevirtual 140, 3)) rfl
theorem dX9_readsReceipt_131 : decode cX9_readsReceipt 131 = .ok (.iastore, 1) := td tX9_readsReceipt_1_ok 19 (q := (131, .iastore, 1)) rfl
theorem dX9_readsReceipt_132 : decode cX9_readsReceipt 132 = .ok (.iinc 2 1, 3) := td tX9_readsReceipt_1_ok 20 (q := (132, .iinc 2 1, 3)) rfl
theorem dX9_readsReceipt_135 : decode cX9_readsReceipt 135 = .ok (.goto (-35), 3) := td tX9_readsReceipt_1_ok 21 (q := (135, .goto (-35), 3)) rfl
theorem dX9_readsReceipt_138 : decode cX9_readsReceipt 138 = .ok (.aload_n 0, 1) := td tX9_readsReceipt_1_ok 22 (q := (138, .aload_n 0, 1)) rfl
theorem dX9_readsReceipt_139 : decode cX9_readsReceipt 139 = .ok (.getfield 22, 3) := td tX9_readsReceipt_1_ok 23 (q := (139, .getfield 22, 3)) rfl
theorem dX9_readsReceipt_142 : decode cX9_readsReceipt 142 = .ok (.iload_n 1, 1) := td tX9_readsReceipt_1_ok 24 (q := (142, .iload_n 1, 1)) rfl
theorem dX9_readsReceipt_143 : decode cX9_readsReceipt 143 = .ok (.iconst 2, 1) := td tX9_readsReceipt_1_ok 25 (q := (143, .iconst 2, 1)) rfl
theorem dX9_readsReceipt_144 : decode cX9_readsReceipt 144 = .ok (.iadd, 1) := td tX9_readsReceipt_1_ok 26 (q := (144, .iadd, 1)) rfl
theorem dX9_readsReceipt_145 : decode cX9_readsReceipt 145 = .ok (.iload_n 2, 1) := td tX9_readsReceipt_1_ok 27 (q := (145, .iload_n 2, 1)) rfl
theorem dX9_readsReceipt_146 : decode cX9_readsReceipt 146 = .ok (.iastore, 1) := td tX9_readsReceipt_1_ok 28 (q := (146, .iastore, 1)) rfl
theorem dX9_readsReceipt_147 : decode cX9_readsReceipt 147 = .ok (.aload_n 0, 1) := td tX9_readsReceipt_1_ok 29 (q := (147, .aload_n 0, 1)) rfl
theorem dX9_readsReceipt_148 : decode cX9_readsReceipt 148 = .ok (.aload_n 0, 1) := td tX9_readsReceipt_1_ok 30 (q := (148, .aload_n 0, 1)) rfl
theorem dX9_readsReceipt_149 : decode cX9_readsReceipt 149 = .ok (.bipush 61, 2) := td tX9_readsReceipt_1_ok 31 (q := (149, .bipush 61, 2)) rfl
theorem dX9_readsReceipt_151 : decode cX9_readsReceipt 151 = .ok (.invokevirtual 143, 3) := td tX9_readsReceipt_1_ok 32 (q := (151, .invokevirtual 143, 3)) rfl
theorem dX9_readsReceipt_154 : decode cX9_readsReceipt 154 = .ok (.putfield 92, 3) := td tX9_readsReceipt_1_ok 33 (q := (154, .putfield 92, 3)) rfl
theorem dX9_readsReceipt_157 : decode cX9_readsReceipt 157 = .ok (.aload_n 0, 1) := td tX9_readsReceipt_1_ok 34 (q := (157, .aload_n 0, 1)) rfl
theorem dX9_readsReceipt_158 : decode cX9_readsReceipt 158 = .ok (.getfield 22, 3) := td tX9_readsReceipt_1_ok 35 (q := (158, .getfield 22, 3)) rfl
theorem dX9_readsReceipt_161 : decode cX9_readsReceipt 161 = .ok (.iload_n 1, 1) := td tX9_readsReceipt_1_ok 36 (q := (161, .iload_n 1, 1)) rfl
theorem dX9_readsReceipt_162 : decode cX9_readsReceipt 162 = .ok (.bipush 7, 2) := td tX9_readsReceipt_1_ok 37 (q := (162, .bipush 7, 2)) rfl
theorem dX9_readsReceipt_164 : decode cX9_readsReceipt 164 = .ok (.iadd, 1) := td tX9_readsReceipt_1_ok 38 (q := (164, .iadd, 1)) rfl
theorem dX9_readsReceipt_165 : decode cX9_readsReceipt 165 = .ok (.aload_n 0, 1) := td tX9_readsReceipt_1_ok 39 (q := (165, .aload_n 0, 1)) rfl
theorem dX9_readsReceipt_166 : decode cX9_readsReceipt 166 = .ok (.iconst 0, 1) := td tX9_readsReceipt_1_ok 40 (q := (166, .iconst 0, 1)) rfl
theorem dX9_readsReceipt_167 : decode cX9_readsReceipt 167 = .ok (.sipush 9999, 3) := td tX9_readsReceipt_1_ok 41 (q := (167, .sipush 9999, 3)) rfl
theorem dX9_readsReceipt_170 : decode cX9_readsReceipt 170 = .ok (.invokevirtual 140, 3) := td tX9_readsReceipt_1_ok 42 (q := (170, .invokevirtual 140, 3)) rfl
theorem dX9_readsReceipt_173 : decode cX9_readsReceipt 173 = .ok (.iastore, 1) := td tX9_readsReceipt_1_ok 43 (q := (173, .iastore, 1)) rfl
theorem dX9_readsReceipt_174 : decode cX9_readsReceipt 174 = .ok (.aload_n 0, 1) := td tX9_readsReceipt_1_ok 44 (q := (174, .aload_n 0, 1)) rfl
theorem dX9_readsReceipt_175 : decode cX9_readsReceipt 175 = .ok (.dup, 1) := td tX9_readsReceipt_1_ok 45 (q := (175, .dup, 1)) rfl
theorem dX9_readsReceipt_176 : decode cX9_readsReceipt 176 = .ok (.getfield 99, 3) := td tX9_readsReceipt_1_ok 46 (q := (176, .getfield 99, 3)) rfl
theorem dX9_readsReceipt_179 : decode cX9_readsReceipt 179 = .ok (.aload_n 0, 1) := td tX9_readsReceipt_1_ok 47 (q := (179, .aload_n 0, 1)) rfl
theorem dX9_readsReceipt_180 : decode cX9_readsReceipt 180 = .ok (.getfield 92, 3) := td tX9_readsReceipt_1_ok 48 (q := (180, .getfield 92, 3)) rfl
theorem dX9_readsReceipt_183 : decode cX9_readsReceipt 183 = .ok (.ifCond .eq 7, 3) := td tX9_readsReceipt_1_ok 49 (q := (183, .ifCond .eq 7, 3)) rfl
theorem dX9_readsReceipt_186 : decode cX9_readsReceipt 186 = .ok (.iconst 1, 1) := td tX9_readsReceipt_1_ok 50 (q := (186, .iconst 1, 1)) rfl
theorem dX9_readsReceipt_187 : decode cX9_readsReceipt 187 = .ok (.goto 4, 3) := td tX9_readsReceipt_1_ok 51 (q := (187, .goto 4, 3)) rfl
theorem dX9_readsReceipt_190 : decode cX9_readsReceipt 190 = .ok (.iconst 0, 1) := td tX9_readsReceipt_1_ok 52 (q := (190, .iconst 0, 1)) rfl
theorem dX9_readsReceipt_191 : decode cX9_readsReceipt 191 = .ok (.iadd, 1) := td tX9_readsReceipt_1_ok 53 (q := (191, .iadd, 1)) rfl
theorem dX9_readsReceipt_192 : decode cX9_readsReceipt 192 = .ok (.putfield 99, 3) := td tX9_readsReceipt_1_ok 54 (q := (192, .putfield 99, 3)) rfl
theorem dX9_readsReceipt_195 : decode cX9_readsReceipt 195 = .ok (.return_, 1) := td tX9_readsReceipt_1_ok 55 (q := (195, .return_, 1)) rfl
def fX9_readsReceipt_10 (k10 : (Nat → Int32) → Option ((Nat → Int32) × Int32 × Int32 × Int32)) (x1 : Int32) : Nat → Int32 → (Nat → Int32) → Option ((Nat → Int32) × Int32 × Int32 × Int32)
  | 0, _, _ => none
  | n10 + 1, x2, mr => (if (8 : Int32) ≤ x2 then (k10 mr) else (Option.bind (aput mr 96 (x1 + x2) (0 : Int32)) (fun c2 => (fX9_readsReceipt_10 k10 x1 n10 (x2 + (1 : Int32)) c2))))
def fX9_readsReceipt_100 (k100 : Int32 → (Nat → Int32) → Int32 → Int32 → Option ((Nat → Int32) × Int32 × Int32 × Int32)) (mb : (Nat → Int32)) (ml : Int32) (x1 : Int32) : Nat → Int32 → (Nat → Int32) → Int32 → Int32 → Option ((Nat → Int32) × Int32 × Int32 × Int32)
  | 0, _, _, _, _ => none
  | n100 + 1, x2, mr, mat, mw => (if (4 : Int32) ≤ x2 then (k100 x2 mr mat mw) else (Option.bind (fX9_takes mb ml mat mw (43 : Int32)) (fun q17 => (if q17.1 = 0 then (k100 x2 mr q17.2 mw) else (Option.bind (fX9_number mb ml q17.2 mw (1 : Int32) (999 : Int32)) (fun q19 => (Option.bind (aput mr 96 ((x1 + (3 : Int32)) + x2) q19.1) (fun c20 => (fX9_readsReceipt_100 k100 mb ml x1 n100 (x2 + (1 : Int32)) c20 q19.2.1 q19.2.2)))))))))
def fX9_readsReceipt (mb : (Nat → Int32)) (mr : (Nat → Int32)) (ml : Int32) (mat : Int32) (mw : Int32) (mm : Int32) : Option ((Nat → Int32) × Int32 × Int32 × Int32) :=
  (fX9_readsReceipt_10 (fun (mr_u3 : (Nat → Int32)) => (Option.bind (fX9_number mb ml mat mw (0 : Int32) (9999 : Int32)) (fun q6 => (Option.bind (aput mr_u3 96 (((8 : Int32) * mm) + (0 : Int32)) q6.1) (fun c7 => (Option.bind (fX9_takes mb ml q6.2.1 q6.2.2 (64 : Int32)) (fun q8 => (Option.bind (bz q8.1) (fun t9 => (Option.bind (fX9_number mb ml q8.2 q8.1 (0 : Int32) (9 : Int32)) (fun q10 => (Option.bind (aput c7 96 (((8 : Int32) * mm) + (1 : Int32)) q10.1) (fun c11 => (Option.bind (fX9_takes mb ml q10.2.1 q10.2.2 (58 : Int32)) (fun q12 => (Option.bind (bz q12.1) (fun t13 => (Option.bind (fX9_number mb ml q12.2 q12.1 (1 : Int32) (999 : Int32)) (fun q14 => (Option.bind (aput c11 96 (((8 : Int32) * mm) + (3 : Int32)) q14.1) (fun c15 => (fX9_readsReceipt_100 (fun (u2_21 : Int32) (mr_u21 : (Nat → Int32)) (mat_u21 : Int32) (mw_u21 : Int32) => (Option.bind (aput mr_u21 96 (((8 : Int32) * mm) + (2 : Int32)) u2_21) (fun c27 => (Option.bind (fX9_takes mb ml mat_u21 mw_u21 (61 : Int32)) (fun q28 => (Option.bind (bz q28.1) (fun t29 => (Option.bind (fX9_number mb ml q28.2 q28.1 (0 : Int32) (9999 : Int32)) (fun q30 => (Option.bind (aput c27 96 (((8 : Int32) * mm) + (7 : Int32)) q30.1) (fun c31 => (if q30.2.2 = 0 then (some (c31, q30.2.1, q30.2.2, mm + (0 : Int32))) else (some (c31, q30.2.1, q30.2.2, mm + (1 : Int32))))))))))))))) mb ml ((8 : Int32) * mm) LF (1 : Int32) c15 q14.2.1 q14.2.2)))))))))))))))))))))) ((8 : Int32) * mm) LF (0 : Int32) mr)
set_option maxHeartbeats 4000000 in
set_option maxRecDepth 100000 in
theorem mX9_readsReceipt {l : Launch} {D : va_G} {bd : Nat → Nat} {cI : ClassId} {ms : (Nat → Int32)} {msv : (Nat → Int32)} {mb : (Nat → Int32)} {mf : (Nat → Int32)} {mr : (Nat → Int32)} {mt : Int32} {mn : Int32} {ml : Int32} {mat : Int32} {mw : Int32} {mm : Int32} {mh : Int64} {mr' : (Nat → Int32)} {mat' : Int32} {mw' : Int32} {mm' : Int32} (hs : fX9_readsReceipt mb mr ml mat mw mm = some (mr', mat', mw', mm')) : nd_C l yX9_readsReceipt cX9_readsReceipt 3 none 2 45 D [(cI, .int)] [.ref (bd 0)] (MW bd cI ms msv mb mf mr mt mn ml mat mw mm mh) (MW bd cI ms msv mb mf mr' mt mn ml mat' mw' mm' mh) none := by
  refine nd_ofCv (by decide) (Nat.le_of_ble_eq_true rfl) (fun p e s m args below meth c_ ls A Q hx hb hml hown hts hl hP hK hD hS hA hN hret => ?_)
  have hown : s.vm.findClass RX9 = some m.cls := hown
  have hl : lv_has ls 3 [(0, .ref (bd 0))] := hl
  have hret : ∀ (z0 : (Nat → Int32)) (z1 : Int32) (z2 : Int32) (z3 : Int32) {H : Heap} {locs : List Loc} {pc : Nat} {ls : Array Slot}, some (z0, z1, z2, z3) = some (mr', mat', mw', mm') → va_P D vwCl (MW bd cI ms msv mb mf z0 mt mn ml z1 z2 z3 mh) H → va_S A s.heap H locs → decode cX9_readsReceipt pc = .ok (.return_, 1) → W p l e ⟨2, 0, 0, 45⟩ s m args below meth c_ H locs 0 0 Q (F0 m pc ls []) := by
    intro z0 z1 z2 z3 H locs pc ls h hP hS hd
    cases h
    exact hret hP hS hd
  rw [fX9_readsReceipt] at hs
  refine lv_bipush (v := (8 : Int32)) hx hb dX9_readsReceipt_0 (by decide) ?_
  refine lv_aload_n hx hb dX9_readsReceipt_2 rfl (lv_at hl 0 rfl) ?_
  refine gf_X9_99 hx hb hts hown hK hP 0 rfl rfl dX9_readsReceipt_3 ?_
  refine lv_imul hx hb dX9_readsReceipt_6 ?_
  refine lv_istore_n (lv' := [(1, .int ((8 : Int32) * mm)), (0, .ref (bd 0))]) hx hb dX9_readsReceipt_7 rfl hl (by decide) rfl (fun ls hl => ?_)
  refine lv_iconst (v := (0 : Int32)) hx hb dX9_readsReceipt_8 (by decide) ?_
  refine lv_istore_n (lv' := [(2, .int (0 : Int32)), (1, .int ((8 : Int32) * mm)), (0, .ref (bd 0))]) hx hb dX9_readsReceipt_9 rfl hl (by decide) rfl (fun ls hl => ?_)
  have L10 : ∀ (n10 : Nat) (k10 : (Nat → Int32) → Option ((Nat → Int32) × Int32 × Int32 × Int32)) (v2_3 : Int32) (mr_3 : (Nat → Int32)) (H : Heap) (locs : List Loc) (ls : Array Slot), lv_has ls 3 [(0, .ref (bd 0)), (1, .int ((8 : Int32) * mm)), (2, .int v2_3)] → va_P D vwCl (MW bd cI ms msv mb mf mr_3 mt mn ml mat mw mm mh) H → va_S A s.heap H locs → fX9_readsReceipt_10 k10 ((8 : Int32) * mm) n10 v2_3 mr_3 = some (mr', mat', mw', mm') → (∀ (mr_u3 : (Nat → Int32)) (H : Heap) (locs : List Loc) (ls : Array Slot), lv_has ls 3 [(0, .ref (bd 0)), (1, .int ((8 : Int32) * mm))] → va_P D vwCl (MW bd cI ms msv mb mf mr_u3 mt mn ml mat mw mm mh) H → va_S A s.heap H locs → k10 mr_u3 = some (mr', mat', mw', mm') → W p l e ⟨2, 0, 0, 45⟩ s m args below meth c_ H locs 0 0 Q (F0 m 31 ls [])) → W p l e ⟨2, 0, 0, 45⟩ s m args below meth c_ H locs 0 0 Q (F0 m 10 ls []) := by
    intro n10
    induction n10 with
    | zero =>
      intro k10 v2_3 mr_3 H locs ls hl hP hS hs hk10
      rw [fX9_readsReceipt_10] at hs
      cases hs
    | succ n10 ih10 =>
      intro k10 v2_3 mr_3 H locs ls hl hP hS hs hk10
      rw [fX9_readsReceipt_10] at hs
      have hD : va_D A (MW bd cI ms msv mb mf mr_3 mt mn ml mat mw mm mh) := nd_DD hD rfl
      refine lv_iload_n hx hb dX9_readsReceipt_10 rfl (lv_at hl 2 rfl) ?_
      refine lv_bipush (v := (8 : Int32)) hx hb dX9_readsReceipt_11 (by decide) ?_
      refine lv_icmp_ge (tgt := 31) hx hb dX9_readsReceipt_13 (by decide) (fun b4 => ?_) (fun b4 => ?_)
      · have hs := ite_t hs b4
        exact hk10 mr_3 _ _ _ (lv_sub hl [0, 1] rfl) hP hS hs
      · have hs := ite_f hs b4
        refine lv_aload_n hx hb dX9_readsReceipt_16 rfl (lv_at hl 0 rfl) ?_
        refine gf_X9_22 hx hb hts hown hK hP 0 rfl rfl dX9_readsReceipt_17 ?_
        refine lv_iload_n hx hb dX9_readsReceipt_20 rfl (lv_at hl 1 rfl) ?_
        refine lv_iload_n hx hb dX9_readsReceipt_21 rfl (lv_at hl 2 rfl) ?_
        refine lv_iadd hx hb dX9_readsReceipt_22 ?_
        refine lv_iconst (v := (0 : Int32)) hx hb dX9_readsReceipt_23 (by decide) ?_
        obtain ⟨c5, ec5, hs⟩ := ob hs
        refine nd_iast hx hb hK hP hD hS 5 0 rfl rfl ec5 dX9_readsReceipt_24 (fun H locs hP hD hS => ?_)
        have hP : va_P D vwCl (MW bd cI ms msv mb mf c5 mt mn ml mat mw mm mh) H := hP
        have hD : va_D A (MW bd cI ms msv mb mf c5 mt mn ml mat mw mm mh) := hD
        refine lv_iinc (v := v2_3 + (1 : Int32)) (lv' := [(2, .int (v2_3 + (1 : Int32))), (0, .ref (bd 0)), (1, .int ((8 : Int32) * mm))]) hx hb dX9_readsReceipt_25 hl (k := 2) rfl rfl (by decide) rfl (fun ls hl => ?_)
        refine lv_goto (tgt := 10) hx hb dX9_readsReceipt_28 (by decide) ?_
        exact ih10 k10 (v2_3 + (1 : Int32)) c5 _ _ _ (lv_sub hl [1, 2, 0] rfl) hP hS hs hk10
  refine L10 LF _ (0 : Int32) mr _ _ _ (lv_sub hl [2, 1, 0] rfl) hP hS hs (fun mr_u3 H locs ls hl hP hS hs => ?_)
  have hD : va_D A (MW bd cI ms msv mb mf mr_u3 mt mn ml mat mw mm mh) := nd_DD hD rfl
  refine lv_aload_n hx hb dX9_readsReceipt_31 rfl (lv_at hl 0 rfl) ?_
  refine gf_X9_22 hx hb hts hown hK hP 0 rfl rfl dX9_readsReceipt_32 ?_
  refine lv_iload_n hx hb dX9_readsReceipt_35 rfl (lv_at hl 1 rfl) ?_
  refine lv_iconst (v := (0 : Int32)) hx hb dX9_readsReceipt_36 (by decide) ?_
  refine lv_iadd hx hb dX9_readsReceipt_37 ?_
  refine lv_aload_n hx hb dX9_readsReceipt_38 rfl (lv_at hl 0 rfl) ?_
  refine lv_iconst (v := (0 : Int32)) hx hb dX9_readsReceipt_39 (by decide) ?_
  refine lv_sipush (v := (9999 : Int32)) hx hb dX9_readsReceipt_40 (by decide) ?_
  obtain ⟨q6, eq6, hs⟩ := ob hs
  refine nd_callV (As := [.int (0 : Int32), .int (9999 : Int32)]) (rest := [.int (((8 : Int32) * mm) + (0 : Int32)), .ref (bd 5)]) (st1 := [.int q6.1, .int (((8 : Int32) * mm) + (0 : Int32)), .ref (bd 5)]) hx hb hml hown hts hl hP hK hD hS hA hN (mX9_number eq6) iv_X9_number wd_287 0 rfl rfl rfl rfl ⟨Nat.le_of_ble_eq_true rfl, Nat.le_of_ble_eq_true rfl⟩ (Nat.le_of_ble_eq_true rfl) ⟨Nat.zero_le _, Nat.zero_le _⟩ dX9_readsReceipt_43 rfl rfl (fun H locs hP hD hS => ?_)
  obtain ⟨c7, ec7, hs⟩ := ob hs
  refine nd_iast hx hb hK hP hD hS 5 0 rfl rfl ec7 dX9_readsReceipt_46 (fun H locs hP hD hS => ?_)
  have hP : va_P D vwCl (MW bd cI ms msv mb mf c7 mt mn ml q6.2.1 q6.2.2 mm mh) H := hP
  have hD : va_D A (MW bd cI ms msv mb mf c7 mt mn ml q6.2.1 q6.2.2 mm mh) := hD
  refine lv_aload_n hx hb dX9_readsReceipt_47 rfl (lv_at hl 0 rfl) ?_
  refine lv_aload_n hx hb dX9_readsReceipt_48 rfl (lv_at hl 0 rfl) ?_
  refine lv_bipush (v := (64 : Int32)) hx hb dX9_readsReceipt_49 (by decide) ?_
  obtain ⟨q8, eq8, hs⟩ := ob hs
  refine nd_callV (As := [.int (64 : Int32)]) (rest := [.ref (bd 0)]) (st1 := [.int q8.1, .ref (bd 0)]) hx hb hml hown hts hl hP hK hD hS hA hN (mX9_takes eq8) iv_X9_takes wd_295 0 rfl rfl rfl rfl ⟨Nat.le_of_ble_eq_true rfl, Nat.le_of_ble_eq_true rfl⟩ (Nat.le_of_ble_eq_true rfl) ⟨Nat.zero_le _, Nat.zero_le _⟩ dX9_readsReceipt_51 rfl rfl (fun H locs hP hD hS => ?_)
  obtain ⟨t9, et9, hs⟩ := ob hs
  refine pf_X9_92 hx hb hts hown hK hP hD hS 0 rfl rfl (bz_e et9) dX9_readsReceipt_54 (fun H locs hP hD hS => ?_)
  have hP : va_P D vwCl (MW bd cI ms msv mb mf c7 mt mn ml q8.2 q8.1 mm mh) H := hP
  have hD : va_D A (MW bd cI ms msv mb mf c7 mt mn ml q8.2 q8.1 mm mh) := hD
  refine lv_aload_n hx hb dX9_readsReceipt_57 rfl (lv_at hl 0 rfl) ?_
  refine gf_X9_22 hx hb hts hown hK hP 0 rfl rfl dX9_readsReceipt_58 ?_
  refine lv_iload_n hx hb dX9_readsReceipt_61 rfl (lv_at hl 1 rfl) ?_
  refine lv_iconst (v := (1 : Int32)) hx hb dX9_readsReceipt_62 (by decide) ?_
  refine lv_iadd hx hb dX9_readsReceipt_63 ?_
  refine lv_aload_n hx hb dX9_readsReceipt_64 rfl (lv_at hl 0 rfl) ?_
  refine lv_iconst (v := (0 : Int32)) hx hb dX9_readsReceipt_65 (by decide) ?_
  refine lv_bipush (v := (9 : Int32)) hx hb dX9_readsReceipt_66 (by decide) ?_
  obtain ⟨q10, eq10, hs⟩ := ob hs
  refine nd_callV (As := [.int (0 : Int32), .int (9 : Int32)]) (rest := [.int (((8 : Int32) * mm) + (1 : Int32)), .ref (bd 5)]) (st1 := [.int q10.1, .int (((8 : Int32) * mm) + (1 : Int32)), .ref (bd 5)]) hx hb hml hown hts hl hP hK hD hS hA hN (mX9_number eq10) iv_X9_number wd_287 0 rfl rfl rfl rfl ⟨Nat.le_of_ble_eq_true rfl, Nat.le_of_ble_eq_true rfl⟩ (Nat.le_of_ble_eq_true rfl) ⟨Nat.zero_le _, Nat.zero_le _⟩ dX9_readsReceipt_68 rfl rfl (fun H locs hP hD hS => ?_)
  obtain ⟨c11, ec11, hs⟩ := ob hs
  refine nd_iast hx hb hK hP hD hS 5 0 rfl rfl ec11 dX9_readsReceipt_71 (fun H locs hP hD hS => ?_)
  have hP : va_P D vwCl (MW bd cI ms msv mb mf c11 mt mn ml q10.2.1 q10.2.2 mm mh) H := hP
  have hD : va_D A (MW bd cI ms msv mb mf c11 mt mn ml q10.2.1 q10.2.2 mm mh) := hD
  refine lv_aload_n hx hb dX9_readsReceipt_72 rfl (lv_at hl 0 rfl) ?_
  refine lv_aload_n hx hb dX9_readsReceipt_73 rfl (lv_at hl 0 rfl) ?_
  refine lv_bipush (v := (58 : Int32)) hx hb dX9_readsReceipt_74 (by decide) ?_
  obtain ⟨q12, eq12, hs⟩ := ob hs
  refine nd_callV (As := [.int (58 : Int32)]) (rest := [.ref (bd 0)]) (st1 := [.int q12.1, .ref (bd 0)]) hx hb hml hown hts hl hP hK hD hS hA hN (mX9_takes eq12) iv_X9_takes wd_295 0 rfl rfl rfl rfl ⟨Nat.le_of_ble_eq_true rfl, Nat.le_of_ble_eq_true rfl⟩ (Nat.le_of_ble_eq_true rfl) ⟨Nat.zero_le _, Nat.zero_le _⟩ dX9_readsReceipt_76 rfl rfl (fun H locs hP hD hS => ?_)
  obtain ⟨t13, et13, hs⟩ := ob hs
  refine pf_X9_92 hx hb hts hown hK hP hD hS 0 rfl rfl (bz_e et13) dX9_readsReceipt_79 (fun H locs hP hD hS => ?_)
  have hP : va_P D vwCl (MW bd cI ms msv mb mf c11 mt mn ml q12.2 q12.1 mm mh) H := hP
  have hD : va_D A (MW bd cI ms msv mb mf c11 mt mn ml q12.2 q12.1 mm mh) := hD
  refine lv_aload_n hx hb dX9_readsReceipt_82 rfl (lv_at hl 0 rfl) ?_
  refine gf_X9_22 hx hb hts hown hK hP 0 rfl rfl dX9_readsReceipt_83 ?_
  refine lv_iload_n hx hb dX9_readsReceipt_86 rfl (lv_at hl 1 rfl) ?_
  refine lv_iconst (v := (3 : Int32)) hx hb dX9_readsReceipt_87 (by decide) ?_
  refine lv_iadd hx hb dX9_readsReceipt_88 ?_
  refine lv_aload_n hx hb dX9_readsReceipt_89 rfl (lv_at hl 0 rfl) ?_
  refine lv_iconst (v := (1 : Int32)) hx hb dX9_readsReceipt_90 (by decide) ?_
  refine lv_sipush (v := (999 : Int32)) hx hb dX9_readsReceipt_91 (by decide) ?_
  obtain ⟨q14, eq14, hs⟩ := ob hs
  refine nd_callV (As := [.int (1 : Int32), .int (999 : Int32)]) (rest := [.int (((8 : Int32) * mm) + (3 : Int32)), .ref (bd 5)]) (st1 := [.int q14.1, .int (((8 : Int32) * mm) + (3 : Int32)), .ref (bd 5)]) hx hb hml hown hts hl hP hK hD hS hA hN (mX9_number eq14) iv_X9_number wd_287 0 rfl rfl rfl rfl ⟨Nat.le_of_ble_eq_true rfl, Nat.le_of_ble_eq_true rfl⟩ (Nat.le_of_ble_eq_true rfl) ⟨Nat.zero_le _, Nat.zero_le _⟩ dX9_readsReceipt_94 rfl rfl (fun H locs hP hD hS => ?_)
  obtain ⟨c15, ec15, hs⟩ := ob hs
  refine nd_iast hx hb hK hP hD hS 5 0 rfl rfl ec15 dX9_readsReceipt_97 (fun H locs hP hD hS => ?_)
  have hP : va_P D vwCl (MW bd cI ms msv mb mf c15 mt mn ml q14.2.1 q14.2.2 mm mh) H := hP
  have hD : va_D A (MW bd cI ms msv mb mf c15 mt mn ml q14.2.1 q14.2.2 mm mh) := hD
  refine lv_iconst (v := (1 : Int32)) hx hb dX9_readsReceipt_98 (by decide) ?_
  refine lv_istore_n (lv' := [(2, .int (1 : Int32)), (0, .ref (bd 0)), (1, .int ((8 : Int32) * mm))]) hx hb dX9_readsReceipt_99 rfl hl (by decide) rfl (fun ls hl => ?_)
  have L100 : ∀ (n100 : Nat) (k100 : Int32 → (Nat → Int32) → Int32 → Int32 → Option ((Nat → Int32) × Int32 × Int32 × Int32)) (v2_21 : Int32) (mr_21 : (Nat → Int32)) (mat_21 : Int32) (mw_21 : Int32) (H : Heap) (locs : List Loc) (ls : Array Slot), lv_has ls 3 [(0, .ref (bd 0)), (1, .int ((8 : Int32) * mm)), (2, .int v2_21)] → va_P D vwCl (MW bd cI ms msv mb mf mr_21 mt mn ml mat_21 mw_21 mm mh) H → va_S A s.heap H locs → fX9_readsReceipt_100 k100 mb ml ((8 : Int32) * mm) n100 v2_21 mr_21 mat_21 mw_21 = some (mr', mat', mw', mm') → (∀ (u2_21 : Int32) (mr_u21 : (Nat → Int32)) (mat_u21 : Int32) (mw_u21 : Int32) (H : Heap) (locs : List Loc) (ls : Array Slot), lv_has ls 3 [(0, .ref (bd 0)), (1, .int ((8 : Int32) * mm)), (2, .int u2_21)] → va_P D vwCl (MW bd cI ms msv mb mf mr_u21 mt mn ml mat_u21 mw_u21 mm mh) H → va_S A s.heap H locs → k100 u2_21 mr_u21 mat_u21 mw_u21 = some (mr', mat', mw', mm') → W p l e ⟨2, 0, 0, 45⟩ s m args below meth c_ H locs 0 0 Q (F0 m 138 ls [])) → W p l e ⟨2, 0, 0, 45⟩ s m args below meth c_ H locs 0 0 Q (F0 m 100 ls []) := by
    intro n100
    induction n100 with
    | zero =>
      intro k100 v2_21 mr_21 mat_21 mw_21 H locs ls hl hP hS hs hk100
      rw [fX9_readsReceipt_100] at hs
      cases hs
    | succ n100 ih100 =>
      intro k100 v2_21 mr_21 mat_21 mw_21 H locs ls hl hP hS hs hk100
      rw [fX9_readsReceipt_100] at hs
      have hD : va_D A (MW bd cI ms msv mb mf mr_21 mt mn ml mat_21 mw_21 mm mh) := nd_DD hD rfl
      refine lv_iload_n hx hb dX9_readsReceipt_100 rfl (lv_at hl 2 rfl) ?_
      refine lv_iconst (v := (4 : Int32)) hx hb dX9_readsReceipt_101 (by decide) ?_
      refine lv_icmp_ge (tgt := 138) hx hb dX9_readsReceipt_102 (by decide) (fun b22 => ?_) (fun b22 => ?_)
      · have hs := ite_t hs b22
        exact hk100 v2_21 mr_21 mat_21 mw_21 _ _ _ (lv_sub hl [0, 1, 2] rfl) hP hS hs
      · have hs := ite_f hs b22
        refine lv_aload_n hx hb dX9_readsReceipt_105 rfl (lv_at hl 0 rfl) ?_
        refine lv_bipush (v := (43 : Int32)) hx hb dX9_readsReceipt_106 (by decide) ?_
        obtain ⟨q23, eq23, hs⟩ := ob hs
        refine nd_callV (As := [.int (43 : Int32)]) (rest := []) (st1 := [.int q23.1]) hx hb hml hown hts hl hP hK hD hS hA hN (mX9_takes eq23) iv_X9_takes wd_295 0 rfl rfl rfl rfl ⟨Nat.le_of_ble_eq_true rfl, Nat.le_of_ble_eq_true rfl⟩ (Nat.le_of_ble_eq_true rfl) ⟨Nat.zero_le _, Nat.zero_le _⟩ dX9_readsReceipt_108 rfl rfl (fun H locs hP hD hS => ?_)
        refine lv_if_eq (tgt := 138) hx hb dX9_readsReceipt_111 (by decide) (fun b24 => ?_) (fun b24 => ?_)
        · have hs := ite_t hs b24
          exact hk100 v2_21 mr_21 q23.2 mw_21 _ _ _ (lv_sub hl [0, 1, 2] rfl) hP hS hs
        · have hs := ite_f hs b24
          refine lv_aload_n hx hb dX9_readsReceipt_114 rfl (lv_at hl 0 rfl) ?_
          refine gf_X9_22 hx hb hts hown hK hP 0 rfl rfl dX9_readsReceipt_115 ?_
          refine lv_iload_n hx hb dX9_readsReceipt_118 rfl (lv_at hl 1 rfl) ?_
          refine lv_iconst (v := (3 : Int32)) hx hb dX9_readsReceipt_119 (by decide) ?_
          refine lv_iadd hx hb dX9_readsReceipt_120 ?_
          refine lv_iload_n hx hb dX9_readsReceipt_121 rfl (lv_at hl 2 rfl) ?_
          refine lv_iadd hx hb dX9_readsReceipt_122 ?_
          refine lv_aload_n hx hb dX9_readsReceipt_123 rfl (lv_at hl 0 rfl) ?_
          refine lv_iconst (v := (1 : Int32)) hx hb dX9_readsReceipt_124 (by decide) ?_
          refine lv_sipush (v := (999 : Int32)) hx hb dX9_readsReceipt_125 (by decide) ?_
          obtain ⟨q25, eq25, hs⟩ := ob hs
          refine nd_callV (As := [.int (1 : Int32), .int (999 : Int32)]) (rest := [.int ((((8 : Int32) * mm) + (3 : Int32)) + v2_21), .ref (bd 5)]) (st1 := [.int q25.1, .int ((((8 : Int32) * mm) + (3 : Int32)) + v2_21), .ref (bd 5)]) hx hb hml hown hts hl hP hK hD hS hA hN (mX9_number eq25) iv_X9_number wd_287 0 rfl rfl rfl rfl ⟨Nat.le_of_ble_eq_true rfl, Nat.le_of_ble_eq_true rfl⟩ (Nat.le_of_ble_eq_true rfl) ⟨Nat.zero_le _, Nat.zero_le _⟩ dX9_readsReceipt_128 rfl rfl (fun H locs hP hD hS => ?_)
          obtain ⟨c26, ec26, hs⟩ := ob hs
          refine nd_iast hx hb hK hP hD hS 5 0 rfl rfl ec26 dX9_readsReceipt_131 (fun H locs hP hD hS => ?_)
          have hP : va_P D vwCl (MW bd cI ms msv mb mf c26 mt mn ml q25.2.1 q25.2.2 mm mh) H := hP
          have hD : va_D A (MW bd cI ms msv mb mf c26 mt mn ml q25.2.1 q25.2.2 mm mh) := hD
          refine lv_iinc (v := v2_21 + (1 : Int32)) (lv' := [(2, .int (v2_21 + (1 : Int32))), (0, .ref (bd 0)), (1, .int ((8 : Int32) * mm))]) hx hb dX9_readsReceipt_132 hl (k := 2) rfl rfl (by decide) rfl (fun ls hl => ?_)
          refine lv_goto (tgt := 100) hx hb dX9_readsReceipt_135 (by decide) ?_
          exact ih100 k100 (v2_21 + (1 : Int32)) c26 q25.2.1 q25.2.2 _ _ _ (lv_sub hl [1, 2, 0] rfl) hP hS hs hk100
  refine L100 LF _ (1 : Int32) c15 q14.2.1 q14.2.2 _ _ _ (lv_sub hl [1, 2, 0] rfl) hP hS hs (fun u2_21 mr_u21 mat_u21 mw_u21 H locs ls hl hP hS hs => ?_)
  have hD : va_D A (MW bd cI ms msv mb mf mr_u21 mt mn ml mat_u21 mw_u21 mm mh) := nd_DD hD rfl
  refine lv_aload_n hx hb dX9_readsReceipt_138 rfl (lv_at hl 0 rfl) ?_
  refine gf_X9_22 hx hb hts hown hK hP 0 rfl rfl dX9_readsReceipt_139 ?_
  refine lv_iload_n hx hb dX9_readsReceipt_142 rfl (lv_at hl 1 rfl) ?_
  refine lv_iconst (v := (2 : Int32)) hx hb dX9_readsReceipt_143 (by decide) ?_
  refine lv_iadd hx hb dX9_readsReceipt_144 ?_
  refine lv_iload_n hx hb dX9_readsReceipt_145 rfl (lv_at hl 2 rfl) ?_
  obtain ⟨c27, ec27, hs⟩ := ob hs
  refine nd_iast hx hb hK hP hD hS 5 0 rfl rfl ec27 dX9_readsReceipt_146 (fun H locs hP hD hS => ?_)
  have hP : va_P D vwCl (MW bd cI ms msv mb mf c27 mt mn ml mat_u21 mw_u21 mm mh) H := hP
  have hD : va_D A (MW bd cI ms msv mb mf c27 mt mn ml mat_u21 mw_u21 mm mh) := hD
  refine lv_aload_n hx hb dX9_readsReceipt_147 rfl (lv_at hl 0 rfl) ?_
  refine lv_aload_n hx hb dX9_readsReceipt_148 rfl (lv_at hl 0 rfl) ?_
  refine lv_bipush (v := (61 : Int32)) hx hb dX9_readsReceipt_149 (by decide) ?_
  obtain ⟨q28, eq28, hs⟩ := ob hs
  refine nd_callV (As := [.int (61 : Int32)]) (rest := [.ref (bd 0)]) (st1 := [.int q28.1, .ref (bd 0)]) hx hb hml hown hts hl hP hK hD hS hA hN (mX9_takes eq28) iv_X9_takes wd_295 0 rfl rfl rfl rfl ⟨Nat.le_of_ble_eq_true rfl, Nat.le_of_ble_eq_true rfl⟩ (Nat.le_of_ble_eq_true rfl) ⟨Nat.zero_le _, Nat.zero_le _⟩ dX9_readsReceipt_151 rfl rfl (fun H locs hP hD hS => ?_)
  obtain ⟨t29, et29, hs⟩ := ob hs
  refine pf_X9_92 hx hb hts hown hK hP hD hS 0 rfl rfl (bz_e et29) dX9_readsReceipt_154 (fun H locs hP hD hS => ?_)
  have hP : va_P D vwCl (MW bd cI ms msv mb mf c27 mt mn ml q28.2 q28.1 mm mh) H := hP
  have hD : va_D A (MW bd cI ms msv mb mf c27 mt mn ml q28.2 q28.1 mm mh) := hD
  refine lv_aload_n hx hb dX9_readsReceipt_157 rfl (lv_at hl 0 rfl) ?_
  refine gf_X9_22 hx hb hts hown hK hP 0 rfl rfl dX9_readsReceipt_158 ?_
  refine lv_iload_n hx hb dX9_readsReceipt_161 rfl (lv_at hl 1 rfl) ?_
  refine lv_bipush (v := (7 : Int32)) hx hb dX9_readsReceipt_162 (by decide) ?_
  refine lv_iadd hx hb dX9_readsReceipt_164 ?_
  refine lv_aload_n hx hb dX9_readsReceipt_165 rfl (lv_at hl 0 rfl) ?_
  refine lv_iconst (v := (0 : Int32)) hx hb dX9_readsReceipt_166 (by decide) ?_
  refine lv_sipush (v := (9999 : Int32)) hx hb dX9_readsReceipt_167 (by decide) ?_
  obtain ⟨q30, eq30, hs⟩ := ob hs
  refine nd_callV (As := [.int (0 : Int32), .int (9999 : Int32)]) (rest := [.int (((8 : Int32) * mm) + (7 : Int32)), .ref (bd 5)]) (st1 := [.int q30.1, .int (((8 : Int32) * mm) + (7 : Int32)), .ref (bd 5)]) hx hb hml hown hts hl hP hK hD hS hA hN (mX9_number eq30) iv_X9_number wd_287 0 rfl rfl rfl rfl ⟨Nat.le_of_ble_eq_true rfl, Nat.le_of_ble_eq_true rfl⟩ (Nat.le_of_ble_eq_true rfl) ⟨Nat.zero_le _, Nat.zero_le _⟩ dX9_readsReceipt_170 rfl rfl (fun H locs hP hD hS => ?_)
  obtain ⟨c31, ec31, hs⟩ := ob hs
  refine nd_iast hx hb hK hP hD hS 5 0 rfl rfl ec31 dX9_readsReceipt_173 (fun H locs hP hD hS => ?_)
  have hP : va_P D vwCl (MW bd cI ms msv mb mf c31 mt mn ml q30.2.1 q30.2.2 mm mh) H := hP
  have hD : va_D A (MW bd cI ms msv mb mf c31 mt mn ml q30.2.1 q30.2.2 mm mh) := hD
  refine lv_aload_n hx hb dX9_readsReceipt_174 rfl (lv_at hl 0 rfl) ?_
  refine lv_dup hx hb dX9_readsReceipt_175 rfl ?_
  refine gf_X9_99 hx hb hts hown hK hP 0 rfl rfl dX9_readsReceipt_176 ?_
  refine lv_aload_n hx hb dX9_readsReceipt_179 rfl (lv_at hl 0 rfl) ?_
  refine gf_X9_92 hx hb hts hown hK hP 0 rfl rfl dX9_readsReceipt_180 ?_
  refine lv_if_eq (tgt := 190) hx hb dX9_readsReceipt_183 (by decide) (fun b32 => ?_) (fun b32 => ?_)
  · have hs := ite_t hs b32
    refine lv_iconst (v := (0 : Int32)) hx hb dX9_readsReceipt_190 (by decide) ?_
    refine lv_iadd hx hb dX9_readsReceipt_191 ?_
    refine pf_X9_99 hx hb hts hown hK hP hD hS 0 rfl rfl dX9_readsReceipt_192 (fun H locs hP hD hS => ?_)
    have hP : va_P D vwCl (MW bd cI ms msv mb mf c31 mt mn ml q30.2.1 q30.2.2 (mm + (0 : Int32)) mh) H := hP
    have hD : va_D A (MW bd cI ms msv mb mf c31 mt mn ml q30.2.1 q30.2.2 (mm + (0 : Int32)) mh) := hD
    exact hret _ _ _ _ hs hP hS dX9_readsReceipt_195
  · have hs := ite_f hs b32
    refine lv_iconst (v := (1 : Int32)) hx hb dX9_readsReceipt_186 (by decide) ?_
    refine lv_goto (tgt := 191) hx hb dX9_readsReceipt_187 (by decide) ?_
    refine lv_iadd hx hb dX9_readsReceipt_191 ?_
    refine pf_X9_99 hx hb hts hown hK hP hD hS 0 rfl rfl dX9_readsReceipt_192 (fun H locs hP hD hS => ?_)
    have hP : va_P D vwCl (MW bd cI ms msv mb mf c31 mt mn ml q30.2.1 q30.2.2 (mm + (1 : Int32)) mh) H := hP
    have hD : va_D A (MW bd cI ms msv mb mf c31 mt mn ml q30.2.1 q30.2.2 (mm + (1 : Int32)) mh) := hD
    exact hret _ _ _ _ hs hP hS dX9_readsReceipt_195
def tX9_readsAll_0 : List (Nat × Instr × Nat) := [(0, .aload_n 0, 1), (1, .iconst 0, 1), (2, .putfield 134, 3), (5, .aload_n 0, 1), (6, .iconst 1, 1), (7, .putfield 92, 3), (10, .aload_n 0, 1), (11, .iconst 0, 1), (12, .putfield 99, 3), (15, .aload_n 0, 1), (16, .invokevirtual 146, 3), (19, .aload_n 0, 1), (20, .getfield 92, 3), (23, .ifCond .eq 38, 3), (26, .aload_n 0, 1), (27, .getfield 134, 3), (30, .aload_n 0, 1), (31, .getfield 96, 3), (34, .if_icmp .ge 27, 3), (37, .aload_n 0, 1), (38, .aload_n 0, 1), (39, .bipush 59, 2), (41, .invokevirtual 143, 3), (44, .putfield 92, 3), (47, .aload_n 0, 1), (48, .getfield 92, 3), (51, .ifCond .eq (-32), 3), (54, .aload_n 0, 1), (55, .invokevirtual 146, 3), (58, .goto (-39), 3), (61, .return_, 1)]
theorem tX9_readsAll_0_ok : tX9_readsAll_0.all (fun q => decide (decode cX9_readsAll q.1 = .ok q.2)) = true := by decide +kernel
theorem dX9_readsAll_0 : decode cX9_readsAll 0 = .ok (.aload_n 0, 1) := td tX9_readsAll_0_ok 0 (q := (0, .aload_n 0, 1)) rfl
theorem dX9_readsAll_1 : decode cX9_readsAll 1 = .ok (.iconst 0, 1) := td tX9_readsAll_0_ok 1 (q := (1, .iconst 0, 1)) rfl
theorem dX9_readsAll_2 : decode cX9_readsAll 2 = .ok (.putfield 134, 3) := td tX9_readsAll_0_ok 2 (q := (2, .putfield 134, 3)) rfl
theorem dX9_readsAll_5 : decode cX9_readsAll 5 = .ok (.aload_n 0, 1) := td tX9_readsAll_0_ok 3 (q := (5, .aload_n 0, 1)) rfl
theorem dX9_readsAll_6 : decode cX9_readsAll 6 = .ok (.iconst 1, 1) := td tX9_readsAll_0_ok 4 (q := (6, .iconst 1, 1)) rfl
theorem dX9_readsAll_7 : decode cX9_readsAll 7 = .ok (.putfield 92, 3) := td tX9_readsAll_0_ok 5 (q := (7, .putfield 92, 3)) rfl
theorem dX9_readsAll_10 : decode cX9_readsAll 10 = .ok (.aload_n 0, 1) := td tX9_readsAll_0_ok 6 (q := (10, .aload_n 0, 1)) rfl
theorem dX9_readsAll_11 : decode cX9_readsAll 11 = .ok (.iconst 0, 1) := td tX9_readsAll_0_ok 7 (q := (11, .iconst 0, 1)) rfl
theorem dX9_readsAll_12 : decode cX9_readsAll 12 = .ok (.putfield 99, 3) := td tX9_readsAll_0_ok 8 (q := (12, .putfield 99, 3)) rfl
theorem dX9_readsAll_15 : decode cX9_readsAll 15 = .ok (.aload_n 0, 1) := td tX9_readsAll_0_ok 9 (q := (15, .aload_n 0, 1)) rfl
theorem dX9_readsAll_16 : decode cX9_readsAll 16 = .ok (.invokevirtual 146, 3) := td tX9_readsAll_0_ok 10 (q := (16, .invokevirtual 146, 3)) rfl
theorem dX9_readsAll_19 : decode cX9_readsAll 19 = .ok (.aload_n 0, 1) := td tX9_readsAll_0_ok 11 (q := (19, .aload_n 0, 1)) rfl
theorem dX9_readsAll_20 : decode cX9_readsAll 20 = .ok (.getfield 92, 3) := td tX9_readsAll_0_ok 12 (q := (20, .getfield 92, 3)) rfl
theorem dX9_readsAll_23 : decode cX9_readsAll 23 = .ok (.ifCond .eq 38, 3) := td tX9_readsAll_0_ok 13 (q := (23, .ifCond .eq 38, 3)) rfl
theorem dX9_readsAll_26 : decode cX9_readsAll 26 = .ok (.aload_n 0, 1) := td tX9_readsAll_0_ok 14 (q := (26, .aload_n 0, 1)) rfl
theorem dX9_readsAll_27 : decode cX9_readsAll 27 = .ok (.getfield 134, 3) := td tX9_readsAll_0_ok 15 (q := (27, .getfield 134, 3)) rfl
theorem dX9_readsAll_30 : decode cX9_readsAll 30 = .ok (.aload_n 0, 1) := td tX9_readsAll_0_ok 16 (q := (30, .aload_n 0, 1)) rfl
theorem dX9_readsAll_31 : decode cX9_readsAll 31 = .ok (.getfield 96, 3) := td tX9_readsAll_0_ok 17 (q := (31, .getfield 96, 3)) rfl
theorem dX9_readsAll_34 : decode cX9_readsAll 34 = .ok (.if_icmp .ge 27, 3) := td tX9_readsAll_0_ok 18 (q := (34, .if_icmp .ge 27, 3)) rfl
theorem dX9_readsAll_37 : decode cX9_readsAll 37 = .ok (.aload_n 0, 1) := td tX9_readsAll_0_ok 19 (q := (37, .aload_n 0, 1)) rfl
theorem dX9_readsAll_38 : decode cX9_readsAll 38 = .ok (.aload_n 0, 1) := td tX9_readsAll_0_ok 20 (q := (38, .aload_n 0, 1)) rfl
theorem dX9_readsAll_39 : decode cX9_readsAll 39 = .ok (.bipush 59, 2) := td tX9_readsAll_0_ok 21 (q := (39, .bipush 59, 2)) rfl
theorem dX9_readsAll_41 : decode cX9_readsAll 41 = .ok (.invokevirtual 143, 3) := td tX9_readsAll_0_ok 22 (q := (41, .invokevirtual 143, 3)) rfl
theorem dX9_readsAll_44 : decode cX9_readsAll 44 = .ok (.putfield 92, 3) := td tX9_readsAll_0_ok 23 (q := (44, .putfield 92, 3)) rfl
theorem dX9_readsAll_47 : decode cX9_readsAll 47 = .ok (.aload_n 0, 1) := td tX9_readsAll_0_ok 24 (q := (47, .aload_n 0, 1)) rfl
theorem dX9_readsAll_48 : decode cX9_readsAll 48 = .ok (.getfield 92, 3) := td tX9_readsAll_0_ok 25 (q := (48, .getfield 92, 3)) rfl
theorem dX9_readsAll_51 : decode cX9_readsAll 51 = .ok (.ifCond .eq (-32), 3) := td tX9_readsAll_0_ok 26 (q := (51, .ifCond .eq (-32), 3)) rfl
theorem dX9_readsAll_54 : decode cX9_readsAll 54 = .ok (.aload_n 0, 1) := td tX9_readsAll_0_ok 27 (q := (54, .aload_n 0, 1)) rfl
theorem dX9_readsAll_55 : decode cX9_readsAll 55 = .ok (.invokevirtual 146, 3) := td tX9_readsAll_0_ok 28 (q := (55, .invokevirtual 146, 3)) rfl
theorem dX9_readsAll_58 : decode cX9_readsAll 58 = .ok (.goto (-39), 3) := td tX9_readsAll_0_ok 29 (q := (58, .goto (-39), 3)) rfl
theorem dX9_readsAll_61 : decode cX9_readsAll 61 = .ok (.return_, 1) := td tX9_readsAll_0_ok 30 (q := (61, .return_, 1)) rfl
def fX9_readsAll_19 (k19 : (Nat → Int32) → Int32 → Int32 → Int32 → Option ((Nat → Int32) × Int32 × Int32 × Int32)) (mb : (Nat → Int32)) (ml : Int32) : Nat → (Nat → Int32) → Int32 → Int32 → Int32 → Option ((Nat → Int32) × Int32 × Int32 × Int32)
  | 0, _, _, _, _ => none
  | n19 + 1, mr, mat, mw, mm => (if mw = 0 then (k19 mr mat mw mm) else (if ml ≤ mat then (k19 mr mat mw mm) else (Option.bind (fX9_takes mb ml mat mw (59 : Int32)) (fun q4 => (Option.bind (bz q4.1) (fun t5 => (if q4.1 = 0 then (fX9_readsAll_19 k19 mb ml n19 mr q4.2 q4.1 mm) else (Option.bind (fX9_readsReceipt mb mr ml q4.2 q4.1 mm) (fun q7 => (fX9_readsAll_19 k19 mb ml n19 q7.1 q7.2.1 q7.2.2.1 q7.2.2.2))))))))))
def fX9_readsAll (mb : (Nat → Int32)) (mr : (Nat → Int32)) (ml : Int32) (mat : Int32) (mw : Int32) (mm : Int32) : Option ((Nat → Int32) × Int32 × Int32 × Int32) :=
  (Option.bind (fX9_readsReceipt mb mr ml (0 : Int32) (1 : Int32) (0 : Int32)) (fun q1 => (fX9_readsAll_19 (fun (mr_u8 : (Nat → Int32)) (mat_u8 : Int32) (mw_u8 : Int32) (mm_u8 : Int32) => (some (mr_u8, mat_u8, mw_u8, mm_u8))) mb ml LF q1.1 q1.2.1 q1.2.2.1 q1.2.2.2)))
set_option maxHeartbeats 4000000 in
set_option maxRecDepth 100000 in
theorem mX9_readsAll {l : Launch} {D : va_G} {bd : Nat → Nat} {cI : ClassId} {ms : (Nat → Int32)} {msv : (Nat → Int32)} {mb : (Nat → Int32)} {mf : (Nat → Int32)} {mr : (Nat → Int32)} {mt : Int32} {mn : Int32} {ml : Int32} {mat : Int32} {mw : Int32} {mm : Int32} {mh : Int64} {mr' : (Nat → Int32)} {mat' : Int32} {mw' : Int32} {mm' : Int32} (hs : fX9_readsAll mb mr ml mat mw mm = some (mr', mat', mw', mm')) : nd_C l yX9_readsAll cX9_readsAll 1 none 3 67 D [(cI, .int)] [.ref (bd 0)] (MW bd cI ms msv mb mf mr mt mn ml mat mw mm mh) (MW bd cI ms msv mb mf mr' mt mn ml mat' mw' mm' mh) none := by
  refine nd_ofCv (by decide) (Nat.le_of_ble_eq_true rfl) (fun p e s m args below meth c_ ls A Q hx hb hml hown hts hl hP hK hD hS hA hN hret => ?_)
  have hown : s.vm.findClass RX9 = some m.cls := hown
  have hl : lv_has ls 1 [(0, .ref (bd 0))] := hl
  have hret : ∀ (z0 : (Nat → Int32)) (z1 : Int32) (z2 : Int32) (z3 : Int32) {H : Heap} {locs : List Loc} {pc : Nat} {ls : Array Slot}, some (z0, z1, z2, z3) = some (mr', mat', mw', mm') → va_P D vwCl (MW bd cI ms msv mb mf z0 mt mn ml z1 z2 z3 mh) H → va_S A s.heap H locs → decode cX9_readsAll pc = .ok (.return_, 1) → W p l e ⟨3, 0, 0, 67⟩ s m args below meth c_ H locs 0 0 Q (F0 m pc ls []) := by
    intro z0 z1 z2 z3 H locs pc ls h hP hS hd
    cases h
    exact hret hP hS hd
  rw [fX9_readsAll] at hs
  refine lv_aload_n hx hb dX9_readsAll_0 rfl (lv_at hl 0 rfl) ?_
  refine lv_iconst (v := (0 : Int32)) hx hb dX9_readsAll_1 (by decide) ?_
  refine pf_X9_134 hx hb hts hown hK hP hD hS 0 rfl rfl dX9_readsAll_2 (fun H locs hP hD hS => ?_)
  have hP : va_P D vwCl (MW bd cI ms msv mb mf mr mt mn ml (0 : Int32) mw mm mh) H := hP
  have hD : va_D A (MW bd cI ms msv mb mf mr mt mn ml (0 : Int32) mw mm mh) := hD
  refine lv_aload_n hx hb dX9_readsAll_5 rfl (lv_at hl 0 rfl) ?_
  refine lv_iconst (v := (1 : Int32)) hx hb dX9_readsAll_6 (by decide) ?_
  refine pf_X9_92 hx hb hts hown hK hP hD hS 0 rfl rfl (Or.inr rfl) dX9_readsAll_7 (fun H locs hP hD hS => ?_)
  have hP : va_P D vwCl (MW bd cI ms msv mb mf mr mt mn ml (0 : Int32) (1 : Int32) mm mh) H := hP
  have hD : va_D A (MW bd cI ms msv mb mf mr mt mn ml (0 : Int32) (1 : Int32) mm mh) := hD
  refine lv_aload_n hx hb dX9_readsAll_10 rfl (lv_at hl 0 rfl) ?_
  refine lv_iconst (v := (0 : Int32)) hx hb dX9_readsAll_11 (by decide) ?_
  refine pf_X9_99 hx hb hts hown hK hP hD hS 0 rfl rfl dX9_readsAll_12 (fun H locs hP hD hS => ?_)
  have hP : va_P D vwCl (MW bd cI ms msv mb mf mr mt mn ml (0 : Int32) (1 : Int32) (0 : Int32) mh) H := hP
  have hD : va_D A (MW bd cI ms msv mb mf mr mt mn ml (0 : Int32) (1 : Int32) (0 : Int32) mh) := hD
  refine lv_aload_n hx hb dX9_readsAll_15 rfl (lv_at hl 0 rfl) ?_
  obtain ⟨q1, eq1, hs⟩ := ob hs
  refine nd_callV (As := []) (rest := []) (st1 := []) hx hb hml hown hts hl hP hK hD hS hA hN (mX9_readsReceipt eq1) iv_X9_readsReceipt wd_283 0 rfl rfl rfl rfl ⟨Nat.le_of_ble_eq_true rfl, Nat.le_of_ble_eq_true rfl⟩ (Nat.le_of_ble_eq_true rfl) ⟨Nat.zero_le _, Nat.zero_le _⟩ dX9_readsAll_16 rfl rfl (fun H locs hP hD hS => ?_)
  have L19 : ∀ (n19 : Nat) (k19 : (Nat → Int32) → Int32 → Int32 → Int32 → Option ((Nat → Int32) × Int32 × Int32 × Int32)) (mr_8 : (Nat → Int32)) (mat_8 : Int32) (mw_8 : Int32) (mm_8 : Int32) (H : Heap) (locs : List Loc) (ls : Array Slot), lv_has ls 1 [(0, .ref (bd 0))] → va_P D vwCl (MW bd cI ms msv mb mf mr_8 mt mn ml mat_8 mw_8 mm_8 mh) H → va_S A s.heap H locs → fX9_readsAll_19 k19 mb ml n19 mr_8 mat_8 mw_8 mm_8 = some (mr', mat', mw', mm') → (∀ (mr_u8 : (Nat → Int32)) (mat_u8 : Int32) (mw_u8 : Int32) (mm_u8 : Int32) (H : Heap) (locs : List Loc) (ls : Array Slot), lv_has ls 1 [] → va_P D vwCl (MW bd cI ms msv mb mf mr_u8 mt mn ml mat_u8 mw_u8 mm_u8 mh) H → va_S A s.heap H locs → k19 mr_u8 mat_u8 mw_u8 mm_u8 = some (mr', mat', mw', mm') → W p l e ⟨3, 0, 0, 67⟩ s m args below meth c_ H locs 0 0 Q (F0 m 61 ls [])) → W p l e ⟨3, 0, 0, 67⟩ s m args below meth c_ H locs 0 0 Q (F0 m 19 ls []) := by
    intro n19
    induction n19 with
    | zero =>
      intro k19 mr_8 mat_8 mw_8 mm_8 H locs ls hl hP hS hs hk19
      rw [fX9_readsAll_19] at hs
      cases hs
    | succ n19 ih19 =>
      intro k19 mr_8 mat_8 mw_8 mm_8 H locs ls hl hP hS hs hk19
      rw [fX9_readsAll_19] at hs
      have hD : va_D A (MW bd cI ms msv mb mf mr_8 mt mn ml mat_8 mw_8 mm_8 mh) := nd_DD hD rfl
      refine lv_aload_n hx hb dX9_readsAll_19 rfl (lv_at hl 0 rfl) ?_
      refine gf_X9_92 hx hb hts hown hK hP 0 rfl rfl dX9_readsAll_20 ?_
      refine lv_if_eq (tgt := 61) hx hb dX9_readsAll_23 (by decide) (fun b9 => ?_) (fun b9 => ?_)
      · have hs := ite_t hs b9
        exact hk19 mr_8 mat_8 mw_8 mm_8 _ _ _ (lv_sub hl [] rfl) hP hS hs
      · have hs := ite_f hs b9
        refine lv_aload_n hx hb dX9_readsAll_26 rfl (lv_at hl 0 rfl) ?_
        refine gf_X9_134 hx hb hts hown hK hP 0 rfl rfl dX9_readsAll_27 ?_
        refine lv_aload_n hx hb dX9_readsAll_30 rfl (lv_at hl 0 rfl) ?_
        refine gf_X9_96 hx hb hts hown hK hP 0 rfl rfl dX9_readsAll_31 ?_
        refine lv_icmp_ge (tgt := 61) hx hb dX9_readsAll_34 (by decide) (fun b10 => ?_) (fun b10 => ?_)
        · have hs := ite_t hs b10
          exact hk19 mr_8 mat_8 mw_8 mm_8 _ _ _ (lv_sub hl [] rfl) hP hS hs
        · have hs := ite_f hs b10
          refine lv_aload_n hx hb dX9_readsAll_37 rfl (lv_at hl 0 rfl) ?_
          refine lv_aload_n hx hb dX9_readsAll_38 rfl (lv_at hl 0 rfl) ?_
          refine lv_bipush (v := (59 : Int32)) hx hb dX9_readsAll_39 (by decide) ?_
          obtain ⟨q11, eq11, hs⟩ := ob hs
          refine nd_callV (As := [.int (59 : Int32)]) (rest := [.ref (bd 0)]) (st1 := [.int q11.1, .ref (bd 0)]) hx hb hml hown hts hl hP hK hD hS hA hN (mX9_takes eq11) iv_X9_takes wd_295 0 rfl rfl rfl rfl ⟨Nat.le_of_ble_eq_true rfl, Nat.le_of_ble_eq_true rfl⟩ (Nat.le_of_ble_eq_true rfl) ⟨Nat.zero_le _, Nat.zero_le _⟩ dX9_readsAll_41 rfl rfl (fun H locs hP hD hS => ?_)
          obtain ⟨t12, et12, hs⟩ := ob hs
          refine pf_X9_92 hx hb hts hown hK hP hD hS 0 rfl rfl (bz_e et12) dX9_readsAll_44 (fun H locs hP hD hS => ?_)
          have hP : va_P D vwCl (MW bd cI ms msv mb mf mr_8 mt mn ml q11.2 q11.1 mm_8 mh) H := hP
          have hD : va_D A (MW bd cI ms msv mb mf mr_8 mt mn ml q11.2 q11.1 mm_8 mh) := hD
          refine lv_aload_n hx hb dX9_readsAll_47 rfl (lv_at hl 0 rfl) ?_
          refine gf_X9_92 hx hb hts hown hK hP 0 rfl rfl dX9_readsAll_48 ?_
          refine lv_if_eq (tgt := 19) hx hb dX9_readsAll_51 (by decide) (fun b13 => ?_) (fun b13 => ?_)
          · have hs := ite_t hs b13
            exact ih19 k19 mr_8 q11.2 q11.1 mm_8 _ _ _ (lv_sub hl [0] rfl) hP hS hs hk19
          · have hs := ite_f hs b13
            refine lv_aload_n hx hb dX9_readsAll_54 rfl (lv_at hl 0 rfl) ?_
            obtain ⟨q14, eq14, hs⟩ := ob hs
            refine nd_callV (As := []) (rest := []) (st1 := []) hx hb hml hown hts hl hP hK hD hS hA hN (mX9_readsReceipt eq14) iv_X9_readsReceipt wd_283 0 rfl rfl rfl rfl ⟨Nat.le_of_ble_eq_true rfl, Nat.le_of_ble_eq_true rfl⟩ (Nat.le_of_ble_eq_true rfl) ⟨Nat.zero_le _, Nat.zero_le _⟩ dX9_readsAll_55 rfl rfl (fun H locs hP hD hS => ?_)
            refine lv_goto (tgt := 19) hx hb dX9_readsAll_58 (by decide) ?_
            exact ih19 k19 q14.1 q14.2.1 q14.2.2.1 q14.2.2.2 _ _ _ (lv_sub hl [0] rfl) hP hS hs hk19
  refine L19 LF _ q1.1 q1.2.1 q1.2.2.1 q1.2.2.2 _ _ _ (lv_sub hl [0] rfl) hP hS hs (fun mr_u8 mat_u8 mw_u8 mm_u8 H locs ls hl hP hS hs => ?_)
  have hD : va_D A (MW bd cI ms msv mb mf mr_u8 mt mn ml mat_u8 mw_u8 mm_u8 mh) := nd_DD hD rfl
  exact hret _ _ _ _ hs hP hS dX9_readsAll_61
