def tX0_get_0 : List (Nat × Instr × Nat) := [(0, .iload_n 1, 1), (1, .ifCond .lt 19, 3), (4, .iload_n 1, 1), (5, .sipush 531, 3), (8, .if_icmp .ge 12, 3), (11, .aload_n 0, 1), (12, .getfield 11, 3), (15, .iload_n 1, 1), (16, .iaload, 1), (17, .goto 4, 3), (20, .iconst 0, 1), (21, .ireturn, 1)]
theorem tX0_get_0_ok : tX0_get_0.all (fun q => decide (decode cX0_get q.1 = .ok q.2)) = true := by decide +kernel
theorem dX0_get_0 : decode cX0_get 0 = .ok (.iload_n 1, 1) := td tX0_get_0_ok 0 (q := (0, .iload_n 1, 1)) rfl
theorem dX0_get_1 : decode cX0_get 1 = .ok (.ifCond .lt 19, 3) := td tX0_get_0_ok 1 (q := (1, .ifCond .lt 19, 3)) rfl
theorem dX0_get_4 : decode cX0_get 4 = .ok (.iload_n 1, 1) := td tX0_get_0_ok 2 (q := (4, .iload_n 1, 1)) rfl
theorem dX0_get_5 : decode cX0_get 5 = .ok (.sipush 531, 3) := td tX0_get_0_ok 3 (q := (5, .sipush 531, 3)) rfl
theorem dX0_get_8 : decode cX0_get 8 = .ok (.if_icmp .ge 12, 3) := td tX0_get_0_ok 4 (q := (8, .if_icmp .ge 12, 3)) rfl
theorem dX0_get_11 : decode cX0_get 11 = .ok (.aload_n 0, 1) := td tX0_get_0_ok 5 (q := (11, .aload_n 0, 1)) rfl
theorem dX0_get_12 : decode cX0_get 12 = .ok (.getfield 11, 3) := td tX0_get_0_ok 6 (q := (12, .getfield 11, 3)) rfl
theorem dX0_get_15 : decode cX0_get 15 = .ok (.iload_n 1, 1) := td tX0_get_0_ok 7 (q := (15, .iload_n 1, 1)) rfl
theorem dX0_get_16 : decode cX0_get 16 = .ok (.iaload, 1) := td tX0_get_0_ok 8 (q := (16, .iaload, 1)) rfl
theorem dX0_get_17 : decode cX0_get 17 = .ok (.goto 4, 3) := td tX0_get_0_ok 9 (q := (17, .goto 4, 3)) rfl
theorem dX0_get_20 : decode cX0_get 20 = .ok (.iconst 0, 1) := td tX0_get_0_ok 10 (q := (20, .iconst 0, 1)) rfl
theorem dX0_get_21 : decode cX0_get 21 = .ok (.ireturn, 1) := td tX0_get_0_ok 11 (q := (21, .ireturn, 1)) rfl
def fX0_get (kc : (Nat → Int32)) (x1 : Int32) : Option (Int32) :=
  (if x1 < 0 then (some (0 : Int32)) else (if (531 : Int32) ≤ x1 then (some (0 : Int32)) else (Option.bind (aget kc 531 x1) (fun t3 => (some t3)))))
set_option maxHeartbeats 4000000 in
set_option maxRecDepth 100000 in
theorem mX0_get {l : Launch} {D : va_G} {ad : Nat → Nat} {cI : ClassId} {kc : (Nat → Int32)} {ksv : (Nat → Int32)} {kbc : (Nat → Int32)} {kit : (Nat → Int32)} {kln : (Nat → Int32)} {ken : (Nat → Int32)} {kla : (Nat → Int32)} {kfi : (Nat → Int32)} {kea : (Nat → Int32)} {kns : Int32} {kbl : Int32} {kr0 : Int32} {kr1 : Int32} {kr2 : Int32} {kr3 : Int32} {kr4 : Int32} {kr5 : Int32} {klr : Int32} {kp0 : Int32} {kp1 : Int32} {kp2 : Int32} {kp3 : Int32} {x1 : Int32} {r : Int32} (hs : fX0_get kc x1 = some r) : nd_C l yX0_get cX0_get 2 (some .int) 0 0 D [(cI, .int)] [.ref (ad 1), .int x1] (CW ad cI kc ksv kbc kit kln ken kla kfi kea kns kbl kr0 kr1 kr2 kr3 kr4 kr5 klr kp0 kp1 kp2 kp3) (CW ad cI kc ksv kbc kit kln ken kla kfi kea kns kbl kr0 kr1 kr2 kr3 kr4 kr5 klr kp0 kp1 kp2 kp3) (some (.int r)) := by
  refine nd_ofCi (by decide) (Nat.le_of_ble_eq_true rfl) (fun p e s m args below meth c_ ls A Q hx hb hml hown hts hl hP hK hD hS hA hN hret => ?_)
  have hown : s.vm.findClass RX0 = some m.cls := hown
  have hl : lv_has ls 2 [(0, .ref (ad 1)), (1, .int x1)] := hl
  have hret : ∀ (z0 : Int32) {H : Heap} {locs : List Loc} {pc : Nat} {ls : Array Slot}, some z0 = some r → va_P D vwCl (CW ad cI kc ksv kbc kit kln ken kla kfi kea kns kbl kr0 kr1 kr2 kr3 kr4 kr5 klr kp0 kp1 kp2 kp3) H → va_S A s.heap H locs → decode cX0_get pc = .ok (.ireturn, 1) → W p l e ⟨0, 0, 0, 0⟩ s m args below meth c_ H locs 0 0 Q (F0 m pc ls [.int z0]) := by
    intro z0 H locs pc ls h hP hS hd
    cases h
    exact hret hP hS hd
  rw [fX0_get] at hs
  refine lv_iload_n hx hb dX0_get_0 rfl (lv_at hl 1 rfl) ?_
  refine lv_if_lt (tgt := 20) hx hb dX0_get_1 (by decide) (fun b1 => ?_) (fun b1 => ?_)
  · have hs := ite_t hs b1
    refine lv_iconst (v := (0 : Int32)) hx hb dX0_get_20 (by decide) ?_
    exact hret _ hs hP hS dX0_get_21
  · have hs := ite_f hs b1
    refine lv_iload_n hx hb dX0_get_4 rfl (lv_at hl 1 rfl) ?_
    refine lv_sipush (v := (531 : Int32)) hx hb dX0_get_5 (by decide) ?_
    refine lv_icmp_ge (tgt := 20) hx hb dX0_get_8 (by decide) (fun b2 => ?_) (fun b2 => ?_)
    · have hs := ite_t hs b2
      refine lv_iconst (v := (0 : Int32)) hx hb dX0_get_20 (by decide) ?_
      exact hret _ hs hP hS dX0_get_21
    · have hs := ite_f hs b2
      refine lv_aload_n hx hb dX0_get_11 rfl (lv_at hl 0 rfl) ?_
      refine gf_X0_11 hx hb hts hown hK hP 1 rfl rfl dX0_get_12 ?_
      refine lv_iload_n hx hb dX0_get_15 rfl (lv_at hl 1 rfl) ?_
      obtain ⟨t3, et3, hs⟩ := ob hs
      refine nd_iald hx hb hK hP 6 0 rfl rfl et3 dX0_get_16 ?_
      refine lv_goto (tgt := 21) hx hb dX0_get_17 (by decide) ?_
      exact hret _ hs hP hS dX0_get_21
def tX0_set_0 : List (Nat × Instr × Nat) := [(0, .iload_n 1, 1), (1, .ifCond .lt 17, 3), (4, .iload_n 1, 1), (5, .sipush 531, 3), (8, .if_icmp .ge 10, 3), (11, .aload_n 0, 1), (12, .getfield 11, 3), (15, .iload_n 1, 1), (16, .iload_n 2, 1), (17, .iastore, 1), (18, .return_, 1)]
theorem tX0_set_0_ok : tX0_set_0.all (fun q => decide (decode cX0_set q.1 = .ok q.2)) = true := by decide +kernel
theorem dX0_set_0 : decode cX0_set 0 = .ok (.iload_n 1, 1) := td tX0_set_0_ok 0 (q := (0, .iload_n 1, 1)) rfl
theorem dX0_set_1 : decode cX0_set 1 = .ok (.ifCond .lt 17, 3) := td tX0_set_0_ok 1 (q := (1, .ifCond .lt 17, 3)) rfl
theorem dX0_set_4 : decode cX0_set 4 = .ok (.iload_n 1, 1) := td tX0_set_0_ok 2 (q := (4, .iload_n 1, 1)) rfl
theorem dX0_set_5 : decode cX0_set 5 = .ok (.sipush 531, 3) := td tX0_set_0_ok 3 (q := (5, .sipush 531, 3)) rfl
theorem dX0_set_8 : decode cX0_set 8 = .ok (.if_icmp .ge 10, 3) := td tX0_set_0_ok 4 (q := (8, .if_icmp .ge 10, 3)) rfl
theorem dX0_set_11 : decode cX0_set 11 = .ok (.aload_n 0, 1) := td tX0_set_0_ok 5 (q := (11, .aload_n 0, 1)) rfl
theorem dX0_set_12 : decode cX0_set 12 = .ok (.getfield 11, 3) := td tX0_set_0_ok 6 (q := (12, .getfield 11, 3)) rfl
theorem dX0_set_15 : decode cX0_set 15 = .ok (.iload_n 1, 1) := td tX0_set_0_ok 7 (q := (15, .iload_n 1, 1)) rfl
theorem dX0_set_16 : decode cX0_set 16 = .ok (.iload_n 2, 1) := td tX0_set_0_ok 8 (q := (16, .iload_n 2, 1)) rfl
theorem dX0_set_17 : decode cX0_set 17 = .ok (.iastore, 1) := td tX0_set_0_ok 9 (q := (17, .iastore, 1)) rfl
theorem dX0_set_18 : decode cX0_set 18 = .ok (.return_, 1) := td tX0_set_0_ok 10 (q := (18, .return_, 1)) rfl
def fX0_set (kc : (Nat → Int32)) (x1 : Int32) (x2 : Int32) : Option ((Nat → Int32)) :=
  (if x1 < 0 then (some kc) else (if (531 : Int32) ≤ x1 then (some kc) else (Option.bind (aput kc 531 x1 x2) (fun c3 => (some c3)))))
set_option maxHeartbeats 4000000 in
set_option maxRecDepth 100000 in
theorem mX0_set {l : Launch} {D : va_G} {ad : Nat → Nat} {cI : ClassId} {kc : (Nat → Int32)} {ksv : (Nat → Int32)} {kbc : (Nat → Int32)} {kit : (Nat → Int32)} {kln : (Nat → Int32)} {ken : (Nat → Int32)} {kla : (Nat → Int32)} {kfi : (Nat → Int32)} {kea : (Nat → Int32)} {kns : Int32} {kbl : Int32} {kr0 : Int32} {kr1 : Int32} {kr2 : Int32} {kr3 : Int32} {kr4 : Int32} {kr5 : Int32} {klr : Int32} {kp0 : Int32} {kp1 : Int32} {kp2 : Int32} {kp3 : Int32} {x1 : Int32} {x2 : Int32} {kc' : (Nat → Int32)} (hs : fX0_set kc x1 x2 = some kc') : nd_C l yX0_set cX0_set 3 none 0 0 D [(cI, .int)] [.ref (ad 1), .int x1, .int x2] (CW ad cI kc ksv kbc kit kln ken kla kfi kea kns kbl kr0 kr1 kr2 kr3 kr4 kr5 klr kp0 kp1 kp2 kp3) (CW ad cI kc' ksv kbc kit kln ken kla kfi kea kns kbl kr0 kr1 kr2 kr3 kr4 kr5 klr kp0 kp1 kp2 kp3) none := by
  refine nd_ofCv (by decide) (Nat.le_of_ble_eq_true rfl) (fun p e s m args below meth c_ ls A Q hx hb hml hown hts hl hP hK hD hS hA hN hret => ?_)
  have hown : s.vm.findClass RX0 = some m.cls := hown
  have hl : lv_has ls 3 [(0, .ref (ad 1)), (1, .int x1), (2, .int x2)] := hl
  have hret : ∀ (z0 : (Nat → Int32)) {H : Heap} {locs : List Loc} {pc : Nat} {ls : Array Slot}, some z0 = some kc' → va_P D vwCl (CW ad cI z0 ksv kbc kit kln ken kla kfi kea kns kbl kr0 kr1 kr2 kr3 kr4 kr5 klr kp0 kp1 kp2 kp3) H → va_S A s.heap H locs → decode cX0_set pc = .ok (.return_, 1) → W p l e ⟨0, 0, 0, 0⟩ s m args below meth c_ H locs 0 0 Q (F0 m pc ls []) := by
    intro z0 H locs pc ls h hP hS hd
    cases h
    exact hret hP hS hd
  rw [fX0_set] at hs
  refine lv_iload_n hx hb dX0_set_0 rfl (lv_at hl 1 rfl) ?_
  refine lv_if_lt (tgt := 18) hx hb dX0_set_1 (by decide) (fun b1 => ?_) (fun b1 => ?_)
  · have hs := ite_t hs b1
    exact hret _ hs hP hS dX0_set_18
  · have hs := ite_f hs b1
    refine lv_iload_n hx hb dX0_set_4 rfl (lv_at hl 1 rfl) ?_
    refine lv_sipush (v := (531 : Int32)) hx hb dX0_set_5 (by decide) ?_
    refine lv_icmp_ge (tgt := 18) hx hb dX0_set_8 (by decide) (fun b2 => ?_) (fun b2 => ?_)
    · have hs := ite_t hs b2
      exact hret _ hs hP hS dX0_set_18
    · have hs := ite_f hs b2
      refine lv_aload_n hx hb dX0_set_11 rfl (lv_at hl 0 rfl) ?_
      refine gf_X0_11 hx hb hts hown hK hP 1 rfl rfl dX0_set_12 ?_
      refine lv_iload_n hx hb dX0_set_15 rfl (lv_at hl 1 rfl) ?_
      refine lv_iload_n hx hb dX0_set_16 rfl (lv_at hl 2 rfl) ?_
      obtain ⟨c3, ec3, hs⟩ := ob hs
      refine nd_iast hx hb hK hP hD hS 6 0 rfl rfl ec3 dX0_set_17 (fun H locs hP hD hS => ?_)
      have hP : va_P D vwCl (CW ad cI c3 ksv kbc kit kln ken kla kfi kea kns kbl kr0 kr1 kr2 kr3 kr4 kr5 klr kp0 kp1 kp2 kp3) H := hP
      have hD : va_D A (CW ad cI c3 ksv kbc kit kln ken kla kfi kea kns kbl kr0 kr1 kr2 kr3 kr4 kr5 klr kp0 kp1 kp2 kp3) := hD
      exact hret _ hs hP hS dX0_set_18
def tX0_save_0 : List (Nat × Instr × Nat) := [(0, .aload_n 0, 1), (1, .getfield 18, 3), (4, .bipush 6, 2), (6, .if_icmp .lt 26, 3), (9, .aload_n 0, 1), (10, .getfield 15, 3), (13, .sipush 531, 3), (16, .aload_n 0, 1), (17, .getfield 15, 3), (20, .iconst 0, 1), (21, .sipush 2655, 3), (24, .invokestatic 22, 3), (27, .aload_n 0, 1), (28, .iconst 5, 1), (29, .putfield 18, 3), (32, .aload_n 0, 1), (33, .getfield 18, 3), (36, .ifCond .lt 36, 3), (39, .aload_n 0, 1), (40, .getfield 11, 3), (43, .iconst 0, 1), (44, .aload_n 0, 1), (45, .getfield 15, 3), (48, .aload_n 0, 1), (49, .getfield 18, 3), (52, .sipush 531, 3), (55, .imul, 1), (56, .sipush 531, 3), (59, .invokestatic 22, 3), (62, .aload_n 0, 1), (63, .dup, 1), (64, .getfield 18, 3), (67, .iconst 1, 1), (68, .iadd, 1), (69, .putfield 18, 3), (72, .return_, 1)]
theorem tX0_save_0_ok : tX0_save_0.all (fun q => decide (decode cX0_save q.1 = .ok q.2)) = true := by decide +kernel
theorem dX0_save_0 : decode cX0_save 0 = .ok (.aload_n 0, 1) := td tX0_save_0_ok 0 (q := (0, .aload_n 0, 1)) rfl
theorem dX0_save_1 : decode cX0_save 1 = .ok (.getfield 18, 3) := td tX0_save_0_ok 1 (q := (1, .getfield 18, 3)) rfl
theorem dX0_save_4 : decode cX0_save 4 = .ok (.bipush 6, 2) := td tX0_save_0_ok 2 (q := (4, .bipush 6, 2)) rfl
theorem dX0_save_6 : decode cX0_save 6 = .ok (.if_icmp .lt 26, 3) := td tX0_save_0_ok 3 (q := (6, .if_icmp .lt 26, 3)) rfl
theorem dX0_save_9 : decode cX0_save 9 = .ok (.aload_n 0, 1) := td tX0_save_0_ok 4 (q := (9, .aload_n 0, 1)) rfl
theorem dX0_save_10 : decode cX0_save 10 = .ok (.getfield 15, 3) := td tX0_save_0_ok 5 (q := (10, .getfield 15, 3)) rfl
theorem dX0_save_13 : decode cX0_save 13 = .ok (.sipush 531, 3) := td tX0_save_0_ok 6 (q := (13, .sipush 531, 3)) rfl
theorem dX0_save_16 : decode cX0_save 16 = .ok (.aload_n 0, 1) := td tX0_save_0_ok 7 (q := (16, .aload_n 0, 1)) rfl
theorem dX0_save_17 : decode cX0_save 17 = .ok (.getfield 15, 3) := td tX0_save_0_ok 8 (q := (17, .getfield 15, 3)) rfl
theorem dX0_save_20 : decode cX0_save 20 = .ok (.iconst 0, 1) := td tX0_save_0_ok 9 (q := (20, .iconst 0, 1)) rfl
theorem dX0_save_21 : decode cX0_save 21 = .ok (.sipush 2655, 3) := td tX0_save_0_ok 10 (q := (21, .sipush 2655, 3)) rfl
theorem dX0_save_24 : decode cX0_save 24 = .ok (.invokestatic 22, 3) := td tX0_save_0_ok 11 (q := (24, .invokestatic 22, 3)) rfl
theorem dX0_save_27 : decode cX0_save 27 = .ok (.aload_n 0, 1) := td tX0_save_0_ok 12 (q := (27, .aload_n 0, 1)) rfl
theorem dX0_save_28 : decode cX0_save 28 = .ok (.iconst 5, 1) := td tX0_save_0_ok 13 (q := (28, .iconst 5, 1)) rfl
theorem dX0_save_29 : decode cX0_save 29 = .ok (.putfield 18, 3) := td tX0_save_0_ok 14 (q := (29, .putfield 18, 3)) rfl
theorem dX0_save_32 : decode cX0_save 32 = .ok (.aload_n 0, 1) := td tX0_save_0_ok 15 (q := (32, .aload_n 0, 1)) rfl
theorem dX0_save_33 : decode cX0_save 33 = .ok (.getfield 18, 3) := td tX0_save_0_ok 16 (q := (33, .getfield 18, 3)) rfl
theorem dX0_save_36 : decode cX0_save 36 = .ok (.ifCond .lt 36, 3) := td tX0_save_0_ok 17 (q := (36, .ifCond .lt 36, 3)) rfl
theorem dX0_save_39 : decode cX0_save 39 = .ok (.aload_n 0, 1) := td tX0_save_0_ok 18 (q := (39, .aload_n 0, 1)) rfl
theorem dX0_save_40 : decode cX0_save 40 = .ok (.getfield 11, 3) := td tX0_save_0_ok 19 (q := (40, .getfield 11, 3)) rfl
theorem dX0_save_43 : decode cX0_save 43 = .ok (.iconst 0, 1) := td tX0_save_0_ok 20 (q := (43, .iconst 0, 1)) rfl
theorem dX0_save_44 : decode cX0_save 44 = .ok (.aload_n 0, 1) := td tX0_save_0_ok 21 (q := (44, .aload_n 0, 1)) rfl
theorem dX0_save_45 : decode cX0_save 45 = .ok (.getfield 15, 3) := td tX0_save_0_ok 22 (q := (45, .getfield 15, 3)) rfl
theorem dX0_save_48 : decode cX0_save 48 = .ok (.aload_n 0, 1) := td tX0_save_0_ok 23 (q := (48, .aload_n 0, 1)) rfl
theorem dX0_save_49 : decode cX0_save 49 = .ok (.getfield 18, 3) := td tX0_save_0_ok 24 (q := (49, .getfield 18, 3)) rfl
theorem dX0_save_52 : decode cX0_save 52 = .ok (.sipush 531, 3) := td tX0_save_0_ok 25 (q := (52, .sipush 531, 3)) rfl
theorem dX0_save_55 : decode cX0_save 55 = .ok (.imul, 1) := td tX0_save_0_ok 26 (q := (55, .imul, 1)) rfl
theorem dX0_save_56 : decode cX0_save 56 = .ok (.sipush 531, 3) := td tX0_save_0_ok 27 (q := (56, .sipush 531, 3)) rfl
theorem dX0_save_59 : decode cX0_save 59 = .ok (.invokestatic 22, 3) := td tX0_save_0_ok 28 (q := (59, .invokestatic 22, 3)) rfl
theorem dX0_save_62 : decode cX0_save 62 = .ok (.aload_n 0, 1) := td tX0_save_0_ok 29 (q := (62, .aload_n 0, 1)) rfl
theorem dX0_save_63 : decode cX0_save 63 = .ok (.dup, 1) := td tX0_save_0_ok 30 (q := (63, .dup, 1)) rfl
theorem dX0_save_64 : decode cX0_save 64 = .ok (.getfield 18, 3) := td tX0_save_0_ok 31 (q := (64, .getfield 18, 3)) rfl
theorem dX0_save_67 : decode cX0_save 67 = .ok (.iconst 1, 1) := td tX0_save_0_ok 32 (q := (67, .iconst 1, 1)) rfl
theorem dX0_save_68 : decode cX0_save 68 = .ok (.iadd, 1) := td tX0_save_0_ok 33 (q := (68, .iadd, 1)) rfl
theorem dX0_save_69 : decode cX0_save 69 = .ok (.putfield 18, 3) := td tX0_save_0_ok 34 (q := (69, .putfield 18, 3)) rfl
theorem dX0_save_72 : decode cX0_save 72 = .ok (.return_, 1) := td tX0_save_0_ok 35 (q := (72, .return_, 1)) rfl
def fX0_save (kc : (Nat → Int32)) (ksv : (Nat → Int32)) (kns : Int32) : Option ((Nat → Int32) × Int32) :=
  (if kns < (6 : Int32) then (if kns < 0 then (some (ksv, kns)) else (Option.bind (acpy kc 531 ksv 3186 (0 : Int32) (kns * (531 : Int32)) (531 : Int32)) (fun c3 => (some (c3, kns + (1 : Int32)))))) else (Option.bind (acpy ksv 3186 ksv 3186 (531 : Int32) (0 : Int32) (2655 : Int32)) (fun c4 => (Option.bind (acpy kc 531 c4 3186 (0 : Int32) ((5 : Int32) * (531 : Int32)) (531 : Int32)) (fun c5 => (some (c5, (5 : Int32) + (1 : Int32))))))))
set_option maxHeartbeats 4000000 in
set_option maxRecDepth 100000 in
theorem mX0_save {l : Launch} {D : va_G} {ad : Nat → Nat} {cI : ClassId} {kc : (Nat → Int32)} {ksv : (Nat → Int32)} {kbc : (Nat → Int32)} {kit : (Nat → Int32)} {kln : (Nat → Int32)} {ken : (Nat → Int32)} {kla : (Nat → Int32)} {kfi : (Nat → Int32)} {kea : (Nat → Int32)} {kns : Int32} {kbl : Int32} {kr0 : Int32} {kr1 : Int32} {kr2 : Int32} {kr3 : Int32} {kr4 : Int32} {kr5 : Int32} {klr : Int32} {kp0 : Int32} {kp1 : Int32} {kp2 : Int32} {kp3 : Int32} {ksv' : (Nat → Int32)} {kns' : Int32} (hs : fX0_save kc ksv kns = some (ksv', kns')) : nd_C l yX0_save cX0_save 1 none 1 60 D [(cI, .int)] [.ref (ad 1)] (CW ad cI kc ksv kbc kit kln ken kla kfi kea kns kbl kr0 kr1 kr2 kr3 kr4 kr5 klr kp0 kp1 kp2 kp3) (CW ad cI kc ksv' kbc kit kln ken kla kfi kea kns' kbl kr0 kr1 kr2 kr3 kr4 kr5 klr kp0 kp1 kp2 kp3) none := by
  refine nd_ofCv (by decide) (Nat.le_of_ble_eq_true rfl) (fun p e s m args below meth c_ ls A Q hx hb hml hown hts hl hP hK hD hS hA hN hret => ?_)
  have hown : s.vm.findClass RX0 = some m.cls := hown
  have hl : lv_has ls 1 [(0, .ref (ad 1))] := hl
  have hret : ∀ (z0 : (Nat → Int32)) (z1 : Int32) {H : Heap} {locs : List Loc} {pc : Nat} {ls : Array Slot}, some (z0, z1) = some (ksv', kns') → va_P D vwCl (CW ad cI kc z0 kbc kit kln ken kla kfi kea z1 kbl kr0 kr1 kr2 kr3 kr4 kr5 klr kp0 kp1 kp2 kp3) H → va_S A s.heap H locs → decode cX0_save pc = .ok (.return_, 1) → W p l e ⟨1, 0, 0, 60⟩ s m args below meth c_ H locs 0 0 Q (F0 m pc ls []) := by
    intro z0 z1 H locs pc ls h hP hS hd
    cases h
    exact hret hP hS hd
  rw [fX0_save] at hs
  refine lv_aload_n hx hb dX0_save_0 rfl (lv_at hl 0 rfl) ?_
  refine gf_X0_18 hx hb hts hown hK hP 1 rfl rfl dX0_save_1 ?_
  refine lv_bipush (v := (6 : Int32)) hx hb dX0_save_4 (by decide) ?_
  refine lv_icmp_lt (tgt := 32) hx hb dX0_save_6 (by decide) (fun b1 => ?_) (fun b1 => ?_)
  · have hs := ite_t hs b1
    refine lv_aload_n hx hb dX0_save_32 rfl (lv_at hl 0 rfl) ?_
    refine gf_X0_18 hx hb hts hown hK hP 1 rfl rfl dX0_save_33 ?_
    refine lv_if_lt (tgt := 72) hx hb dX0_save_36 (by decide) (fun b2 => ?_) (fun b2 => ?_)
    · have hs := ite_t hs b2
      exact hret _ _ hs hP hS dX0_save_72
    · have hs := ite_f hs b2
      refine lv_aload_n hx hb dX0_save_39 rfl (lv_at hl 0 rfl) ?_
      refine gf_X0_11 hx hb hts hown hK hP 1 rfl rfl dX0_save_40 ?_
      refine lv_iconst (v := (0 : Int32)) hx hb dX0_save_43 (by decide) ?_
      refine lv_aload_n hx hb dX0_save_44 rfl (lv_at hl 0 rfl) ?_
      refine gf_X0_15 hx hb hts hown hK hP 1 rfl rfl dX0_save_45 ?_
      refine lv_aload_n hx hb dX0_save_48 rfl (lv_at hl 0 rfl) ?_
      refine gf_X0_18 hx hb hts hown hK hP 1 rfl rfl dX0_save_49 ?_
      refine lv_sipush (v := (531 : Int32)) hx hb dX0_save_52 (by decide) ?_
      refine lv_imul hx hb dX0_save_55 ?_
      refine lv_sipush (v := (531 : Int32)) hx hb dX0_save_56 (by decide) ?_
      obtain ⟨c3, ec3, hs⟩ := ob hs
      refine nd_copy hx hb (hml.trans hl.1.symm) hown (hts _ wd_110) (hts _ wd_111) (hts _ wd_112) (hts _ wd_113) hK hP hD hS 6 7 0 rfl rfl rfl ec3 (Nat.le_of_ble_eq_true rfl) (by decide) dX0_save_59 (fun H locs hP hD hS => ?_)
      have hP : va_P D vwCl (CW ad cI kc c3 kbc kit kln ken kla kfi kea kns kbl kr0 kr1 kr2 kr3 kr4 kr5 klr kp0 kp1 kp2 kp3) H := hP
      have hD : va_D A (CW ad cI kc c3 kbc kit kln ken kla kfi kea kns kbl kr0 kr1 kr2 kr3 kr4 kr5 klr kp0 kp1 kp2 kp3) := hD
      refine lv_aload_n hx hb dX0_save_62 rfl (lv_at hl 0 rfl) ?_
      refine lv_dup hx hb dX0_save_63 rfl ?_
      refine gf_X0_18 hx hb hts hown hK hP 1 rfl rfl dX0_save_64 ?_
      refine lv_iconst (v := (1 : Int32)) hx hb dX0_save_67 (by decide) ?_
      refine lv_iadd hx hb dX0_save_68 ?_
      refine pf_X0_18 hx hb hts hown hK hP hD hS 1 rfl rfl dX0_save_69 (fun H locs hP hD hS => ?_)
      have hP : va_P D vwCl (CW ad cI kc c3 kbc kit kln ken kla kfi kea (kns + (1 : Int32)) kbl kr0 kr1 kr2 kr3 kr4 kr5 klr kp0 kp1 kp2 kp3) H := hP
      have hD : va_D A (CW ad cI kc c3 kbc kit kln ken kla kfi kea (kns + (1 : Int32)) kbl kr0 kr1 kr2 kr3 kr4 kr5 klr kp0 kp1 kp2 kp3) := hD
      exact hret _ _ hs hP hS dX0_save_72
  · have hs := ite_f hs b1
    refine lv_aload_n hx hb dX0_save_9 rfl (lv_at hl 0 rfl) ?_
    refine gf_X0_15 hx hb hts hown hK hP 1 rfl rfl dX0_save_10 ?_
    refine lv_sipush (v := (531 : Int32)) hx hb dX0_save_13 (by decide) ?_
    refine lv_aload_n hx hb dX0_save_16 rfl (lv_at hl 0 rfl) ?_
    refine gf_X0_15 hx hb hts hown hK hP 1 rfl rfl dX0_save_17 ?_
    refine lv_iconst (v := (0 : Int32)) hx hb dX0_save_20 (by decide) ?_
    refine lv_sipush (v := (2655 : Int32)) hx hb dX0_save_21 (by decide) ?_
    obtain ⟨c4, ec4, hs⟩ := ob hs
    refine nd_copy hx hb (hml.trans hl.1.symm) hown (hts _ wd_110) (hts _ wd_111) (hts _ wd_112) (hts _ wd_113) hK hP hD hS 7 7 0 rfl rfl rfl ec4 (Nat.le_of_ble_eq_true rfl) (by decide) dX0_save_24 (fun H locs hP hD hS => ?_)
    have hP : va_P D vwCl (CW ad cI kc c4 kbc kit kln ken kla kfi kea kns kbl kr0 kr1 kr2 kr3 kr4 kr5 klr kp0 kp1 kp2 kp3) H := hP
    have hD : va_D A (CW ad cI kc c4 kbc kit kln ken kla kfi kea kns kbl kr0 kr1 kr2 kr3 kr4 kr5 klr kp0 kp1 kp2 kp3) := hD
    refine lv_aload_n hx hb dX0_save_27 rfl (lv_at hl 0 rfl) ?_
    refine lv_iconst (v := (5 : Int32)) hx hb dX0_save_28 (by decide) ?_
    refine pf_X0_18 hx hb hts hown hK hP hD hS 1 rfl rfl dX0_save_29 (fun H locs hP hD hS => ?_)
    have hP : va_P D vwCl (CW ad cI kc c4 kbc kit kln ken kla kfi kea (5 : Int32) kbl kr0 kr1 kr2 kr3 kr4 kr5 klr kp0 kp1 kp2 kp3) H := hP
    have hD : va_D A (CW ad cI kc c4 kbc kit kln ken kla kfi kea (5 : Int32) kbl kr0 kr1 kr2 kr3 kr4 kr5 klr kp0 kp1 kp2 kp3) := hD
    refine lv_aload_n hx hb dX0_save_32 rfl (lv_at hl 0 rfl) ?_
    refine gf_X0_18 hx hb hts hown hK hP 1 rfl rfl dX0_save_33 ?_
    refine lv_if_lt (tgt := 72) hx hb dX0_save_36 (by decide) (fun h => absurd h (by decide)) (fun _ => ?_)
    refine lv_aload_n hx hb dX0_save_39 rfl (lv_at hl 0 rfl) ?_
    refine gf_X0_11 hx hb hts hown hK hP 1 rfl rfl dX0_save_40 ?_
    refine lv_iconst (v := (0 : Int32)) hx hb dX0_save_43 (by decide) ?_
    refine lv_aload_n hx hb dX0_save_44 rfl (lv_at hl 0 rfl) ?_
    refine gf_X0_15 hx hb hts hown hK hP 1 rfl rfl dX0_save_45 ?_
    refine lv_aload_n hx hb dX0_save_48 rfl (lv_at hl 0 rfl) ?_
    refine gf_X0_18 hx hb hts hown hK hP 1 rfl rfl dX0_save_49 ?_
    refine lv_sipush (v := (531 : Int32)) hx hb dX0_save_52 (by decide) ?_
    refine lv_imul hx hb dX0_save_55 ?_
    refine lv_sipush (v := (531 : Int32)) hx hb dX0_save_56 (by decide) ?_
    obtain ⟨c5, ec5, hs⟩ := ob hs
    refine nd_copy hx hb (hml.trans hl.1.symm) hown (hts _ wd_110) (hts _ wd_111) (hts _ wd_112) (hts _ wd_113) hK hP hD hS 6 7 0 rfl rfl rfl ec5 (Nat.le_of_ble_eq_true rfl) (by decide) dX0_save_59 (fun H locs hP hD hS => ?_)
    have hP : va_P D vwCl (CW ad cI kc c5 kbc kit kln ken kla kfi kea (5 : Int32) kbl kr0 kr1 kr2 kr3 kr4 kr5 klr kp0 kp1 kp2 kp3) H := hP
    have hD : va_D A (CW ad cI kc c5 kbc kit kln ken kla kfi kea (5 : Int32) kbl kr0 kr1 kr2 kr3 kr4 kr5 klr kp0 kp1 kp2 kp3) := hD
    refine lv_aload_n hx hb dX0_save_62 rfl (lv_at hl 0 rfl) ?_
    refine lv_dup hx hb dX0_save_63 rfl ?_
    refine gf_X0_18 hx hb hts hown hK hP 1 rfl rfl dX0_save_64 ?_
    refine lv_iconst (v := (1 : Int32)) hx hb dX0_save_67 (by decide) ?_
    refine lv_iadd hx hb dX0_save_68 ?_
    refine pf_X0_18 hx hb hts hown hK hP hD hS 1 rfl rfl dX0_save_69 (fun H locs hP hD hS => ?_)
    have hP : va_P D vwCl (CW ad cI kc c5 kbc kit kln ken kla kfi kea ((5 : Int32) + (1 : Int32)) kbl kr0 kr1 kr2 kr3 kr4 kr5 klr kp0 kp1 kp2 kp3) H := hP
    have hD : va_D A (CW ad cI kc c5 kbc kit kln ken kla kfi kea ((5 : Int32) + (1 : Int32)) kbl kr0 kr1 kr2 kr3 kr4 kr5 klr kp0 kp1 kp2 kp3) := hD
    exact hret _ _ hs hP hS dX0_save_72
def tX0_restore_0 : List (Nat × Instr × Nat) := [(0, .aload_n 0, 1), (1, .getfield 18, 3), (4, .ifCond .le 45, 3), (7, .aload_n 0, 1), (8, .getfield 18, 3), (11, .bipush 6, 2), (13, .if_icmp .gt 36, 3), (16, .aload_n 0, 1), (17, .dup, 1), (18, .getfield 18, 3), (21, .iconst 1, 1), (22, .isub, 1), (23, .putfield 18, 3), (26, .aload_n 0, 1), (27, .getfield 15, 3), (30, .aload_n 0, 1), (31, .getfield 18, 3), (34, .sipush 531, 3), (37, .imul, 1), (38, .aload_n 0, 1), (39, .getfield 11, 3), (42, .iconst 0, 1), (43, .sipush 531, 3), (46, .invokestatic 22, 3), (49, .return_, 1)]
theorem tX0_restore_0_ok : tX0_restore_0.all (fun q => decide (decode cX0_restore q.1 = .ok q.2)) = true := by decide +kernel
theorem dX0_restore_0 : decode cX0_restore 0 = .ok (.aload_n 0, 1) := td tX0_restore_0_ok 0 (q := (0, .aload_n 0, 1)) rfl
theorem dX0_restore_1 : decode cX0_restore 1 = .ok (.getfield 18, 3) := td tX0_restore_0_ok 1 (q := (1, .getfield 18, 3)) rfl
theorem dX0_restore_4 : decode cX0_restore 4 = .ok (.ifCond .le 45, 3) := td tX0_restore_0_ok 2 (q := (4, .ifCond .le 45, 3)) rfl
theorem dX0_restore_7 : decode cX0_restore 7 = .ok (.aload_n 0, 1) := td tX0_restore_0_ok 3 (q := (7, .aload_n 0, 1)) rfl
theorem dX0_restore_8 : decode cX0_restore 8 = .ok (.getfield 18, 3) := td tX0_restore_0_ok 4 (q := (8, .getfield 18, 3)) rfl
theorem dX0_restore_11 : decode cX0_restore 11 = .ok (.bipush 6, 2) := td tX0_restore_0_ok 5 (q := (11, .bipush 6, 2)) rfl
theorem dX0_restore_13 : decode cX0_restore 13 = .ok (.if_icmp .gt 36, 3) := td tX0_restore_0_ok 6 (q := (13, .if_icmp .gt 36, 3)) rfl
theorem dX0_restore_16 : decode cX0_restore 16 = .ok (.aload_n 0, 1) := td tX0_restore_0_ok 7 (q := (16, .aload_n 0, 1)) rfl
theorem dX0_restore_17 : decode cX0_restore 17 = .ok (.dup, 1) := td tX0_restore_0_ok 8 (q := (17, .dup, 1)) rfl
theorem dX0_restore_18 : decode cX0_restore 18 = .ok (.getfield 18, 3) := td tX0_restore_0_ok 9 (q := (18, .getfield 18, 3)) rfl
theorem dX0_restore_21 : decode cX0_restore 21 = .ok (.iconst 1, 1) := td tX0_restore_0_ok 10 (q := (21, .iconst 1, 1)) rfl
theorem dX0_restore_22 : decode cX0_restore 22 = .ok (.isub, 1) := td tX0_restore_0_ok 11 (q := (22, .isub, 1)) rfl
theorem dX0_restore_23 : decode cX0_restore 23 = .ok (.putfield 18, 3) := td tX0_restore_0_ok 12 (q := (23, .putfield 18, 3)) rfl
theorem dX0_restore_26 : decode cX0_restore 26 = .ok (.aload_n 0, 1) := td tX0_restore_0_ok 13 (q := (26, .aload_n 0, 1)) rfl
theorem dX0_restore_27 : decode cX0_restore 27 = .ok (.getfield 15, 3) := td tX0_restore_0_ok 14 (q := (27, .getfield 15, 3)) rfl
theorem dX0_restore_30 : decode cX0_restore 30 = .ok (.aload_n 0, 1) := td tX0_restore_0_ok 15 (q := (30, .aload_n 0, 1)) rfl
theorem dX0_restore_31 : decode cX0_restore 31 = .ok (.getfield 18, 3) := td tX0_restore_0_ok 16 (q := (31, .getfield 18, 3)) rfl
theorem dX0_restore_34 : decode cX0_restore 34 = .ok (.sipush 531, 3) := td tX0_restore_0_ok 17 (q := (34, .sipush 531, 3)) rfl
theorem dX0_restore_37 : decode cX0_restore 37 = .ok (.imul, 1) := td tX0_restore_0_ok 18 (q := (37, .imul, 1)) rfl
theorem dX0_restore_38 : decode cX0_restore 38 = .ok (.aload_n 0, 1) := td tX0_restore_0_ok 19 (q := (38, .aload_n 0, 1)) rfl
theorem dX0_restore_39 : decode cX0_restore 39 = .ok (.getfield 11, 3) := td tX0_restore_0_ok 20 (q := (39, .getfield 11, 3)) rfl
theorem dX0_restore_42 : decode cX0_restore 42 = .ok (.iconst 0, 1) := td tX0_restore_0_ok 21 (q := (42, .iconst 0, 1)) rfl
theorem dX0_restore_43 : decode cX0_restore 43 = .ok (.sipush 531, 3) := td tX0_restore_0_ok 22 (q := (43, .sipush 531, 3)) rfl
theorem dX0_restore_46 : decode cX0_restore 46 = .ok (.invokestatic 22, 3) := td tX0_restore_0_ok 23 (q := (46, .invokestatic 22, 3)) rfl
theorem dX0_restore_49 : decode cX0_restore 49 = .ok (.return_, 1) := td tX0_restore_0_ok 24 (q := (49, .return_, 1)) rfl
def fX0_restore (kc : (Nat → Int32)) (ksv : (Nat → Int32)) (kns : Int32) : Option ((Nat → Int32) × Int32) :=
  (if kns ≤ 0 then (some (kc, kns)) else (if (6 : Int32) < kns then (some (kc, kns)) else (Option.bind (acpy ksv 3186 kc 531 ((kns - (1 : Int32)) * (531 : Int32)) (0 : Int32) (531 : Int32)) (fun c3 => (some (c3, kns - (1 : Int32)))))))
set_option maxHeartbeats 4000000 in
set_option maxRecDepth 100000 in
theorem mX0_restore {l : Launch} {D : va_G} {ad : Nat → Nat} {cI : ClassId} {kc : (Nat → Int32)} {ksv : (Nat → Int32)} {kbc : (Nat → Int32)} {kit : (Nat → Int32)} {kln : (Nat → Int32)} {ken : (Nat → Int32)} {kla : (Nat → Int32)} {kfi : (Nat → Int32)} {kea : (Nat → Int32)} {kns : Int32} {kbl : Int32} {kr0 : Int32} {kr1 : Int32} {kr2 : Int32} {kr3 : Int32} {kr4 : Int32} {kr5 : Int32} {klr : Int32} {kp0 : Int32} {kp1 : Int32} {kp2 : Int32} {kp3 : Int32} {kc' : (Nat → Int32)} {kns' : Int32} (hs : fX0_restore kc ksv kns = some (kc', kns')) : nd_C l yX0_restore cX0_restore 1 none 1 60 D [(cI, .int)] [.ref (ad 1)] (CW ad cI kc ksv kbc kit kln ken kla kfi kea kns kbl kr0 kr1 kr2 kr3 kr4 kr5 klr kp0 kp1 kp2 kp3) (CW ad cI kc' ksv kbc kit kln ken kla kfi kea kns' kbl kr0 kr1 kr2 kr3 kr4 kr5 klr kp0 kp1 kp2 kp3) none := by
  refine nd_ofCv (by decide) (Nat.le_of_ble_eq_true rfl) (fun p e s m args below meth c_ ls A Q hx hb hml hown hts hl hP hK hD hS hA hN hret => ?_)
  have hown : s.vm.findClass RX0 = some m.cls := hown
  have hl : lv_has ls 1 [(0, .ref (ad 1))] := hl
  have hret : ∀ (z0 : (Nat → Int32)) (z1 : Int32) {H : Heap} {locs : List Loc} {pc : Nat} {ls : Array Slot}, some (z0, z1) = some (kc', kns') → va_P D vwCl (CW ad cI z0 ksv kbc kit kln ken kla kfi kea z1 kbl kr0 kr1 kr2 kr3 kr4 kr5 klr kp0 kp1 kp2 kp3) H → va_S A s.heap H locs → decode cX0_restore pc = .ok (.return_, 1) → W p l e ⟨1, 0, 0, 60⟩ s m args below meth c_ H locs 0 0 Q (F0 m pc ls []) := by
    intro z0 z1 H locs pc ls h hP hS hd
    cases h
    exact hret hP hS hd
  rw [fX0_restore] at hs
  refine lv_aload_n hx hb dX0_restore_0 rfl (lv_at hl 0 rfl) ?_
  refine gf_X0_18 hx hb hts hown hK hP 1 rfl rfl dX0_restore_1 ?_
  refine lv_if_le (tgt := 49) hx hb dX0_restore_4 (by decide) (fun b1 => ?_) (fun b1 => ?_)
  · have hs := ite_t hs b1
    exact hret _ _ hs hP hS dX0_restore_49
  · have hs := ite_f hs b1
    refine lv_aload_n hx hb dX0_restore_7 rfl (lv_at hl 0 rfl) ?_
    refine gf_X0_18 hx hb hts hown hK hP 1 rfl rfl dX0_restore_8 ?_
    refine lv_bipush (v := (6 : Int32)) hx hb dX0_restore_11 (by decide) ?_
    refine lv_icmp_gt (tgt := 49) hx hb dX0_restore_13 (by decide) (fun b2 => ?_) (fun b2 => ?_)
    · have hs := ite_t hs b2
      exact hret _ _ hs hP hS dX0_restore_49
    · have hs := ite_f hs b2
      refine lv_aload_n hx hb dX0_restore_16 rfl (lv_at hl 0 rfl) ?_
      refine lv_dup hx hb dX0_restore_17 rfl ?_
      refine gf_X0_18 hx hb hts hown hK hP 1 rfl rfl dX0_restore_18 ?_
      refine lv_iconst (v := (1 : Int32)) hx hb dX0_restore_21 (by decide) ?_
      refine lv_isub hx hb dX0_restore_22 ?_
      refine pf_X0_18 hx hb hts hown hK hP hD hS 1 rfl rfl dX0_restore_23 (fun H locs hP hD hS => ?_)
      have hP : va_P D vwCl (CW ad cI kc ksv kbc kit kln ken kla kfi kea (kns - (1 : Int32)) kbl kr0 kr1 kr2 kr3 kr4 kr5 klr kp0 kp1 kp2 kp3) H := hP
      have hD : va_D A (CW ad cI kc ksv kbc kit kln ken kla kfi kea (kns - (1 : Int32)) kbl kr0 kr1 kr2 kr3 kr4 kr5 klr kp0 kp1 kp2 kp3) := hD
      refine lv_aload_n hx hb dX0_restore_26 rfl (lv_at hl 0 rfl) ?_
      refine gf_X0_15 hx hb hts hown hK hP 1 rfl rfl dX0_restore_27 ?_
      refine lv_aload_n hx hb dX0_restore_30 rfl (lv_at hl 0 rfl) ?_
      refine gf_X0_18 hx hb hts hown hK hP 1 rfl rfl dX0_restore_31 ?_
      refine lv_sipush (v := (531 : Int32)) hx hb dX0_restore_34 (by decide) ?_
      refine lv_imul hx hb dX0_restore_37 ?_
      refine lv_aload_n hx hb dX0_restore_38 rfl (lv_at hl 0 rfl) ?_
      refine gf_X0_11 hx hb hts hown hK hP 1 rfl rfl dX0_restore_39 ?_
      refine lv_iconst (v := (0 : Int32)) hx hb dX0_restore_42 (by decide) ?_
      refine lv_sipush (v := (531 : Int32)) hx hb dX0_restore_43 (by decide) ?_
      obtain ⟨c3, ec3, hs⟩ := ob hs
      refine nd_copy hx hb (hml.trans hl.1.symm) hown (hts _ wd_110) (hts _ wd_111) (hts _ wd_112) (hts _ wd_113) hK hP hD hS 7 6 0 rfl rfl rfl ec3 (Nat.le_of_ble_eq_true rfl) (by decide) dX0_restore_46 (fun H locs hP hD hS => ?_)
      have hP : va_P D vwCl (CW ad cI c3 ksv kbc kit kln ken kla kfi kea (kns - (1 : Int32)) kbl kr0 kr1 kr2 kr3 kr4 kr5 klr kp0 kp1 kp2 kp3) H := hP
      have hD : va_D A (CW ad cI c3 ksv kbc kit kln ken kla kfi kea (kns - (1 : Int32)) kbl kr0 kr1 kr2 kr3 kr4 kr5 klr kp0 kp1 kp2 kp3) := hD
      exact hret _ _ hs hP hS dX0_restore_49
def tX0_savedStates_0 : List (Nat × Instr × Nat) := [(0, .aload_n 0, 1), (1, .getfield 18, 3), (4, .ireturn, 1)]
theorem tX0_savedStates_0_ok : tX0_savedStates_0.all (fun q => decide (decode cX0_savedStates q.1 = .ok q.2)) = true := by decide +kernel
theorem dX0_savedStates_0 : decode cX0_savedStates 0 = .ok (.aload_n 0, 1) := td tX0_savedStates_0_ok 0 (q := (0, .aload_n 0, 1)) rfl
theorem dX0_savedStates_1 : decode cX0_savedStates 1 = .ok (.getfield 18, 3) := td tX0_savedStates_0_ok 1 (q := (1, .getfield 18, 3)) rfl
theorem dX0_savedStates_4 : decode cX0_savedStates 4 = .ok (.ireturn, 1) := td tX0_savedStates_0_ok 2 (q := (4, .ireturn, 1)) rfl
def fX0_savedStates (kns : Int32) : Option (Int32) :=
  (some kns)
set_option maxHeartbeats 4000000 in
set_option maxRecDepth 100000 in
theorem mX0_savedStates {l : Launch} {D : va_G} {ad : Nat → Nat} {cI : ClassId} {kc : (Nat → Int32)} {ksv : (Nat → Int32)} {kbc : (Nat → Int32)} {kit : (Nat → Int32)} {kln : (Nat → Int32)} {ken : (Nat → Int32)} {kla : (Nat → Int32)} {kfi : (Nat → Int32)} {kea : (Nat → Int32)} {kns : Int32} {kbl : Int32} {kr0 : Int32} {kr1 : Int32} {kr2 : Int32} {kr3 : Int32} {kr4 : Int32} {kr5 : Int32} {klr : Int32} {kp0 : Int32} {kp1 : Int32} {kp2 : Int32} {kp3 : Int32} {r : Int32} (hs : fX0_savedStates kns = some r) : nd_C l yX0_savedStates cX0_savedStates 1 (some .int) 0 0 D [(cI, .int)] [.ref (ad 1)] (CW ad cI kc ksv kbc kit kln ken kla kfi kea kns kbl kr0 kr1 kr2 kr3 kr4 kr5 klr kp0 kp1 kp2 kp3) (CW ad cI kc ksv kbc kit kln ken kla kfi kea kns kbl kr0 kr1 kr2 kr3 kr4 kr5 klr kp0 kp1 kp2 kp3) (some (.int r)) := by
  refine nd_ofCi (by decide) (Nat.le_of_ble_eq_true rfl) (fun p e s m args below meth c_ ls A Q hx hb hml hown hts hl hP hK hD hS hA hN hret => ?_)
  have hown : s.vm.findClass RX0 = some m.cls := hown
  have hl : lv_has ls 1 [(0, .ref (ad 1))] := hl
  have hret : ∀ (z0 : Int32) {H : Heap} {locs : List Loc} {pc : Nat} {ls : Array Slot}, some z0 = some r → va_P D vwCl (CW ad cI kc ksv kbc kit kln ken kla kfi kea kns kbl kr0 kr1 kr2 kr3 kr4 kr5 klr kp0 kp1 kp2 kp3) H → va_S A s.heap H locs → decode cX0_savedStates pc = .ok (.ireturn, 1) → W p l e ⟨0, 0, 0, 0⟩ s m args below meth c_ H locs 0 0 Q (F0 m pc ls [.int z0]) := by
    intro z0 H locs pc ls h hP hS hd
    cases h
    exact hret hP hS hd
  rw [fX0_savedStates] at hs
  refine lv_aload_n hx hb dX0_savedStates_0 rfl (lv_at hl 0 rfl) ?_
  refine gf_X0_18 hx hb hts hown hK hP 1 rfl rfl dX0_savedStates_1 ?_
  exact hret _ hs hP hS dX0_savedStates_4
def tX0_pieces_0 : List (Nat × Instr × Nat) := [(0, .aload_n 0, 1), (1, .iconst 0, 1), (2, .invokevirtual 28, 3), (5, .ireturn, 1)]
theorem tX0_pieces_0_ok : tX0_pieces_0.all (fun q => decide (decode cX0_pieces q.1 = .ok q.2)) = true := by decide +kernel
theorem dX0_pieces_0 : decode cX0_pieces 0 = .ok (.aload_n 0, 1) := td tX0_pieces_0_ok 0 (q := (0, .aload_n 0, 1)) rfl
theorem dX0_pieces_1 : decode cX0_pieces 1 = .ok (.iconst 0, 1) := td tX0_pieces_0_ok 1 (q := (1, .iconst 0, 1)) rfl
theorem dX0_pieces_2 : decode cX0_pieces 2 = .ok (.invokevirtual 28, 3) := td tX0_pieces_0_ok 2 (q := (2, .invokevirtual 28, 3)) rfl
theorem dX0_pieces_5 : decode cX0_pieces 5 = .ok (.ireturn, 1) := td tX0_pieces_0_ok 3 (q := (5, .ireturn, 1)) rfl
def fX0_pieces (kc : (Nat → Int32)) : Option (Int32) :=
  (Option.bind (fX0_get kc (0 : Int32)) (fun q1 => (some q1)))
set_option maxHeartbeats 4000000 in
set_option maxRecDepth 100000 in
theorem mX0_pieces {l : Launch} {D : va_G} {ad : Nat → Nat} {cI : ClassId} {kc : (Nat → Int32)} {ksv : (Nat → Int32)} {kbc : (Nat → Int32)} {kit : (Nat → Int32)} {kln : (Nat → Int32)} {ken : (Nat → Int32)} {kla : (Nat → Int32)} {kfi : (Nat → Int32)} {kea : (Nat → Int32)} {kns : Int32} {kbl : Int32} {kr0 : Int32} {kr1 : Int32} {kr2 : Int32} {kr3 : Int32} {kr4 : Int32} {kr5 : Int32} {klr : Int32} {kp0 : Int32} {kp1 : Int32} {kp2 : Int32} {kp3 : Int32} {r : Int32} (hs : fX0_pieces kc = some r) : nd_C l yX0_pieces cX0_pieces 1 (some .int) 1 21 D [(cI, .int)] [.ref (ad 1)] (CW ad cI kc ksv kbc kit kln ken kla kfi kea kns kbl kr0 kr1 kr2 kr3 kr4 kr5 klr kp0 kp1 kp2 kp3) (CW ad cI kc ksv kbc kit kln ken kla kfi kea kns kbl kr0 kr1 kr2 kr3 kr4 kr5 klr kp0 kp1 kp2 kp3) (some (.int r)) := by
  refine nd_ofCi (by decide) (Nat.le_of_ble_eq_true rfl) (fun p e s m args below meth c_ ls A Q hx hb hml hown hts hl hP hK hD hS hA hN hret => ?_)
  have hown : s.vm.findClass RX0 = some m.cls := hown
  have hl : lv_has ls 1 [(0, .ref (ad 1))] := hl
  have hret : ∀ (z0 : Int32) {H : Heap} {locs : List Loc} {pc : Nat} {ls : Array Slot}, some z0 = some r → va_P D vwCl (CW ad cI kc ksv kbc kit kln ken kla kfi kea kns kbl kr0 kr1 kr2 kr3 kr4 kr5 klr kp0 kp1 kp2 kp3) H → va_S A s.heap H locs → decode cX0_pieces pc = .ok (.ireturn, 1) → W p l e ⟨1, 0, 0, 21⟩ s m args below meth c_ H locs 0 0 Q (F0 m pc ls [.int z0]) := by
    intro z0 H locs pc ls h hP hS hd
    cases h
    exact hret hP hS hd
  rw [fX0_pieces] at hs
  refine lv_aload_n hx hb dX0_pieces_0 rfl (lv_at hl 0 rfl) ?_
  refine lv_iconst (v := (0 : Int32)) hx hb dX0_pieces_1 (by decide) ?_
  obtain ⟨q1, eq1, hs⟩ := ob hs
  refine nd_callV (As := [.int (0 : Int32)]) (rest := []) (st1 := [.int q1]) hx hb hml hown hts hl hP hK hD hS hA hN (mX0_get eq1) iv_X0_get wd_102 1 rfl rfl rfl rfl ⟨Nat.le_of_ble_eq_true rfl, Nat.le_of_ble_eq_true rfl⟩ (Nat.le_of_ble_eq_true rfl) ⟨Nat.zero_le _, Nat.zero_le _⟩ dX0_pieces_2 rfl rfl (fun H locs hP hD hS => ?_)
  exact hret _ hs hP hS dX0_pieces_5
def tX0_receiptsOf_0 : List (Nat × Instr × Nat) := [(0, .aload_n 0, 1), (1, .bipush 41, 2), (3, .iload_n 1, 1), (4, .iadd, 1), (5, .invokevirtual 28, 3), (8, .ireturn, 1)]
theorem tX0_receiptsOf_0_ok : tX0_receiptsOf_0.all (fun q => decide (decode cX0_receiptsOf q.1 = .ok q.2)) = true := by decide +kernel
theorem dX0_receiptsOf_0 : decode cX0_receiptsOf 0 = .ok (.aload_n 0, 1) := td tX0_receiptsOf_0_ok 0 (q := (0, .aload_n 0, 1)) rfl
theorem dX0_receiptsOf_1 : decode cX0_receiptsOf 1 = .ok (.bipush 41, 2) := td tX0_receiptsOf_0_ok 1 (q := (1, .bipush 41, 2)) rfl
theorem dX0_receiptsOf_3 : decode cX0_receiptsOf 3 = .ok (.iload_n 1, 1) := td tX0_receiptsOf_0_ok 2 (q := (3, .iload_n 1, 1)) rfl
theorem dX0_receiptsOf_4 : decode cX0_receiptsOf 4 = .ok (.iadd, 1) := td tX0_receiptsOf_0_ok 3 (q := (4, .iadd, 1)) rfl
theorem dX0_receiptsOf_5 : decode cX0_receiptsOf 5 = .ok (.invokevirtual 28, 3) := td tX0_receiptsOf_0_ok 4 (q := (5, .invokevirtual 28, 3)) rfl
theorem dX0_receiptsOf_8 : decode cX0_receiptsOf 8 = .ok (.ireturn, 1) := td tX0_receiptsOf_0_ok 5 (q := (8, .ireturn, 1)) rfl
def fX0_receiptsOf (kc : (Nat → Int32)) (x1 : Int32) : Option (Int32) :=
  (Option.bind (fX0_get kc ((41 : Int32) + x1)) (fun q1 => (some q1)))
set_option maxHeartbeats 4000000 in
set_option maxRecDepth 100000 in
theorem mX0_receiptsOf {l : Launch} {D : va_G} {ad : Nat → Nat} {cI : ClassId} {kc : (Nat → Int32)} {ksv : (Nat → Int32)} {kbc : (Nat → Int32)} {kit : (Nat → Int32)} {kln : (Nat → Int32)} {ken : (Nat → Int32)} {kla : (Nat → Int32)} {kfi : (Nat → Int32)} {kea : (Nat → Int32)} {kns : Int32} {kbl : Int32} {kr0 : Int32} {kr1 : Int32} {kr2 : Int32} {kr3 : Int32} {kr4 : Int32} {kr5 : Int32} {klr : Int32} {kp0 : Int32} {kp1 : Int32} {kp2 : Int32} {kp3 : Int32} {x1 : Int32} {r : Int32} (hs : fX0_receiptsOf kc x1 = some r) : nd_C l yX0_receiptsOf cX0_receiptsOf 2 (some .int) 1 21 D [(cI, .int)] [.ref (ad 1), .int x1] (CW ad cI kc ksv kbc kit kln ken kla kfi kea kns kbl kr0 kr1 kr2 kr3 kr4 kr5 klr kp0 kp1 kp2 kp3) (CW ad cI kc ksv kbc kit kln ken kla kfi kea kns kbl kr0 kr1 kr2 kr3 kr4 kr5 klr kp0 kp1 kp2 kp3) (some (.int r)) := by
  refine nd_ofCi (by decide) (Nat.le_of_ble_eq_true rfl) (fun p e s m args below meth c_ ls A Q hx hb hml hown hts hl hP hK hD hS hA hN hret => ?_)
  have hown : s.vm.findClass RX0 = some m.cls := hown
  have hl : lv_has ls 2 [(0, .ref (ad 1)), (1, .int x1)] := hl
  have hret : ∀ (z0 : Int32) {H : Heap} {locs : List Loc} {pc : Nat} {ls : Array Slot}, some z0 = some r → va_P D vwCl (CW ad cI kc ksv kbc kit kln ken kla kfi kea kns kbl kr0 kr1 kr2 kr3 kr4 kr5 klr kp0 kp1 kp2 kp3) H → va_S A s.heap H locs → decode cX0_receiptsOf pc = .ok (.ireturn, 1) → W p l e ⟨1, 0, 0, 21⟩ s m args below meth c_ H locs 0 0 Q (F0 m pc ls [.int z0]) := by
    intro z0 H locs pc ls h hP hS hd
    cases h
    exact hret hP hS hd
  rw [fX0_receiptsOf] at hs
  refine lv_aload_n hx hb dX0_receiptsOf_0 rfl (lv_at hl 0 rfl) ?_
  refine lv_bipush (v := (41 : Int32)) hx hb dX0_receiptsOf_1 (by decide) ?_
  refine lv_iload_n hx hb dX0_receiptsOf_3 rfl (lv_at hl 1 rfl) ?_
  refine lv_iadd hx hb dX0_receiptsOf_4 ?_
  obtain ⟨q1, eq1, hs⟩ := ob hs
  refine nd_callV (As := [.int ((41 : Int32) + x1)]) (rest := []) (st1 := [.int q1]) hx hb hml hown hts hl hP hK hD hS hA hN (mX0_get eq1) iv_X0_get wd_102 1 rfl rfl rfl rfl ⟨Nat.le_of_ble_eq_true rfl, Nat.le_of_ble_eq_true rfl⟩ (Nat.le_of_ble_eq_true rfl) ⟨Nat.zero_le _, Nat.zero_le _⟩ dX0_receiptsOf_5 rfl rfl (fun H locs hP hD hS => ?_)
  exact hret _ hs hP hS dX0_receiptsOf_8
def tX0_slotOf_0 : List (Nat × Instr × Nat) := [(0, .iload_n 0, 1), (1, .bipush 6, 2), (3, .imul, 1), (4, .iload_n 1, 1), (5, .iadd, 1), (6, .ireturn, 1)]
theorem tX0_slotOf_0_ok : tX0_slotOf_0.all (fun q => decide (decode cX0_slotOf q.1 = .ok q.2)) = true := by decide +kernel
theorem dX0_slotOf_0 : decode cX0_slotOf 0 = .ok (.iload_n 0, 1) := td tX0_slotOf_0_ok 0 (q := (0, .iload_n 0, 1)) rfl
theorem dX0_slotOf_1 : decode cX0_slotOf 1 = .ok (.bipush 6, 2) := td tX0_slotOf_0_ok 1 (q := (1, .bipush 6, 2)) rfl
theorem dX0_slotOf_3 : decode cX0_slotOf 3 = .ok (.imul, 1) := td tX0_slotOf_0_ok 2 (q := (3, .imul, 1)) rfl
theorem dX0_slotOf_4 : decode cX0_slotOf 4 = .ok (.iload_n 1, 1) := td tX0_slotOf_0_ok 3 (q := (4, .iload_n 1, 1)) rfl
theorem dX0_slotOf_5 : decode cX0_slotOf 5 = .ok (.iadd, 1) := td tX0_slotOf_0_ok 4 (q := (5, .iadd, 1)) rfl
theorem dX0_slotOf_6 : decode cX0_slotOf 6 = .ok (.ireturn, 1) := td tX0_slotOf_0_ok 5 (q := (6, .ireturn, 1)) rfl
def fX0_slotOf (x0 : Int32) (x1 : Int32) : Option (Int32) :=
  (some ((x0 * (6 : Int32)) + x1))
set_option maxHeartbeats 4000000 in
set_option maxRecDepth 100000 in
theorem mX0_slotOf {l : Launch} {D : va_G} {W0 : va_W} {tys : nd_T} {x0 : Int32} {x1 : Int32} {r : Int32} (hs : fX0_slotOf x0 x1 = some r) : nd_C l yX0_slotOf cX0_slotOf 2 (some .int) 0 0 D tys [.int x0, .int x1] W0 W0 (some (.int r)) := by
  refine nd_ofCi (by decide) (Nat.le_of_ble_eq_true rfl) (fun p e s m args below meth c_ ls A Q hx hb hml hown hts hl hP hK hD hS hA hN hret => ?_)
  have hown : s.vm.findClass RX0 = some m.cls := hown
  have hl : lv_has ls 2 [(0, .int x0), (1, .int x1)] := hl
  have hret : ∀ (z0 : Int32) {H : Heap} {locs : List Loc} {pc : Nat} {ls : Array Slot}, some z0 = some r → va_P D vwCl W0 H → va_S A s.heap H locs → decode cX0_slotOf pc = .ok (.ireturn, 1) → W p l e ⟨0, 0, 0, 0⟩ s m args below meth c_ H locs 0 0 Q (F0 m pc ls [.int z0]) := by
    intro z0 H locs pc ls h hP hS hd
    cases h
    exact hret hP hS hd
  rw [fX0_slotOf] at hs
  refine lv_iload_n hx hb dX0_slotOf_0 rfl (lv_at hl 0 rfl) ?_
  refine lv_bipush (v := (6 : Int32)) hx hb dX0_slotOf_1 (by decide) ?_
  refine lv_imul hx hb dX0_slotOf_3 ?_
  refine lv_iload_n hx hb dX0_slotOf_4 rfl (lv_at hl 1 rfl) ?_
  refine lv_iadd hx hb dX0_slotOf_5 ?_
  exact hret _ hs hP hS dX0_slotOf_6
def tX0_pieceOfSlot_0 : List (Nat × Instr × Nat) := [(0, .iload_n 0, 1), (1, .bipush 6, 2), (3, .idiv, 1), (4, .ireturn, 1)]
theorem tX0_pieceOfSlot_0_ok : tX0_pieceOfSlot_0.all (fun q => decide (decode cX0_pieceOfSlot q.1 = .ok q.2)) = true := by decide +kernel
theorem dX0_pieceOfSlot_0 : decode cX0_pieceOfSlot 0 = .ok (.iload_n 0, 1) := td tX0_pieceOfSlot_0_ok 0 (q := (0, .iload_n 0, 1)) rfl
theorem dX0_pieceOfSlot_1 : decode cX0_pieceOfSlot 1 = .ok (.bipush 6, 2) := td tX0_pieceOfSlot_0_ok 1 (q := (1, .bipush 6, 2)) rfl
theorem dX0_pieceOfSlot_3 : decode cX0_pieceOfSlot 3 = .ok (.idiv, 1) := td tX0_pieceOfSlot_0_ok 2 (q := (3, .idiv, 1)) rfl
theorem dX0_pieceOfSlot_4 : decode cX0_pieceOfSlot 4 = .ok (.ireturn, 1) := td tX0_pieceOfSlot_0_ok 3 (q := (4, .ireturn, 1)) rfl
def fX0_pieceOfSlot (x0 : Int32) : Option (Int32) :=
  (some (x0 / (6 : Int32)))
set_option maxHeartbeats 4000000 in
set_option maxRecDepth 100000 in
theorem mX0_pieceOfSlot {l : Launch} {D : va_G} {W0 : va_W} {tys : nd_T} {x0 : Int32} {r : Int32} (hs : fX0_pieceOfSlot x0 = some r) : nd_C l yX0_pieceOfSlot cX0_pieceOfSlot 1 (some .int) 0 0 D tys [.int x0] W0 W0 (some (.int r)) := by
  refine nd_ofCi (by decide) (Nat.le_of_ble_eq_true rfl) (fun p e s m args below meth c_ ls A Q hx hb hml hown hts hl hP hK hD hS hA hN hret => ?_)
  have hown : s.vm.findClass RX0 = some m.cls := hown
  have hl : lv_has ls 1 [(0, .int x0)] := hl
  have hret : ∀ (z0 : Int32) {H : Heap} {locs : List Loc} {pc : Nat} {ls : Array Slot}, some z0 = some r → va_P D vwCl W0 H → va_S A s.heap H locs → decode cX0_pieceOfSlot pc = .ok (.ireturn, 1) → W p l e ⟨0, 0, 0, 0⟩ s m args below meth c_ H locs 0 0 Q (F0 m pc ls [.int z0]) := by
    intro z0 H locs pc ls h hP hS hd
    cases h
    exact hret hP hS hd
  rw [fX0_pieceOfSlot] at hs
  refine lv_iload_n hx hb dX0_pieceOfSlot_0 rfl (lv_at hl 0 rfl) ?_
  refine lv_bipush (v := (6 : Int32)) hx hb dX0_pieceOfSlot_1 (by decide) ?_
  refine lv_idiv hx hb dX0_pieceOfSlot_3 (by decide) ?_
  exact hret _ hs hP hS dX0_pieceOfSlot_4
def tX0_numberOfSlot_0 : List (Nat × Instr × Nat) := [(0, .iload_n 0, 1), (1, .bipush 6, 2), (3, .irem, 1), (4, .ireturn, 1)]
theorem tX0_numberOfSlot_0_ok : tX0_numberOfSlot_0.all (fun q => decide (decode cX0_numberOfSlot q.1 = .ok q.2)) = true := by decide +kernel
theorem dX0_numberOfSlot_0 : decode cX0_numberOfSlot 0 = .ok (.iload_n 0, 1) := td tX0_numberOfSlot_0_ok 0 (q := (0, .iload_n 0, 1)) rfl
theorem dX0_numberOfSlot_1 : decode cX0_numberOfSlot 1 = .ok (.bipush 6, 2) := td tX0_numberOfSlot_0_ok 1 (q := (1, .bipush 6, 2)) rfl
theorem dX0_numberOfSlot_3 : decode cX0_numberOfSlot 3 = .ok (.irem, 1) := td tX0_numberOfSlot_0_ok 2 (q := (3, .irem, 1)) rfl
theorem dX0_numberOfSlot_4 : decode cX0_numberOfSlot 4 = .ok (.ireturn, 1) := td tX0_numberOfSlot_0_ok 3 (q := (4, .ireturn, 1)) rfl
def fX0_numberOfSlot (x0 : Int32) : Option (Int32) :=
  (some (x0 - x0 / (6 : Int32) * (6 : Int32)))
set_option maxHeartbeats 4000000 in
set_option maxRecDepth 100000 in
theorem mX0_numberOfSlot {l : Launch} {D : va_G} {W0 : va_W} {tys : nd_T} {x0 : Int32} {r : Int32} (hs : fX0_numberOfSlot x0 = some r) : nd_C l yX0_numberOfSlot cX0_numberOfSlot 1 (some .int) 0 0 D tys [.int x0] W0 W0 (some (.int r)) := by
  refine nd_ofCi (by decide) (Nat.le_of_ble_eq_true rfl) (fun p e s m args below meth c_ ls A Q hx hb hml hown hts hl hP hK hD hS hA hN hret => ?_)
  have hown : s.vm.findClass RX0 = some m.cls := hown
  have hl : lv_has ls 1 [(0, .int x0)] := hl
  have hret : ∀ (z0 : Int32) {H : Heap} {locs : List Loc} {pc : Nat} {ls : Array Slot}, some z0 = some r → va_P D vwCl W0 H → va_S A s.heap H locs → decode cX0_numberOfSlot pc = .ok (.ireturn, 1) → W p l e ⟨0, 0, 0, 0⟩ s m args below meth c_ H locs 0 0 Q (F0 m pc ls [.int z0]) := by
    intro z0 H locs pc ls h hP hS hd
    cases h
    exact hret hP hS hd
  rw [fX0_numberOfSlot] at hs
  refine lv_iload_n hx hb dX0_numberOfSlot_0 rfl (lv_at hl 0 rfl) ?_
  refine lv_bipush (v := (6 : Int32)) hx hb dX0_numberOfSlot_1 (by decide) ?_
  refine lv_irem hx hb dX0_numberOfSlot_3 (by decide) ?_
  exact hret _ hs hP hS dX0_numberOfSlot_4
def tX0_isUsed_0 : List (Nat × Instr × Nat) := [(0, .iload_n 1, 1), (1, .bipush 6, 2), (3, .irem, 1), (4, .aload_n 0, 1), (5, .bipush 41, 2), (7, .iload_n 1, 1), (8, .bipush 6, 2), (10, .idiv, 1), (11, .iadd, 1), (12, .invokevirtual 28, 3), (15, .if_icmp .ge 7, 3), (18, .iconst 1, 1), (19, .goto 4, 3), (22, .iconst 0, 1), (23, .ireturn, 1)]
theorem tX0_isUsed_0_ok : tX0_isUsed_0.all (fun q => decide (decode cX0_isUsed q.1 = .ok q.2)) = true := by decide +kernel
theorem dX0_isUsed_0 : decode cX0_isUsed 0 = .ok (.iload_n 1, 1) := td tX0_isUsed_0_ok 0 (q := (0, .iload_n 1, 1)) rfl
theorem dX0_isUsed_1 : decode cX0_isUsed 1 = .ok (.bipush 6, 2) := td tX0_isUsed_0_ok 1 (q := (1, .bipush 6, 2)) rfl
theorem dX0_isUsed_3 : decode cX0_isUsed 3 = .ok (.irem, 1) := td tX0_isUsed_0_ok 2 (q := (3, .irem, 1)) rfl
theorem dX0_isUsed_4 : decode cX0_isUsed 4 = .ok (.aload_n 0, 1) := td tX0_isUsed_0_ok 3 (q := (4, .aload_n 0, 1)) rfl
theorem dX0_isUsed_5 : decode cX0_isUsed 5 = .ok (.bipush 41, 2) := td tX0_isUsed_0_ok 4 (q := (5, .bipush 41, 2)) rfl
theorem dX0_isUsed_7 : decode cX0_isUsed 7 = .ok (.iload_n 1, 1) := td tX0_isUsed_0_ok 5 (q := (7, .iload_n 1, 1)) rfl
theorem dX0_isUsed_8 : decode cX0_isUsed 8 = .ok (.bipush 6, 2) := td tX0_isUsed_0_ok 6 (q := (8, .bipush 6, 2)) rfl
theorem dX0_isUsed_10 : decode cX0_isUsed 10 = .ok (.idiv, 1) := td tX0_isUsed_0_ok 7 (q := (10, .idiv, 1)) rfl
theorem dX0_isUsed_11 : decode cX0_isUsed 11 = .ok (.iadd, 1) := td tX0_isUsed_0_ok 8 (q := (11, .iadd, 1)) rfl
theorem dX0_isUsed_12 : decode cX0_isUsed 12 = .ok (.invokevirtual 28, 3) := td tX0_isUsed_0_ok 9 (q := (12, .invokevirtual 28, 3)) rfl
theorem dX0_isUsed_15 : decode cX0_isUsed 15 = .ok (.if_icmp .ge 7, 3) := td tX0_isUsed_0_ok 10 (q := (15, .if_icmp .ge 7, 3)) rfl
theorem dX0_isUsed_18 : decode cX0_isUsed 18 = .ok (.iconst 1, 1) := td tX0_isUsed_0_ok 11 (q := (18, .iconst 1, 1)) rfl
theorem dX0_isUsed_19 : decode cX0_isUsed 19 = .ok (.goto 4, 3) := td tX0_isUsed_0_ok 12 (q := (19, .goto 4, 3)) rfl
theorem dX0_isUsed_22 : decode cX0_isUsed 22 = .ok (.iconst 0, 1) := td tX0_isUsed_0_ok 13 (q := (22, .iconst 0, 1)) rfl
theorem dX0_isUsed_23 : decode cX0_isUsed 23 = .ok (.ireturn, 1) := td tX0_isUsed_0_ok 14 (q := (23, .ireturn, 1)) rfl
def fX0_isUsed (kc : (Nat → Int32)) (x1 : Int32) : Option (Int32) :=
  (Option.bind (fX0_get kc ((41 : Int32) + (x1 / (6 : Int32)))) (fun q1 => (if q1 ≤ (x1 - x1 / (6 : Int32) * (6 : Int32)) then (some (0 : Int32)) else (some (1 : Int32)))))
set_option maxHeartbeats 4000000 in
set_option maxRecDepth 100000 in
theorem mX0_isUsed {l : Launch} {D : va_G} {ad : Nat → Nat} {cI : ClassId} {kc : (Nat → Int32)} {ksv : (Nat → Int32)} {kbc : (Nat → Int32)} {kit : (Nat → Int32)} {kln : (Nat → Int32)} {ken : (Nat → Int32)} {kla : (Nat → Int32)} {kfi : (Nat → Int32)} {kea : (Nat → Int32)} {kns : Int32} {kbl : Int32} {kr0 : Int32} {kr1 : Int32} {kr2 : Int32} {kr3 : Int32} {kr4 : Int32} {kr5 : Int32} {klr : Int32} {kp0 : Int32} {kp1 : Int32} {kp2 : Int32} {kp3 : Int32} {x1 : Int32} {r : Int32} (hs : fX0_isUsed kc x1 = some r) : nd_C l yX0_isUsed cX0_isUsed 2 (some .boolean) 1 21 D [(cI, .int)] [.ref (ad 1), .int x1] (CW ad cI kc ksv kbc kit kln ken kla kfi kea kns kbl kr0 kr1 kr2 kr3 kr4 kr5 klr kp0 kp1 kp2 kp3) (CW ad cI kc ksv kbc kit kln ken kla kfi kea kns kbl kr0 kr1 kr2 kr3 kr4 kr5 klr kp0 kp1 kp2 kp3) (some (.int r)) := by
  refine nd_ofCz (by decide) (Nat.le_of_ble_eq_true rfl) (fun p e s m args below meth c_ ls A Q hx hb hml hown hts hl hP hK hD hS hA hN hret => ?_)
  have hown : s.vm.findClass RX0 = some m.cls := hown
  have hl : lv_has ls 2 [(0, .ref (ad 1)), (1, .int x1)] := hl
  have hret : ∀ (z0 : Int32) {H : Heap} {locs : List Loc} {pc : Nat} {ls : Array Slot}, some z0 = some r → (z0 = 0 ∨ z0 = 1) → va_P D vwCl (CW ad cI kc ksv kbc kit kln ken kla kfi kea kns kbl kr0 kr1 kr2 kr3 kr4 kr5 klr kp0 kp1 kp2 kp3) H → va_S A s.heap H locs → decode cX0_isUsed pc = .ok (.ireturn, 1) → W p l e ⟨1, 0, 0, 21⟩ s m args below meth c_ H locs 0 0 Q (F0 m pc ls [.int z0]) := by
    intro z0 H locs pc ls h hz hP hS hd
    cases h
    exact hret hz hP hS hd
  rw [fX0_isUsed] at hs
  refine lv_iload_n hx hb dX0_isUsed_0 rfl (lv_at hl 1 rfl) ?_
  refine lv_bipush (v := (6 : Int32)) hx hb dX0_isUsed_1 (by decide) ?_
  refine lv_irem hx hb dX0_isUsed_3 (by decide) ?_
  refine lv_aload_n hx hb dX0_isUsed_4 rfl (lv_at hl 0 rfl) ?_
  refine lv_bipush (v := (41 : Int32)) hx hb dX0_isUsed_5 (by decide) ?_
  refine lv_iload_n hx hb dX0_isUsed_7 rfl (lv_at hl 1 rfl) ?_
  refine lv_bipush (v := (6 : Int32)) hx hb dX0_isUsed_8 (by decide) ?_
  refine lv_idiv hx hb dX0_isUsed_10 (by decide) ?_
  refine lv_iadd hx hb dX0_isUsed_11 ?_
  obtain ⟨q1, eq1, hs⟩ := ob hs
  refine nd_callV (As := [.int ((41 : Int32) + (x1 / (6 : Int32)))]) (rest := [.int (x1 - x1 / (6 : Int32) * (6 : Int32))]) (st1 := [.int q1, .int (x1 - x1 / (6 : Int32) * (6 : Int32))]) hx hb hml hown hts hl hP hK hD hS hA hN (mX0_get eq1) iv_X0_get wd_102 1 rfl rfl rfl rfl ⟨Nat.le_of_ble_eq_true rfl, Nat.le_of_ble_eq_true rfl⟩ (Nat.le_of_ble_eq_true rfl) ⟨Nat.zero_le _, Nat.zero_le _⟩ dX0_isUsed_12 rfl rfl (fun H locs hP hD hS => ?_)
  refine lv_icmp_ge (tgt := 22) hx hb dX0_isUsed_15 (by decide) (fun b2 => ?_) (fun b2 => ?_)
  · have hs := ite_t hs b2
    refine lv_iconst (v := (0 : Int32)) hx hb dX0_isUsed_22 (by decide) ?_
    exact hret _ hs (Or.inl rfl) hP hS dX0_isUsed_23
  · have hs := ite_f hs b2
    refine lv_iconst (v := (1 : Int32)) hx hb dX0_isUsed_18 (by decide) ?_
    refine lv_goto (tgt := 23) hx hb dX0_isUsed_19 (by decide) ?_
    exact hret _ hs (Or.inr rfl) hP hS dX0_isUsed_23
def tX0_sumOf_0 : List (Nat × Instr × Nat) := [(0, .iconst 0, 1), (1, .istore_n 2, 1), (2, .aload_n 0, 1), (3, .sipush 231, 3), (6, .iload_n 1, 1), (7, .iadd, 1), (8, .invokevirtual 28, 3), (11, .istore_n 3, 1), (12, .iconst 0, 1), (13, .istore 4, 2), (15, .iload 4, 2), (17, .iload_n 3, 1), (18, .if_icmp .ge 26, 3), (21, .iload_n 2, 1), (22, .aload_n 0, 1), (23, .sipush 291, 3), (26, .iload_n 1, 1), (27, .iconst 4, 1), (28, .imul, 1), (29, .iadd, 1), (30, .iload 4, 2), (32, .iadd, 1), (33, .invokevirtual 28, 3), (36, .iadd, 1), (37, .istore_n 2, 1), (38, .iinc 4 1, 3), (41, .goto (-26), 3), (44, .iload_n 2, 1), (45, .ireturn, 1)]
theorem tX0_sumOf_0_ok : tX0_sumOf_0.all (fun q => decide (decode cX0_sumOf q.1 = .ok q.2)) = true := by decide +kernel
theorem dX0_sumOf_0 : decode cX0_sumOf 0 = .ok (.iconst 0, 1) := td tX0_sumOf_0_ok 0 (q := (0, .iconst 0, 1)) rfl
theorem dX0_sumOf_1 : decode cX0_sumOf 1 = .ok (.istore_n 2, 1) := td tX0_sumOf_0_ok 1 (q := (1, .istore_n 2, 1)) rfl
theorem dX0_sumOf_2 : decode cX0_sumOf 2 = .ok (.aload_n 0, 1) := td tX0_sumOf_0_ok 2 (q := (2, .aload_n 0, 1)) rfl
theorem dX0_sumOf_3 : decode cX0_sumOf 3 = .ok (.sipush 231, 3) := td tX0_sumOf_0_ok 3 (q := (3, .sipush 231, 3)) rfl
theorem dX0_sumOf_6 : decode cX0_sumOf 6 = .ok (.iload_n 1, 1) := td tX0_sumOf_0_ok 4 (q := (6, .iload_n 1, 1)) rfl
theorem dX0_sumOf_7 : decode cX0_sumOf 7 = .ok (.iadd, 1) := td tX0_sumOf_0_ok 5 (q := (7, .iadd, 1)) rfl
theorem dX0_sumOf_8 : decode cX0_sumOf 8 = .ok (.invokevirtual 28, 3) := td tX0_sumOf_0_ok 6 (q := (8, .invokevirtual 28, 3)) rfl
theorem dX0_sumOf_11 : decode cX0_sumOf 11 = .ok (.istore_n 3, 1) := td tX0_sumOf_0_ok 7 (q := (11, .istore_n 3, 1)) rfl
theorem dX0_sumOf_12 : decode cX0_sumOf 12 = .ok (.iconst 0, 1) := td tX0_sumOf_0_ok 8 (q := (12, .iconst 0, 1)) rfl
theorem dX0_sumOf_13 : decode cX0_sumOf 13 = .ok (.istore 4, 2) := td tX0_sumOf_0_ok 9 (q := (13, .istore 4, 2)) rfl
theorem dX0_sumOf_15 : decode cX0_sumOf 15 = .ok (.iload 4, 2) := td tX0_sumOf_0_ok 10 (q := (15, .iload 4, 2)) rfl
theorem dX0_sumOf_17 : decode cX0_sumOf 17 = .ok (.iload_n 3, 1) := td tX0_sumOf_0_ok 11 (q := (17, .iload_n 3, 1)) rfl
theorem dX0_sumOf_18 : decode cX0_sumOf 18 = .ok (.if_icmp .ge 26, 3) := td tX0_sumOf_0_ok 12 (q := (18, .if_icmp .ge 26, 3)) rfl
theorem dX0_sumOf_21 : decode cX0_sumOf 21 = .ok (.iload_n 2, 1) := td tX0_sumOf_0_ok 13 (q := (21, .iload_n 2, 1)) rfl
theorem dX0_sumOf_22 : decode cX0_sumOf 22 = .ok (.aload_n 0, 1) := td tX0_sumOf_0_ok 14 (q := (22, .aload_n 0, 1)) rfl
theorem dX0_sumOf_23 : decode cX0_sumOf 23 = .ok (.sipush 291, 3) := td tX0_sumOf_0_ok 15 (q := (23, .sipush 291, 3)) rfl
theorem dX0_sumOf_26 : decode cX0_sumOf 26 = .ok (.iload_n 1, 1) := td tX0_sumOf_0_ok 16 (q := (26, .iload_n 1, 1)) rfl
theorem dX0_sumOf_27 : decode cX0_sumOf 27 = .ok (.iconst 4, 1) := td tX0_sumOf_0_ok 17 (q := (27, .iconst 4, 1)) rfl
theorem dX0_sumOf_28 : decode cX0_sumOf 28 = .ok (.imul, 1) := td tX0_sumOf_0_ok 18 (q := (28, .imul, 1)) rfl
theorem dX0_sumOf_29 : decode cX0_sumOf 29 = .ok (.iadd, 1) := td tX0_sumOf_0_ok 19 (q := (29, .iadd, 1)) rfl
theorem dX0_sumOf_30 : decode cX0_sumOf 30 = .ok (.iload 4, 2) := td tX0_sumOf_0_ok 20 (q := (30, .iload 4, 2)) rfl
theorem dX0_sumOf_32 : decode cX0_sumOf 32 = .ok (.iadd, 1) := td tX0_sumOf_0_ok 21 (q := (32, .iadd, 1)) rfl
theorem dX0_sumOf_33 : decode cX0_sumOf 33 = .ok (.invokevirtual 28, 3) := td tX0_sumOf_0_ok 22 (q := (33, .invokevirtual 28, 3)) rfl
theorem dX0_sumOf_36 : decode cX0_sumOf 36 = .ok (.iadd, 1) := td tX0_sumOf_0_ok 23 (q := (36, .iadd, 1)) rfl
theorem dX0_sumOf_37 : decode cX0_sumOf 37 = .ok (.istore_n 2, 1) := td tX0_sumOf_0_ok 24 (q := (37, .istore_n 2, 1)) rfl
theorem dX0_sumOf_38 : decode cX0_sumOf 38 = .ok (.iinc 4 1, 3) := td tX0_sumOf_0_ok 25 (q := (38, .iinc 4 1, 3)) rfl
theorem dX0_sumOf_41 : decode cX0_sumOf 41 = .ok (.goto (-26), 3) := td tX0_sumOf_0_ok 26 (q := (41, .goto (-26), 3)) rfl
theorem dX0_sumOf_44 : decode cX0_sumOf 44 = .ok (.iload_n 2, 1) := td tX0_sumOf_0_ok 27 (q := (44, .iload_n 2, 1)) rfl
theorem dX0_sumOf_45 : decode cX0_sumOf 45 = .ok (.ireturn, 1) := td tX0_sumOf_0_ok 28 (q := (45, .ireturn, 1)) rfl
def fX0_sumOf_15 (k15 : Int32 → Option (Int32)) (kc : (Nat → Int32)) (x1 : Int32) (x3 : Int32) : Nat → Int32 → Int32 → Option (Int32)
  | 0, _, _ => none
  | n15 + 1, x2, x4 => (if x3 ≤ x4 then (k15 x2) else (Option.bind (fX0_get kc (((291 : Int32) + (x1 * (4 : Int32))) + x4)) (fun q3 => (fX0_sumOf_15 k15 kc x1 x3 n15 (x2 + q3) (x4 + (1 : Int32))))))
def fX0_sumOf (kc : (Nat → Int32)) (x1 : Int32) : Option (Int32) :=
  (Option.bind (fX0_get kc ((231 : Int32) + x1)) (fun q1 => (fX0_sumOf_15 (fun (u2_4 : Int32) => (some u2_4)) kc x1 q1 LF (0 : Int32) (0 : Int32))))
set_option maxHeartbeats 4000000 in
set_option maxRecDepth 100000 in
theorem mX0_sumOf {l : Launch} {D : va_G} {ad : Nat → Nat} {cI : ClassId} {kc : (Nat → Int32)} {ksv : (Nat → Int32)} {kbc : (Nat → Int32)} {kit : (Nat → Int32)} {kln : (Nat → Int32)} {ken : (Nat → Int32)} {kla : (Nat → Int32)} {kfi : (Nat → Int32)} {kea : (Nat → Int32)} {kns : Int32} {kbl : Int32} {kr0 : Int32} {kr1 : Int32} {kr2 : Int32} {kr3 : Int32} {kr4 : Int32} {kr5 : Int32} {klr : Int32} {kp0 : Int32} {kp1 : Int32} {kp2 : Int32} {kp3 : Int32} {x1 : Int32} {r : Int32} (hs : fX0_sumOf kc x1 = some r) : nd_C l yX0_sumOf cX0_sumOf 5 (some .int) 1 21 D [(cI, .int)] [.ref (ad 1), .int x1] (CW ad cI kc ksv kbc kit kln ken kla kfi kea kns kbl kr0 kr1 kr2 kr3 kr4 kr5 klr kp0 kp1 kp2 kp3) (CW ad cI kc ksv kbc kit kln ken kla kfi kea kns kbl kr0 kr1 kr2 kr3 kr4 kr5 klr kp0 kp1 kp2 kp3) (some (.int r)) := by
  refine nd_ofCi (by decide) (Nat.le_of_ble_eq_true rfl) (fun p e s m args below meth c_ ls A Q hx hb hml hown hts hl hP hK hD hS hA hN hret => ?_)
  have hown : s.vm.findClass RX0 = some m.cls := hown
  have hl : lv_has ls 5 [(0, .ref (ad 1)), (1, .int x1)] := hl
  have hret : ∀ (z0 : Int32) {H : Heap} {locs : List Loc} {pc : Nat} {ls : Array Slot}, some z0 = some r → va_P D vwCl (CW ad cI kc ksv kbc kit kln ken kla kfi kea kns kbl kr0 kr1 kr2 kr3 kr4 kr5 klr kp0 kp1 kp2 kp3) H → va_S A s.heap H locs → decode cX0_sumOf pc = .ok (.ireturn, 1) → W p l e ⟨1, 0, 0, 21⟩ s m args below meth c_ H locs 0 0 Q (F0 m pc ls [.int z0]) := by
    intro z0 H locs pc ls h hP hS hd
    cases h
    exact hret hP hS hd
  rw [fX0_sumOf] at hs
  refine lv_iconst (v := (0 : Int32)) hx hb dX0_sumOf_0 (by decide) ?_
  refine lv_istore_n (lv' := [(2, .int (0 : Int32)), (0, .ref (ad 1)), (1, .int x1)]) hx hb dX0_sumOf_1 rfl hl (by decide) rfl (fun ls hl => ?_)
  refine lv_aload_n hx hb dX0_sumOf_2 rfl (lv_at hl 1 rfl) ?_
  refine lv_sipush (v := (231 : Int32)) hx hb dX0_sumOf_3 (by decide) ?_
  refine lv_iload_n hx hb dX0_sumOf_6 rfl (lv_at hl 2 rfl) ?_
  refine lv_iadd hx hb dX0_sumOf_7 ?_
  obtain ⟨q1, eq1, hs⟩ := ob hs
  refine nd_callV (As := [.int ((231 : Int32) + x1)]) (rest := []) (st1 := [.int q1]) hx hb hml hown hts hl hP hK hD hS hA hN (mX0_get eq1) iv_X0_get wd_102 1 rfl rfl rfl rfl ⟨Nat.le_of_ble_eq_true rfl, Nat.le_of_ble_eq_true rfl⟩ (Nat.le_of_ble_eq_true rfl) ⟨Nat.zero_le _, Nat.zero_le _⟩ dX0_sumOf_8 rfl rfl (fun H locs hP hD hS => ?_)
  refine lv_istore_n (lv' := [(3, .int q1), (2, .int (0 : Int32)), (0, .ref (ad 1)), (1, .int x1)]) hx hb dX0_sumOf_11 rfl hl (by decide) rfl (fun ls hl => ?_)
  refine lv_iconst (v := (0 : Int32)) hx hb dX0_sumOf_12 (by decide) ?_
  refine lv_istore (lv' := [(4, .int (0 : Int32)), (3, .int q1), (2, .int (0 : Int32)), (0, .ref (ad 1)), (1, .int x1)]) hx hb dX0_sumOf_13 hl (by decide) rfl (fun ls hl => ?_)
  have L15 : ∀ (n15 : Nat) (k15 : Int32 → Option (Int32)) (v2_4 : Int32) (v4_4 : Int32) (H : Heap) (locs : List Loc) (ls : Array Slot), lv_has ls 5 [(0, .ref (ad 1)), (1, .int x1), (2, .int v2_4), (3, .int q1), (4, .int v4_4)] → va_P D vwCl (CW ad cI kc ksv kbc kit kln ken kla kfi kea kns kbl kr0 kr1 kr2 kr3 kr4 kr5 klr kp0 kp1 kp2 kp3) H → va_S A s.heap H locs → fX0_sumOf_15 k15 kc x1 q1 n15 v2_4 v4_4 = some r → (∀ (u2_4 : Int32) (H : Heap) (locs : List Loc) (ls : Array Slot), lv_has ls 5 [(2, .int u2_4)] → va_P D vwCl (CW ad cI kc ksv kbc kit kln ken kla kfi kea kns kbl kr0 kr1 kr2 kr3 kr4 kr5 klr kp0 kp1 kp2 kp3) H → va_S A s.heap H locs → k15 u2_4 = some r → W p l e ⟨1, 0, 0, 21⟩ s m args below meth c_ H locs 0 0 Q (F0 m 44 ls [])) → W p l e ⟨1, 0, 0, 21⟩ s m args below meth c_ H locs 0 0 Q (F0 m 15 ls []) := by
    intro n15
    induction n15 with
    | zero =>
      intro k15 v2_4 v4_4 H locs ls hl hP hS hs hk15
      rw [fX0_sumOf_15] at hs
      cases hs
    | succ n15 ih15 =>
      intro k15 v2_4 v4_4 H locs ls hl hP hS hs hk15
      rw [fX0_sumOf_15] at hs
      refine lv_iload hx hb dX0_sumOf_15 (lv_at hl 4 rfl) ?_
      refine lv_iload_n hx hb dX0_sumOf_17 rfl (lv_at hl 3 rfl) ?_
      refine lv_icmp_ge (tgt := 44) hx hb dX0_sumOf_18 (by decide) (fun b5 => ?_) (fun b5 => ?_)
      · have hs := ite_t hs b5
        exact hk15 v2_4 _ _ _ (lv_sub hl [2] rfl) hP hS hs
      · have hs := ite_f hs b5
        refine lv_iload_n hx hb dX0_sumOf_21 rfl (lv_at hl 2 rfl) ?_
        refine lv_aload_n hx hb dX0_sumOf_22 rfl (lv_at hl 0 rfl) ?_
        refine lv_sipush (v := (291 : Int32)) hx hb dX0_sumOf_23 (by decide) ?_
        refine lv_iload_n hx hb dX0_sumOf_26 rfl (lv_at hl 1 rfl) ?_
        refine lv_iconst (v := (4 : Int32)) hx hb dX0_sumOf_27 (by decide) ?_
        refine lv_imul hx hb dX0_sumOf_28 ?_
        refine lv_iadd hx hb dX0_sumOf_29 ?_
        refine lv_iload hx hb dX0_sumOf_30 (lv_at hl 4 rfl) ?_
        refine lv_iadd hx hb dX0_sumOf_32 ?_
        obtain ⟨q6, eq6, hs⟩ := ob hs
        refine nd_callV (As := [.int (((291 : Int32) + (x1 * (4 : Int32))) + v4_4)]) (rest := [.int v2_4]) (st1 := [.int q6, .int v2_4]) hx hb hml hown hts hl hP hK hD hS hA hN (mX0_get eq6) iv_X0_get wd_102 1 rfl rfl rfl rfl ⟨Nat.le_of_ble_eq_true rfl, Nat.le_of_ble_eq_true rfl⟩ (Nat.le_of_ble_eq_true rfl) ⟨Nat.zero_le _, Nat.zero_le _⟩ dX0_sumOf_33 rfl rfl (fun H locs hP hD hS => ?_)
        refine lv_iadd hx hb dX0_sumOf_36 ?_
        refine lv_istore_n (lv' := [(2, .int (v2_4 + q6)), (0, .ref (ad 1)), (1, .int x1), (3, .int q1), (4, .int v4_4)]) hx hb dX0_sumOf_37 rfl hl (by decide) rfl (fun ls hl => ?_)
        refine lv_iinc (v := v4_4 + (1 : Int32)) (lv' := [(4, .int (v4_4 + (1 : Int32))), (2, .int (v2_4 + q6)), (0, .ref (ad 1)), (1, .int x1), (3, .int q1)]) hx hb dX0_sumOf_38 hl (k := 4) rfl rfl (by decide) rfl (fun ls hl => ?_)
        refine lv_goto (tgt := 15) hx hb dX0_sumOf_41 (by decide) ?_
        exact ih15 k15 (v2_4 + q6) (v4_4 + (1 : Int32)) _ _ _ (lv_sub hl [2, 3, 1, 4, 0] rfl) hP hS hs hk15
  refine L15 LF _ (0 : Int32) (0 : Int32) _ _ _ (lv_sub hl [3, 4, 2, 1, 0] rfl) hP hS hs (fun u2_4 H locs ls hl hP hS hs => ?_)
  refine lv_iload_n hx hb dX0_sumOf_44 rfl (lv_at hl 0 rfl) ?_
  exact hret _ hs hP hS dX0_sumOf_45
def tX0_pageOfSlot_0 : List (Nat × Instr × Nat) := [(0, .aload_n 0, 1), (1, .bipush 51, 2), (3, .iload_n 1, 1), (4, .iadd, 1), (5, .invokevirtual 28, 3), (8, .sipush 720, 3), (11, .iadd, 1), (12, .sipush 1440, 3), (15, .idiv, 1), (16, .ireturn, 1)]
theorem tX0_pageOfSlot_0_ok : tX0_pageOfSlot_0.all (fun q => decide (decode cX0_pageOfSlot q.1 = .ok q.2)) = true := by decide +kernel
theorem dX0_pageOfSlot_0 : decode cX0_pageOfSlot 0 = .ok (.aload_n 0, 1) := td tX0_pageOfSlot_0_ok 0 (q := (0, .aload_n 0, 1)) rfl
theorem dX0_pageOfSlot_1 : decode cX0_pageOfSlot 1 = .ok (.bipush 51, 2) := td tX0_pageOfSlot_0_ok 1 (q := (1, .bipush 51, 2)) rfl
theorem dX0_pageOfSlot_3 : decode cX0_pageOfSlot 3 = .ok (.iload_n 1, 1) := td tX0_pageOfSlot_0_ok 2 (q := (3, .iload_n 1, 1)) rfl
theorem dX0_pageOfSlot_4 : decode cX0_pageOfSlot 4 = .ok (.iadd, 1) := td tX0_pageOfSlot_0_ok 3 (q := (4, .iadd, 1)) rfl
theorem dX0_pageOfSlot_5 : decode cX0_pageOfSlot 5 = .ok (.invokevirtual 28, 3) := td tX0_pageOfSlot_0_ok 4 (q := (5, .invokevirtual 28, 3)) rfl
theorem dX0_pageOfSlot_8 : decode cX0_pageOfSlot 8 = .ok (.sipush 720, 3) := td tX0_pageOfSlot_0_ok 5 (q := (8, .sipush 720, 3)) rfl
theorem dX0_pageOfSlot_11 : decode cX0_pageOfSlot 11 = .ok (.iadd, 1) := td tX0_pageOfSlot_0_ok 6 (q := (11, .iadd, 1)) rfl
theorem dX0_pageOfSlot_12 : decode cX0_pageOfSlot 12 = .ok (.sipush 1440, 3) := td tX0_pageOfSlot_0_ok 7 (q := (12, .sipush 1440, 3)) rfl
theorem dX0_pageOfSlot_15 : decode cX0_pageOfSlot 15 = .ok (.idiv, 1) := td tX0_pageOfSlot_0_ok 8 (q := (15, .idiv, 1)) rfl
theorem dX0_pageOfSlot_16 : decode cX0_pageOfSlot 16 = .ok (.ireturn, 1) := td tX0_pageOfSlot_0_ok 9 (q := (16, .ireturn, 1)) rfl
def fX0_pageOfSlot (kc : (Nat → Int32)) (x1 : Int32) : Option (Int32) :=
  (Option.bind (fX0_get kc ((51 : Int32) + x1)) (fun q1 => (some ((q1 + (720 : Int32)) / (1440 : Int32)))))
set_option maxHeartbeats 4000000 in
set_option maxRecDepth 100000 in
theorem mX0_pageOfSlot {l : Launch} {D : va_G} {ad : Nat → Nat} {cI : ClassId} {kc : (Nat → Int32)} {ksv : (Nat → Int32)} {kbc : (Nat → Int32)} {kit : (Nat → Int32)} {kln : (Nat → Int32)} {ken : (Nat → Int32)} {kla : (Nat → Int32)} {kfi : (Nat → Int32)} {kea : (Nat → Int32)} {kns : Int32} {kbl : Int32} {kr0 : Int32} {kr1 : Int32} {kr2 : Int32} {kr3 : Int32} {kr4 : Int32} {kr5 : Int32} {klr : Int32} {kp0 : Int32} {kp1 : Int32} {kp2 : Int32} {kp3 : Int32} {x1 : Int32} {r : Int32} (hs : fX0_pageOfSlot kc x1 = some r) : nd_C l yX0_pageOfSlot cX0_pageOfSlot 2 (some .int) 1 21 D [(cI, .int)] [.ref (ad 1), .int x1] (CW ad cI kc ksv kbc kit kln ken kla kfi kea kns kbl kr0 kr1 kr2 kr3 kr4 kr5 klr kp0 kp1 kp2 kp3) (CW ad cI kc ksv kbc kit kln ken kla kfi kea kns kbl kr0 kr1 kr2 kr3 kr4 kr5 klr kp0 kp1 kp2 kp3) (some (.int r)) := by
  refine nd_ofCi (by decide) (Nat.le_of_ble_eq_true rfl) (fun p e s m args below meth c_ ls A Q hx hb hml hown hts hl hP hK hD hS hA hN hret => ?_)
  have hown : s.vm.findClass RX0 = some m.cls := hown
  have hl : lv_has ls 2 [(0, .ref (ad 1)), (1, .int x1)] := hl
  have hret : ∀ (z0 : Int32) {H : Heap} {locs : List Loc} {pc : Nat} {ls : Array Slot}, some z0 = some r → va_P D vwCl (CW ad cI kc ksv kbc kit kln ken kla kfi kea kns kbl kr0 kr1 kr2 kr3 kr4 kr5 klr kp0 kp1 kp2 kp3) H → va_S A s.heap H locs → decode cX0_pageOfSlot pc = .ok (.ireturn, 1) → W p l e ⟨1, 0, 0, 21⟩ s m args below meth c_ H locs 0 0 Q (F0 m pc ls [.int z0]) := by
    intro z0 H locs pc ls h hP hS hd
    cases h
    exact hret hP hS hd
  rw [fX0_pageOfSlot] at hs
  refine lv_aload_n hx hb dX0_pageOfSlot_0 rfl (lv_at hl 0 rfl) ?_
  refine lv_bipush (v := (51 : Int32)) hx hb dX0_pageOfSlot_1 (by decide) ?_
  refine lv_iload_n hx hb dX0_pageOfSlot_3 rfl (lv_at hl 1 rfl) ?_
  refine lv_iadd hx hb dX0_pageOfSlot_4 ?_
  obtain ⟨q1, eq1, hs⟩ := ob hs
  refine nd_callV (As := [.int ((51 : Int32) + x1)]) (rest := []) (st1 := [.int q1]) hx hb hml hown hts hl hP hK hD hS hA hN (mX0_get eq1) iv_X0_get wd_102 1 rfl rfl rfl rfl ⟨Nat.le_of_ble_eq_true rfl, Nat.le_of_ble_eq_true rfl⟩ (Nat.le_of_ble_eq_true rfl) ⟨Nat.zero_le _, Nat.zero_le _⟩ dX0_pageOfSlot_5 rfl rfl (fun H locs hP hD hS => ?_)
  refine lv_sipush (v := (720 : Int32)) hx hb dX0_pageOfSlot_8 (by decide) ?_
  refine lv_iadd hx hb dX0_pageOfSlot_11 ?_
  refine lv_sipush (v := (1440 : Int32)) hx hb dX0_pageOfSlot_12 (by decide) ?_
  refine lv_idiv hx hb dX0_pageOfSlot_15 (by decide) ?_
  exact hret _ hs hP hS dX0_pageOfSlot_16
def tX0_hourOfSlot_0 : List (Nat × Instr × Nat) := [(0, .aload_n 0, 1), (1, .bipush 51, 2), (3, .iload_n 1, 1), (4, .iadd, 1), (5, .invokevirtual 28, 3), (8, .bipush 60, 2), (10, .idiv, 1), (11, .bipush 24, 2), (13, .irem, 1), (14, .ireturn, 1)]
theorem tX0_hourOfSlot_0_ok : tX0_hourOfSlot_0.all (fun q => decide (decode cX0_hourOfSlot q.1 = .ok q.2)) = true := by decide +kernel
theorem dX0_hourOfSlot_0 : decode cX0_hourOfSlot 0 = .ok (.aload_n 0, 1) := td tX0_hourOfSlot_0_ok 0 (q := (0, .aload_n 0, 1)) rfl
theorem dX0_hourOfSlot_1 : decode cX0_hourOfSlot 1 = .ok (.bipush 51, 2) := td tX0_hourOfSlot_0_ok 1 (q := (1, .bipush 51, 2)) rfl
theorem dX0_hourOfSlot_3 : decode cX0_hourOfSlot 3 = .ok (.iload_n 1, 1) := td tX0_hourOfSlot_0_ok 2 (q := (3, .iload_n 1, 1)) rfl
theorem dX0_hourOfSlot_4 : decode cX0_hourOfSlot 4 = .ok (.iadd, 1) := td tX0_hourOfSlot_0_ok 3 (q := (4, .iadd, 1)) rfl
theorem dX0_hourOfSlot_5 : decode cX0_hourOfSlot 5 = .ok (.invokevirtual 28, 3) := td tX0_hourOfSlot_0_ok 4 (q := (5, .invokevirtual 28, 3)) rfl
theorem dX0_hourOfSlot_8 : decode cX0_hourOfSlot 8 = .ok (.bipush 60, 2) := td tX0_hourOfSlot_0_ok 5 (q := (8, .bipush 60, 2)) rfl
theorem dX0_hourOfSlot_10 : decode cX0_hourOfSlot 10 = .ok (.idiv, 1) := td tX0_hourOfSlot_0_ok 6 (q := (10, .idiv, 1)) rfl
theorem dX0_hourOfSlot_11 : decode cX0_hourOfSlot 11 = .ok (.bipush 24, 2) := td tX0_hourOfSlot_0_ok 7 (q := (11, .bipush 24, 2)) rfl
theorem dX0_hourOfSlot_13 : decode cX0_hourOfSlot 13 = .ok (.irem, 1) := td tX0_hourOfSlot_0_ok 8 (q := (13, .irem, 1)) rfl
theorem dX0_hourOfSlot_14 : decode cX0_hourOfSlot 14 = .ok (.ireturn, 1) := td tX0_hourOfSlot_0_ok 9 (q := (14, .ireturn, 1)) rfl
def fX0_hourOfSlot (kc : (Nat → Int32)) (x1 : Int32) : Option (Int32) :=
  (Option.bind (fX0_get kc ((51 : Int32) + x1)) (fun q1 => (some ((q1 / (60 : Int32)) - (q1 / (60 : Int32)) / (24 : Int32) * (24 : Int32)))))
set_option maxHeartbeats 4000000 in
set_option maxRecDepth 100000 in
theorem mX0_hourOfSlot {l : Launch} {D : va_G} {ad : Nat → Nat} {cI : ClassId} {kc : (Nat → Int32)} {ksv : (Nat → Int32)} {kbc : (Nat → Int32)} {kit : (Nat → Int32)} {kln : (Nat → Int32)} {ken : (Nat → Int32)} {kla : (Nat → Int32)} {kfi : (Nat → Int32)} {kea : (Nat → Int32)} {kns : Int32} {kbl : Int32} {kr0 : Int32} {kr1 : Int32} {kr2 : Int32} {kr3 : Int32} {kr4 : Int32} {kr5 : Int32} {klr : Int32} {kp0 : Int32} {kp1 : Int32} {kp2 : Int32} {kp3 : Int32} {x1 : Int32} {r : Int32} (hs : fX0_hourOfSlot kc x1 = some r) : nd_C l yX0_hourOfSlot cX0_hourOfSlot 2 (some .int) 1 21 D [(cI, .int)] [.ref (ad 1), .int x1] (CW ad cI kc ksv kbc kit kln ken kla kfi kea kns kbl kr0 kr1 kr2 kr3 kr4 kr5 klr kp0 kp1 kp2 kp3) (CW ad cI kc ksv kbc kit kln ken kla kfi kea kns kbl kr0 kr1 kr2 kr3 kr4 kr5 klr kp0 kp1 kp2 kp3) (some (.int r)) := by
  refine nd_ofCi (by decide) (Nat.le_of_ble_eq_true rfl) (fun p e s m args below meth c_ ls A Q hx hb hml hown hts hl hP hK hD hS hA hN hret => ?_)
  have hown : s.vm.findClass RX0 = some m.cls := hown
  have hl : lv_has ls 2 [(0, .ref (ad 1)), (1, .int x1)] := hl
  have hret : ∀ (z0 : Int32) {H : Heap} {locs : List Loc} {pc : Nat} {ls : Array Slot}, some z0 = some r → va_P D vwCl (CW ad cI kc ksv kbc kit kln ken kla kfi kea kns kbl kr0 kr1 kr2 kr3 kr4 kr5 klr kp0 kp1 kp2 kp3) H → va_S A s.heap H locs → decode cX0_hourOfSlot pc = .ok (.ireturn, 1) → W p l e ⟨1, 0, 0, 21⟩ s m args below meth c_ H locs 0 0 Q (F0 m pc ls [.int z0]) := by
    intro z0 H locs pc ls h hP hS hd
    cases h
    exact hret hP hS hd
  rw [fX0_hourOfSlot] at hs
  refine lv_aload_n hx hb dX0_hourOfSlot_0 rfl (lv_at hl 0 rfl) ?_
  refine lv_bipush (v := (51 : Int32)) hx hb dX0_hourOfSlot_1 (by decide) ?_
  refine lv_iload_n hx hb dX0_hourOfSlot_3 rfl (lv_at hl 1 rfl) ?_
  refine lv_iadd hx hb dX0_hourOfSlot_4 ?_
  obtain ⟨q1, eq1, hs⟩ := ob hs
  refine nd_callV (As := [.int ((51 : Int32) + x1)]) (rest := []) (st1 := [.int q1]) hx hb hml hown hts hl hP hK hD hS hA hN (mX0_get eq1) iv_X0_get wd_102 1 rfl rfl rfl rfl ⟨Nat.le_of_ble_eq_true rfl, Nat.le_of_ble_eq_true rfl⟩ (Nat.le_of_ble_eq_true rfl) ⟨Nat.zero_le _, Nat.zero_le _⟩ dX0_hourOfSlot_5 rfl rfl (fun H locs hP hD hS => ?_)
  refine lv_bipush (v := (60 : Int32)) hx hb dX0_hourOfSlot_8 (by decide) ?_
  refine lv_idiv hx hb dX0_hourOfSlot_10 (by decide) ?_
  refine lv_bipush (v := (24 : Int32)) hx hb dX0_hourOfSlot_11 (by decide) ?_
  refine lv_irem hx hb dX0_hourOfSlot_13 (by decide) ?_
  exact hret _ hs hP hS dX0_hourOfSlot_14
def tX0_addPiece_0 : List (Nat × Instr × Nat) := [(0, .aload_n 0, 1), (1, .invokevirtual 32, 3), (4, .istore_n 3, 1), (5, .aload_n 0, 1), (6, .iconst 1, 1), (7, .iload_n 3, 1), (8, .iadd, 1), (9, .iload_n 1, 1), (10, .invokevirtual 36, 3), (13, .aload_n 0, 1), (14, .bipush 11, 2), (16, .iload_n 3, 1), (17, .iadd, 1), (18, .iload_n 2, 1), (19, .invokevirtual 36, 3), (22, .aload_n 0, 1), (23, .bipush 21, 2), (25, .iload_n 3, 1), (26, .iadd, 1), (27, .iconst (-1), 1), (28, .invokevirtual 36, 3), (31, .aload_n 0, 1), (32, .bipush 31, 2), (34, .iload_n 3, 1), (35, .iadd, 1), (36, .iconst (-1), 1), (37, .invokevirtual 36, 3), (40, .aload_n 0, 1), (41, .bipush 41, 2), (43, .iload_n 3, 1), (44, .iadd, 1), (45, .iconst 0, 1), (46, .invokevirtual 36, 3), (49, .aload_n 0, 1), (50, .iconst 0, 1), (51, .iload_n 3, 1), (52, .iconst 1, 1), (53, .iadd, 1), (54, .invokevirtual 36, 3), (57, .iload_n 3, 1), (58, .ireturn, 1)]
theorem tX0_addPiece_0_ok : tX0_addPiece_0.all (fun q => decide (decode cX0_addPiece q.1 = .ok q.2)) = true := by decide +kernel
theorem dX0_addPiece_0 : decode cX0_addPiece 0 = .ok (.aload_n 0, 1) := td tX0_addPiece_0_ok 0 (q := (0, .aload_n 0, 1)) rfl
theorem dX0_addPiece_1 : decode cX0_addPiece 1 = .ok (.invokevirtual 32, 3) := td tX0_addPiece_0_ok 1 (q := (1, .invokevirtual 32, 3)) rfl
theorem dX0_addPiece_4 : decode cX0_addPiece 4 = .ok (.istore_n 3, 1) := td tX0_addPiece_0_ok 2 (q := (4, .istore_n 3, 1)) rfl
theorem dX0_addPiece_5 : decode cX0_addPiece 5 = .ok (.aload_n 0, 1) := td tX0_addPiece_0_ok 3 (q := (5, .aload_n 0, 1)) rfl
theorem dX0_addPiece_6 : decode cX0_addPiece 6 = .ok (.iconst 1, 1) := td tX0_addPiece_0_ok 4 (q := (6, .iconst 1, 1)) rfl
theorem dX0_addPiece_7 : decode cX0_addPiece 7 = .ok (.iload_n 3, 1) := td tX0_addPiece_0_ok 5 (q := (7, .iload_n 3, 1)) rfl
theorem dX0_addPiece_8 : decode cX0_addPiece 8 = .ok (.iadd, 1) := td tX0_addPiece_0_ok 6 (q := (8, .iadd, 1)) rfl
theorem dX0_addPiece_9 : decode cX0_addPiece 9 = .ok (.iload_n 1, 1) := td tX0_addPiece_0_ok 7 (q := (9, .iload_n 1, 1)) rfl
theorem dX0_addPiece_10 : decode cX0_addPiece 10 = .ok (.invokevirtual 36, 3) := td tX0_addPiece_0_ok 8 (q := (10, .invokevirtual 36, 3)) rfl
theorem dX0_addPiece_13 : decode cX0_addPiece 13 = .ok (.aload_n 0, 1) := td tX0_addPiece_0_ok 9 (q := (13, .aload_n 0, 1)) rfl
theorem dX0_addPiece_14 : decode cX0_addPiece 14 = .ok (.bipush 11, 2) := td tX0_addPiece_0_ok 10 (q := (14, .bipush 11, 2)) rfl
theorem dX0_addPiece_16 : decode cX0_addPiece 16 = .ok (.iload_n 3, 1) := td tX0_addPiece_0_ok 11 (q := (16, .iload_n 3, 1)) rfl
theorem dX0_addPiece_17 : decode cX0_addPiece 17 = .ok (.iadd, 1) := td tX0_addPiece_0_ok 12 (q := (17, .iadd, 1)) rfl
theorem dX0_addPiece_18 : decode cX0_addPiece 18 = .ok (.iload_n 2, 1) := td tX0_addPiece_0_ok 13 (q := (18, .iload_n 2, 1)) rfl
theorem dX0_addPiece_19 : decode cX0_addPiece 19 = .ok (.invokevirtual 36, 3) := td tX0_addPiece_0_ok 14 (q := (19, .invokevirtual 36, 3)) rfl
theorem dX0_addPiece_22 : decode cX0_addPiece 22 = .ok (.aload_n 0, 1) := td tX0_addPiece_0_ok 15 (q := (22, .aload_n 0, 1)) rfl
theorem dX0_addPiece_23 : decode cX0_addPiece 23 = .ok (.bipush 21, 2) := td tX0_addPiece_0_ok 16 (q := (23, .bipush 21, 2)) rfl
theorem dX0_addPiece_25 : decode cX0_addPiece 25 = .ok (.iload_n 3, 1) := td tX0_addPiece_0_ok 17 (q := (25, .iload_n 3, 1)) rfl
theorem dX0_addPiece_26 : decode cX0_addPiece 26 = .ok (.iadd, 1) := td tX0_addPiece_0_ok 18 (q := (26, .iadd, 1)) rfl
theorem dX0_addPiece_27 : decode cX0_addPiece 27 = .ok (.iconst (-1), 1) := td tX0_addPiece_0_ok 19 (q := (27, .iconst (-1), 1)) rfl
theorem dX0_addPiece_28 : decode cX0_addPiece 28 = .ok (.invokevirtual 36, 3) := td tX0_addPiece_0_ok 20 (q := (28, .invokevirtual 36, 3)) rfl
theorem dX0_addPiece_31 : decode cX0_addPiece 31 = .ok (.aload_n 0, 1) := td tX0_addPiece_0_ok 21 (q := (31, .aload_n 0, 1)) rfl
theorem dX0_addPiece_32 : decode cX0_addPiece 32 = .ok (.bipush 31, 2) := td tX0_addPiece_0_ok 22 (q := (32, .bipush 31, 2)) rfl
theorem dX0_addPiece_34 : decode cX0_addPiece 34 = .ok (.iload_n 3, 1) := td tX0_addPiece_0_ok 23 (q := (34, .iload_n 3, 1)) rfl
theorem dX0_addPiece_35 : decode cX0_addPiece 35 = .ok (.iadd, 1) := td tX0_addPiece_0_ok 24 (q := (35, .iadd, 1)) rfl
theorem dX0_addPiece_36 : decode cX0_addPiece 36 = .ok (.iconst (-1), 1) := td tX0_addPiece_0_ok 25 (q := (36, .iconst (-1), 1)) rfl
theorem dX0_addPiece_37 : decode cX0_addPiece 37 = .ok (.invokevirtual 36, 3) := td tX0_addPiece_0_ok 26 (q := (37, .invokevirtual 36, 3)) rfl
theorem dX0_addPiece_40 : decode cX0_addPiece 40 = .ok (.aload_n 0, 1) := td tX0_addPiece_0_ok 27 (q := (40, .aload_n 0, 1)) rfl
theorem dX0_addPiece_41 : decode cX0_addPiece 41 = .ok (.bipush 41, 2) := td tX0_addPiece_0_ok 28 (q := (41, .bipush 41, 2)) rfl
theorem dX0_addPiece_43 : decode cX0_addPiece 43 = .ok (.iload_n 3, 1) := td tX0_addPiece_0_ok 29 (q := (43, .iload_n 3, 1)) rfl
theorem dX0_addPiece_44 : decode cX0_addPiece 44 = .ok (.iadd, 1) := td tX0_addPiece_0_ok 30 (q := (44, .iadd, 1)) rfl
theorem dX0_addPiece_45 : decode cX0_addPiece 45 = .ok (.iconst 0, 1) := td tX0_addPiece_0_ok 31 (q := (45, .iconst 0, 1)) rfl
theorem dX0_addPiece_46 : decode cX0_addPiece 46 = .ok (.invokevirtual 36, 3) := td tX0_addPiece_0_ok 32 (q := (46, .invokevirtual 36, 3)) rfl
theorem dX0_addPiece_49 : decode cX0_addPiece 49 = .ok (.aload_n 0, 1) := td tX0_addPiece_0_ok 33 (q := (49, .aload_n 0, 1)) rfl
theorem dX0_addPiece_50 : decode cX0_addPiece 50 = .ok (.iconst 0, 1) := td tX0_addPiece_0_ok 34 (q := (50, .iconst 0, 1)) rfl
theorem dX0_addPiece_51 : decode cX0_addPiece 51 = .ok (.iload_n 3, 1) := td tX0_addPiece_0_ok 35 (q := (51, .iload_n 3, 1)) rfl
theorem dX0_addPiece_52 : decode cX0_addPiece 52 = .ok (.iconst 1, 1) := td tX0_addPiece_0_ok 36 (q := (52, .iconst 1, 1)) rfl
theorem dX0_addPiece_53 : decode cX0_addPiece 53 = .ok (.iadd, 1) := td tX0_addPiece_0_ok 37 (q := (53, .iadd, 1)) rfl
theorem dX0_addPiece_54 : decode cX0_addPiece 54 = .ok (.invokevirtual 36, 3) := td tX0_addPiece_0_ok 38 (q := (54, .invokevirtual 36, 3)) rfl
theorem dX0_addPiece_57 : decode cX0_addPiece 57 = .ok (.iload_n 3, 1) := td tX0_addPiece_0_ok 39 (q := (57, .iload_n 3, 1)) rfl
theorem dX0_addPiece_58 : decode cX0_addPiece 58 = .ok (.ireturn, 1) := td tX0_addPiece_0_ok 40 (q := (58, .ireturn, 1)) rfl
def fX0_addPiece (kc : (Nat → Int32)) (x1 : Int32) (x2 : Int32) : Option (Int32 × (Nat → Int32)) :=
  (Option.bind (fX0_pieces kc) (fun q1 => (Option.bind (fX0_set kc ((1 : Int32) + q1) x1) (fun q2 => (Option.bind (fX0_set q2 ((11 : Int32) + q1) x2) (fun q3 => (Option.bind (fX0_set q3 ((21 : Int32) + q1) (-1 : Int32)) (fun q4 => (Option.bind (fX0_set q4 ((31 : Int32) + q1) (-1 : Int32)) (fun q5 => (Option.bind (fX0_set q5 ((41 : Int32) + q1) (0 : Int32)) (fun q6 => (Option.bind (fX0_set q6 (0 : Int32) (q1 + (1 : Int32))) (fun q7 => (some (q1, q7))))))))))))))))
set_option maxHeartbeats 4000000 in
set_option maxRecDepth 100000 in
theorem mX0_addPiece {l : Launch} {D : va_G} {ad : Nat → Nat} {cI : ClassId} {kc : (Nat → Int32)} {ksv : (Nat → Int32)} {kbc : (Nat → Int32)} {kit : (Nat → Int32)} {kln : (Nat → Int32)} {ken : (Nat → Int32)} {kla : (Nat → Int32)} {kfi : (Nat → Int32)} {kea : (Nat → Int32)} {kns : Int32} {kbl : Int32} {kr0 : Int32} {kr1 : Int32} {kr2 : Int32} {kr3 : Int32} {kr4 : Int32} {kr5 : Int32} {klr : Int32} {kp0 : Int32} {kp1 : Int32} {kp2 : Int32} {kp3 : Int32} {x1 : Int32} {x2 : Int32} {r : Int32} {kc' : (Nat → Int32)} (hs : fX0_addPiece kc x1 x2 = some (r, kc')) : nd_C l yX0_addPiece cX0_addPiece 4 (some .int) 2 41 D [(cI, .int)] [.ref (ad 1), .int x1, .int x2] (CW ad cI kc ksv kbc kit kln ken kla kfi kea kns kbl kr0 kr1 kr2 kr3 kr4 kr5 klr kp0 kp1 kp2 kp3) (CW ad cI kc' ksv kbc kit kln ken kla kfi kea kns kbl kr0 kr1 kr2 kr3 kr4 kr5 klr kp0 kp1 kp2 kp3) (some (.int r)) := by
  refine nd_ofCi (by decide) (Nat.le_of_ble_eq_true rfl) (fun p e s m args below meth c_ ls A Q hx hb hml hown hts hl hP hK hD hS hA hN hret => ?_)
  have hown : s.vm.findClass RX0 = some m.cls := hown
  have hl : lv_has ls 4 [(0, .ref (ad 1)), (1, .int x1), (2, .int x2)] := hl
  have hret : ∀ (z0 : Int32) (z1 : (Nat → Int32)) {H : Heap} {locs : List Loc} {pc : Nat} {ls : Array Slot}, some (z0, z1) = some (r, kc') → va_P D vwCl (CW ad cI z1 ksv kbc kit kln ken kla kfi kea kns kbl kr0 kr1 kr2 kr3 kr4 kr5 klr kp0 kp1 kp2 kp3) H → va_S A s.heap H locs → decode cX0_addPiece pc = .ok (.ireturn, 1) → W p l e ⟨2, 0, 0, 41⟩ s m args below meth c_ H locs 0 0 Q (F0 m pc ls [.int z0]) := by
    intro z0 z1 H locs pc ls h hP hS hd
    cases h
    exact hret hP hS hd
  rw [fX0_addPiece] at hs
  refine lv_aload_n hx hb dX0_addPiece_0 rfl (lv_at hl 0 rfl) ?_
  obtain ⟨q1, eq1, hs⟩ := ob hs
  refine nd_callV (As := []) (rest := []) (st1 := [.int q1]) hx hb hml hown hts hl hP hK hD hS hA hN (mX0_pieces eq1) iv_X0_pieces wd_118 1 rfl rfl rfl rfl ⟨Nat.le_of_ble_eq_true rfl, Nat.le_of_ble_eq_true rfl⟩ (Nat.le_of_ble_eq_true rfl) ⟨Nat.zero_le _, Nat.zero_le _⟩ dX0_addPiece_1 rfl rfl (fun H locs hP hD hS => ?_)
  refine lv_istore_n (lv' := [(3, .int q1), (0, .ref (ad 1)), (1, .int x1), (2, .int x2)]) hx hb dX0_addPiece_4 rfl hl (by decide) rfl (fun ls hl => ?_)
  refine lv_aload_n hx hb dX0_addPiece_5 rfl (lv_at hl 1 rfl) ?_
  refine lv_iconst (v := (1 : Int32)) hx hb dX0_addPiece_6 (by decide) ?_
  refine lv_iload_n hx hb dX0_addPiece_7 rfl (lv_at hl 0 rfl) ?_
  refine lv_iadd hx hb dX0_addPiece_8 ?_
  refine lv_iload_n hx hb dX0_addPiece_9 rfl (lv_at hl 2 rfl) ?_
  obtain ⟨q2, eq2, hs⟩ := ob hs
  refine nd_callV (As := [.int ((1 : Int32) + q1), .int x1]) (rest := []) (st1 := []) hx hb hml hown hts hl hP hK hD hS hA hN (mX0_set eq2) iv_X0_set wd_119 1 rfl rfl rfl rfl ⟨Nat.le_of_ble_eq_true rfl, Nat.le_of_ble_eq_true rfl⟩ (Nat.le_of_ble_eq_true rfl) ⟨Nat.zero_le _, Nat.zero_le _⟩ dX0_addPiece_10 rfl rfl (fun H locs hP hD hS => ?_)
  refine lv_aload_n hx hb dX0_addPiece_13 rfl (lv_at hl 1 rfl) ?_
  refine lv_bipush (v := (11 : Int32)) hx hb dX0_addPiece_14 (by decide) ?_
  refine lv_iload_n hx hb dX0_addPiece_16 rfl (lv_at hl 0 rfl) ?_
  refine lv_iadd hx hb dX0_addPiece_17 ?_
  refine lv_iload_n hx hb dX0_addPiece_18 rfl (lv_at hl 3 rfl) ?_
  obtain ⟨q3, eq3, hs⟩ := ob hs
  refine nd_callV (As := [.int ((11 : Int32) + q1), .int x2]) (rest := []) (st1 := []) hx hb hml hown hts hl hP hK hD hS hA hN (mX0_set eq3) iv_X0_set wd_119 1 rfl rfl rfl rfl ⟨Nat.le_of_ble_eq_true rfl, Nat.le_of_ble_eq_true rfl⟩ (Nat.le_of_ble_eq_true rfl) ⟨Nat.zero_le _, Nat.zero_le _⟩ dX0_addPiece_19 rfl rfl (fun H locs hP hD hS => ?_)
  refine lv_aload_n hx hb dX0_addPiece_22 rfl (lv_at hl 1 rfl) ?_
  refine lv_bipush (v := (21 : Int32)) hx hb dX0_addPiece_23 (by decide) ?_
  refine lv_iload_n hx hb dX0_addPiece_25 rfl (lv_at hl 0 rfl) ?_
  refine lv_iadd hx hb dX0_addPiece_26 ?_
  refine lv_iconst (v := (-1 : Int32)) hx hb dX0_addPiece_27 (by decide) ?_
  obtain ⟨q4, eq4, hs⟩ := ob hs
  refine nd_callV (As := [.int ((21 : Int32) + q1), .int (-1 : Int32)]) (rest := []) (st1 := []) hx hb hml hown hts hl hP hK hD hS hA hN (mX0_set eq4) iv_X0_set wd_119 1 rfl rfl rfl rfl ⟨Nat.le_of_ble_eq_true rfl, Nat.le_of_ble_eq_true rfl⟩ (Nat.le_of_ble_eq_true rfl) ⟨Nat.zero_le _, Nat.zero_le _⟩ dX0_addPiece_28 rfl rfl (fun H locs hP hD hS => ?_)
  refine lv_aload_n hx hb dX0_addPiece_31 rfl (lv_at hl 1 rfl) ?_
  refine lv_bipush (v := (31 : Int32)) hx hb dX0_addPiece_32 (by decide) ?_
  refine lv_iload_n hx hb dX0_addPiece_34 rfl (lv_at hl 0 rfl) ?_
  refine lv_iadd hx hb dX0_addPiece_35 ?_
  refine lv_iconst (v := (-1 : Int32)) hx hb dX0_addPiece_36 (by decide) ?_
  obtain ⟨q5, eq5, hs⟩ := ob hs
  refine nd_callV (As := [.int ((31 : Int32) + q1), .int (-1 : Int32)]) (rest := []) (st1 := []) hx hb hml hown hts hl hP hK hD hS hA hN (mX0_set eq5) iv_X0_set wd_119 1 rfl rfl rfl rfl ⟨Nat.le_of_ble_eq_true rfl, Nat.le_of_ble_eq_true rfl⟩ (Nat.le_of_ble_eq_true rfl) ⟨Nat.zero_le _, Nat.zero_le _⟩ dX0_addPiece_37 rfl rfl (fun H locs hP hD hS => ?_)
  refine lv_aload_n hx hb dX0_addPiece_40 rfl (lv_at hl 1 rfl) ?_
  refine lv_bipush (v := (41 : Int32)) hx hb dX0_addPiece_41 (by decide) ?_
  refine lv_iload_n hx hb dX0_addPiece_43 rfl (lv_at hl 0 rfl) ?_
  refine lv_iadd hx hb dX0_addPiece_44 ?_
  refine lv_iconst (v := (0 : Int32)) hx hb dX0_addPiece_45 (by decide) ?_
  obtain ⟨q6, eq6, hs⟩ := ob hs
  refine nd_callV (As := [.int ((41 : Int32) + q1), .int (0 : Int32)]) (rest := []) (st1 := []) hx hb hml hown hts hl hP hK hD hS hA hN (mX0_set eq6) iv_X0_set wd_119 1 rfl rfl rfl rfl ⟨Nat.le_of_ble_eq_true rfl, Nat.le_of_ble_eq_true rfl⟩ (Nat.le_of_ble_eq_true rfl) ⟨Nat.zero_le _, Nat.zero_le _⟩ dX0_addPiece_46 rfl rfl (fun H locs hP hD hS => ?_)
  refine lv_aload_n hx hb dX0_addPiece_49 rfl (lv_at hl 1 rfl) ?_
  refine lv_iconst (v := (0 : Int32)) hx hb dX0_addPiece_50 (by decide) ?_
  refine lv_iload_n hx hb dX0_addPiece_51 rfl (lv_at hl 0 rfl) ?_
  refine lv_iconst (v := (1 : Int32)) hx hb dX0_addPiece_52 (by decide) ?_
  refine lv_iadd hx hb dX0_addPiece_53 ?_
  obtain ⟨q7, eq7, hs⟩ := ob hs
  refine nd_callV (As := [.int (0 : Int32), .int (q1 + (1 : Int32))]) (rest := []) (st1 := []) hx hb hml hown hts hl hP hK hD hS hA hN (mX0_set eq7) iv_X0_set wd_119 1 rfl rfl rfl rfl ⟨Nat.le_of_ble_eq_true rfl, Nat.le_of_ble_eq_true rfl⟩ (Nat.le_of_ble_eq_true rfl) ⟨Nat.zero_le _, Nat.zero_le _⟩ dX0_addPiece_54 rfl rfl (fun H locs hP hD hS => ?_)
  refine lv_iload_n hx hb dX0_addPiece_57 rfl (lv_at hl 0 rfl) ?_
  exact hret _ _ hs hP hS dX0_addPiece_58
def tX0_link_0 : List (Nat × Instr × Nat) := [(0, .aload_n 0, 1), (1, .bipush 31, 2), (3, .iload_n 1, 1), (4, .iadd, 1), (5, .iload_n 2, 1), (6, .invokevirtual 36, 3), (9, .aload_n 0, 1), (10, .bipush 21, 2), (12, .iload_n 2, 1), (13, .iadd, 1), (14, .iload_n 1, 1), (15, .invokevirtual 36, 3), (18, .return_, 1)]
theorem tX0_link_0_ok : tX0_link_0.all (fun q => decide (decode cX0_link q.1 = .ok q.2)) = true := by decide +kernel
theorem dX0_link_0 : decode cX0_link 0 = .ok (.aload_n 0, 1) := td tX0_link_0_ok 0 (q := (0, .aload_n 0, 1)) rfl
theorem dX0_link_1 : decode cX0_link 1 = .ok (.bipush 31, 2) := td tX0_link_0_ok 1 (q := (1, .bipush 31, 2)) rfl
theorem dX0_link_3 : decode cX0_link 3 = .ok (.iload_n 1, 1) := td tX0_link_0_ok 2 (q := (3, .iload_n 1, 1)) rfl
theorem dX0_link_4 : decode cX0_link 4 = .ok (.iadd, 1) := td tX0_link_0_ok 3 (q := (4, .iadd, 1)) rfl
theorem dX0_link_5 : decode cX0_link 5 = .ok (.iload_n 2, 1) := td tX0_link_0_ok 4 (q := (5, .iload_n 2, 1)) rfl
theorem dX0_link_6 : decode cX0_link 6 = .ok (.invokevirtual 36, 3) := td tX0_link_0_ok 5 (q := (6, .invokevirtual 36, 3)) rfl
theorem dX0_link_9 : decode cX0_link 9 = .ok (.aload_n 0, 1) := td tX0_link_0_ok 6 (q := (9, .aload_n 0, 1)) rfl
theorem dX0_link_10 : decode cX0_link 10 = .ok (.bipush 21, 2) := td tX0_link_0_ok 7 (q := (10, .bipush 21, 2)) rfl
theorem dX0_link_12 : decode cX0_link 12 = .ok (.iload_n 2, 1) := td tX0_link_0_ok 8 (q := (12, .iload_n 2, 1)) rfl
theorem dX0_link_13 : decode cX0_link 13 = .ok (.iadd, 1) := td tX0_link_0_ok 9 (q := (13, .iadd, 1)) rfl
theorem dX0_link_14 : decode cX0_link 14 = .ok (.iload_n 1, 1) := td tX0_link_0_ok 10 (q := (14, .iload_n 1, 1)) rfl
theorem dX0_link_15 : decode cX0_link 15 = .ok (.invokevirtual 36, 3) := td tX0_link_0_ok 11 (q := (15, .invokevirtual 36, 3)) rfl
theorem dX0_link_18 : decode cX0_link 18 = .ok (.return_, 1) := td tX0_link_0_ok 12 (q := (18, .return_, 1)) rfl
def fX0_link (kc : (Nat → Int32)) (x1 : Int32) (x2 : Int32) : Option ((Nat → Int32)) :=
  (Option.bind (fX0_set kc ((31 : Int32) + x1) x2) (fun q1 => (Option.bind (fX0_set q1 ((21 : Int32) + x2) x1) (fun q2 => (some q2)))))
set_option maxHeartbeats 4000000 in
set_option maxRecDepth 100000 in
theorem mX0_link {l : Launch} {D : va_G} {ad : Nat → Nat} {cI : ClassId} {kc : (Nat → Int32)} {ksv : (Nat → Int32)} {kbc : (Nat → Int32)} {kit : (Nat → Int32)} {kln : (Nat → Int32)} {ken : (Nat → Int32)} {kla : (Nat → Int32)} {kfi : (Nat → Int32)} {kea : (Nat → Int32)} {kns : Int32} {kbl : Int32} {kr0 : Int32} {kr1 : Int32} {kr2 : Int32} {kr3 : Int32} {kr4 : Int32} {kr5 : Int32} {klr : Int32} {kp0 : Int32} {kp1 : Int32} {kp2 : Int32} {kp3 : Int32} {x1 : Int32} {x2 : Int32} {kc' : (Nat → Int32)} (hs : fX0_link kc x1 x2 = some kc') : nd_C l yX0_link cX0_link 3 none 1 22 D [(cI, .int)] [.ref (ad 1), .int x1, .int x2] (CW ad cI kc ksv kbc kit kln ken kla kfi kea kns kbl kr0 kr1 kr2 kr3 kr4 kr5 klr kp0 kp1 kp2 kp3) (CW ad cI kc' ksv kbc kit kln ken kla kfi kea kns kbl kr0 kr1 kr2 kr3 kr4 kr5 klr kp0 kp1 kp2 kp3) none := by
  refine nd_ofCv (by decide) (Nat.le_of_ble_eq_true rfl) (fun p e s m args below meth c_ ls A Q hx hb hml hown hts hl hP hK hD hS hA hN hret => ?_)
  have hown : s.vm.findClass RX0 = some m.cls := hown
  have hl : lv_has ls 3 [(0, .ref (ad 1)), (1, .int x1), (2, .int x2)] := hl
  have hret : ∀ (z0 : (Nat → Int32)) {H : Heap} {locs : List Loc} {pc : Nat} {ls : Array Slot}, some z0 = some kc' → va_P D vwCl (CW ad cI z0 ksv kbc kit kln ken kla kfi kea kns kbl kr0 kr1 kr2 kr3 kr4 kr5 klr kp0 kp1 kp2 kp3) H → va_S A s.heap H locs → decode cX0_link pc = .ok (.return_, 1) → W p l e ⟨1, 0, 0, 22⟩ s m args below meth c_ H locs 0 0 Q (F0 m pc ls []) := by
    intro z0 H locs pc ls h hP hS hd
    cases h
    exact hret hP hS hd
  rw [fX0_link] at hs
  refine lv_aload_n hx hb dX0_link_0 rfl (lv_at hl 0 rfl) ?_
  refine lv_bipush (v := (31 : Int32)) hx hb dX0_link_1 (by decide) ?_
  refine lv_iload_n hx hb dX0_link_3 rfl (lv_at hl 1 rfl) ?_
  refine lv_iadd hx hb dX0_link_4 ?_
  refine lv_iload_n hx hb dX0_link_5 rfl (lv_at hl 2 rfl) ?_
  obtain ⟨q1, eq1, hs⟩ := ob hs
  refine nd_callV (As := [.int ((31 : Int32) + x1), .int x2]) (rest := []) (st1 := []) hx hb hml hown hts hl hP hK hD hS hA hN (mX0_set eq1) iv_X0_set wd_119 1 rfl rfl rfl rfl ⟨Nat.le_of_ble_eq_true rfl, Nat.le_of_ble_eq_true rfl⟩ (Nat.le_of_ble_eq_true rfl) ⟨Nat.zero_le _, Nat.zero_le _⟩ dX0_link_6 rfl rfl (fun H locs hP hD hS => ?_)
  refine lv_aload_n hx hb dX0_link_9 rfl (lv_at hl 0 rfl) ?_
  refine lv_bipush (v := (21 : Int32)) hx hb dX0_link_10 (by decide) ?_
  refine lv_iload_n hx hb dX0_link_12 rfl (lv_at hl 2 rfl) ?_
  refine lv_iadd hx hb dX0_link_13 ?_
  refine lv_iload_n hx hb dX0_link_14 rfl (lv_at hl 1 rfl) ?_
  obtain ⟨q2, eq2, hs⟩ := ob hs
  refine nd_callV (As := [.int ((21 : Int32) + x2), .int x1]) (rest := []) (st1 := []) hx hb hml hown hts hl hP hK hD hS hA hN (mX0_set eq2) iv_X0_set wd_119 1 rfl rfl rfl rfl ⟨Nat.le_of_ble_eq_true rfl, Nat.le_of_ble_eq_true rfl⟩ (Nat.le_of_ble_eq_true rfl) ⟨Nat.zero_le _, Nat.zero_le _⟩ dX0_link_15 rfl rfl (fun H locs hP hD hS => ?_)
  exact hret _ hs hP hS dX0_link_18
def tX0_unlink_0 : List (Nat × Instr × Nat) := [(0, .aload_n 0, 1), (1, .bipush 31, 2), (3, .iload_n 1, 1), (4, .iadd, 1), (5, .iconst (-1), 1), (6, .invokevirtual 36, 3), (9, .aload_n 0, 1), (10, .bipush 21, 2), (12, .iload_n 2, 1), (13, .iadd, 1), (14, .iconst (-1), 1), (15, .invokevirtual 36, 3), (18, .return_, 1)]
theorem tX0_unlink_0_ok : tX0_unlink_0.all (fun q => decide (decode cX0_unlink q.1 = .ok q.2)) = true := by decide +kernel
theorem dX0_unlink_0 : decode cX0_unlink 0 = .ok (.aload_n 0, 1) := td tX0_unlink_0_ok 0 (q := (0, .aload_n 0, 1)) rfl
theorem dX0_unlink_1 : decode cX0_unlink 1 = .ok (.bipush 31, 2) := td tX0_unlink_0_ok 1 (q := (1, .bipush 31, 2)) rfl
theorem dX0_unlink_3 : decode cX0_unlink 3 = .ok (.iload_n 1, 1) := td tX0_unlink_0_ok 2 (q := (3, .iload_n 1, 1)) rfl
theorem dX0_unlink_4 : decode cX0_unlink 4 = .ok (.iadd, 1) := td tX0_unlink_0_ok 3 (q := (4, .iadd, 1)) rfl
theorem dX0_unlink_5 : decode cX0_unlink 5 = .ok (.iconst (-1), 1) := td tX0_unlink_0_ok 4 (q := (5, .iconst (-1), 1)) rfl
theorem dX0_unlink_6 : decode cX0_unlink 6 = .ok (.invokevirtual 36, 3) := td tX0_unlink_0_ok 5 (q := (6, .invokevirtual 36, 3)) rfl
theorem dX0_unlink_9 : decode cX0_unlink 9 = .ok (.aload_n 0, 1) := td tX0_unlink_0_ok 6 (q := (9, .aload_n 0, 1)) rfl
theorem dX0_unlink_10 : decode cX0_unlink 10 = .ok (.bipush 21, 2) := td tX0_unlink_0_ok 7 (q := (10, .bipush 21, 2)) rfl
theorem dX0_unlink_12 : decode cX0_unlink 12 = .ok (.iload_n 2, 1) := td tX0_unlink_0_ok 8 (q := (12, .iload_n 2, 1)) rfl
theorem dX0_unlink_13 : decode cX0_unlink 13 = .ok (.iadd, 1) := td tX0_unlink_0_ok 9 (q := (13, .iadd, 1)) rfl
theorem dX0_unlink_14 : decode cX0_unlink 14 = .ok (.iconst (-1), 1) := td tX0_unlink_0_ok 10 (q := (14, .iconst (-1), 1)) rfl
theorem dX0_unlink_15 : decode cX0_unlink 15 = .ok (.invokevirtual 36, 3) := td tX0_unlink_0_ok 11 (q := (15, .invokevirtual 36, 3)) rfl
theorem dX0_unlink_18 : decode cX0_unlink 18 = .ok (.return_, 1) := td tX0_unlink_0_ok 12 (q := (18, .return_, 1)) rfl
def fX0_unlink (kc : (Nat → Int32)) (x1 : Int32) (x2 : Int32) : Option ((Nat → Int32)) :=
  (Option.bind (fX0_set kc ((31 : Int32) + x1) (-1 : Int32)) (fun q1 => (Option.bind (fX0_set q1 ((21 : Int32) + x2) (-1 : Int32)) (fun q2 => (some q2)))))
set_option maxHeartbeats 4000000 in
set_option maxRecDepth 100000 in
theorem mX0_unlink {l : Launch} {D : va_G} {ad : Nat → Nat} {cI : ClassId} {kc : (Nat → Int32)} {ksv : (Nat → Int32)} {kbc : (Nat → Int32)} {kit : (Nat → Int32)} {kln : (Nat → Int32)} {ken : (Nat → Int32)} {kla : (Nat → Int32)} {kfi : (Nat → Int32)} {kea : (Nat → Int32)} {kns : Int32} {kbl : Int32} {kr0 : Int32} {kr1 : Int32} {kr2 : Int32} {kr3 : Int32} {kr4 : Int32} {kr5 : Int32} {klr : Int32} {kp0 : Int32} {kp1 : Int32} {kp2 : Int32} {kp3 : Int32} {x1 : Int32} {x2 : Int32} {kc' : (Nat → Int32)} (hs : fX0_unlink kc x1 x2 = some kc') : nd_C l yX0_unlink cX0_unlink 3 none 1 22 D [(cI, .int)] [.ref (ad 1), .int x1, .int x2] (CW ad cI kc ksv kbc kit kln ken kla kfi kea kns kbl kr0 kr1 kr2 kr3 kr4 kr5 klr kp0 kp1 kp2 kp3) (CW ad cI kc' ksv kbc kit kln ken kla kfi kea kns kbl kr0 kr1 kr2 kr3 kr4 kr5 klr kp0 kp1 kp2 kp3) none := by
  refine nd_ofCv (by decide) (Nat.le_of_ble_eq_true rfl) (fun p e s m args below meth c_ ls A Q hx hb hml hown hts hl hP hK hD hS hA hN hret => ?_)
  have hown : s.vm.findClass RX0 = some m.cls := hown
  have hl : lv_has ls 3 [(0, .ref (ad 1)), (1, .int x1), (2, .int x2)] := hl
  have hret : ∀ (z0 : (Nat → Int32)) {H : Heap} {locs : List Loc} {pc : Nat} {ls : Array Slot}, some z0 = some kc' → va_P D vwCl (CW ad cI z0 ksv kbc kit kln ken kla kfi kea kns kbl kr0 kr1 kr2 kr3 kr4 kr5 klr kp0 kp1 kp2 kp3) H → va_S A s.heap H locs → decode cX0_unlink pc = .ok (.return_, 1) → W p l e ⟨1, 0, 0, 22⟩ s m args below meth c_ H locs 0 0 Q (F0 m pc ls []) := by
    intro z0 H locs pc ls h hP hS hd
    cases h
    exact hret hP hS hd
  rw [fX0_unlink] at hs
  refine lv_aload_n hx hb dX0_unlink_0 rfl (lv_at hl 0 rfl) ?_
  refine lv_bipush (v := (31 : Int32)) hx hb dX0_unlink_1 (by decide) ?_
  refine lv_iload_n hx hb dX0_unlink_3 rfl (lv_at hl 1 rfl) ?_
  refine lv_iadd hx hb dX0_unlink_4 ?_
  refine lv_iconst (v := (-1 : Int32)) hx hb dX0_unlink_5 (by decide) ?_
  obtain ⟨q1, eq1, hs⟩ := ob hs
  refine nd_callV (As := [.int ((31 : Int32) + x1), .int (-1 : Int32)]) (rest := []) (st1 := []) hx hb hml hown hts hl hP hK hD hS hA hN (mX0_set eq1) iv_X0_set wd_119 1 rfl rfl rfl rfl ⟨Nat.le_of_ble_eq_true rfl, Nat.le_of_ble_eq_true rfl⟩ (Nat.le_of_ble_eq_true rfl) ⟨Nat.zero_le _, Nat.zero_le _⟩ dX0_unlink_6 rfl rfl (fun H locs hP hD hS => ?_)
  refine lv_aload_n hx hb dX0_unlink_9 rfl (lv_at hl 0 rfl) ?_
  refine lv_bipush (v := (21 : Int32)) hx hb dX0_unlink_10 (by decide) ?_
  refine lv_iload_n hx hb dX0_unlink_12 rfl (lv_at hl 2 rfl) ?_
  refine lv_iadd hx hb dX0_unlink_13 ?_
  refine lv_iconst (v := (-1 : Int32)) hx hb dX0_unlink_14 (by decide) ?_
  obtain ⟨q2, eq2, hs⟩ := ob hs
  refine nd_callV (As := [.int ((21 : Int32) + x2), .int (-1 : Int32)]) (rest := []) (st1 := []) hx hb hml hown hts hl hP hK hD hS hA hN (mX0_set eq2) iv_X0_set wd_119 1 rfl rfl rfl rfl ⟨Nat.le_of_ble_eq_true rfl, Nat.le_of_ble_eq_true rfl⟩ (Nat.le_of_ble_eq_true rfl) ⟨Nat.zero_le _, Nat.zero_le _⟩ dX0_unlink_15 rfl rfl (fun H locs hP hD hS => ?_)
  exact hret _ hs hP hS dX0_unlink_18
def tX0_joins_0 : List (Nat × Instr × Nat) := [(0, .iconst 0, 1), (1, .istore_n 1, 1), (2, .iconst 0, 1), (3, .istore_n 2, 1), (4, .iload_n 2, 1), (5, .aload_n 0, 1), (6, .invokevirtual 32, 3), (9, .if_icmp .ge 24, 3), (12, .aload_n 0, 1), (13, .bipush 31, 2), (15, .iload_n 2, 1), (16, .iadd, 1), (17, .invokevirtual 28, 3), (20, .iconst (-1), 1), (21, .if_icmp .eq 6, 3), (24, .iinc 1 1, 3), (27, .iinc 2 1, 3), (30, .goto (-26), 3), (33, .iload_n 1, 1), (34, .ireturn, 1)]
theorem tX0_joins_0_ok : tX0_joins_0.all (fun q => decide (decode cX0_joins q.1 = .ok q.2)) = true := by decide +kernel
theorem dX0_joins_0 : decode cX0_joins 0 = .ok (.iconst 0, 1) := td tX0_joins_0_ok 0 (q := (0, .iconst 0, 1)) rfl
theorem dX0_joins_1 : decode cX0_joins 1 = .ok (.istore_n 1, 1) := td tX0_joins_0_ok 1 (q := (1, .istore_n 1, 1)) rfl
theorem dX0_joins_2 : decode cX0_joins 2 = .ok (.iconst 0, 1) := td tX0_joins_0_ok 2 (q := (2, .iconst 0, 1)) rfl
theorem dX0_joins_3 : decode cX0_joins 3 = .ok (.istore_n 2, 1) := td tX0_joins_0_ok 3 (q := (3, .istore_n 2, 1)) rfl
theorem dX0_joins_4 : decode cX0_joins 4 = .ok (.iload_n 2, 1) := td tX0_joins_0_ok 4 (q := (4, .iload_n 2, 1)) rfl
theorem dX0_joins_5 : decode cX0_joins 5 = .ok (.aload_n 0, 1) := td tX0_joins_0_ok 5 (q := (5, .aload_n 0, 1)) rfl
theorem dX0_joins_6 : decode cX0_joins 6 = .ok (.invokevirtual 32, 3) := td tX0_joins_0_ok 6 (q := (6, .invokevirtual 32, 3)) rfl
theorem dX0_joins_9 : decode cX0_joins 9 = .ok (.if_icmp .ge 24, 3) := td tX0_joins_0_ok 7 (q := (9, .if_icmp .ge 24, 3)) rfl
theorem dX0_joins_12 : decode cX0_joins 12 = .ok (.aload_n 0, 1) := td tX0_joins_0_ok 8 (q := (12, .aload_n 0, 1)) rfl
theorem dX0_joins_13 : decode cX0_joins 13 = .ok (.bipush 31, 2) := td tX0_joins_0_ok 9 (q := (13, .bipush 31, 2)) rfl
theorem dX0_joins_15 : decode cX0_joins 15 = .ok (.iload_n 2, 1) := td tX0_joins_0_ok 10 (q := (15, .iload_n 2, 1)) rfl
theorem dX0_joins_16 : decode cX0_joins 16 = .ok (.iadd, 1) := td tX0_joins_0_ok 11 (q := (16, .iadd, 1)) rfl
theorem dX0_joins_17 : decode cX0_joins 17 = .ok (.invokevirtual 28, 3) := td tX0_joins_0_ok 12 (q := (17, .invokevirtual 28, 3)) rfl
theorem dX0_joins_20 : decode cX0_joins 20 = .ok (.iconst (-1), 1) := td tX0_joins_0_ok 13 (q := (20, .iconst (-1), 1)) rfl
theorem dX0_joins_21 : decode cX0_joins 21 = .ok (.if_icmp .eq 6, 3) := td tX0_joins_0_ok 14 (q := (21, .if_icmp .eq 6, 3)) rfl
theorem dX0_joins_24 : decode cX0_joins 24 = .ok (.iinc 1 1, 3) := td tX0_joins_0_ok 15 (q := (24, .iinc 1 1, 3)) rfl
theorem dX0_joins_27 : decode cX0_joins 27 = .ok (.iinc 2 1, 3) := td tX0_joins_0_ok 16 (q := (27, .iinc 2 1, 3)) rfl
theorem dX0_joins_30 : decode cX0_joins 30 = .ok (.goto (-26), 3) := td tX0_joins_0_ok 17 (q := (30, .goto (-26), 3)) rfl
theorem dX0_joins_33 : decode cX0_joins 33 = .ok (.iload_n 1, 1) := td tX0_joins_0_ok 18 (q := (33, .iload_n 1, 1)) rfl
theorem dX0_joins_34 : decode cX0_joins 34 = .ok (.ireturn, 1) := td tX0_joins_0_ok 19 (q := (34, .ireturn, 1)) rfl
def fX0_joins_4 (k4 : Int32 → Option (Int32)) (kc : (Nat → Int32)) : Nat → Int32 → Int32 → Option (Int32)
  | 0, _, _ => none
  | n4 + 1, x1, x2 => (Option.bind (fX0_pieces kc) (fun q1 => (if q1 ≤ x2 then (k4 x1) else (Option.bind (fX0_get kc ((31 : Int32) + x2)) (fun q3 => (if q3 = (-1 : Int32) then (fX0_joins_4 k4 kc n4 x1 (x2 + (1 : Int32))) else (fX0_joins_4 k4 kc n4 (x1 + (1 : Int32)) (x2 + (1 : Int32)))))))))
def fX0_joins (kc : (Nat → Int32)) : Option (Int32) :=
  (fX0_joins_4 (fun (u1_5 : Int32) => (some u1_5)) kc LF (0 : Int32) (0 : Int32))
set_option maxHeartbeats 4000000 in
set_option maxRecDepth 100000 in
theorem mX0_joins {l : Launch} {D : va_G} {ad : Nat → Nat} {cI : ClassId} {kc : (Nat → Int32)} {ksv : (Nat → Int32)} {kbc : (Nat → Int32)} {kit : (Nat → Int32)} {kln : (Nat → Int32)} {ken : (Nat → Int32)} {kla : (Nat → Int32)} {kfi : (Nat → Int32)} {kea : (Nat → Int32)} {kns : Int32} {kbl : Int32} {kr0 : Int32} {kr1 : Int32} {kr2 : Int32} {kr3 : Int32} {kr4 : Int32} {kr5 : Int32} {klr : Int32} {kp0 : Int32} {kp1 : Int32} {kp2 : Int32} {kp3 : Int32} {r : Int32} (hs : fX0_joins kc = some r) : nd_C l yX0_joins cX0_joins 3 (some .int) 2 41 D [(cI, .int)] [.ref (ad 1)] (CW ad cI kc ksv kbc kit kln ken kla kfi kea kns kbl kr0 kr1 kr2 kr3 kr4 kr5 klr kp0 kp1 kp2 kp3) (CW ad cI kc ksv kbc kit kln ken kla kfi kea kns kbl kr0 kr1 kr2 kr3 kr4 kr5 klr kp0 kp1 kp2 kp3) (some (.int r)) := by
  refine nd_ofCi (by decide) (Nat.le_of_ble_eq_true rfl) (fun p e s m args below meth c_ ls A Q hx hb hml hown hts hl hP hK hD hS hA hN hret => ?_)
  have hown : s.vm.findClass RX0 = some m.cls := hown
  have hl : lv_has ls 3 [(0, .ref (ad 1))] := hl
  have hret : ∀ (z0 : Int32) {H : Heap} {locs : List Loc} {pc : Nat} {ls : Array Slot}, some z0 = some r → va_P D vwCl (CW ad cI kc ksv kbc kit kln ken kla kfi kea kns kbl kr0 kr1 kr2 kr3 kr4 kr5 klr kp0 kp1 kp2 kp3) H → va_S A s.heap H locs → decode cX0_joins pc = .ok (.ireturn, 1) → W p l e ⟨2, 0, 0, 41⟩ s m args below meth c_ H locs 0 0 Q (F0 m pc ls [.int z0]) := by
    intro z0 H locs pc ls h hP hS hd
    cases h
    exact hret hP hS hd
  rw [fX0_joins] at hs
  refine lv_iconst (v := (0 : Int32)) hx hb dX0_joins_0 (by decide) ?_
  refine lv_istore_n (lv' := [(1, .int (0 : Int32)), (0, .ref (ad 1))]) hx hb dX0_joins_1 rfl hl (by decide) rfl (fun ls hl => ?_)
  refine lv_iconst (v := (0 : Int32)) hx hb dX0_joins_2 (by decide) ?_
  refine lv_istore_n (lv' := [(2, .int (0 : Int32)), (1, .int (0 : Int32)), (0, .ref (ad 1))]) hx hb dX0_joins_3 rfl hl (by decide) rfl (fun ls hl => ?_)
  have L4 : ∀ (n4 : Nat) (k4 : Int32 → Option (Int32)) (v1_5 : Int32) (v2_5 : Int32) (H : Heap) (locs : List Loc) (ls : Array Slot), lv_has ls 3 [(0, .ref (ad 1)), (1, .int v1_5), (2, .int v2_5)] → va_P D vwCl (CW ad cI kc ksv kbc kit kln ken kla kfi kea kns kbl kr0 kr1 kr2 kr3 kr4 kr5 klr kp0 kp1 kp2 kp3) H → va_S A s.heap H locs → fX0_joins_4 k4 kc n4 v1_5 v2_5 = some r → (∀ (u1_5 : Int32) (H : Heap) (locs : List Loc) (ls : Array Slot), lv_has ls 3 [(1, .int u1_5)] → va_P D vwCl (CW ad cI kc ksv kbc kit kln ken kla kfi kea kns kbl kr0 kr1 kr2 kr3 kr4 kr5 klr kp0 kp1 kp2 kp3) H → va_S A s.heap H locs → k4 u1_5 = some r → W p l e ⟨2, 0, 0, 41⟩ s m args below meth c_ H locs 0 0 Q (F0 m 33 ls [])) → W p l e ⟨2, 0, 0, 41⟩ s m args below meth c_ H locs 0 0 Q (F0 m 4 ls []) := by
    intro n4
    induction n4 with
    | zero =>
      intro k4 v1_5 v2_5 H locs ls hl hP hS hs hk4
      rw [fX0_joins_4] at hs
      cases hs
    | succ n4 ih4 =>
      intro k4 v1_5 v2_5 H locs ls hl hP hS hs hk4
      rw [fX0_joins_4] at hs
      refine lv_iload_n hx hb dX0_joins_4 rfl (lv_at hl 2 rfl) ?_
      refine lv_aload_n hx hb dX0_joins_5 rfl (lv_at hl 0 rfl) ?_
      obtain ⟨q6, eq6, hs⟩ := ob hs
      refine nd_callV (As := []) (rest := [.int v2_5]) (st1 := [.int q6, .int v2_5]) hx hb hml hown hts hl hP hK hD hS hA hN (mX0_pieces eq6) iv_X0_pieces wd_118 1 rfl rfl rfl rfl ⟨Nat.le_of_ble_eq_true rfl, Nat.le_of_ble_eq_true rfl⟩ (Nat.le_of_ble_eq_true rfl) ⟨Nat.zero_le _, Nat.zero_le _⟩ dX0_joins_6 rfl rfl (fun H locs hP hD hS => ?_)
      refine lv_icmp_ge (tgt := 33) hx hb dX0_joins_9 (by decide) (fun b7 => ?_) (fun b7 => ?_)
      · have hs := ite_t hs b7
        exact hk4 v1_5 _ _ _ (lv_sub hl [1] rfl) hP hS hs
      · have hs := ite_f hs b7
        refine lv_aload_n hx hb dX0_joins_12 rfl (lv_at hl 0 rfl) ?_
        refine lv_bipush (v := (31 : Int32)) hx hb dX0_joins_13 (by decide) ?_
        refine lv_iload_n hx hb dX0_joins_15 rfl (lv_at hl 2 rfl) ?_
        refine lv_iadd hx hb dX0_joins_16 ?_
        obtain ⟨q8, eq8, hs⟩ := ob hs
        refine nd_callV (As := [.int ((31 : Int32) + v2_5)]) (rest := []) (st1 := [.int q8]) hx hb hml hown hts hl hP hK hD hS hA hN (mX0_get eq8) iv_X0_get wd_102 1 rfl rfl rfl rfl ⟨Nat.le_of_ble_eq_true rfl, Nat.le_of_ble_eq_true rfl⟩ (Nat.le_of_ble_eq_true rfl) ⟨Nat.zero_le _, Nat.zero_le _⟩ dX0_joins_17 rfl rfl (fun H locs hP hD hS => ?_)
        refine lv_iconst (v := (-1 : Int32)) hx hb dX0_joins_20 (by decide) ?_
        refine lv_icmp_eq (tgt := 27) hx hb dX0_joins_21 (by decide) (fun b9 => ?_) (fun b9 => ?_)
        · have hs := ite_t hs b9
          refine lv_iinc (v := v2_5 + (1 : Int32)) (lv' := [(2, .int (v2_5 + (1 : Int32))), (0, .ref (ad 1)), (1, .int v1_5)]) hx hb dX0_joins_27 hl (k := 2) rfl rfl (by decide) rfl (fun ls hl => ?_)
          refine lv_goto (tgt := 4) hx hb dX0_joins_30 (by decide) ?_
          exact ih4 k4 v1_5 (v2_5 + (1 : Int32)) _ _ _ (lv_sub hl [1, 2, 0] rfl) hP hS hs hk4
        · have hs := ite_f hs b9
          refine lv_iinc (v := v1_5 + (1 : Int32)) (lv' := [(1, .int (v1_5 + (1 : Int32))), (0, .ref (ad 1)), (2, .int v2_5)]) hx hb dX0_joins_24 hl (k := 1) rfl rfl (by decide) rfl (fun ls hl => ?_)
          refine lv_iinc (v := v2_5 + (1 : Int32)) (lv' := [(2, .int (v2_5 + (1 : Int32))), (1, .int (v1_5 + (1 : Int32))), (0, .ref (ad 1))]) hx hb dX0_joins_27 hl (k := 2) rfl rfl (by decide) rfl (fun ls hl => ?_)
          refine lv_goto (tgt := 4) hx hb dX0_joins_30 (by decide) ?_
          exact ih4 k4 (v1_5 + (1 : Int32)) (v2_5 + (1 : Int32)) _ _ _ (lv_sub hl [2, 1, 0] rfl) hP hS hs hk4
  refine L4 LF _ (0 : Int32) (0 : Int32) _ _ _ (lv_sub hl [2, 1, 0] rfl) hP hS hs (fun u1_5 H locs ls hl hP hS hs => ?_)
  refine lv_iload_n hx hb dX0_joins_33 rfl (lv_at hl 0 rfl) ?_
  exact hret _ hs hP hS dX0_joins_34
def tX0_firstOfRoll_0 : List (Nat × Instr × Nat) := [(0, .iload_n 1, 1), (1, .istore_n 2, 1), (2, .iconst 0, 1), (3, .istore_n 3, 1), (4, .iload_n 3, 1), (5, .bipush 10, 2), (7, .if_icmp .ge 30, 3), (10, .aload_n 0, 1), (11, .bipush 21, 2), (13, .iload_n 2, 1), (14, .iadd, 1), (15, .invokevirtual 28, 3), (18, .istore 4, 2), (20, .iload 4, 2), (22, .iconst (-1), 1), (23, .if_icmp .ne 5, 3), (26, .iload_n 2, 1), (27, .ireturn, 1), (28, .iload 4, 2), (30, .istore_n 2, 1), (31, .iinc 3 1, 3), (34, .goto (-30), 3), (37, .iload_n 2, 1), (38, .ireturn, 1)]
theorem tX0_firstOfRoll_0_ok : tX0_firstOfRoll_0.all (fun q => decide (decode cX0_firstOfRoll q.1 = .ok q.2)) = true := by decide +kernel
theorem dX0_firstOfRoll_0 : decode cX0_firstOfRoll 0 = .ok (.iload_n 1, 1) := td tX0_firstOfRoll_0_ok 0 (q := (0, .iload_n 1, 1)) rfl
theorem dX0_firstOfRoll_1 : decode cX0_firstOfRoll 1 = .ok (.istore_n 2, 1) := td tX0_firstOfRoll_0_ok 1 (q := (1, .istore_n 2, 1)) rfl
theorem dX0_firstOfRoll_2 : decode cX0_firstOfRoll 2 = .ok (.iconst 0, 1) := td tX0_firstOfRoll_0_ok 2 (q := (2, .iconst 0, 1)) rfl
theorem dX0_firstOfRoll_3 : decode cX0_firstOfRoll 3 = .ok (.istore_n 3, 1) := td tX0_firstOfRoll_0_ok 3 (q := (3, .istore_n 3, 1)) rfl
theorem dX0_firstOfRoll_4 : decode cX0_firstOfRoll 4 = .ok (.iload_n 3, 1) := td tX0_firstOfRoll_0_ok 4 (q := (4, .iload_n 3, 1)) rfl
theorem dX0_firstOfRoll_5 : decode cX0_firstOfRoll 5 = .ok (.bipush 10, 2) := td tX0_firstOfRoll_0_ok 5 (q := (5, .bipush 10, 2)) rfl
theorem dX0_firstOfRoll_7 : decode cX0_firstOfRoll 7 = .ok (.if_icmp .ge 30, 3) := td tX0_firstOfRoll_0_ok 6 (q := (7, .if_icmp .ge 30, 3)) rfl
theorem dX0_firstOfRoll_10 : decode cX0_firstOfRoll 10 = .ok (.aload_n 0, 1) := td tX0_firstOfRoll_0_ok 7 (q := (10, .aload_n 0, 1)) rfl
theorem dX0_firstOfRoll_11 : decode cX0_firstOfRoll 11 = .ok (.bipush 21, 2) := td tX0_firstOfRoll_0_ok 8 (q := (11, .bipush 21, 2)) rfl
theorem dX0_firstOfRoll_13 : decode cX0_firstOfRoll 13 = .ok (.iload_n 2, 1) := td tX0_firstOfRoll_0_ok 9 (q := (13, .iload_n 2, 1)) rfl
theorem dX0_firstOfRoll_14 : decode cX0_firstOfRoll 14 = .ok (.iadd, 1) := td tX0_firstOfRoll_0_ok 10 (q := (14, .iadd, 1)) rfl
theorem dX0_firstOfRoll_15 : decode cX0_firstOfRoll 15 = .ok (.invokevirtual 28, 3) := td tX0_firstOfRoll_0_ok 11 (q := (15, .invokevirtual 28, 3)) rfl
theorem dX0_firstOfRoll_18 : decode cX0_firstOfRoll 18 = .ok (.istore 4, 2) := td tX0_firstOfRoll_0_ok 12 (q := (18, .istore 4, 2)) rfl
theorem dX0_firstOfRoll_20 : decode cX0_firstOfRoll 20 = .ok (.iload 4, 2) := td tX0_firstOfRoll_0_ok 13 (q := (20, .iload 4, 2)) rfl
theorem dX0_firstOfRoll_22 : decode cX0_firstOfRoll 22 = .ok (.iconst (-1), 1) := td tX0_firstOfRoll_0_ok 14 (q := (22, .iconst (-1), 1)) rfl
theorem dX0_firstOfRoll_23 : decode cX0_firstOfRoll 23 = .ok (.if_icmp .ne 5, 3) := td tX0_firstOfRoll_0_ok 15 (q := (23, .if_icmp .ne 5, 3)) rfl
theorem dX0_firstOfRoll_26 : decode cX0_firstOfRoll 26 = .ok (.iload_n 2, 1) := td tX0_firstOfRoll_0_ok 16 (q := (26, .iload_n 2, 1)) rfl
theorem dX0_firstOfRoll_27 : decode cX0_firstOfRoll 27 = .ok (.ireturn, 1) := td tX0_firstOfRoll_0_ok 17 (q := (27, .ireturn, 1)) rfl
theorem dX0_firstOfRoll_28 : decode cX0_firstOfRoll 28 = .ok (.iload 4, 2) := td tX0_firstOfRoll_0_ok 18 (q := (28, .iload 4, 2)) rfl
theorem dX0_firstOfRoll_30 : decode cX0_firstOfRoll 30 = .ok (.istore_n 2, 1) := td tX0_firstOfRoll_0_ok 19 (q := (30, .istore_n 2, 1)) rfl
theorem dX0_firstOfRoll_31 : decode cX0_firstOfRoll 31 = .ok (.iinc 3 1, 3) := td tX0_firstOfRoll_0_ok 20 (q := (31, .iinc 3 1, 3)) rfl
theorem dX0_firstOfRoll_34 : decode cX0_firstOfRoll 34 = .ok (.goto (-30), 3) := td tX0_firstOfRoll_0_ok 21 (q := (34, .goto (-30), 3)) rfl
theorem dX0_firstOfRoll_37 : decode cX0_firstOfRoll 37 = .ok (.iload_n 2, 1) := td tX0_firstOfRoll_0_ok 22 (q := (37, .iload_n 2, 1)) rfl
theorem dX0_firstOfRoll_38 : decode cX0_firstOfRoll 38 = .ok (.ireturn, 1) := td tX0_firstOfRoll_0_ok 23 (q := (38, .ireturn, 1)) rfl
def fX0_firstOfRoll_4 (k4 : Int32 → Option (Int32)) (kc : (Nat → Int32)) : Nat → Int32 → Int32 → Option (Int32)
  | 0, _, _ => none
  | n4 + 1, x2, x3 => (if (10 : Int32) ≤ x3 then (k4 x2) else (Option.bind (fX0_get kc ((21 : Int32) + x2)) (fun q2 => (if q2 = (-1 : Int32) then (some x2) else (fX0_firstOfRoll_4 k4 kc n4 q2 (x3 + (1 : Int32)))))))
def fX0_firstOfRoll (kc : (Nat → Int32)) (x1 : Int32) : Option (Int32) :=
  (fX0_firstOfRoll_4 (fun (u2_4 : Int32) => (some u2_4)) kc LF x1 (0 : Int32))
set_option maxHeartbeats 4000000 in
set_option maxRecDepth 100000 in
theorem mX0_firstOfRoll {l : Launch} {D : va_G} {ad : Nat → Nat} {cI : ClassId} {kc : (Nat → Int32)} {ksv : (Nat → Int32)} {kbc : (Nat → Int32)} {kit : (Nat → Int32)} {kln : (Nat → Int32)} {ken : (Nat → Int32)} {kla : (Nat → Int32)} {kfi : (Nat → Int32)} {kea : (Nat → Int32)} {kns : Int32} {kbl : Int32} {kr0 : Int32} {kr1 : Int32} {kr2 : Int32} {kr3 : Int32} {kr4 : Int32} {kr5 : Int32} {klr : Int32} {kp0 : Int32} {kp1 : Int32} {kp2 : Int32} {kp3 : Int32} {x1 : Int32} {r : Int32} (hs : fX0_firstOfRoll kc x1 = some r) : nd_C l yX0_firstOfRoll cX0_firstOfRoll 5 (some .int) 1 21 D [(cI, .int)] [.ref (ad 1), .int x1] (CW ad cI kc ksv kbc kit kln ken kla kfi kea kns kbl kr0 kr1 kr2 kr3 kr4 kr5 klr kp0 kp1 kp2 kp3) (CW ad cI kc ksv kbc kit kln ken kla kfi kea kns kbl kr0 kr1 kr2 kr3 kr4 kr5 klr kp0 kp1 kp2 kp3) (some (.int r)) := by
  refine nd_ofCi (by decide) (Nat.le_of_ble_eq_true rfl) (fun p e s m args below meth c_ ls A Q hx hb hml hown hts hl hP hK hD hS hA hN hret => ?_)
  have hown : s.vm.findClass RX0 = some m.cls := hown
  have hl : lv_has ls 5 [(0, .ref (ad 1)), (1, .int x1)] := hl
  have hret : ∀ (z0 : Int32) {H : Heap} {locs : List Loc} {pc : Nat} {ls : Array Slot}, some z0 = some r → va_P D vwCl (CW ad cI kc ksv kbc kit kln ken kla kfi kea kns kbl kr0 kr1 kr2 kr3 kr4 kr5 klr kp0 kp1 kp2 kp3) H → va_S A s.heap H locs → decode cX0_firstOfRoll pc = .ok (.ireturn, 1) → W p l e ⟨1, 0, 0, 21⟩ s m args below meth c_ H locs 0 0 Q (F0 m pc ls [.int z0]) := by
    intro z0 H locs pc ls h hP hS hd
    cases h
    exact hret hP hS hd
  rw [fX0_firstOfRoll] at hs
  refine lv_iload_n hx hb dX0_firstOfRoll_0 rfl (lv_at hl 1 rfl) ?_
  refine lv_istore_n (lv' := [(2, .int x1), (0, .ref (ad 1)), (1, .int x1)]) hx hb dX0_firstOfRoll_1 rfl hl (by decide) rfl (fun ls hl => ?_)
  refine lv_iconst (v := (0 : Int32)) hx hb dX0_firstOfRoll_2 (by decide) ?_
  refine lv_istore_n (lv' := [(3, .int (0 : Int32)), (2, .int x1), (0, .ref (ad 1)), (1, .int x1)]) hx hb dX0_firstOfRoll_3 rfl hl (by decide) rfl (fun ls hl => ?_)
  have L4 : ∀ (n4 : Nat) (k4 : Int32 → Option (Int32)) (v2_4 : Int32) (v3_4 : Int32) (H : Heap) (locs : List Loc) (ls : Array Slot), lv_has ls 5 [(0, .ref (ad 1)), (2, .int v2_4), (3, .int v3_4)] → va_P D vwCl (CW ad cI kc ksv kbc kit kln ken kla kfi kea kns kbl kr0 kr1 kr2 kr3 kr4 kr5 klr kp0 kp1 kp2 kp3) H → va_S A s.heap H locs → fX0_firstOfRoll_4 k4 kc n4 v2_4 v3_4 = some r → (∀ (u2_4 : Int32) (H : Heap) (locs : List Loc) (ls : Array Slot), lv_has ls 5 [(2, .int u2_4)] → va_P D vwCl (CW ad cI kc ksv kbc kit kln ken kla kfi kea kns kbl kr0 kr1 kr2 kr3 kr4 kr5 klr kp0 kp1 kp2 kp3) H → va_S A s.heap H locs → k4 u2_4 = some r → W p l e ⟨1, 0, 0, 21⟩ s m args below meth c_ H locs 0 0 Q (F0 m 37 ls [])) → W p l e ⟨1, 0, 0, 21⟩ s m args below meth c_ H locs 0 0 Q (F0 m 4 ls []) := by
    intro n4
    induction n4 with
    | zero =>
      intro k4 v2_4 v3_4 H locs ls hl hP hS hs hk4
      rw [fX0_firstOfRoll_4] at hs
      cases hs
    | succ n4 ih4 =>
      intro k4 v2_4 v3_4 H locs ls hl hP hS hs hk4
      rw [fX0_firstOfRoll_4] at hs
      refine lv_iload_n hx hb dX0_firstOfRoll_4 rfl (lv_at hl 2 rfl) ?_
      refine lv_bipush (v := (10 : Int32)) hx hb dX0_firstOfRoll_5 (by decide) ?_
      refine lv_icmp_ge (tgt := 37) hx hb dX0_firstOfRoll_7 (by decide) (fun b5 => ?_) (fun b5 => ?_)
      · have hs := ite_t hs b5
        exact hk4 v2_4 _ _ _ (lv_sub hl [1] rfl) hP hS hs
      · have hs := ite_f hs b5
        refine lv_aload_n hx hb dX0_firstOfRoll_10 rfl (lv_at hl 0 rfl) ?_
        refine lv_bipush (v := (21 : Int32)) hx hb dX0_firstOfRoll_11 (by decide) ?_
        refine lv_iload_n hx hb dX0_firstOfRoll_13 rfl (lv_at hl 1 rfl) ?_
        refine lv_iadd hx hb dX0_firstOfRoll_14 ?_
        obtain ⟨q6, eq6, hs⟩ := ob hs
        refine nd_callV (As := [.int ((21 : Int32) + v2_4)]) (rest := []) (st1 := [.int q6]) hx hb hml hown hts hl hP hK hD hS hA hN (mX0_get eq6) iv_X0_get wd_102 1 rfl rfl rfl rfl ⟨Nat.le_of_ble_eq_true rfl, Nat.le_of_ble_eq_true rfl⟩ (Nat.le_of_ble_eq_true rfl) ⟨Nat.zero_le _, Nat.zero_le _⟩ dX0_firstOfRoll_15 rfl rfl (fun H locs hP hD hS => ?_)
        refine lv_istore (lv' := [(4, .int q6), (0, .ref (ad 1)), (2, .int v2_4), (3, .int v3_4)]) hx hb dX0_firstOfRoll_18 hl (by decide) rfl (fun ls hl => ?_)
        refine lv_iload hx hb dX0_firstOfRoll_20 (lv_at hl 0 rfl) ?_
        refine lv_iconst (v := (-1 : Int32)) hx hb dX0_firstOfRoll_22 (by decide) ?_
        refine lv_icmp_ne (tgt := 28) hx hb dX0_firstOfRoll_23 (by decide) (fun b7 => ?_) (fun b7 => ?_)
        · have hs := ite_f hs b7
          refine lv_iload hx hb dX0_firstOfRoll_28 (lv_at hl 0 rfl) ?_
          refine lv_istore_n (lv' := [(2, .int q6), (4, .int q6), (0, .ref (ad 1)), (3, .int v3_4)]) hx hb dX0_firstOfRoll_30 rfl hl (by decide) rfl (fun ls hl => ?_)
          refine lv_iinc (v := v3_4 + (1 : Int32)) (lv' := [(3, .int (v3_4 + (1 : Int32))), (2, .int q6), (4, .int q6), (0, .ref (ad 1))]) hx hb dX0_firstOfRoll_31 hl (k := 3) rfl rfl (by decide) rfl (fun ls hl => ?_)
          refine lv_goto (tgt := 4) hx hb dX0_firstOfRoll_34 (by decide) ?_
          exact ih4 k4 q6 (v3_4 + (1 : Int32)) _ _ _ (lv_sub hl [3, 1, 0] rfl) hP hS hs hk4
        · have hs := ite_t hs b7
          refine lv_iload_n hx hb dX0_firstOfRoll_26 rfl (lv_at hl 2 rfl) ?_
          exact hret _ hs hP hS dX0_firstOfRoll_27
  refine L4 LF _ x1 (0 : Int32) _ _ _ (lv_sub hl [2, 1, 0] rfl) hP hS hs (fun u2_4 H locs ls hl hP hS hs => ?_)
  refine lv_iload_n hx hb dX0_firstOfRoll_37 rfl (lv_at hl 0 rfl) ?_
  exact hret _ hs hP hS dX0_firstOfRoll_38
def tX0_piecesOfRoll_0 : List (Nat × Instr × Nat) := [(0, .iconst 0, 1), (1, .istore_n 2, 1), (2, .aload_n 0, 1), (3, .iload_n 1, 1), (4, .invokevirtual 40, 3), (7, .istore_n 3, 1), (8, .iconst 0, 1), (9, .istore 4, 2), (11, .iload 4, 2), (13, .bipush 10, 2), (15, .if_icmp .ge 26, 3), (18, .iload_n 3, 1), (19, .iconst (-1), 1), (20, .if_icmp .eq 21, 3), (23, .iinc 2 1, 3), (26, .aload_n 0, 1), (27, .bipush 31, 2), (29, .iload_n 3, 1), (30, .iadd, 1), (31, .invokevirtual 28, 3), (34, .istore_n 3, 1), (35, .iinc 4 1, 3), (38, .goto (-27), 3), (41, .iload_n 2, 1), (42, .ireturn, 1)]
theorem tX0_piecesOfRoll_0_ok : tX0_piecesOfRoll_0.all (fun q => decide (decode cX0_piecesOfRoll q.1 = .ok q.2)) = true := by decide +kernel
theorem dX0_piecesOfRoll_0 : decode cX0_piecesOfRoll 0 = .ok (.iconst 0, 1) := td tX0_piecesOfRoll_0_ok 0 (q := (0, .iconst 0, 1)) rfl
theorem dX0_piecesOfRoll_1 : decode cX0_piecesOfRoll 1 = .ok (.istore_n 2, 1) := td tX0_piecesOfRoll_0_ok 1 (q := (1, .istore_n 2, 1)) rfl
theorem dX0_piecesOfRoll_2 : decode cX0_piecesOfRoll 2 = .ok (.aload_n 0, 1) := td tX0_piecesOfRoll_0_ok 2 (q := (2, .aload_n 0, 1)) rfl
theorem dX0_piecesOfRoll_3 : decode cX0_piecesOfRoll 3 = .ok (.iload_n 1, 1) := td tX0_piecesOfRoll_0_ok 3 (q := (3, .iload_n 1, 1)) rfl
theorem dX0_piecesOfRoll_4 : decode cX0_piecesOfRoll 4 = .ok (.invokevirtual 40, 3) := td tX0_piecesOfRoll_0_ok 4 (q := (4, .invokevirtual 40, 3)) rfl
theorem dX0_piecesOfRoll_7 : decode cX0_piecesOfRoll 7 = .ok (.istore_n 3, 1) := td tX0_piecesOfRoll_0_ok 5 (q := (7, .istore_n 3, 1)) rfl
theorem dX0_piecesOfRoll_8 : decode cX0_piecesOfRoll 8 = .ok (.iconst 0, 1) := td tX0_piecesOfRoll_0_ok 6 (q := (8, .iconst 0, 1)) rfl
theorem dX0_piecesOfRoll_9 : decode cX0_piecesOfRoll 9 = .ok (.istore 4, 2) := td tX0_piecesOfRoll_0_ok 7 (q := (9, .istore 4, 2)) rfl
theorem dX0_piecesOfRoll_11 : decode cX0_piecesOfRoll 11 = .ok (.iload 4, 2) := td tX0_piecesOfRoll_0_ok 8 (q := (11, .iload 4, 2)) rfl
theorem dX0_piecesOfRoll_13 : decode cX0_piecesOfRoll 13 = .ok (.bipush 10, 2) := td tX0_piecesOfRoll_0_ok 9 (q := (13, .bipush 10, 2)) rfl
theorem dX0_piecesOfRoll_15 : decode cX0_piecesOfRoll 15 = .ok (.if_icmp .ge 26, 3) := td tX0_piecesOfRoll_0_ok 10 (q := (15, .if_icmp .ge 26, 3)) rfl
theorem dX0_piecesOfRoll_18 : decode cX0_piecesOfRoll 18 = .ok (.iload_n 3, 1) := td tX0_piecesOfRoll_0_ok 11 (q := (18, .iload_n 3, 1)) rfl
theorem dX0_piecesOfRoll_19 : decode cX0_piecesOfRoll 19 = .ok (.iconst (-1), 1) := td tX0_piecesOfRoll_0_ok 12 (q := (19, .iconst (-1), 1)) rfl
theorem dX0_piecesOfRoll_20 : decode cX0_piecesOfRoll 20 = .ok (.if_icmp .eq 21, 3) := td tX0_piecesOfRoll_0_ok 13 (q := (20, .if_icmp .eq 21, 3)) rfl
theorem dX0_piecesOfRoll_23 : decode cX0_piecesOfRoll 23 = .ok (.iinc 2 1, 3) := td tX0_piecesOfRoll_0_ok 14 (q := (23, .iinc 2 1, 3)) rfl
theorem dX0_piecesOfRoll_26 : decode cX0_piecesOfRoll 26 = .ok (.aload_n 0, 1) := td tX0_piecesOfRoll_0_ok 15 (q := (26, .aload_n 0, 1)) rfl
theorem dX0_piecesOfRoll_27 : decode cX0_piecesOfRoll 27 = .ok (.bipush 31, 2) := td tX0_piecesOfRoll_0_ok 16 (q := (27, .bipush 31, 2)) rfl
theorem dX0_piecesOfRoll_29 : decode cX0_piecesOfRoll 29 = .ok (.iload_n 3, 1) := td tX0_piecesOfRoll_0_ok 17 (q := (29, .iload_n 3, 1)) rfl
theorem dX0_piecesOfRoll_30 : decode cX0_piecesOfRoll 30 = .ok (.iadd, 1) := td tX0_piecesOfRoll_0_ok 18 (q := (30, .iadd, 1)) rfl
theorem dX0_piecesOfRoll_31 : decode cX0_piecesOfRoll 31 = .ok (.invokevirtual 28, 3) := td tX0_piecesOfRoll_0_ok 19 (q := (31, .invokevirtual 28, 3)) rfl
theorem dX0_piecesOfRoll_34 : decode cX0_piecesOfRoll 34 = .ok (.istore_n 3, 1) := td tX0_piecesOfRoll_0_ok 20 (q := (34, .istore_n 3, 1)) rfl
theorem dX0_piecesOfRoll_35 : decode cX0_piecesOfRoll 35 = .ok (.iinc 4 1, 3) := td tX0_piecesOfRoll_0_ok 21 (q := (35, .iinc 4 1, 3)) rfl
theorem dX0_piecesOfRoll_38 : decode cX0_piecesOfRoll 38 = .ok (.goto (-27), 3) := td tX0_piecesOfRoll_0_ok 22 (q := (38, .goto (-27), 3)) rfl
theorem dX0_piecesOfRoll_41 : decode cX0_piecesOfRoll 41 = .ok (.iload_n 2, 1) := td tX0_piecesOfRoll_0_ok 23 (q := (41, .iload_n 2, 1)) rfl
theorem dX0_piecesOfRoll_42 : decode cX0_piecesOfRoll 42 = .ok (.ireturn, 1) := td tX0_piecesOfRoll_0_ok 24 (q := (42, .ireturn, 1)) rfl
def fX0_piecesOfRoll_11 (k11 : Int32 → Option (Int32)) (kc : (Nat → Int32)) : Nat → Int32 → Int32 → Int32 → Option (Int32)
  | 0, _, _, _ => none
  | n11 + 1, x2, x3, x4 => (if (10 : Int32) ≤ x4 then (k11 x2) else (if x3 = (-1 : Int32) then (k11 x2) else (Option.bind (fX0_get kc ((31 : Int32) + x3)) (fun q4 => (fX0_piecesOfRoll_11 k11 kc n11 (x2 + (1 : Int32)) q4 (x4 + (1 : Int32)))))))
def fX0_piecesOfRoll (kc : (Nat → Int32)) (x1 : Int32) : Option (Int32) :=
  (Option.bind (fX0_firstOfRoll kc x1) (fun q1 => (fX0_piecesOfRoll_11 (fun (u2_5 : Int32) => (some u2_5)) kc LF (0 : Int32) q1 (0 : Int32))))
set_option maxHeartbeats 4000000 in
set_option maxRecDepth 100000 in
theorem mX0_piecesOfRoll {l : Launch} {D : va_G} {ad : Nat → Nat} {cI : ClassId} {kc : (Nat → Int32)} {ksv : (Nat → Int32)} {kbc : (Nat → Int32)} {kit : (Nat → Int32)} {kln : (Nat → Int32)} {ken : (Nat → Int32)} {kla : (Nat → Int32)} {kfi : (Nat → Int32)} {kea : (Nat → Int32)} {kns : Int32} {kbl : Int32} {kr0 : Int32} {kr1 : Int32} {kr2 : Int32} {kr3 : Int32} {kr4 : Int32} {kr5 : Int32} {klr : Int32} {kp0 : Int32} {kp1 : Int32} {kp2 : Int32} {kp3 : Int32} {x1 : Int32} {r : Int32} (hs : fX0_piecesOfRoll kc x1 = some r) : nd_C l yX0_piecesOfRoll cX0_piecesOfRoll 5 (some .int) 2 45 D [(cI, .int)] [.ref (ad 1), .int x1] (CW ad cI kc ksv kbc kit kln ken kla kfi kea kns kbl kr0 kr1 kr2 kr3 kr4 kr5 klr kp0 kp1 kp2 kp3) (CW ad cI kc ksv kbc kit kln ken kla kfi kea kns kbl kr0 kr1 kr2 kr3 kr4 kr5 klr kp0 kp1 kp2 kp3) (some (.int r)) := by
  refine nd_ofCi (by decide) (Nat.le_of_ble_eq_true rfl) (fun p e s m args below meth c_ ls A Q hx hb hml hown hts hl hP hK hD hS hA hN hret => ?_)
  have hown : s.vm.findClass RX0 = some m.cls := hown
  have hl : lv_has ls 5 [(0, .ref (ad 1)), (1, .int x1)] := hl
  have hret : ∀ (z0 : Int32) {H : Heap} {locs : List Loc} {pc : Nat} {ls : Array Slot}, some z0 = some r → va_P D vwCl (CW ad cI kc ksv kbc kit kln ken kla kfi kea kns kbl kr0 kr1 kr2 kr3 kr4 kr5 klr kp0 kp1 kp2 kp3) H → va_S A s.heap H locs → decode cX0_piecesOfRoll pc = .ok (.ireturn, 1) → W p l e ⟨2, 0, 0, 45⟩ s m args below meth c_ H locs 0 0 Q (F0 m pc ls [.int z0]) := by
    intro z0 H locs pc ls h hP hS hd
    cases h
    exact hret hP hS hd
  rw [fX0_piecesOfRoll] at hs
  refine lv_iconst (v := (0 : Int32)) hx hb dX0_piecesOfRoll_0 (by decide) ?_
  refine lv_istore_n (lv' := [(2, .int (0 : Int32)), (0, .ref (ad 1)), (1, .int x1)]) hx hb dX0_piecesOfRoll_1 rfl hl (by decide) rfl (fun ls hl => ?_)
  refine lv_aload_n hx hb dX0_piecesOfRoll_2 rfl (lv_at hl 1 rfl) ?_
  refine lv_iload_n hx hb dX0_piecesOfRoll_3 rfl (lv_at hl 2 rfl) ?_
  obtain ⟨q1, eq1, hs⟩ := ob hs
  refine nd_callV (As := [.int x1]) (rest := []) (st1 := [.int q1]) hx hb hml hown hts hl hP hK hD hS hA hN (mX0_firstOfRoll eq1) iv_X0_firstOfRoll wd_398 1 rfl rfl rfl rfl ⟨Nat.le_of_ble_eq_true rfl, Nat.le_of_ble_eq_true rfl⟩ (Nat.le_of_ble_eq_true rfl) ⟨Nat.zero_le _, Nat.zero_le _⟩ dX0_piecesOfRoll_4 rfl rfl (fun H locs hP hD hS => ?_)
  refine lv_istore_n (lv' := [(3, .int q1), (2, .int (0 : Int32)), (0, .ref (ad 1)), (1, .int x1)]) hx hb dX0_piecesOfRoll_7 rfl hl (by decide) rfl (fun ls hl => ?_)
  refine lv_iconst (v := (0 : Int32)) hx hb dX0_piecesOfRoll_8 (by decide) ?_
  refine lv_istore (lv' := [(4, .int (0 : Int32)), (3, .int q1), (2, .int (0 : Int32)), (0, .ref (ad 1)), (1, .int x1)]) hx hb dX0_piecesOfRoll_9 hl (by decide) rfl (fun ls hl => ?_)
  have L11 : ∀ (n11 : Nat) (k11 : Int32 → Option (Int32)) (v2_5 : Int32) (v3_5 : Int32) (v4_5 : Int32) (H : Heap) (locs : List Loc) (ls : Array Slot), lv_has ls 5 [(0, .ref (ad 1)), (2, .int v2_5), (3, .int v3_5), (4, .int v4_5)] → va_P D vwCl (CW ad cI kc ksv kbc kit kln ken kla kfi kea kns kbl kr0 kr1 kr2 kr3 kr4 kr5 klr kp0 kp1 kp2 kp3) H → va_S A s.heap H locs → fX0_piecesOfRoll_11 k11 kc n11 v2_5 v3_5 v4_5 = some r → (∀ (u2_5 : Int32) (H : Heap) (locs : List Loc) (ls : Array Slot), lv_has ls 5 [(2, .int u2_5)] → va_P D vwCl (CW ad cI kc ksv kbc kit kln ken kla kfi kea kns kbl kr0 kr1 kr2 kr3 kr4 kr5 klr kp0 kp1 kp2 kp3) H → va_S A s.heap H locs → k11 u2_5 = some r → W p l e ⟨2, 0, 0, 45⟩ s m args below meth c_ H locs 0 0 Q (F0 m 41 ls [])) → W p l e ⟨2, 0, 0, 45⟩ s m args below meth c_ H locs 0 0 Q (F0 m 11 ls []) := by
    intro n11
    induction n11 with
    | zero =>
      intro k11 v2_5 v3_5 v4_5 H locs ls hl hP hS hs hk11
      rw [fX0_piecesOfRoll_11] at hs
      cases hs
    | succ n11 ih11 =>
      intro k11 v2_5 v3_5 v4_5 H locs ls hl hP hS hs hk11
      rw [fX0_piecesOfRoll_11] at hs
      refine lv_iload hx hb dX0_piecesOfRoll_11 (lv_at hl 3 rfl) ?_
      refine lv_bipush (v := (10 : Int32)) hx hb dX0_piecesOfRoll_13 (by decide) ?_
      refine lv_icmp_ge (tgt := 41) hx hb dX0_piecesOfRoll_15 (by decide) (fun b6 => ?_) (fun b6 => ?_)
      · have hs := ite_t hs b6
        exact hk11 v2_5 _ _ _ (lv_sub hl [1] rfl) hP hS hs
      · have hs := ite_f hs b6
        refine lv_iload_n hx hb dX0_piecesOfRoll_18 rfl (lv_at hl 2 rfl) ?_
        refine lv_iconst (v := (-1 : Int32)) hx hb dX0_piecesOfRoll_19 (by decide) ?_
        refine lv_icmp_eq (tgt := 41) hx hb dX0_piecesOfRoll_20 (by decide) (fun b7 => ?_) (fun b7 => ?_)
        · have hs := ite_t hs b7
          exact hk11 v2_5 _ _ _ (lv_sub hl [1] rfl) hP hS hs
        · have hs := ite_f hs b7
          refine lv_iinc (v := v2_5 + (1 : Int32)) (lv' := [(2, .int (v2_5 + (1 : Int32))), (0, .ref (ad 1)), (3, .int v3_5), (4, .int v4_5)]) hx hb dX0_piecesOfRoll_23 hl (k := 1) rfl rfl (by decide) rfl (fun ls hl => ?_)
          refine lv_aload_n hx hb dX0_piecesOfRoll_26 rfl (lv_at hl 1 rfl) ?_
          refine lv_bipush (v := (31 : Int32)) hx hb dX0_piecesOfRoll_27 (by decide) ?_
          refine lv_iload_n hx hb dX0_piecesOfRoll_29 rfl (lv_at hl 2 rfl) ?_
          refine lv_iadd hx hb dX0_piecesOfRoll_30 ?_
          obtain ⟨q8, eq8, hs⟩ := ob hs
          refine nd_callV (As := [.int ((31 : Int32) + v3_5)]) (rest := []) (st1 := [.int q8]) hx hb hml hown hts hl hP hK hD hS hA hN (mX0_get eq8) iv_X0_get wd_102 1 rfl rfl rfl rfl ⟨Nat.le_of_ble_eq_true rfl, Nat.le_of_ble_eq_true rfl⟩ (Nat.le_of_ble_eq_true rfl) ⟨Nat.zero_le _, Nat.zero_le _⟩ dX0_piecesOfRoll_31 rfl rfl (fun H locs hP hD hS => ?_)
          refine lv_istore_n (lv' := [(3, .int q8), (2, .int (v2_5 + (1 : Int32))), (0, .ref (ad 1)), (4, .int v4_5)]) hx hb dX0_piecesOfRoll_34 rfl hl (by decide) rfl (fun ls hl => ?_)
          refine lv_iinc (v := v4_5 + (1 : Int32)) (lv' := [(4, .int (v4_5 + (1 : Int32))), (3, .int q8), (2, .int (v2_5 + (1 : Int32))), (0, .ref (ad 1))]) hx hb dX0_piecesOfRoll_35 hl (k := 3) rfl rfl (by decide) rfl (fun ls hl => ?_)
          refine lv_goto (tgt := 11) hx hb dX0_piecesOfRoll_38 (by decide) ?_
          exact ih11 k11 (v2_5 + (1 : Int32)) q8 (v4_5 + (1 : Int32)) _ _ _ (lv_sub hl [3, 2, 1, 0] rfl) hP hS hs hk11
  refine L11 LF _ (0 : Int32) q1 (0 : Int32) _ _ _ (lv_sub hl [3, 2, 1, 0] rfl) hP hS hs (fun u2_5 H locs ls hl hP hS hs => ?_)
  refine lv_iload_n hx hb dX0_piecesOfRoll_41 rfl (lv_at hl 0 rfl) ?_
  exact hret _ hs hP hS dX0_piecesOfRoll_42
def tX0_lastTimeUpTo_0 : List (Nat × Instr × Nat) := [(0, .iload_n 1, 1), (1, .istore_n 2, 1), (2, .iconst 0, 1), (3, .istore_n 3, 1), (4, .iload_n 3, 1), (5, .bipush 10, 2), (7, .if_icmp .ge 55, 3), (10, .iload_n 2, 1), (11, .iconst (-1), 1), (12, .if_icmp .eq 50, 3), (15, .aload_n 0, 1), (16, .bipush 41, 2), (18, .iload_n 2, 1), (19, .iadd, 1), (20, .invokevirtual 28, 3), (23, .istore 4, 2), (25, .iload 4, 2), (27, .ifCond .le 20, 3), (30, .aload_n 0, 1), (31, .bipush 51, 2), (33, .iload_n 2, 1), (34, .bipush 6, 2), (36, .imul, 1), (37, .iadd, 1), (38, .iload 4, 2), (40, .iadd, 1), (41, .iconst 1, 1), (42, .isub, 1), (43, .invokevirtual 28, 3), (46, .ireturn, 1), (47, .aload_n 0, 1), (48, .bipush 21, 2), (50, .iload_n 2, 1), (51, .iadd, 1), (52, .invokevirtual 28, 3), (55, .istore_n 2, 1), (56, .iinc 3 1, 3), (59, .goto (-55), 3), (62, .iconst (-1), 1), (63, .ireturn, 1)]
theorem tX0_lastTimeUpTo_0_ok : tX0_lastTimeUpTo_0.all (fun q => decide (decode cX0_lastTimeUpTo q.1 = .ok q.2)) = true := by decide +kernel
theorem dX0_lastTimeUpTo_0 : decode cX0_lastTimeUpTo 0 = .ok (.iload_n 1, 1) := td tX0_lastTimeUpTo_0_ok 0 (q := (0, .iload_n 1, 1)) rfl
theorem dX0_lastTimeUpTo_1 : decode cX0_lastTimeUpTo 1 = .ok (.istore_n 2, 1) := td tX0_lastTimeUpTo_0_ok 1 (q := (1, .istore_n 2, 1)) rfl
theorem dX0_lastTimeUpTo_2 : decode cX0_lastTimeUpTo 2 = .ok (.iconst 0, 1) := td tX0_lastTimeUpTo_0_ok 2 (q := (2, .iconst 0, 1)) rfl
theorem dX0_lastTimeUpTo_3 : decode cX0_lastTimeUpTo 3 = .ok (.istore_n 3, 1) := td tX0_lastTimeUpTo_0_ok 3 (q := (3, .istore_n 3, 1)) rfl
theorem dX0_lastTimeUpTo_4 : decode cX0_lastTimeUpTo 4 = .ok (.iload_n 3, 1) := td tX0_lastTimeUpTo_0_ok 4 (q := (4, .iload_n 3, 1)) rfl
theorem dX0_lastTimeUpTo_5 : decode cX0_lastTimeUpTo 5 = .ok (.bipush 10, 2) := td tX0_lastTimeUpTo_0_ok 5 (q := (5, .bipush 10, 2)) rfl
theorem dX0_lastTimeUpTo_7 : decode cX0_lastTimeUpTo 7 = .ok (.if_icmp .ge 55, 3) := td tX0_lastTimeUpTo_0_ok 6 (q := (7, .if_icmp .ge 55, 3)) rfl
theorem dX0_lastTimeUpTo_10 : decode cX0_lastTimeUpTo 10 = .ok (.iload_n 2, 1) := td tX0_lastTimeUpTo_0_ok 7 (q := (10, .iload_n 2, 1)) rfl
theorem dX0_lastTimeUpTo_11 : decode cX0_lastTimeUpTo 11 = .ok (.iconst (-1), 1) := td tX0_lastTimeUpTo_0_ok 8 (q := (11, .iconst (-1), 1)) rfl
theorem dX0_lastTimeUpTo_12 : decode cX0_lastTimeUpTo 12 = .ok (.if_icmp .eq 50, 3) := td tX0_lastTimeUpTo_0_ok 9 (q := (12, .if_icmp .eq 50, 3)) rfl
theorem dX0_lastTimeUpTo_15 : decode cX0_lastTimeUpTo 15 = .ok (.aload_n 0, 1) := td tX0_lastTimeUpTo_0_ok 10 (q := (15, .aload_n 0, 1)) rfl
theorem dX0_lastTimeUpTo_16 : decode cX0_lastTimeUpTo 16 = .ok (.bipush 41, 2) := td tX0_lastTimeUpTo_0_ok 11 (q := (16, .bipush 41, 2)) rfl
theorem dX0_lastTimeUpTo_18 : decode cX0_lastTimeUpTo 18 = .ok (.iload_n 2, 1) := td tX0_lastTimeUpTo_0_ok 12 (q := (18, .iload_n 2, 1)) rfl
theorem dX0_lastTimeUpTo_19 : decode cX0_lastTimeUpTo 19 = .ok (.iadd, 1) := td tX0_lastTimeUpTo_0_ok 13 (q := (19, .iadd, 1)) rfl
theorem dX0_lastTimeUpTo_20 : decode cX0_lastTimeUpTo 20 = .ok (.invokevirtual 28, 3) := td tX0_lastTimeUpTo_0_ok 14 (q := (20, .invokevirtual 28, 3)) rfl
theorem dX0_lastTimeUpTo_23 : decode cX0_lastTimeUpTo 23 = .ok (.istore 4, 2) := td tX0_lastTimeUpTo_0_ok 15 (q := (23, .istore 4, 2)) rfl
theorem dX0_lastTimeUpTo_25 : decode cX0_lastTimeUpTo 25 = .ok (.iload 4, 2) := td tX0_lastTimeUpTo_0_ok 16 (q := (25, .iload 4, 2)) rfl
theorem dX0_lastTimeUpTo_27 : decode cX0_lastTimeUpTo 27 = .ok (.ifCond .le 20, 3) := td tX0_lastTimeUpTo_0_ok 17 (q := (27, .ifCond .le 20, 3)) rfl
theorem dX0_lastTimeUpTo_30 : decode cX0_lastTimeUpTo 30 = .ok (.aload_n 0, 1) := td tX0_lastTimeUpTo_0_ok 18 (q := (30, .aload_n 0, 1)) rfl
theorem dX0_lastTimeUpTo_31 : decode cX0_lastTimeUpTo 31 = .ok (.bipush 51, 2) := td tX0_lastTimeUpTo_0_ok 19 (q := (31, .bipush 51, 2)) rfl
theorem dX0_lastTimeUpTo_33 : decode cX0_lastTimeUpTo 33 = .ok (.iload_n 2, 1) := td tX0_lastTimeUpTo_0_ok 20 (q := (33, .iload_n 2, 1)) rfl
theorem dX0_lastTimeUpTo_34 : decode cX0_lastTimeUpTo 34 = .ok (.bipush 6, 2) := td tX0_lastTimeUpTo_0_ok 21 (q := (34, .bipush 6, 2)) rfl
theorem dX0_lastTimeUpTo_36 : decode cX0_lastTimeUpTo 36 = .ok (.imul, 1) := td tX0_lastTimeUpTo_0_ok 22 (q := (36, .imul, 1)) rfl
theorem dX0_lastTimeUpTo_37 : decode cX0_lastTimeUpTo 37 = .ok (.iadd, 1) := td tX0_lastTimeUpTo_0_ok 23 (q := (37, .iadd, 1)) rfl
theorem dX0_lastTimeUpTo_38 : decode cX0_lastTimeUpTo 38 = .ok (.iload 4, 2) := td tX0_lastTimeUpTo_0_ok 24 (q := (38, .iload 4, 2)) rfl
theorem dX0_lastTimeUpTo_40 : decode cX0_lastTimeUpTo 40 = .ok (.iadd, 1) := td tX0_lastTimeUpTo_0_ok 25 (q := (40, .iadd, 1)) rfl
theorem dX0_lastTimeUpTo_41 : decode cX0_lastTimeUpTo 41 = .ok (.iconst 1, 1) := td tX0_lastTimeUpTo_0_ok 26 (q := (41, .iconst 1, 1)) rfl
theorem dX0_lastTimeUpTo_42 : decode cX0_lastTimeUpTo 42 = .ok (.isub, 1) := td tX0_lastTimeUpTo_0_ok 27 (q := (42, .isub, 1)) rfl
theorem dX0_lastTimeUpTo_43 : decode cX0_lastTimeUpTo 43 = .ok (.invokevirtual 28, 3) := td tX0_lastTimeUpTo_0_ok 28 (q := (43, .invokevirtual 28, 3)) rfl
theorem dX0_lastTimeUpTo_46 : decode cX0_lastTimeUpTo 46 = .ok (.ireturn, 1) := td tX0_lastTimeUpTo_0_ok 29 (q := (46, .ireturn, 1)) rfl
theorem dX0_lastTimeUpTo_47 : decode cX0_lastTimeUpTo 47 = .ok (.aload_n 0, 1) := td tX0_lastTimeUpTo_0_ok 30 (q := (47, .aload_n 0, 1)) rfl
theorem dX0_lastTimeUpTo_48 : decode cX0_lastTimeUpTo 48 = .ok (.bipush 21, 2) := td tX0_lastTimeUpTo_0_ok 31 (q := (48, .bipush 21, 2)) rfl
theorem dX0_lastTimeUpTo_50 : decode cX0_lastTimeUpTo 50 = .ok (.iload_n 2, 1) := td tX0_lastTimeUpTo_0_ok 32 (q := (50, .iload_n 2, 1)) rfl
theorem dX0_lastTimeUpTo_51 : decode cX0_lastTimeUpTo 51 = .ok (.iadd, 1) := td tX0_lastTimeUpTo_0_ok 33 (q := (51, .iadd, 1)) rfl
theorem dX0_lastTimeUpTo_52 : decode cX0_lastTimeUpTo 52 = .ok (.invokevirtual 28, 3) := td tX0_lastTimeUpTo_0_ok 34 (q := (52, .invokevirtual 28, 3)) rfl
theorem dX0_lastTimeUpTo_55 : decode cX0_lastTimeUpTo 55 = .ok (.istore_n 2, 1) := td tX0_lastTimeUpTo_0_ok 35 (q := (55, .istore_n 2, 1)) rfl
theorem dX0_lastTimeUpTo_56 : decode cX0_lastTimeUpTo 56 = .ok (.iinc 3 1, 3) := td tX0_lastTimeUpTo_0_ok 36 (q := (56, .iinc 3 1, 3)) rfl
theorem dX0_lastTimeUpTo_59 : decode cX0_lastTimeUpTo 59 = .ok (.goto (-55), 3) := td tX0_lastTimeUpTo_0_ok 37 (q := (59, .goto (-55), 3)) rfl
theorem dX0_lastTimeUpTo_62 : decode cX0_lastTimeUpTo 62 = .ok (.iconst (-1), 1) := td tX0_lastTimeUpTo_0_ok 38 (q := (62, .iconst (-1), 1)) rfl
theorem dX0_lastTimeUpTo_63 : decode cX0_lastTimeUpTo 63 = .ok (.ireturn, 1) := td tX0_lastTimeUpTo_0_ok 39 (q := (63, .ireturn, 1)) rfl
def fX0_lastTimeUpTo_4 (k4 : Unit → Option (Int32)) (kc : (Nat → Int32)) : Nat → Int32 → Int32 → Option (Int32)
  | 0, _, _ => none
  | n4 + 1, x2, x3 => (if (10 : Int32) ≤ x3 then (k4 ()) else (if x2 = (-1 : Int32) then (k4 ()) else (Option.bind (fX0_get kc ((41 : Int32) + x2)) (fun q3 => (if q3 ≤ 0 then (Option.bind (fX0_get kc ((21 : Int32) + x2)) (fun q5 => (fX0_lastTimeUpTo_4 k4 kc n4 q5 (x3 + (1 : Int32))))) else (Option.bind (fX0_get kc ((((51 : Int32) + (x2 * (6 : Int32))) + q3) - (1 : Int32))) (fun q6 => (some q6))))))))
def fX0_lastTimeUpTo (kc : (Nat → Int32)) (x1 : Int32) : Option (Int32) :=
  (fX0_lastTimeUpTo_4 (fun (_ : Unit) => (some (-1 : Int32))) kc LF x1 (0 : Int32))
set_option maxHeartbeats 4000000 in
set_option maxRecDepth 100000 in
theorem mX0_lastTimeUpTo {l : Launch} {D : va_G} {ad : Nat → Nat} {cI : ClassId} {kc : (Nat → Int32)} {ksv : (Nat → Int32)} {kbc : (Nat → Int32)} {kit : (Nat → Int32)} {kln : (Nat → Int32)} {ken : (Nat → Int32)} {kla : (Nat → Int32)} {kfi : (Nat → Int32)} {kea : (Nat → Int32)} {kns : Int32} {kbl : Int32} {kr0 : Int32} {kr1 : Int32} {kr2 : Int32} {kr3 : Int32} {kr4 : Int32} {kr5 : Int32} {klr : Int32} {kp0 : Int32} {kp1 : Int32} {kp2 : Int32} {kp3 : Int32} {x1 : Int32} {r : Int32} (hs : fX0_lastTimeUpTo kc x1 = some r) : nd_C l yX0_lastTimeUpTo cX0_lastTimeUpTo 5 (some .int) 1 21 D [(cI, .int)] [.ref (ad 1), .int x1] (CW ad cI kc ksv kbc kit kln ken kla kfi kea kns kbl kr0 kr1 kr2 kr3 kr4 kr5 klr kp0 kp1 kp2 kp3) (CW ad cI kc ksv kbc kit kln ken kla kfi kea kns kbl kr0 kr1 kr2 kr3 kr4 kr5 klr kp0 kp1 kp2 kp3) (some (.int r)) := by
  refine nd_ofCi (by decide) (Nat.le_of_ble_eq_true rfl) (fun p e s m args below meth c_ ls A Q hx hb hml hown hts hl hP hK hD hS hA hN hret => ?_)
  have hown : s.vm.findClass RX0 = some m.cls := hown
  have hl : lv_has ls 5 [(0, .ref (ad 1)), (1, .int x1)] := hl
  have hret : ∀ (z0 : Int32) {H : Heap} {locs : List Loc} {pc : Nat} {ls : Array Slot}, some z0 = some r → va_P D vwCl (CW ad cI kc ksv kbc kit kln ken kla kfi kea kns kbl kr0 kr1 kr2 kr3 kr4 kr5 klr kp0 kp1 kp2 kp3) H → va_S A s.heap H locs → decode cX0_lastTimeUpTo pc = .ok (.ireturn, 1) → W p l e ⟨1, 0, 0, 21⟩ s m args below meth c_ H locs 0 0 Q (F0 m pc ls [.int z0]) := by
    intro z0 H locs pc ls h hP hS hd
    cases h
    exact hret hP hS hd
  rw [fX0_lastTimeUpTo] at hs
  refine lv_iload_n hx hb dX0_lastTimeUpTo_0 rfl (lv_at hl 1 rfl) ?_
  refine lv_istore_n (lv' := [(2, .int x1), (0, .ref (ad 1)), (1, .int x1)]) hx hb dX0_lastTimeUpTo_1 rfl hl (by decide) rfl (fun ls hl => ?_)
  refine lv_iconst (v := (0 : Int32)) hx hb dX0_lastTimeUpTo_2 (by decide) ?_
  refine lv_istore_n (lv' := [(3, .int (0 : Int32)), (2, .int x1), (0, .ref (ad 1)), (1, .int x1)]) hx hb dX0_lastTimeUpTo_3 rfl hl (by decide) rfl (fun ls hl => ?_)
  have L4 : ∀ (n4 : Nat) (k4 : Unit → Option (Int32)) (v2_7 : Int32) (v3_7 : Int32) (H : Heap) (locs : List Loc) (ls : Array Slot), lv_has ls 5 [(0, .ref (ad 1)), (2, .int v2_7), (3, .int v3_7)] → va_P D vwCl (CW ad cI kc ksv kbc kit kln ken kla kfi kea kns kbl kr0 kr1 kr2 kr3 kr4 kr5 klr kp0 kp1 kp2 kp3) H → va_S A s.heap H locs → fX0_lastTimeUpTo_4 k4 kc n4 v2_7 v3_7 = some r → (∀ (H : Heap) (locs : List Loc) (ls : Array Slot), lv_has ls 5 [] → va_P D vwCl (CW ad cI kc ksv kbc kit kln ken kla kfi kea kns kbl kr0 kr1 kr2 kr3 kr4 kr5 klr kp0 kp1 kp2 kp3) H → va_S A s.heap H locs → k4 () = some r → W p l e ⟨1, 0, 0, 21⟩ s m args below meth c_ H locs 0 0 Q (F0 m 62 ls [])) → W p l e ⟨1, 0, 0, 21⟩ s m args below meth c_ H locs 0 0 Q (F0 m 4 ls []) := by
    intro n4
    induction n4 with
    | zero =>
      intro k4 v2_7 v3_7 H locs ls hl hP hS hs hk4
      rw [fX0_lastTimeUpTo_4] at hs
      cases hs
    | succ n4 ih4 =>
      intro k4 v2_7 v3_7 H locs ls hl hP hS hs hk4
      rw [fX0_lastTimeUpTo_4] at hs
      refine lv_iload_n hx hb dX0_lastTimeUpTo_4 rfl (lv_at hl 2 rfl) ?_
      refine lv_bipush (v := (10 : Int32)) hx hb dX0_lastTimeUpTo_5 (by decide) ?_
      refine lv_icmp_ge (tgt := 62) hx hb dX0_lastTimeUpTo_7 (by decide) (fun b8 => ?_) (fun b8 => ?_)
      · have hs := ite_t hs b8
        exact hk4  _ _ _ (lv_sub hl [] rfl) hP hS hs
      · have hs := ite_f hs b8
        refine lv_iload_n hx hb dX0_lastTimeUpTo_10 rfl (lv_at hl 1 rfl) ?_
        refine lv_iconst (v := (-1 : Int32)) hx hb dX0_lastTimeUpTo_11 (by decide) ?_
        refine lv_icmp_eq (tgt := 62) hx hb dX0_lastTimeUpTo_12 (by decide) (fun b9 => ?_) (fun b9 => ?_)
        · have hs := ite_t hs b9
          exact hk4  _ _ _ (lv_sub hl [] rfl) hP hS hs
        · have hs := ite_f hs b9
          refine lv_aload_n hx hb dX0_lastTimeUpTo_15 rfl (lv_at hl 0 rfl) ?_
          refine lv_bipush (v := (41 : Int32)) hx hb dX0_lastTimeUpTo_16 (by decide) ?_
          refine lv_iload_n hx hb dX0_lastTimeUpTo_18 rfl (lv_at hl 1 rfl) ?_
          refine lv_iadd hx hb dX0_lastTimeUpTo_19 ?_
          obtain ⟨q10, eq10, hs⟩ := ob hs
          refine nd_callV (As := [.int ((41 : Int32) + v2_7)]) (rest := []) (st1 := [.int q10]) hx hb hml hown hts hl hP hK hD hS hA hN (mX0_get eq10) iv_X0_get wd_102 1 rfl rfl rfl rfl ⟨Nat.le_of_ble_eq_true rfl, Nat.le_of_ble_eq_true rfl⟩ (Nat.le_of_ble_eq_true rfl) ⟨Nat.zero_le _, Nat.zero_le _⟩ dX0_lastTimeUpTo_20 rfl rfl (fun H locs hP hD hS => ?_)
          refine lv_istore (lv' := [(4, .int q10), (0, .ref (ad 1)), (2, .int v2_7), (3, .int v3_7)]) hx hb dX0_lastTimeUpTo_23 hl (by decide) rfl (fun ls hl => ?_)
          refine lv_iload hx hb dX0_lastTimeUpTo_25 (lv_at hl 0 rfl) ?_
          refine lv_if_le (tgt := 47) hx hb dX0_lastTimeUpTo_27 (by decide) (fun b11 => ?_) (fun b11 => ?_)
          · have hs := ite_t hs b11
            refine lv_aload_n hx hb dX0_lastTimeUpTo_47 rfl (lv_at hl 1 rfl) ?_
            refine lv_bipush (v := (21 : Int32)) hx hb dX0_lastTimeUpTo_48 (by decide) ?_
            refine lv_iload_n hx hb dX0_lastTimeUpTo_50 rfl (lv_at hl 2 rfl) ?_
            refine lv_iadd hx hb dX0_lastTimeUpTo_51 ?_
            obtain ⟨q12, eq12, hs⟩ := ob hs
            refine nd_callV (As := [.int ((21 : Int32) + v2_7)]) (rest := []) (st1 := [.int q12]) hx hb hml hown hts hl hP hK hD hS hA hN (mX0_get eq12) iv_X0_get wd_102 1 rfl rfl rfl rfl ⟨Nat.le_of_ble_eq_true rfl, Nat.le_of_ble_eq_true rfl⟩ (Nat.le_of_ble_eq_true rfl) ⟨Nat.zero_le _, Nat.zero_le _⟩ dX0_lastTimeUpTo_52 rfl rfl (fun H locs hP hD hS => ?_)
            refine lv_istore_n (lv' := [(2, .int q12), (4, .int q10), (0, .ref (ad 1)), (3, .int v3_7)]) hx hb dX0_lastTimeUpTo_55 rfl hl (by decide) rfl (fun ls hl => ?_)
            refine lv_iinc (v := v3_7 + (1 : Int32)) (lv' := [(3, .int (v3_7 + (1 : Int32))), (2, .int q12), (4, .int q10), (0, .ref (ad 1))]) hx hb dX0_lastTimeUpTo_56 hl (k := 3) rfl rfl (by decide) rfl (fun ls hl => ?_)
            refine lv_goto (tgt := 4) hx hb dX0_lastTimeUpTo_59 (by decide) ?_
            exact ih4 k4 q12 (v3_7 + (1 : Int32)) _ _ _ (lv_sub hl [3, 1, 0] rfl) hP hS hs hk4
          · have hs := ite_f hs b11
            refine lv_aload_n hx hb dX0_lastTimeUpTo_30 rfl (lv_at hl 1 rfl) ?_
            refine lv_bipush (v := (51 : Int32)) hx hb dX0_lastTimeUpTo_31 (by decide) ?_
            refine lv_iload_n hx hb dX0_lastTimeUpTo_33 rfl (lv_at hl 2 rfl) ?_
            refine lv_bipush (v := (6 : Int32)) hx hb dX0_lastTimeUpTo_34 (by decide) ?_
            refine lv_imul hx hb dX0_lastTimeUpTo_36 ?_
            refine lv_iadd hx hb dX0_lastTimeUpTo_37 ?_
            refine lv_iload hx hb dX0_lastTimeUpTo_38 (lv_at hl 0 rfl) ?_
            refine lv_iadd hx hb dX0_lastTimeUpTo_40 ?_
            refine lv_iconst (v := (1 : Int32)) hx hb dX0_lastTimeUpTo_41 (by decide) ?_
            refine lv_isub hx hb dX0_lastTimeUpTo_42 ?_
            obtain ⟨q13, eq13, hs⟩ := ob hs
            refine nd_callV (As := [.int ((((51 : Int32) + (v2_7 * (6 : Int32))) + q10) - (1 : Int32))]) (rest := []) (st1 := [.int q13]) hx hb hml hown hts hl hP hK hD hS hA hN (mX0_get eq13) iv_X0_get wd_102 1 rfl rfl rfl rfl ⟨Nat.le_of_ble_eq_true rfl, Nat.le_of_ble_eq_true rfl⟩ (Nat.le_of_ble_eq_true rfl) ⟨Nat.zero_le _, Nat.zero_le _⟩ dX0_lastTimeUpTo_43 rfl rfl (fun H locs hP hD hS => ?_)
            exact hret _ hs hP hS dX0_lastTimeUpTo_46
  refine L4 LF _ x1 (0 : Int32) _ _ _ (lv_sub hl [2, 1, 0] rfl) hP hS hs (fun  H locs ls hl hP hS hs => ?_)
  refine lv_iconst (v := (-1 : Int32)) hx hb dX0_lastTimeUpTo_62 (by decide) ?_
  exact hret _ hs hP hS dX0_lastTimeUpTo_63
def tX0_firstTimeFrom_0 : List (Nat × Instr × Nat) := [(0, .iload_n 1, 1), (1, .istore_n 2, 1), (2, .iconst 0, 1), (3, .istore_n 3, 1), (4, .iload_n 3, 1), (5, .bipush 10, 2), (7, .if_icmp .ge 46, 3), (10, .iload_n 2, 1), (11, .iconst (-1), 1), (12, .if_icmp .eq 41, 3), (15, .aload_n 0, 1), (16, .bipush 41, 2), (18, .iload_n 2, 1), (19, .iadd, 1), (20, .invokevirtual 28, 3), (23, .ifCond .le 15, 3), (26, .aload_n 0, 1), (27, .bipush 51, 2), (29, .iload_n 2, 1), (30, .bipush 6, 2), (32, .imul, 1), (33, .iadd, 1), (34, .invokevirtual 28, 3), (37, .ireturn, 1), (38, .aload_n 0, 1), (39, .bipush 31, 2), (41, .iload_n 2, 1), (42, .iadd, 1), (43, .invokevirtual 28, 3), (46, .istore_n 2, 1), (47, .iinc 3 1, 3), (50, .goto (-46), 3), (53, .sipush 10000, 3), (56, .ireturn, 1)]
theorem tX0_firstTimeFrom_0_ok : tX0_firstTimeFrom_0.all (fun q => decide (decode cX0_firstTimeFrom q.1 = .ok q.2)) = true := by decide +kernel
theorem dX0_firstTimeFrom_0 : decode cX0_firstTimeFrom 0 = .ok (.iload_n 1, 1) := td tX0_firstTimeFrom_0_ok 0 (q := (0, .iload_n 1, 1)) rfl
theorem dX0_firstTimeFrom_1 : decode cX0_firstTimeFrom 1 = .ok (.istore_n 2, 1) := td tX0_firstTimeFrom_0_ok 1 (q := (1, .istore_n 2, 1)) rfl
theorem dX0_firstTimeFrom_2 : decode cX0_firstTimeFrom 2 = .ok (.iconst 0, 1) := td tX0_firstTimeFrom_0_ok 2 (q := (2, .iconst 0, 1)) rfl
theorem dX0_firstTimeFrom_3 : decode cX0_firstTimeFrom 3 = .ok (.istore_n 3, 1) := td tX0_firstTimeFrom_0_ok 3 (q := (3, .istore_n 3, 1)) rfl
theorem dX0_firstTimeFrom_4 : decode cX0_firstTimeFrom 4 = .ok (.iload_n 3, 1) := td tX0_firstTimeFrom_0_ok 4 (q := (4, .iload_n 3, 1)) rfl
theorem dX0_firstTimeFrom_5 : decode cX0_firstTimeFrom 5 = .ok (.bipush 10, 2) := td tX0_firstTimeFrom_0_ok 5 (q := (5, .bipush 10, 2)) rfl
theorem dX0_firstTimeFrom_7 : decode cX0_firstTimeFrom 7 = .ok (.if_icmp .ge 46, 3) := td tX0_firstTimeFrom_0_ok 6 (q := (7, .if_icmp .ge 46, 3)) rfl
theorem dX0_firstTimeFrom_10 : decode cX0_firstTimeFrom 10 = .ok (.iload_n 2, 1) := td tX0_firstTimeFrom_0_ok 7 (q := (10, .iload_n 2, 1)) rfl
theorem dX0_firstTimeFrom_11 : decode cX0_firstTimeFrom 11 = .ok (.iconst (-1), 1) := td tX0_firstTimeFrom_0_ok 8 (q := (11, .iconst (-1), 1)) rfl
theorem dX0_firstTimeFrom_12 : decode cX0_firstTimeFrom 12 = .ok (.if_icmp .eq 41, 3) := td tX0_firstTimeFrom_0_ok 9 (q := (12, .if_icmp .eq 41, 3)) rfl
theorem dX0_firstTimeFrom_15 : decode cX0_firstTimeFrom 15 = .ok (.aload_n 0, 1) := td tX0_firstTimeFrom_0_ok 10 (q := (15, .aload_n 0, 1)) rfl
theorem dX0_firstTimeFrom_16 : decode cX0_firstTimeFrom 16 = .ok (.bipush 41, 2) := td tX0_firstTimeFrom_0_ok 11 (q := (16, .bipush 41, 2)) rfl
theorem dX0_firstTimeFrom_18 : decode cX0_firstTimeFrom 18 = .ok (.iload_n 2, 1) := td tX0_firstTimeFrom_0_ok 12 (q := (18, .iload_n 2, 1)) rfl
theorem dX0_firstTimeFrom_19 : decode cX0_firstTimeFrom 19 = .ok (.iadd, 1) := td tX0_firstTimeFrom_0_ok 13 (q := (19, .iadd, 1)) rfl
theorem dX0_firstTimeFrom_20 : decode cX0_firstTimeFrom 20 = .ok (.invokevirtual 28, 3) := td tX0_firstTimeFrom_0_ok 14 (q := (20, .invokevirtual 28, 3)) rfl
theorem dX0_firstTimeFrom_23 : decode cX0_firstTimeFrom 23 = .ok (.ifCond .le 15, 3) := td tX0_firstTimeFrom_0_ok 15 (q := (23, .ifCond .le 15, 3)) rfl
theorem dX0_firstTimeFrom_26 : decode cX0_firstTimeFrom 26 = .ok (.aload_n 0, 1) := td tX0_firstTimeFrom_0_ok 16 (q := (26, .aload_n 0, 1)) rfl
theorem dX0_firstTimeFrom_27 : decode cX0_firstTimeFrom 27 = .ok (.bipush 51, 2) := td tX0_firstTimeFrom_0_ok 17 (q := (27, .bipush 51, 2)) rfl
theorem dX0_firstTimeFrom_29 : decode cX0_firstTimeFrom 29 = .ok (.iload_n 2, 1) := td tX0_firstTimeFrom_0_ok 18 (q := (29, .iload_n 2, 1)) rfl
theorem dX0_firstTimeFrom_30 : decode cX0_firstTimeFrom 30 = .ok (.bipush 6, 2) := td tX0_firstTimeFrom_0_ok 19 (q := (30, .bipush 6, 2)) rfl
theorem dX0_firstTimeFrom_32 : decode cX0_firstTimeFrom 32 = .ok (.imul, 1) := td tX0_firstTimeFrom_0_ok 20 (q := (32, .imul, 1)) rfl
theorem dX0_firstTimeFrom_33 : decode cX0_firstTimeFrom 33 = .ok (.iadd, 1) := td tX0_firstTimeFrom_0_ok 21 (q := (33, .iadd, 1)) rfl
theorem dX0_firstTimeFrom_34 : decode cX0_firstTimeFrom 34 = .ok (.invokevirtual 28, 3) := td tX0_firstTimeFrom_0_ok 22 (q := (34, .invokevirtual 28, 3)) rfl
theorem dX0_firstTimeFrom_37 : decode cX0_firstTimeFrom 37 = .ok (.ireturn, 1) := td tX0_firstTimeFrom_0_ok 23 (q := (37, .ireturn, 1)) rfl
theorem dX0_firstTimeFrom_38 : decode cX0_firstTimeFrom 38 = .ok (.aload_n 0, 1) := td tX0_firstTimeFrom_0_ok 24 (q := (38, .aload_n 0, 1)) rfl
theorem dX0_firstTimeFrom_39 : decode cX0_firstTimeFrom 39 = .ok (.bipush 31, 2) := td tX0_firstTimeFrom_0_ok 25 (q := (39, .bipush 31, 2)) rfl
theorem dX0_firstTimeFrom_41 : decode cX0_firstTimeFrom 41 = .ok (.iload_n 2, 1) := td tX0_firstTimeFrom_0_ok 26 (q := (41, .iload_n 2, 1)) rfl
theorem dX0_firstTimeFrom_42 : decode cX0_firstTimeFrom 42 = .ok (.iadd, 1) := td tX0_firstTimeFrom_0_ok 27 (q := (42, .iadd, 1)) rfl
theorem dX0_firstTimeFrom_43 : decode cX0_firstTimeFrom 43 = .ok (.invokevirtual 28, 3) := td tX0_firstTimeFrom_0_ok 28 (q := (43, .invokevirtual 28, 3)) rfl
theorem dX0_firstTimeFrom_46 : decode cX0_firstTimeFrom 46 = .ok (.istore_n 2, 1) := td tX0_firstTimeFrom_0_ok 29 (q := (46, .istore_n 2, 1)) rfl
theorem dX0_firstTimeFrom_47 : decode cX0_firstTimeFrom 47 = .ok (.iinc 3 1, 3) := td tX0_firstTimeFrom_0_ok 30 (q := (47, .iinc 3 1, 3)) rfl
theorem dX0_firstTimeFrom_50 : decode cX0_firstTimeFrom 50 = .ok (.goto (-46), 3) := td tX0_firstTimeFrom_0_ok 31 (q := (50, .goto (-46), 3)) rfl
theorem dX0_firstTimeFrom_53 : decode cX0_firstTimeFrom 53 = .ok (.sipush 10000, 3) := td tX0_firstTimeFrom_0_ok 32 (q := (53, .sipush 10000, 3)) rfl
theorem dX0_firstTimeFrom_56 : decode cX0_firstTimeFrom 56 = .ok (.ireturn, 1) := td tX0_firstTimeFrom_0_ok 33 (q := (56, .ireturn, 1)) rfl
def fX0_firstTimeFrom_4 (k4 : Unit → Option (Int32)) (kc : (Nat → Int32)) : Nat → Int32 → Int32 → Option (Int32)
  | 0, _, _ => none
  | n4 + 1, x2, x3 => (if (10 : Int32) ≤ x3 then (k4 ()) else (if x2 = (-1 : Int32) then (k4 ()) else (Option.bind (fX0_get kc ((41 : Int32) + x2)) (fun q3 => (if q3 ≤ 0 then (Option.bind (fX0_get kc ((31 : Int32) + x2)) (fun q5 => (fX0_firstTimeFrom_4 k4 kc n4 q5 (x3 + (1 : Int32))))) else (Option.bind (fX0_get kc ((51 : Int32) + (x2 * (6 : Int32)))) (fun q6 => (some q6))))))))
def fX0_firstTimeFrom (kc : (Nat → Int32)) (x1 : Int32) : Option (Int32) :=
  (fX0_firstTimeFrom_4 (fun (_ : Unit) => (some (10000 : Int32))) kc LF x1 (0 : Int32))
set_option maxHeartbeats 4000000 in
set_option maxRecDepth 100000 in
theorem mX0_firstTimeFrom {l : Launch} {D : va_G} {ad : Nat → Nat} {cI : ClassId} {kc : (Nat → Int32)} {ksv : (Nat → Int32)} {kbc : (Nat → Int32)} {kit : (Nat → Int32)} {kln : (Nat → Int32)} {ken : (Nat → Int32)} {kla : (Nat → Int32)} {kfi : (Nat → Int32)} {kea : (Nat → Int32)} {kns : Int32} {kbl : Int32} {kr0 : Int32} {kr1 : Int32} {kr2 : Int32} {kr3 : Int32} {kr4 : Int32} {kr5 : Int32} {klr : Int32} {kp0 : Int32} {kp1 : Int32} {kp2 : Int32} {kp3 : Int32} {x1 : Int32} {r : Int32} (hs : fX0_firstTimeFrom kc x1 = some r) : nd_C l yX0_firstTimeFrom cX0_firstTimeFrom 4 (some .int) 1 21 D [(cI, .int)] [.ref (ad 1), .int x1] (CW ad cI kc ksv kbc kit kln ken kla kfi kea kns kbl kr0 kr1 kr2 kr3 kr4 kr5 klr kp0 kp1 kp2 kp3) (CW ad cI kc ksv kbc kit kln ken kla kfi kea kns kbl kr0 kr1 kr2 kr3 kr4 kr5 klr kp0 kp1 kp2 kp3) (some (.int r)) := by
  refine nd_ofCi (by decide) (Nat.le_of_ble_eq_true rfl) (fun p e s m args below meth c_ ls A Q hx hb hml hown hts hl hP hK hD hS hA hN hret => ?_)
  have hown : s.vm.findClass RX0 = some m.cls := hown
  have hl : lv_has ls 4 [(0, .ref (ad 1)), (1, .int x1)] := hl
  have hret : ∀ (z0 : Int32) {H : Heap} {locs : List Loc} {pc : Nat} {ls : Array Slot}, some z0 = some r → va_P D vwCl (CW ad cI kc ksv kbc kit kln ken kla kfi kea kns kbl kr0 kr1 kr2 kr3 kr4 kr5 klr kp0 kp1 kp2 kp3) H → va_S A s.heap H locs → decode cX0_firstTimeFrom pc = .ok (.ireturn, 1) → W p l e ⟨1, 0, 0, 21⟩ s m args below meth c_ H locs 0 0 Q (F0 m pc ls [.int z0]) := by
    intro z0 H locs pc ls h hP hS hd
    cases h
    exact hret hP hS hd
  rw [fX0_firstTimeFrom] at hs
  refine lv_iload_n hx hb dX0_firstTimeFrom_0 rfl (lv_at hl 1 rfl) ?_
  refine lv_istore_n (lv' := [(2, .int x1), (0, .ref (ad 1)), (1, .int x1)]) hx hb dX0_firstTimeFrom_1 rfl hl (by decide) rfl (fun ls hl => ?_)
  refine lv_iconst (v := (0 : Int32)) hx hb dX0_firstTimeFrom_2 (by decide) ?_
  refine lv_istore_n (lv' := [(3, .int (0 : Int32)), (2, .int x1), (0, .ref (ad 1)), (1, .int x1)]) hx hb dX0_firstTimeFrom_3 rfl hl (by decide) rfl (fun ls hl => ?_)
  have L4 : ∀ (n4 : Nat) (k4 : Unit → Option (Int32)) (v2_7 : Int32) (v3_7 : Int32) (H : Heap) (locs : List Loc) (ls : Array Slot), lv_has ls 4 [(0, .ref (ad 1)), (2, .int v2_7), (3, .int v3_7)] → va_P D vwCl (CW ad cI kc ksv kbc kit kln ken kla kfi kea kns kbl kr0 kr1 kr2 kr3 kr4 kr5 klr kp0 kp1 kp2 kp3) H → va_S A s.heap H locs → fX0_firstTimeFrom_4 k4 kc n4 v2_7 v3_7 = some r → (∀ (H : Heap) (locs : List Loc) (ls : Array Slot), lv_has ls 4 [] → va_P D vwCl (CW ad cI kc ksv kbc kit kln ken kla kfi kea kns kbl kr0 kr1 kr2 kr3 kr4 kr5 klr kp0 kp1 kp2 kp3) H → va_S A s.heap H locs → k4 () = some r → W p l e ⟨1, 0, 0, 21⟩ s m args below meth c_ H locs 0 0 Q (F0 m 53 ls [])) → W p l e ⟨1, 0, 0, 21⟩ s m args below meth c_ H locs 0 0 Q (F0 m 4 ls []) := by
    intro n4
    induction n4 with
    | zero =>
      intro k4 v2_7 v3_7 H locs ls hl hP hS hs hk4
      rw [fX0_firstTimeFrom_4] at hs
      cases hs
    | succ n4 ih4 =>
      intro k4 v2_7 v3_7 H locs ls hl hP hS hs hk4
      rw [fX0_firstTimeFrom_4] at hs
      refine lv_iload_n hx hb dX0_firstTimeFrom_4 rfl (lv_at hl 2 rfl) ?_
      refine lv_bipush (v := (10 : Int32)) hx hb dX0_firstTimeFrom_5 (by decide) ?_
      refine lv_icmp_ge (tgt := 53) hx hb dX0_firstTimeFrom_7 (by decide) (fun b8 => ?_) (fun b8 => ?_)
      · have hs := ite_t hs b8
        exact hk4  _ _ _ (lv_sub hl [] rfl) hP hS hs
      · have hs := ite_f hs b8
        refine lv_iload_n hx hb dX0_firstTimeFrom_10 rfl (lv_at hl 1 rfl) ?_
        refine lv_iconst (v := (-1 : Int32)) hx hb dX0_firstTimeFrom_11 (by decide) ?_
        refine lv_icmp_eq (tgt := 53) hx hb dX0_firstTimeFrom_12 (by decide) (fun b9 => ?_) (fun b9 => ?_)
        · have hs := ite_t hs b9
          exact hk4  _ _ _ (lv_sub hl [] rfl) hP hS hs
        · have hs := ite_f hs b9
          refine lv_aload_n hx hb dX0_firstTimeFrom_15 rfl (lv_at hl 0 rfl) ?_
          refine lv_bipush (v := (41 : Int32)) hx hb dX0_firstTimeFrom_16 (by decide) ?_
          refine lv_iload_n hx hb dX0_firstTimeFrom_18 rfl (lv_at hl 1 rfl) ?_
          refine lv_iadd hx hb dX0_firstTimeFrom_19 ?_
          obtain ⟨q10, eq10, hs⟩ := ob hs
          refine nd_callV (As := [.int ((41 : Int32) + v2_7)]) (rest := []) (st1 := [.int q10]) hx hb hml hown hts hl hP hK hD hS hA hN (mX0_get eq10) iv_X0_get wd_102 1 rfl rfl rfl rfl ⟨Nat.le_of_ble_eq_true rfl, Nat.le_of_ble_eq_true rfl⟩ (Nat.le_of_ble_eq_true rfl) ⟨Nat.zero_le _, Nat.zero_le _⟩ dX0_firstTimeFrom_20 rfl rfl (fun H locs hP hD hS => ?_)
          refine lv_if_le (tgt := 38) hx hb dX0_firstTimeFrom_23 (by decide) (fun b11 => ?_) (fun b11 => ?_)
          · have hs := ite_t hs b11
            refine lv_aload_n hx hb dX0_firstTimeFrom_38 rfl (lv_at hl 0 rfl) ?_
            refine lv_bipush (v := (31 : Int32)) hx hb dX0_firstTimeFrom_39 (by decide) ?_
            refine lv_iload_n hx hb dX0_firstTimeFrom_41 rfl (lv_at hl 1 rfl) ?_
            refine lv_iadd hx hb dX0_firstTimeFrom_42 ?_
            obtain ⟨q12, eq12, hs⟩ := ob hs
            refine nd_callV (As := [.int ((31 : Int32) + v2_7)]) (rest := []) (st1 := [.int q12]) hx hb hml hown hts hl hP hK hD hS hA hN (mX0_get eq12) iv_X0_get wd_102 1 rfl rfl rfl rfl ⟨Nat.le_of_ble_eq_true rfl, Nat.le_of_ble_eq_true rfl⟩ (Nat.le_of_ble_eq_true rfl) ⟨Nat.zero_le _, Nat.zero_le _⟩ dX0_firstTimeFrom_43 rfl rfl (fun H locs hP hD hS => ?_)
            refine lv_istore_n (lv' := [(2, .int q12), (0, .ref (ad 1)), (3, .int v3_7)]) hx hb dX0_firstTimeFrom_46 rfl hl (by decide) rfl (fun ls hl => ?_)
            refine lv_iinc (v := v3_7 + (1 : Int32)) (lv' := [(3, .int (v3_7 + (1 : Int32))), (2, .int q12), (0, .ref (ad 1))]) hx hb dX0_firstTimeFrom_47 hl (k := 2) rfl rfl (by decide) rfl (fun ls hl => ?_)
            refine lv_goto (tgt := 4) hx hb dX0_firstTimeFrom_50 (by decide) ?_
            exact ih4 k4 q12 (v3_7 + (1 : Int32)) _ _ _ (lv_sub hl [2, 1, 0] rfl) hP hS hs hk4
          · have hs := ite_f hs b11
            refine lv_aload_n hx hb dX0_firstTimeFrom_26 rfl (lv_at hl 0 rfl) ?_
            refine lv_bipush (v := (51 : Int32)) hx hb dX0_firstTimeFrom_27 (by decide) ?_
            refine lv_iload_n hx hb dX0_firstTimeFrom_29 rfl (lv_at hl 1 rfl) ?_
            refine lv_bipush (v := (6 : Int32)) hx hb dX0_firstTimeFrom_30 (by decide) ?_
            refine lv_imul hx hb dX0_firstTimeFrom_32 ?_
            refine lv_iadd hx hb dX0_firstTimeFrom_33 ?_
            obtain ⟨q13, eq13, hs⟩ := ob hs
            refine nd_callV (As := [.int ((51 : Int32) + (v2_7 * (6 : Int32)))]) (rest := []) (st1 := [.int q13]) hx hb hml hown hts hl hP hK hD hS hA hN (mX0_get eq13) iv_X0_get wd_102 1 rfl rfl rfl rfl ⟨Nat.le_of_ble_eq_true rfl, Nat.le_of_ble_eq_true rfl⟩ (Nat.le_of_ble_eq_true rfl) ⟨Nat.zero_le _, Nat.zero_le _⟩ dX0_firstTimeFrom_34 rfl rfl (fun H locs hP hD hS => ?_)
            exact hret _ hs hP hS dX0_firstTimeFrom_37
  refine L4 LF _ x1 (0 : Int32) _ _ _ (lv_sub hl [2, 1, 0] rfl) hP hS hs (fun  H locs ls hl hP hS hs => ?_)
  refine lv_sipush (v := (10000 : Int32)) hx hb dX0_firstTimeFrom_53 (by decide) ?_
  exact hret _ hs hP hS dX0_firstTimeFrom_56
def tX1_length_0 : List (Nat × Instr × Nat) := [(0, .aload_n 0, 1), (1, .getfield 15, 3), (4, .ireturn, 1)]
theorem tX1_length_0_ok : tX1_length_0.all (fun q => decide (decode cX1_length q.1 = .ok q.2)) = true := by decide +kernel
theorem dX1_length_0 : decode cX1_length 0 = .ok (.aload_n 0, 1) := td tX1_length_0_ok 0 (q := (0, .aload_n 0, 1)) rfl
theorem dX1_length_1 : decode cX1_length 1 = .ok (.getfield 15, 3) := td tX1_length_0_ok 1 (q := (1, .getfield 15, 3)) rfl
theorem dX1_length_4 : decode cX1_length 4 = .ok (.ireturn, 1) := td tX1_length_0_ok 2 (q := (4, .ireturn, 1)) rfl
def fX1_length (kbl : Int32) : Option (Int32) :=
  (some kbl)
set_option maxHeartbeats 4000000 in
set_option maxRecDepth 100000 in
theorem mX1_length {l : Launch} {D : va_G} {ad : Nat → Nat} {cI : ClassId} {kc : (Nat → Int32)} {ksv : (Nat → Int32)} {kbc : (Nat → Int32)} {kit : (Nat → Int32)} {kln : (Nat → Int32)} {ken : (Nat → Int32)} {kla : (Nat → Int32)} {kfi : (Nat → Int32)} {kea : (Nat → Int32)} {kns : Int32} {kbl : Int32} {kr0 : Int32} {kr1 : Int32} {kr2 : Int32} {kr3 : Int32} {kr4 : Int32} {kr5 : Int32} {klr : Int32} {kp0 : Int32} {kp1 : Int32} {kp2 : Int32} {kp3 : Int32} {r : Int32} (hs : fX1_length kbl = some r) : nd_C l yX1_length cX1_length 1 (some .int) 0 0 D [(cI, .int)] [.ref (ad 2)] (CW ad cI kc ksv kbc kit kln ken kla kfi kea kns kbl kr0 kr1 kr2 kr3 kr4 kr5 klr kp0 kp1 kp2 kp3) (CW ad cI kc ksv kbc kit kln ken kla kfi kea kns kbl kr0 kr1 kr2 kr3 kr4 kr5 klr kp0 kp1 kp2 kp3) (some (.int r)) := by
  refine nd_ofCi (by decide) (Nat.le_of_ble_eq_true rfl) (fun p e s m args below meth c_ ls A Q hx hb hml hown hts hl hP hK hD hS hA hN hret => ?_)
  have hown : s.vm.findClass RX1 = some m.cls := hown
  have hl : lv_has ls 1 [(0, .ref (ad 2))] := hl
  have hret : ∀ (z0 : Int32) {H : Heap} {locs : List Loc} {pc : Nat} {ls : Array Slot}, some z0 = some r → va_P D vwCl (CW ad cI kc ksv kbc kit kln ken kla kfi kea kns kbl kr0 kr1 kr2 kr3 kr4 kr5 klr kp0 kp1 kp2 kp3) H → va_S A s.heap H locs → decode cX1_length pc = .ok (.ireturn, 1) → W p l e ⟨0, 0, 0, 0⟩ s m args below meth c_ H locs 0 0 Q (F0 m pc ls [.int z0]) := by
    intro z0 H locs pc ls h hP hS hd
    cases h
    exact hret hP hS hd
  rw [fX1_length] at hs
  refine lv_aload_n hx hb dX1_length_0 rfl (lv_at hl 0 rfl) ?_
  refine gf_X1_15 hx hb hts hown hK hP 2 rfl rfl dX1_length_1 ?_
  exact hret _ hs hP hS dX1_length_4
def tX1_clear_0 : List (Nat × Instr × Nat) := [(0, .aload_n 0, 1), (1, .iconst 0, 1), (2, .putfield 15, 3), (5, .return_, 1)]
theorem tX1_clear_0_ok : tX1_clear_0.all (fun q => decide (decode cX1_clear q.1 = .ok q.2)) = true := by decide +kernel
theorem dX1_clear_0 : decode cX1_clear 0 = .ok (.aload_n 0, 1) := td tX1_clear_0_ok 0 (q := (0, .aload_n 0, 1)) rfl
theorem dX1_clear_1 : decode cX1_clear 1 = .ok (.iconst 0, 1) := td tX1_clear_0_ok 1 (q := (1, .iconst 0, 1)) rfl
theorem dX1_clear_2 : decode cX1_clear 2 = .ok (.putfield 15, 3) := td tX1_clear_0_ok 2 (q := (2, .putfield 15, 3)) rfl
theorem dX1_clear_5 : decode cX1_clear 5 = .ok (.return_, 1) := td tX1_clear_0_ok 3 (q := (5, .return_, 1)) rfl
def fX1_clear (kbl : Int32) : Option (Int32) :=
  (some (0 : Int32))
set_option maxHeartbeats 4000000 in
set_option maxRecDepth 100000 in
theorem mX1_clear {l : Launch} {D : va_G} {ad : Nat → Nat} {cI : ClassId} {kc : (Nat → Int32)} {ksv : (Nat → Int32)} {kbc : (Nat → Int32)} {kit : (Nat → Int32)} {kln : (Nat → Int32)} {ken : (Nat → Int32)} {kla : (Nat → Int32)} {kfi : (Nat → Int32)} {kea : (Nat → Int32)} {kns : Int32} {kbl : Int32} {kr0 : Int32} {kr1 : Int32} {kr2 : Int32} {kr3 : Int32} {kr4 : Int32} {kr5 : Int32} {klr : Int32} {kp0 : Int32} {kp1 : Int32} {kp2 : Int32} {kp3 : Int32} {kbl' : Int32} (hs : fX1_clear kbl = some kbl') : nd_C l yX1_clear cX1_clear 1 none 0 0 D [(cI, .int)] [.ref (ad 2)] (CW ad cI kc ksv kbc kit kln ken kla kfi kea kns kbl kr0 kr1 kr2 kr3 kr4 kr5 klr kp0 kp1 kp2 kp3) (CW ad cI kc ksv kbc kit kln ken kla kfi kea kns kbl' kr0 kr1 kr2 kr3 kr4 kr5 klr kp0 kp1 kp2 kp3) none := by
  refine nd_ofCv (by decide) (Nat.le_of_ble_eq_true rfl) (fun p e s m args below meth c_ ls A Q hx hb hml hown hts hl hP hK hD hS hA hN hret => ?_)
  have hown : s.vm.findClass RX1 = some m.cls := hown
  have hl : lv_has ls 1 [(0, .ref (ad 2))] := hl
  have hret : ∀ (z0 : Int32) {H : Heap} {locs : List Loc} {pc : Nat} {ls : Array Slot}, some z0 = some kbl' → va_P D vwCl (CW ad cI kc ksv kbc kit kln ken kla kfi kea kns z0 kr0 kr1 kr2 kr3 kr4 kr5 klr kp0 kp1 kp2 kp3) H → va_S A s.heap H locs → decode cX1_clear pc = .ok (.return_, 1) → W p l e ⟨0, 0, 0, 0⟩ s m args below meth c_ H locs 0 0 Q (F0 m pc ls []) := by
    intro z0 H locs pc ls h hP hS hd
    cases h
    exact hret hP hS hd
  rw [fX1_clear] at hs
  refine lv_aload_n hx hb dX1_clear_0 rfl (lv_at hl 0 rfl) ?_
  refine lv_iconst (v := (0 : Int32)) hx hb dX1_clear_1 (by decide) ?_
  refine pf_X1_15 hx hb hts hown hK hP hD hS 2 rfl rfl dX1_clear_2 (fun H locs hP hD hS => ?_)
  have hP : va_P D vwCl (CW ad cI kc ksv kbc kit kln ken kla kfi kea kns (0 : Int32) kr0 kr1 kr2 kr3 kr4 kr5 klr kp0 kp1 kp2 kp3) H := hP
  have hD : va_D A (CW ad cI kc ksv kbc kit kln ken kla kfi kea kns (0 : Int32) kr0 kr1 kr2 kr3 kr4 kr5 klr kp0 kp1 kp2 kp3) := hD
  exact hret _ hs hP hS dX1_clear_5
def tX1_add_0 : List (Nat × Instr × Nat) := [(0, .aload_n 0, 1), (1, .getfield 15, 3), (4, .ifCond .lt 32, 3), (7, .aload_n 0, 1), (8, .getfield 15, 3), (11, .bipush 60, 2), (13, .if_icmp .ge 23, 3), (16, .aload_n 0, 1), (17, .getfield 9, 3), (20, .aload_n 0, 1), (21, .getfield 15, 3), (24, .iload_n 1, 1), (25, .iastore, 1), (26, .aload_n 0, 1), (27, .dup, 1), (28, .getfield 15, 3), (31, .iconst 1, 1), (32, .iadd, 1), (33, .putfield 15, 3), (36, .return_, 1)]
theorem tX1_add_0_ok : tX1_add_0.all (fun q => decide (decode cX1_add q.1 = .ok q.2)) = true := by decide +kernel
theorem dX1_add_0 : decode cX1_add 0 = .ok (.aload_n 0, 1) := td tX1_add_0_ok 0 (q := (0, .aload_n 0, 1)) rfl
theorem dX1_add_1 : decode cX1_add 1 = .ok (.getfield 15, 3) := td tX1_add_0_ok 1 (q := (1, .getfield 15, 3)) rfl
theorem dX1_add_4 : decode cX1_add 4 = .ok (.ifCond .lt 32, 3) := td tX1_add_0_ok 2 (q := (4, .ifCond .lt 32, 3)) rfl
theorem dX1_add_7 : decode cX1_add 7 = .ok (.aload_n 0, 1) := td tX1_add_0_ok 3 (q := (7, .aload_n 0, 1)) rfl
theorem dX1_add_8 : decode cX1_add 8 = .ok (.getfield 15, 3) := td tX1_add_0_ok 4 (q := (8, .getfield 15, 3)) rfl
theorem dX1_add_11 : decode cX1_add 11 = .ok (.bipush 60, 2) := td tX1_add_0_ok 5 (q := (11, .bipush 60, 2)) rfl
theorem dX1_add_13 : decode cX1_add 13 = .ok (.if_icmp .ge 23, 3) := td tX1_add_0_ok 6 (q := (13, .if_icmp .ge 23, 3)) rfl
theorem dX1_add_16 : decode cX1_add 16 = .ok (.aload_n 0, 1) := td tX1_add_0_ok 7 (q := (16, .aload_n 0, 1)) rfl
theorem dX1_add_17 : decode cX1_add 17 = .ok (.getfield 9, 3) := td tX1_add_0_ok 8 (q := (17, .getfield 9, 3)) rfl
theorem dX1_add_20 : decode cX1_add 20 = .ok (.aload_n 0, 1) := td tX1_add_0_ok 9 (q := (20, .aload_n 0, 1)) rfl
theorem dX1_add_21 : decode cX1_add 21 = .ok (.getfield 15, 3) := td tX1_add_0_ok 10 (q := (21, .getfield 15, 3)) rfl
theorem dX1_add_24 : decode cX1_add 24 = .ok (.iload_n 1, 1) := td tX1_add_0_ok 11 (q := (24, .iload_n 1, 1)) rfl
theorem dX1_add_25 : decode cX1_add 25 = .ok (.iastore, 1) := td tX1_add_0_ok 12 (q := (25, .iastore, 1)) rfl
theorem dX1_add_26 : decode cX1_add 26 = .ok (.aload_n 0, 1) := td tX1_add_0_ok 13 (q := (26, .aload_n 0, 1)) rfl
theorem dX1_add_27 : decode cX1_add 27 = .ok (.dup, 1) := td tX1_add_0_ok 14 (q := (27, .dup, 1)) rfl
theorem dX1_add_28 : decode cX1_add 28 = .ok (.getfield 15, 3) := td tX1_add_0_ok 15 (q := (28, .getfield 15, 3)) rfl
theorem dX1_add_31 : decode cX1_add 31 = .ok (.iconst 1, 1) := td tX1_add_0_ok 16 (q := (31, .iconst 1, 1)) rfl
theorem dX1_add_32 : decode cX1_add 32 = .ok (.iadd, 1) := td tX1_add_0_ok 17 (q := (32, .iadd, 1)) rfl
theorem dX1_add_33 : decode cX1_add 33 = .ok (.putfield 15, 3) := td tX1_add_0_ok 18 (q := (33, .putfield 15, 3)) rfl
theorem dX1_add_36 : decode cX1_add 36 = .ok (.return_, 1) := td tX1_add_0_ok 19 (q := (36, .return_, 1)) rfl
def fX1_add (kbc : (Nat → Int32)) (kbl : Int32) (x1 : Int32) : Option ((Nat → Int32) × Int32) :=
  (if kbl < 0 then (some (kbc, kbl)) else (if (60 : Int32) ≤ kbl then (some (kbc, kbl)) else (Option.bind (aput kbc 60 kbl x1) (fun c3 => (some (c3, kbl + (1 : Int32)))))))
set_option maxHeartbeats 4000000 in
set_option maxRecDepth 100000 in
theorem mX1_add {l : Launch} {D : va_G} {ad : Nat → Nat} {cI : ClassId} {kc : (Nat → Int32)} {ksv : (Nat → Int32)} {kbc : (Nat → Int32)} {kit : (Nat → Int32)} {kln : (Nat → Int32)} {ken : (Nat → Int32)} {kla : (Nat → Int32)} {kfi : (Nat → Int32)} {kea : (Nat → Int32)} {kns : Int32} {kbl : Int32} {kr0 : Int32} {kr1 : Int32} {kr2 : Int32} {kr3 : Int32} {kr4 : Int32} {kr5 : Int32} {klr : Int32} {kp0 : Int32} {kp1 : Int32} {kp2 : Int32} {kp3 : Int32} {x1 : Int32} {kbc' : (Nat → Int32)} {kbl' : Int32} (hs : fX1_add kbc kbl x1 = some (kbc', kbl')) : nd_C l yX1_add cX1_add 2 none 0 0 D [(cI, .int)] [.ref (ad 2), .int x1] (CW ad cI kc ksv kbc kit kln ken kla kfi kea kns kbl kr0 kr1 kr2 kr3 kr4 kr5 klr kp0 kp1 kp2 kp3) (CW ad cI kc ksv kbc' kit kln ken kla kfi kea kns kbl' kr0 kr1 kr2 kr3 kr4 kr5 klr kp0 kp1 kp2 kp3) none := by
  refine nd_ofCv (by decide) (Nat.le_of_ble_eq_true rfl) (fun p e s m args below meth c_ ls A Q hx hb hml hown hts hl hP hK hD hS hA hN hret => ?_)
  have hown : s.vm.findClass RX1 = some m.cls := hown
  have hl : lv_has ls 2 [(0, .ref (ad 2)), (1, .int x1)] := hl
  have hret : ∀ (z0 : (Nat → Int32)) (z1 : Int32) {H : Heap} {locs : List Loc} {pc : Nat} {ls : Array Slot}, some (z0, z1) = some (kbc', kbl') → va_P D vwCl (CW ad cI kc ksv z0 kit kln ken kla kfi kea kns z1 kr0 kr1 kr2 kr3 kr4 kr5 klr kp0 kp1 kp2 kp3) H → va_S A s.heap H locs → decode cX1_add pc = .ok (.return_, 1) → W p l e ⟨0, 0, 0, 0⟩ s m args below meth c_ H locs 0 0 Q (F0 m pc ls []) := by
    intro z0 z1 H locs pc ls h hP hS hd
    cases h
    exact hret hP hS hd
  rw [fX1_add] at hs
  refine lv_aload_n hx hb dX1_add_0 rfl (lv_at hl 0 rfl) ?_
  refine gf_X1_15 hx hb hts hown hK hP 2 rfl rfl dX1_add_1 ?_
  refine lv_if_lt (tgt := 36) hx hb dX1_add_4 (by decide) (fun b1 => ?_) (fun b1 => ?_)
  · have hs := ite_t hs b1
    exact hret _ _ hs hP hS dX1_add_36
  · have hs := ite_f hs b1
    refine lv_aload_n hx hb dX1_add_7 rfl (lv_at hl 0 rfl) ?_
    refine gf_X1_15 hx hb hts hown hK hP 2 rfl rfl dX1_add_8 ?_
    refine lv_bipush (v := (60 : Int32)) hx hb dX1_add_11 (by decide) ?_
    refine lv_icmp_ge (tgt := 36) hx hb dX1_add_13 (by decide) (fun b2 => ?_) (fun b2 => ?_)
    · have hs := ite_t hs b2
      exact hret _ _ hs hP hS dX1_add_36
    · have hs := ite_f hs b2
      refine lv_aload_n hx hb dX1_add_16 rfl (lv_at hl 0 rfl) ?_
      refine gf_X1_9 hx hb hts hown hK hP 2 rfl rfl dX1_add_17 ?_
      refine lv_aload_n hx hb dX1_add_20 rfl (lv_at hl 0 rfl) ?_
      refine gf_X1_15 hx hb hts hown hK hP 2 rfl rfl dX1_add_21 ?_
      refine lv_iload_n hx hb dX1_add_24 rfl (lv_at hl 1 rfl) ?_
      obtain ⟨c3, ec3, hs⟩ := ob hs
      refine nd_iast hx hb hK hP hD hS 8 0 rfl rfl ec3 dX1_add_25 (fun H locs hP hD hS => ?_)
      have hP : va_P D vwCl (CW ad cI kc ksv c3 kit kln ken kla kfi kea kns kbl kr0 kr1 kr2 kr3 kr4 kr5 klr kp0 kp1 kp2 kp3) H := hP
      have hD : va_D A (CW ad cI kc ksv c3 kit kln ken kla kfi kea kns kbl kr0 kr1 kr2 kr3 kr4 kr5 klr kp0 kp1 kp2 kp3) := hD
      refine lv_aload_n hx hb dX1_add_26 rfl (lv_at hl 0 rfl) ?_
      refine lv_dup hx hb dX1_add_27 rfl ?_
      refine gf_X1_15 hx hb hts hown hK hP 2 rfl rfl dX1_add_28 ?_
      refine lv_iconst (v := (1 : Int32)) hx hb dX1_add_31 (by decide) ?_
      refine lv_iadd hx hb dX1_add_32 ?_
      refine pf_X1_15 hx hb hts hown hK hP hD hS 2 rfl rfl dX1_add_33 (fun H locs hP hD hS => ?_)
      have hP : va_P D vwCl (CW ad cI kc ksv c3 kit kln ken kla kfi kea kns (kbl + (1 : Int32)) kr0 kr1 kr2 kr3 kr4 kr5 klr kp0 kp1 kp2 kp3) H := hP
      have hD : va_D A (CW ad cI kc ksv c3 kit kln ken kla kfi kea kns (kbl + (1 : Int32)) kr0 kr1 kr2 kr3 kr4 kr5 klr kp0 kp1 kp2 kp3) := hD
      exact hret _ _ hs hP hS dX1_add_36
def tX1_codeAt_0 : List (Nat × Instr × Nat) := [(0, .iload_n 1, 1), (1, .ifCond .lt 18, 3), (4, .iload_n 1, 1), (5, .bipush 60, 2), (7, .if_icmp .ge 12, 3), (10, .aload_n 0, 1), (11, .getfield 9, 3), (14, .iload_n 1, 1), (15, .iaload, 1), (16, .goto 4, 3), (19, .iconst 0, 1), (20, .ireturn, 1)]
theorem tX1_codeAt_0_ok : tX1_codeAt_0.all (fun q => decide (decode cX1_codeAt q.1 = .ok q.2)) = true := by decide +kernel
theorem dX1_codeAt_0 : decode cX1_codeAt 0 = .ok (.iload_n 1, 1) := td tX1_codeAt_0_ok 0 (q := (0, .iload_n 1, 1)) rfl
theorem dX1_codeAt_1 : decode cX1_codeAt 1 = .ok (.ifCond .lt 18, 3) := td tX1_codeAt_0_ok 1 (q := (1, .ifCond .lt 18, 3)) rfl
theorem dX1_codeAt_4 : decode cX1_codeAt 4 = .ok (.iload_n 1, 1) := td tX1_codeAt_0_ok 2 (q := (4, .iload_n 1, 1)) rfl
theorem dX1_codeAt_5 : decode cX1_codeAt 5 = .ok (.bipush 60, 2) := td tX1_codeAt_0_ok 3 (q := (5, .bipush 60, 2)) rfl
theorem dX1_codeAt_7 : decode cX1_codeAt 7 = .ok (.if_icmp .ge 12, 3) := td tX1_codeAt_0_ok 4 (q := (7, .if_icmp .ge 12, 3)) rfl
theorem dX1_codeAt_10 : decode cX1_codeAt 10 = .ok (.aload_n 0, 1) := td tX1_codeAt_0_ok 5 (q := (10, .aload_n 0, 1)) rfl
theorem dX1_codeAt_11 : decode cX1_codeAt 11 = .ok (.getfield 9, 3) := td tX1_codeAt_0_ok 6 (q := (11, .getfield 9, 3)) rfl
theorem dX1_codeAt_14 : decode cX1_codeAt 14 = .ok (.iload_n 1, 1) := td tX1_codeAt_0_ok 7 (q := (14, .iload_n 1, 1)) rfl
theorem dX1_codeAt_15 : decode cX1_codeAt 15 = .ok (.iaload, 1) := td tX1_codeAt_0_ok 8 (q := (15, .iaload, 1)) rfl
theorem dX1_codeAt_16 : decode cX1_codeAt 16 = .ok (.goto 4, 3) := td tX1_codeAt_0_ok 9 (q := (16, .goto 4, 3)) rfl
theorem dX1_codeAt_19 : decode cX1_codeAt 19 = .ok (.iconst 0, 1) := td tX1_codeAt_0_ok 10 (q := (19, .iconst 0, 1)) rfl
theorem dX1_codeAt_20 : decode cX1_codeAt 20 = .ok (.ireturn, 1) := td tX1_codeAt_0_ok 11 (q := (20, .ireturn, 1)) rfl
def fX1_codeAt (kbc : (Nat → Int32)) (x1 : Int32) : Option (Int32) :=
  (if x1 < 0 then (some (0 : Int32)) else (if (60 : Int32) ≤ x1 then (some (0 : Int32)) else (Option.bind (aget kbc 60 x1) (fun t3 => (some t3)))))
set_option maxHeartbeats 4000000 in
set_option maxRecDepth 100000 in
theorem mX1_codeAt {l : Launch} {D : va_G} {ad : Nat → Nat} {cI : ClassId} {kc : (Nat → Int32)} {ksv : (Nat → Int32)} {kbc : (Nat → Int32)} {kit : (Nat → Int32)} {kln : (Nat → Int32)} {ken : (Nat → Int32)} {kla : (Nat → Int32)} {kfi : (Nat → Int32)} {kea : (Nat → Int32)} {kns : Int32} {kbl : Int32} {kr0 : Int32} {kr1 : Int32} {kr2 : Int32} {kr3 : Int32} {kr4 : Int32} {kr5 : Int32} {klr : Int32} {kp0 : Int32} {kp1 : Int32} {kp2 : Int32} {kp3 : Int32} {x1 : Int32} {r : Int32} (hs : fX1_codeAt kbc x1 = some r) : nd_C l yX1_codeAt cX1_codeAt 2 (some .int) 0 0 D [(cI, .int)] [.ref (ad 2), .int x1] (CW ad cI kc ksv kbc kit kln ken kla kfi kea kns kbl kr0 kr1 kr2 kr3 kr4 kr5 klr kp0 kp1 kp2 kp3) (CW ad cI kc ksv kbc kit kln ken kla kfi kea kns kbl kr0 kr1 kr2 kr3 kr4 kr5 klr kp0 kp1 kp2 kp3) (some (.int r)) := by
  refine nd_ofCi (by decide) (Nat.le_of_ble_eq_true rfl) (fun p e s m args below meth c_ ls A Q hx hb hml hown hts hl hP hK hD hS hA hN hret => ?_)
  have hown : s.vm.findClass RX1 = some m.cls := hown
  have hl : lv_has ls 2 [(0, .ref (ad 2)), (1, .int x1)] := hl
  have hret : ∀ (z0 : Int32) {H : Heap} {locs : List Loc} {pc : Nat} {ls : Array Slot}, some z0 = some r → va_P D vwCl (CW ad cI kc ksv kbc kit kln ken kla kfi kea kns kbl kr0 kr1 kr2 kr3 kr4 kr5 klr kp0 kp1 kp2 kp3) H → va_S A s.heap H locs → decode cX1_codeAt pc = .ok (.ireturn, 1) → W p l e ⟨0, 0, 0, 0⟩ s m args below meth c_ H locs 0 0 Q (F0 m pc ls [.int z0]) := by
    intro z0 H locs pc ls h hP hS hd
    cases h
    exact hret hP hS hd
  rw [fX1_codeAt] at hs
  refine lv_iload_n hx hb dX1_codeAt_0 rfl (lv_at hl 1 rfl) ?_
  refine lv_if_lt (tgt := 19) hx hb dX1_codeAt_1 (by decide) (fun b1 => ?_) (fun b1 => ?_)
  · have hs := ite_t hs b1
    refine lv_iconst (v := (0 : Int32)) hx hb dX1_codeAt_19 (by decide) ?_
    exact hret _ hs hP hS dX1_codeAt_20
  · have hs := ite_f hs b1
    refine lv_iload_n hx hb dX1_codeAt_4 rfl (lv_at hl 1 rfl) ?_
    refine lv_bipush (v := (60 : Int32)) hx hb dX1_codeAt_5 (by decide) ?_
    refine lv_icmp_ge (tgt := 19) hx hb dX1_codeAt_7 (by decide) (fun b2 => ?_) (fun b2 => ?_)
    · have hs := ite_t hs b2
      refine lv_iconst (v := (0 : Int32)) hx hb dX1_codeAt_19 (by decide) ?_
      exact hret _ hs hP hS dX1_codeAt_20
    · have hs := ite_f hs b2
      refine lv_aload_n hx hb dX1_codeAt_10 rfl (lv_at hl 0 rfl) ?_
      refine gf_X1_9 hx hb hts hown hK hP 2 rfl rfl dX1_codeAt_11 ?_
      refine lv_iload_n hx hb dX1_codeAt_14 rfl (lv_at hl 1 rfl) ?_
      obtain ⟨t3, et3, hs⟩ := ob hs
      refine nd_iald hx hb hK hP 8 0 rfl rfl et3 dX1_codeAt_15 ?_
      refine lv_goto (tgt := 20) hx hb dX1_codeAt_16 (by decide) ?_
      exact hret _ hs hP hS dX1_codeAt_20
def tX2_digitsOf_0 : List (Nat × Instr × Nat) := [(0, .iload_n 0, 1), (1, .bipush 10, 2), (3, .if_icmp .ge 5, 3), (6, .iconst 1, 1), (7, .ireturn, 1), (8, .iload_n 0, 1), (9, .bipush 100, 2), (11, .if_icmp .ge 5, 3), (14, .iconst 2, 1), (15, .ireturn, 1), (16, .iload_n 0, 1), (17, .sipush 1000, 3), (20, .if_icmp .ge 7, 3), (23, .iconst 3, 1), (24, .goto 4, 3), (27, .iconst 4, 1), (28, .ireturn, 1)]
theorem tX2_digitsOf_0_ok : tX2_digitsOf_0.all (fun q => decide (decode cX2_digitsOf q.1 = .ok q.2)) = true := by decide +kernel
theorem dX2_digitsOf_0 : decode cX2_digitsOf 0 = .ok (.iload_n 0, 1) := td tX2_digitsOf_0_ok 0 (q := (0, .iload_n 0, 1)) rfl
theorem dX2_digitsOf_1 : decode cX2_digitsOf 1 = .ok (.bipush 10, 2) := td tX2_digitsOf_0_ok 1 (q := (1, .bipush 10, 2)) rfl
theorem dX2_digitsOf_3 : decode cX2_digitsOf 3 = .ok (.if_icmp .ge 5, 3) := td tX2_digitsOf_0_ok 2 (q := (3, .if_icmp .ge 5, 3)) rfl
theorem dX2_digitsOf_6 : decode cX2_digitsOf 6 = .ok (.iconst 1, 1) := td tX2_digitsOf_0_ok 3 (q := (6, .iconst 1, 1)) rfl
theorem dX2_digitsOf_7 : decode cX2_digitsOf 7 = .ok (.ireturn, 1) := td tX2_digitsOf_0_ok 4 (q := (7, .ireturn, 1)) rfl
theorem dX2_digitsOf_8 : decode cX2_digitsOf 8 = .ok (.iload_n 0, 1) := td tX2_digitsOf_0_ok 5 (q := (8, .iload_n 0, 1)) rfl
theorem dX2_digitsOf_9 : decode cX2_digitsOf 9 = .ok (.bipush 100, 2) := td tX2_digitsOf_0_ok 6 (q := (9, .bipush 100, 2)) rfl
theorem dX2_digitsOf_11 : decode cX2_digitsOf 11 = .ok (.if_icmp .ge 5, 3) := td tX2_digitsOf_0_ok 7 (q := (11, .if_icmp .ge 5, 3)) rfl
theorem dX2_digitsOf_14 : decode cX2_digitsOf 14 = .ok (.iconst 2, 1) := td tX2_digitsOf_0_ok 8 (q := (14, .iconst 2, 1)) rfl
theorem dX2_digitsOf_15 : decode cX2_digitsOf 15 = .ok (.ireturn, 1) := td tX2_digitsOf_0_ok 9 (q := (15, .ireturn, 1)) rfl
theorem dX2_digitsOf_16 : decode cX2_digitsOf 16 = .ok (.iload_n 0, 1) := td tX2_digitsOf_0_ok 10 (q := (16, .iload_n 0, 1)) rfl
theorem dX2_digitsOf_17 : decode cX2_digitsOf 17 = .ok (.sipush 1000, 3) := td tX2_digitsOf_0_ok 11 (q := (17, .sipush 1000, 3)) rfl
theorem dX2_digitsOf_20 : decode cX2_digitsOf 20 = .ok (.if_icmp .ge 7, 3) := td tX2_digitsOf_0_ok 12 (q := (20, .if_icmp .ge 7, 3)) rfl
theorem dX2_digitsOf_23 : decode cX2_digitsOf 23 = .ok (.iconst 3, 1) := td tX2_digitsOf_0_ok 13 (q := (23, .iconst 3, 1)) rfl
theorem dX2_digitsOf_24 : decode cX2_digitsOf 24 = .ok (.goto 4, 3) := td tX2_digitsOf_0_ok 14 (q := (24, .goto 4, 3)) rfl
theorem dX2_digitsOf_27 : decode cX2_digitsOf 27 = .ok (.iconst 4, 1) := td tX2_digitsOf_0_ok 15 (q := (27, .iconst 4, 1)) rfl
theorem dX2_digitsOf_28 : decode cX2_digitsOf 28 = .ok (.ireturn, 1) := td tX2_digitsOf_0_ok 16 (q := (28, .ireturn, 1)) rfl
def fX2_digitsOf (x0 : Int32) : Option (Int32) :=
  (if (10 : Int32) ≤ x0 then (if (100 : Int32) ≤ x0 then (if (1000 : Int32) ≤ x0 then (some (4 : Int32)) else (some (3 : Int32))) else (some (2 : Int32))) else (some (1 : Int32)))
set_option maxHeartbeats 4000000 in
set_option maxRecDepth 100000 in
theorem mX2_digitsOf {l : Launch} {D : va_G} {W0 : va_W} {tys : nd_T} {x0 : Int32} {r : Int32} (hs : fX2_digitsOf x0 = some r) : nd_C l yX2_digitsOf cX2_digitsOf 1 (some .int) 0 0 D tys [.int x0] W0 W0 (some (.int r)) := by
  refine nd_ofCi (by decide) (Nat.le_of_ble_eq_true rfl) (fun p e s m args below meth c_ ls A Q hx hb hml hown hts hl hP hK hD hS hA hN hret => ?_)
  have hown : s.vm.findClass RX2 = some m.cls := hown
  have hl : lv_has ls 1 [(0, .int x0)] := hl
  have hret : ∀ (z0 : Int32) {H : Heap} {locs : List Loc} {pc : Nat} {ls : Array Slot}, some z0 = some r → va_P D vwCl W0 H → va_S A s.heap H locs → decode cX2_digitsOf pc = .ok (.ireturn, 1) → W p l e ⟨0, 0, 0, 0⟩ s m args below meth c_ H locs 0 0 Q (F0 m pc ls [.int z0]) := by
    intro z0 H locs pc ls h hP hS hd
    cases h
    exact hret hP hS hd
  rw [fX2_digitsOf] at hs
  refine lv_iload_n hx hb dX2_digitsOf_0 rfl (lv_at hl 0 rfl) ?_
  refine lv_bipush (v := (10 : Int32)) hx hb dX2_digitsOf_1 (by decide) ?_
  refine lv_icmp_ge (tgt := 8) hx hb dX2_digitsOf_3 (by decide) (fun b1 => ?_) (fun b1 => ?_)
  · have hs := ite_t hs b1
    refine lv_iload_n hx hb dX2_digitsOf_8 rfl (lv_at hl 0 rfl) ?_
    refine lv_bipush (v := (100 : Int32)) hx hb dX2_digitsOf_9 (by decide) ?_
    refine lv_icmp_ge (tgt := 16) hx hb dX2_digitsOf_11 (by decide) (fun b2 => ?_) (fun b2 => ?_)
    · have hs := ite_t hs b2
      refine lv_iload_n hx hb dX2_digitsOf_16 rfl (lv_at hl 0 rfl) ?_
      refine lv_sipush (v := (1000 : Int32)) hx hb dX2_digitsOf_17 (by decide) ?_
      refine lv_icmp_ge (tgt := 27) hx hb dX2_digitsOf_20 (by decide) (fun b3 => ?_) (fun b3 => ?_)
      · have hs := ite_t hs b3
        refine lv_iconst (v := (4 : Int32)) hx hb dX2_digitsOf_27 (by decide) ?_
        exact hret _ hs hP hS dX2_digitsOf_28
      · have hs := ite_f hs b3
        refine lv_iconst (v := (3 : Int32)) hx hb dX2_digitsOf_23 (by decide) ?_
        refine lv_goto (tgt := 28) hx hb dX2_digitsOf_24 (by decide) ?_
        exact hret _ hs hP hS dX2_digitsOf_28
    · have hs := ite_f hs b2
      refine lv_iconst (v := (2 : Int32)) hx hb dX2_digitsOf_14 (by decide) ?_
      exact hret _ hs hP hS dX2_digitsOf_15
  · have hs := ite_f hs b1
    refine lv_iconst (v := (1 : Int32)) hx hb dX2_digitsOf_6 (by decide) ?_
    exact hret _ hs hP hS dX2_digitsOf_7
def tX2_isTurned_0 : List (Nat × Instr × Nat) := [(0, .iload_n 0, 1), (1, .invokestatic 28, 3), (4, .iload_n 1, 1), (5, .invokestatic 28, 3), (8, .if_icmp .eq 5, 3), (11, .iconst 0, 1), (12, .ireturn, 1), (13, .iload_n 0, 1), (14, .bipush 10, 2), (16, .irem, 1), (17, .istore_n 2, 1), (18, .iload_n 0, 1), (19, .bipush 10, 2), (21, .idiv, 1), (22, .bipush 10, 2), (24, .irem, 1), (25, .istore_n 3, 1), (26, .iload_n 0, 1), (27, .bipush 100, 2), (29, .idiv, 1), (30, .bipush 10, 2), (32, .irem, 1), (33, .istore 4, 2), (35, .iload_n 0, 1), (36, .sipush 1000, 3), (39, .idiv, 1), (40, .bipush 10, 2), (42, .irem, 1), (43, .istore 5, 2), (45, .iload_n 1, 1), (46, .iload_n 0, 1), (47, .isub, 1), (48, .istore 6, 2), (50, .iload 6, 2), (52, .bipush 9, 2), (54, .iload_n 2, 1), (55, .iload_n 3, 1), (56, .isub, 1), (57, .imul, 1), (58, .if_icmp .eq 29, 3), (61, .iload 6, 2), (63, .bipush 90, 2), (65, .iload_n 3, 1), (66, .iload 4, 2), (68, .isub, 1), (69, .imul, 1), (70, .if_icmp .eq 17, 3), (73, .iload 6, 2), (75, .sipush 900, 3), (78, .iload 4, 2), (80, .iload 5, 2), (82, .isub, 1), (83, .imul, 1), (84, .if_icmp .ne 7, 3), (87, .iconst 1, 1), (88, .goto 4, 3), (91, .iconst 0, 1), (92, .ireturn, 1)]
theorem tX2_isTurned_0_ok : tX2_isTurned_0.all (fun q => decide (decode cX2_isTurned q.1 = .ok q.2)) = true := by decide +kernel
theorem dX2_isTurned_0 : decode cX2_isTurned 0 = .ok (.iload_n 0, 1) := td tX2_isTurned_0_ok 0 (q := (0, .iload_n 0, 1)) rfl
theorem dX2_isTurned_1 : decode cX2_isTurned 1 = .ok (.invokestatic 28, 3) := td tX2_isTurned_0_ok 1 (q := (1, .invokestatic 28, 3)) rfl
theorem dX2_isTurned_4 : decode cX2_isTurned 4 = .ok (.iload_n 1, 1) := td tX2_isTurned_0_ok 2 (q := (4, .iload_n 1, 1)) rfl
theorem dX2_isTurned_5 : decode cX2_isTurned 5 = .ok (.invokestatic 28, 3) := td tX2_isTurned_0_ok 3 (q := (5, .invokestatic 28, 3)) rfl
theorem dX2_isTurned_8 : decode cX2_isTurned 8 = .ok (.if_icmp .eq 5, 3) := td tX2_isTurned_0_ok 4 (q := (8, .if_icmp .eq 5, 3)) rfl
theorem dX2_isTurned_11 : decode cX2_isTurned 11 = .ok (.iconst 0, 1) := td tX2_isTurned_0_ok 5 (q := (11, .iconst 0, 1)) rfl
theorem dX2_isTurned_12 : decode cX2_isTurned 12 = .ok (.ireturn, 1) := td tX2_isTurned_0_ok 6 (q := (12, .ireturn, 1)) rfl
theorem dX2_isTurned_13 : decode cX2_isTurned 13 = .ok (.iload_n 0, 1) := td tX2_isTurned_0_ok 7 (q := (13, .iload_n 0, 1)) rfl
theorem dX2_isTurned_14 : decode cX2_isTurned 14 = .ok (.bipush 10, 2) := td tX2_isTurned_0_ok 8 (q := (14, .bipush 10, 2)) rfl
theorem dX2_isTurned_16 : decode cX2_isTurned 16 = .ok (.irem, 1) := td tX2_isTurned_0_ok 9 (q := (16, .irem, 1)) rfl
theorem dX2_isTurned_17 : decode cX2_isTurned 17 = .ok (.istore_n 2, 1) := td tX2_isTurned_0_ok 10 (q := (17, .istore_n 2, 1)) rfl
theorem dX2_isTurned_18 : decode cX2_isTurned 18 = .ok (.iload_n 0, 1) := td tX2_isTurned_0_ok 11 (q := (18, .iload_n 0, 1)) rfl
theorem dX2_isTurned_19 : decode cX2_isTurned 19 = .ok (.bipush 10, 2) := td tX2_isTurned_0_ok 12 (q := (19, .bipush 10, 2)) rfl
theorem dX2_isTurned_21 : decode cX2_isTurned 21 = .ok (.idiv, 1) := td tX2_isTurned_0_ok 13 (q := (21, .idiv, 1)) rfl
theorem dX2_isTurned_22 : decode cX2_isTurned 22 = .ok (.bipush 10, 2) := td tX2_isTurned_0_ok 14 (q := (22, .bipush 10, 2)) rfl
theorem dX2_isTurned_24 : decode cX2_isTurned 24 = .ok (.irem, 1) := td tX2_isTurned_0_ok 15 (q := (24, .irem, 1)) rfl
theorem dX2_isTurned_25 : decode cX2_isTurned 25 = .ok (.istore_n 3, 1) := td tX2_isTurned_0_ok 16 (q := (25, .istore_n 3, 1)) rfl
theorem dX2_isTurned_26 : decode cX2_isTurned 26 = .ok (.iload_n 0, 1) := td tX2_isTurned_0_ok 17 (q := (26, .iload_n 0, 1)) rfl
theorem dX2_isTurned_27 : decode cX2_isTurned 27 = .ok (.bipush 100, 2) := td tX2_isTurned_0_ok 18 (q := (27, .bipush 100, 2)) rfl
theorem dX2_isTurned_29 : decode cX2_isTurned 29 = .ok (.idiv, 1) := td tX2_isTurned_0_ok 19 (q := (29, .idiv, 1)) rfl
theorem dX2_isTurned_30 : decode cX2_isTurned 30 = .ok (.bipush 10, 2) := td tX2_isTurned_0_ok 20 (q := (30, .bipush 10, 2)) rfl
theorem dX2_isTurned_32 : decode cX2_isTurned 32 = .ok (.irem, 1) := td tX2_isTurned_0_ok 21 (q := (32, .irem, 1)) rfl
theorem dX2_isTurned_33 : decode cX2_isTurned 33 = .ok (.istore 4, 2) := td tX2_isTurned_0_ok 22 (q := (33, .istore 4, 2)) rfl
theorem dX2_isTurned_35 : decode cX2_isTurned 35 = .ok (.iload_n 0, 1) := td tX2_isTurned_0_ok 23 (q := (35, .iload_n 0, 1)) rfl
theorem dX2_isTurned_36 : decode cX2_isTurned 36 = .ok (.sipush 1000, 3) := td tX2_isTurned_0_ok 24 (q := (36, .sipush 1000, 3)) rfl
theorem dX2_isTurned_39 : decode cX2_isTurned 39 = .ok (.idiv, 1) := td tX2_isTurned_0_ok 25 (q := (39, .idiv, 1)) rfl
theorem dX2_isTurned_40 : decode cX2_isTurned 40 = .ok (.bipush 10, 2) := td tX2_isTurned_0_ok 26 (q := (40, .bipush 10, 2)) rfl
theorem dX2_isTurned_42 : decode cX2_isTurned 42 = .ok (.irem, 1) := td tX2_isTurned_0_ok 27 (q := (42, .irem, 1)) rfl
theorem dX2_isTurned_43 : decode cX2_isTurned 43 = .ok (.istore 5, 2) := td tX2_isTurned_0_ok 28 (q := (43, .istore 5, 2)) rfl
theorem dX2_isTurned_45 : decode cX2_isTurned 45 = .ok (.iload_n 1, 1) := td tX2_isTurned_0_ok 29 (q := (45, .iload_n 1, 1)) rfl
theorem dX2_isTurned_46 : decode cX2_isTurned 46 = .ok (.iload_n 0, 1) := td tX2_isTurned_0_ok 30 (q := (46, .iload_n 0, 1)) rfl
theorem dX2_isTurned_47 : decode cX2_isTurned 47 = .ok (.isub, 1) := td tX2_isTurned_0_ok 31 (q := (47, .isub, 1)) rfl
theorem dX2_isTurned_48 : decode cX2_isTurned 48 = .ok (.istore 6, 2) := td tX2_isTurned_0_ok 32 (q := (48, .istore 6, 2)) rfl
theorem dX2_isTurned_50 : decode cX2_isTurned 50 = .ok (.iload 6, 2) := td tX2_isTurned_0_ok 33 (q := (50, .iload 6, 2)) rfl
theorem dX2_isTurned_52 : decode cX2_isTurned 52 = .ok (.bipush 9, 2) := td tX2_isTurned_0_ok 34 (q := (52, .bipush 9, 2)) rfl
theorem dX2_isTurned_54 : decode cX2_isTurned 54 = .ok (.iload_n 2, 1) := td tX2_isTurned_0_ok 35 (q := (54, .iload_n 2, 1)) rfl
theorem dX2_isTurned_55 : decode cX2_isTurned 55 = .ok (.iload_n 3, 1) := td tX2_isTurned_0_ok 36 (q := (55, .iload_n 3, 1)) rfl
theorem dX2_isTurned_56 : decode cX2_isTurned 56 = .ok (.isub, 1) := td tX2_isTurned_0_ok 37 (q := (56, .isub, 1)) rfl
theorem dX2_isTurned_57 : decode cX2_isTurned 57 = .ok (.imul, 1) := td tX2_isTurned_0_ok 38 (q := (57, .imul, 1)) rfl
theorem dX2_isTurned_58 : decode cX2_isTurned 58 = .ok (.if_icmp .eq 29, 3) := td tX2_isTurned_0_ok 39 (q := (58, .if_icmp .eq 29, 3)) rfl
theorem dX2_isTurned_61 : decode cX2_isTurned 61 = .ok (.iload 6, 2) := td tX2_isTurned_0_ok 40 (q := (61, .iload 6, 2)) rfl
theorem dX2_isTurned_63 : decode cX2_isTurned 63 = .ok (.bipush 90, 2) := td tX2_isTurned_0_ok 41 (q := (63, .bipush 90, 2)) rfl
theorem dX2_isTurned_65 : decode cX2_isTurned 65 = .ok (.iload_n 3, 1) := td tX2_isTurned_0_ok 42 (q := (65, .iload_n 3, 1)) rfl
theorem dX2_isTurned_66 : decode cX2_isTurned 66 = .ok (.iload 4, 2) := td tX2_isTurned_0_ok 43 (q := (66, .iload 4, 2)) rfl
theorem dX2_isTurned_68 : decode cX2_isTurned 68 = .ok (.isub, 1) := td tX2_isTurned_0_ok 44 (q := (68, .isub, 1)) rfl
theorem dX2_isTurned_69 : decode cX2_isTurned 69 = .ok (.imul, 1) := td tX2_isTurned_0_ok 45 (q := (69, .imul, 1)) rfl
theorem dX2_isTurned_70 : decode cX2_isTurned 70 = .ok (.if_icmp .eq 17, 3) := td tX2_isTurned_0_ok 46 (q := (70, .if_icmp .eq 17, 3)) rfl
theorem dX2_isTurned_73 : decode cX2_isTurned 73 = .ok (.iload 6, 2) := td tX2_isTurned_0_ok 47 (q := (73, .iload 6, 2)) rfl
theorem dX2_isTurned_75 : decode cX2_isTurned 75 = .ok (.sipush 900, 3) := td tX2_isTurned_0_ok 48 (q := (75, .sipush 900, 3)) rfl
theorem dX2_isTurned_78 : decode cX2_isTurned 78 = .ok (.iload 4, 2) := td tX2_isTurned_0_ok 49 (q := (78, .iload 4, 2)) rfl
theorem dX2_isTurned_80 : decode cX2_isTurned 80 = .ok (.iload 5, 2) := td tX2_isTurned_0_ok 50 (q := (80, .iload 5, 2)) rfl
theorem dX2_isTurned_82 : decode cX2_isTurned 82 = .ok (.isub, 1) := td tX2_isTurned_0_ok 51 (q := (82, .isub, 1)) rfl
theorem dX2_isTurned_83 : decode cX2_isTurned 83 = .ok (.imul, 1) := td tX2_isTurned_0_ok 52 (q := (83, .imul, 1)) rfl
theorem dX2_isTurned_84 : decode cX2_isTurned 84 = .ok (.if_icmp .ne 7, 3) := td tX2_isTurned_0_ok 53 (q := (84, .if_icmp .ne 7, 3)) rfl
theorem dX2_isTurned_87 : decode cX2_isTurned 87 = .ok (.iconst 1, 1) := td tX2_isTurned_0_ok 54 (q := (87, .iconst 1, 1)) rfl
theorem dX2_isTurned_88 : decode cX2_isTurned 88 = .ok (.goto 4, 3) := td tX2_isTurned_0_ok 55 (q := (88, .goto 4, 3)) rfl
theorem dX2_isTurned_91 : decode cX2_isTurned 91 = .ok (.iconst 0, 1) := td tX2_isTurned_0_ok 56 (q := (91, .iconst 0, 1)) rfl
theorem dX2_isTurned_92 : decode cX2_isTurned 92 = .ok (.ireturn, 1) := td tX2_isTurned_0_ok 57 (q := (92, .ireturn, 1)) rfl
def fX2_isTurned (x0 : Int32) (x1 : Int32) : Option (Int32) :=
  (Option.bind (fX2_digitsOf x0) (fun q1 => (Option.bind (fX2_digitsOf x1) (fun q2 => (if q1 = q2 then (if (x1 - x0) = ((9 : Int32) * ((x0 - x0 / (10 : Int32) * (10 : Int32)) - ((x0 / (10 : Int32)) - (x0 / (10 : Int32)) / (10 : Int32) * (10 : Int32)))) then (some (1 : Int32)) else (if (x1 - x0) = ((90 : Int32) * (((x0 / (10 : Int32)) - (x0 / (10 : Int32)) / (10 : Int32) * (10 : Int32)) - ((x0 / (100 : Int32)) - (x0 / (100 : Int32)) / (10 : Int32) * (10 : Int32)))) then (some (1 : Int32)) else (if (x1 - x0) = ((900 : Int32) * (((x0 / (100 : Int32)) - (x0 / (100 : Int32)) / (10 : Int32) * (10 : Int32)) - ((x0 / (1000 : Int32)) - (x0 / (1000 : Int32)) / (10 : Int32) * (10 : Int32)))) then (some (1 : Int32)) else (some (0 : Int32))))) else (some (0 : Int32)))))))
set_option maxHeartbeats 4000000 in
set_option maxRecDepth 100000 in
theorem mX2_isTurned {l : Launch} {D : va_G} {W0 : va_W} {tys : nd_T} {x0 : Int32} {x1 : Int32} {r : Int32} (hs : fX2_isTurned x0 x1 = some r) : nd_C l yX2_isTurned cX2_isTurned 7 (some .boolean) 1 20 D tys [.int x0, .int x1] W0 W0 (some (.int r)) := by
  refine nd_ofCz (by decide) (Nat.le_of_ble_eq_true rfl) (fun p e s m args below meth c_ ls A Q hx hb hml hown hts hl hP hK hD hS hA hN hret => ?_)
  have hown : s.vm.findClass RX2 = some m.cls := hown
  have hl : lv_has ls 7 [(0, .int x0), (1, .int x1)] := hl
  have hret : ∀ (z0 : Int32) {H : Heap} {locs : List Loc} {pc : Nat} {ls : Array Slot}, some z0 = some r → (z0 = 0 ∨ z0 = 1) → va_P D vwCl W0 H → va_S A s.heap H locs → decode cX2_isTurned pc = .ok (.ireturn, 1) → W p l e ⟨1, 0, 0, 20⟩ s m args below meth c_ H locs 0 0 Q (F0 m pc ls [.int z0]) := by
    intro z0 H locs pc ls h hz hP hS hd
    cases h
    exact hret hz hP hS hd
  rw [fX2_isTurned] at hs
  refine lv_iload_n hx hb dX2_isTurned_0 rfl (lv_at hl 0 rfl) ?_
  obtain ⟨q1, eq1, hs⟩ := ob hs
  refine nd_callS (As := [.int x0]) (rest := []) (st1 := [.int q1]) hx hb hml hown hts hl hP hK hD hS hA hN (mX2_digitsOf eq1) is_X2_digitsOf wd_590 rfl rfl ⟨Nat.le_of_ble_eq_true rfl, Nat.le_of_ble_eq_true rfl⟩ (Nat.le_of_ble_eq_true rfl) ⟨Nat.zero_le _, Nat.zero_le _⟩ dX2_isTurned_1 rfl rfl (fun H locs hP hD hS => ?_)
  refine lv_iload_n hx hb dX2_isTurned_4 rfl (lv_at hl 1 rfl) ?_
  obtain ⟨q2, eq2, hs⟩ := ob hs
  refine nd_callS (As := [.int x1]) (rest := [.int q1]) (st1 := [.int q2, .int q1]) hx hb hml hown hts hl hP hK hD hS hA hN (mX2_digitsOf eq2) is_X2_digitsOf wd_590 rfl rfl ⟨Nat.le_of_ble_eq_true rfl, Nat.le_of_ble_eq_true rfl⟩ (Nat.le_of_ble_eq_true rfl) ⟨Nat.zero_le _, Nat.zero_le _⟩ dX2_isTurned_5 rfl rfl (fun H locs hP hD hS => ?_)
  refine lv_icmp_eq (tgt := 13) hx hb dX2_isTurned_8 (by decide) (fun b3 => ?_) (fun b3 => ?_)
  · have hs := ite_t hs b3
    refine lv_iload_n hx hb dX2_isTurned_13 rfl (lv_at hl 0 rfl) ?_
    refine lv_bipush (v := (10 : Int32)) hx hb dX2_isTurned_14 (by decide) ?_
    refine lv_irem hx hb dX2_isTurned_16 (by decide) ?_
    refine lv_istore_n (lv' := [(2, .int (x0 - x0 / (10 : Int32) * (10 : Int32))), (0, .int x0), (1, .int x1)]) hx hb dX2_isTurned_17 rfl hl (by decide) rfl (fun ls hl => ?_)
    refine lv_iload_n hx hb dX2_isTurned_18 rfl (lv_at hl 1 rfl) ?_
    refine lv_bipush (v := (10 : Int32)) hx hb dX2_isTurned_19 (by decide) ?_
    refine lv_idiv hx hb dX2_isTurned_21 (by decide) ?_
    refine lv_bipush (v := (10 : Int32)) hx hb dX2_isTurned_22 (by decide) ?_
    refine lv_irem hx hb dX2_isTurned_24 (by decide) ?_
    refine lv_istore_n (lv' := [(3, .int ((x0 / (10 : Int32)) - (x0 / (10 : Int32)) / (10 : Int32) * (10 : Int32))), (2, .int (x0 - x0 / (10 : Int32) * (10 : Int32))), (0, .int x0), (1, .int x1)]) hx hb dX2_isTurned_25 rfl hl (by decide) rfl (fun ls hl => ?_)
    refine lv_iload_n hx hb dX2_isTurned_26 rfl (lv_at hl 2 rfl) ?_
    refine lv_bipush (v := (100 : Int32)) hx hb dX2_isTurned_27 (by decide) ?_
    refine lv_idiv hx hb dX2_isTurned_29 (by decide) ?_
    refine lv_bipush (v := (10 : Int32)) hx hb dX2_isTurned_30 (by decide) ?_
    refine lv_irem hx hb dX2_isTurned_32 (by decide) ?_
    refine lv_istore (lv' := [(4, .int ((x0 / (100 : Int32)) - (x0 / (100 : Int32)) / (10 : Int32) * (10 : Int32))), (3, .int ((x0 / (10 : Int32)) - (x0 / (10 : Int32)) / (10 : Int32) * (10 : Int32))), (2, .int (x0 - x0 / (10 : Int32) * (10 : Int32))), (0, .int x0), (1, .int x1)]) hx hb dX2_isTurned_33 hl (by decide) rfl (fun ls hl => ?_)
    refine lv_iload_n hx hb dX2_isTurned_35 rfl (lv_at hl 3 rfl) ?_
    refine lv_sipush (v := (1000 : Int32)) hx hb dX2_isTurned_36 (by decide) ?_
    refine lv_idiv hx hb dX2_isTurned_39 (by decide) ?_
    refine lv_bipush (v := (10 : Int32)) hx hb dX2_isTurned_40 (by decide) ?_
    refine lv_irem hx hb dX2_isTurned_42 (by decide) ?_
    refine lv_istore (lv' := [(5, .int ((x0 / (1000 : Int32)) - (x0 / (1000 : Int32)) / (10 : Int32) * (10 : Int32))), (4, .int ((x0 / (100 : Int32)) - (x0 / (100 : Int32)) / (10 : Int32) * (10 : Int32))), (3, .int ((x0 / (10 : Int32)) - (x0 / (10 : Int32)) / (10 : Int32) * (10 : Int32))), (2, .int (x0 - x0 / (10 : Int32) * (10 : Int32))), (0, .int x0), (1, .int x1)]) hx hb dX2_isTurned_43 hl (by decide) rfl (fun ls hl => ?_)
    refine lv_iload_n hx hb dX2_isTurned_45 rfl (lv_at hl 5 rfl) ?_
    refine lv_iload_n hx hb dX2_isTurned_46 rfl (lv_at hl 4 rfl) ?_
    refine lv_isub hx hb dX2_isTurned_47 ?_
    refine lv_istore (lv' := [(6, .int (x1 - x0)), (5, .int ((x0 / (1000 : Int32)) - (x0 / (1000 : Int32)) / (10 : Int32) * (10 : Int32))), (4, .int ((x0 / (100 : Int32)) - (x0 / (100 : Int32)) / (10 : Int32) * (10 : Int32))), (3, .int ((x0 / (10 : Int32)) - (x0 / (10 : Int32)) / (10 : Int32) * (10 : Int32))), (2, .int (x0 - x0 / (10 : Int32) * (10 : Int32))), (0, .int x0), (1, .int x1)]) hx hb dX2_isTurned_48 hl (by decide) rfl (fun ls hl => ?_)
    refine lv_iload hx hb dX2_isTurned_50 (lv_at hl 0 rfl) ?_
    refine lv_bipush (v := (9 : Int32)) hx hb dX2_isTurned_52 (by decide) ?_
    refine lv_iload_n hx hb dX2_isTurned_54 rfl (lv_at hl 4 rfl) ?_
    refine lv_iload_n hx hb dX2_isTurned_55 rfl (lv_at hl 3 rfl) ?_
    refine lv_isub hx hb dX2_isTurned_56 ?_
    refine lv_imul hx hb dX2_isTurned_57 ?_
    refine lv_icmp_eq (tgt := 87) hx hb dX2_isTurned_58 (by decide) (fun b4 => ?_) (fun b4 => ?_)
    · have hs := ite_t hs b4
      refine lv_iconst (v := (1 : Int32)) hx hb dX2_isTurned_87 (by decide) ?_
      refine lv_goto (tgt := 92) hx hb dX2_isTurned_88 (by decide) ?_
      exact hret _ hs (Or.inr rfl) hP hS dX2_isTurned_92
    · have hs := ite_f hs b4
      refine lv_iload hx hb dX2_isTurned_61 (lv_at hl 0 rfl) ?_
      refine lv_bipush (v := (90 : Int32)) hx hb dX2_isTurned_63 (by decide) ?_
      refine lv_iload_n hx hb dX2_isTurned_65 rfl (lv_at hl 3 rfl) ?_
      refine lv_iload hx hb dX2_isTurned_66 (lv_at hl 2 rfl) ?_
      refine lv_isub hx hb dX2_isTurned_68 ?_
      refine lv_imul hx hb dX2_isTurned_69 ?_
      refine lv_icmp_eq (tgt := 87) hx hb dX2_isTurned_70 (by decide) (fun b5 => ?_) (fun b5 => ?_)
      · have hs := ite_t hs b5
        refine lv_iconst (v := (1 : Int32)) hx hb dX2_isTurned_87 (by decide) ?_
        refine lv_goto (tgt := 92) hx hb dX2_isTurned_88 (by decide) ?_
        exact hret _ hs (Or.inr rfl) hP hS dX2_isTurned_92
      · have hs := ite_f hs b5
        refine lv_iload hx hb dX2_isTurned_73 (lv_at hl 0 rfl) ?_
        refine lv_sipush (v := (900 : Int32)) hx hb dX2_isTurned_75 (by decide) ?_
        refine lv_iload hx hb dX2_isTurned_78 (lv_at hl 2 rfl) ?_
        refine lv_iload hx hb dX2_isTurned_80 (lv_at hl 1 rfl) ?_
        refine lv_isub hx hb dX2_isTurned_82 ?_
        refine lv_imul hx hb dX2_isTurned_83 ?_
        refine lv_icmp_ne (tgt := 91) hx hb dX2_isTurned_84 (by decide) (fun b6 => ?_) (fun b6 => ?_)
        · have hs := ite_f hs b6
          refine lv_iconst (v := (0 : Int32)) hx hb dX2_isTurned_91 (by decide) ?_
          exact hret _ hs (Or.inl rfl) hP hS dX2_isTurned_92
        · have hs := ite_t hs b6
          refine lv_iconst (v := (1 : Int32)) hx hb dX2_isTurned_87 (by decide) ?_
          refine lv_goto (tgt := 92) hx hb dX2_isTurned_88 (by decide) ?_
          exact hret _ hs (Or.inr rfl) hP hS dX2_isTurned_92
  · have hs := ite_f hs b3
    refine lv_iconst (v := (0 : Int32)) hx hb dX2_isTurned_11 (by decide) ?_
    exact hret _ hs (Or.inl rfl) hP hS dX2_isTurned_12
def tX2_hasItem_0 : List (Nat × Instr × Nat) := [(0, .aload_n 0, 1), (1, .sipush 231, 3), (4, .iload_n 1, 1), (5, .iadd, 1), (6, .invokevirtual 15, 3), (9, .istore_n 3, 1), (10, .iconst 0, 1), (11, .istore 4, 2), (13, .iload 4, 2), (15, .iload_n 3, 1), (16, .if_icmp .ge 29, 3), (19, .aload_n 0, 1), (20, .sipush 291, 3), (23, .iload_n 1, 1), (24, .iconst 4, 1), (25, .imul, 1), (26, .iadd, 1), (27, .iload 4, 2), (29, .iadd, 1), (30, .invokevirtual 15, 3), (33, .iload_n 2, 1), (34, .if_icmp .ne 5, 3), (37, .iconst 1, 1), (38, .ireturn, 1), (39, .iinc 4 1, 3), (42, .goto (-29), 3), (45, .iconst 0, 1), (46, .ireturn, 1)]
theorem tX2_hasItem_0_ok : tX2_hasItem_0.all (fun q => decide (decode cX2_hasItem q.1 = .ok q.2)) = true := by decide +kernel
theorem dX2_hasItem_0 : decode cX2_hasItem 0 = .ok (.aload_n 0, 1) := td tX2_hasItem_0_ok 0 (q := (0, .aload_n 0, 1)) rfl
theorem dX2_hasItem_1 : decode cX2_hasItem 1 = .ok (.sipush 231, 3) := td tX2_hasItem_0_ok 1 (q := (1, .sipush 231, 3)) rfl
theorem dX2_hasItem_4 : decode cX2_hasItem 4 = .ok (.iload_n 1, 1) := td tX2_hasItem_0_ok 2 (q := (4, .iload_n 1, 1)) rfl
theorem dX2_hasItem_5 : decode cX2_hasItem 5 = .ok (.iadd, 1) := td tX2_hasItem_0_ok 3 (q := (5, .iadd, 1)) rfl
theorem dX2_hasItem_6 : decode cX2_hasItem 6 = .ok (.invokevirtual 15, 3) := td tX2_hasItem_0_ok 4 (q := (6, .invokevirtual 15, 3)) rfl
theorem dX2_hasItem_9 : decode cX2_hasItem 9 = .ok (.istore_n 3, 1) := td tX2_hasItem_0_ok 5 (q := (9, .istore_n 3, 1)) rfl
theorem dX2_hasItem_10 : decode cX2_hasItem 10 = .ok (.iconst 0, 1) := td tX2_hasItem_0_ok 6 (q := (10, .iconst 0, 1)) rfl
theorem dX2_hasItem_11 : decode cX2_hasItem 11 = .ok (.istore 4, 2) := td tX2_hasItem_0_ok 7 (q := (11, .istore 4, 2)) rfl
theorem dX2_hasItem_13 : decode cX2_hasItem 13 = .ok (.iload 4, 2) := td tX2_hasItem_0_ok 8 (q := (13, .iload 4, 2)) rfl
theorem dX2_hasItem_15 : decode cX2_hasItem 15 = .ok (.iload_n 3, 1) := td tX2_hasItem_0_ok 9 (q := (15, .iload_n 3, 1)) rfl
theorem dX2_hasItem_16 : decode cX2_hasItem 16 = .ok (.if_icmp .ge 29, 3) := td tX2_hasItem_0_ok 10 (q := (16, .if_icmp .ge 29, 3)) rfl
theorem dX2_hasItem_19 : decode cX2_hasItem 19 = .ok (.aload_n 0, 1) := td tX2_hasItem_0_ok 11 (q := (19, .aload_n 0, 1)) rfl
theorem dX2_hasItem_20 : decode cX2_hasItem 20 = .ok (.sipush 291, 3) := td tX2_hasItem_0_ok 12 (q := (20, .sipush 291, 3)) rfl
theorem dX2_hasItem_23 : decode cX2_hasItem 23 = .ok (.iload_n 1, 1) := td tX2_hasItem_0_ok 13 (q := (23, .iload_n 1, 1)) rfl
theorem dX2_hasItem_24 : decode cX2_hasItem 24 = .ok (.iconst 4, 1) := td tX2_hasItem_0_ok 14 (q := (24, .iconst 4, 1)) rfl
theorem dX2_hasItem_25 : decode cX2_hasItem 25 = .ok (.imul, 1) := td tX2_hasItem_0_ok 15 (q := (25, .imul, 1)) rfl
theorem dX2_hasItem_26 : decode cX2_hasItem 26 = .ok (.iadd, 1) := td tX2_hasItem_0_ok 16 (q := (26, .iadd, 1)) rfl
theorem dX2_hasItem_27 : decode cX2_hasItem 27 = .ok (.iload 4, 2) := td tX2_hasItem_0_ok 17 (q := (27, .iload 4, 2)) rfl
theorem dX2_hasItem_29 : decode cX2_hasItem 29 = .ok (.iadd, 1) := td tX2_hasItem_0_ok 18 (q := (29, .iadd, 1)) rfl
theorem dX2_hasItem_30 : decode cX2_hasItem 30 = .ok (.invokevirtual 15, 3) := td tX2_hasItem_0_ok 19 (q := (30, .invokevirtual 15, 3)) rfl
theorem dX2_hasItem_33 : decode cX2_hasItem 33 = .ok (.iload_n 2, 1) := td tX2_hasItem_0_ok 20 (q := (33, .iload_n 2, 1)) rfl
theorem dX2_hasItem_34 : decode cX2_hasItem 34 = .ok (.if_icmp .ne 5, 3) := td tX2_hasItem_0_ok 21 (q := (34, .if_icmp .ne 5, 3)) rfl
theorem dX2_hasItem_37 : decode cX2_hasItem 37 = .ok (.iconst 1, 1) := td tX2_hasItem_0_ok 22 (q := (37, .iconst 1, 1)) rfl
theorem dX2_hasItem_38 : decode cX2_hasItem 38 = .ok (.ireturn, 1) := td tX2_hasItem_0_ok 23 (q := (38, .ireturn, 1)) rfl
theorem dX2_hasItem_39 : decode cX2_hasItem 39 = .ok (.iinc 4 1, 3) := td tX2_hasItem_0_ok 24 (q := (39, .iinc 4 1, 3)) rfl
theorem dX2_hasItem_42 : decode cX2_hasItem 42 = .ok (.goto (-29), 3) := td tX2_hasItem_0_ok 25 (q := (42, .goto (-29), 3)) rfl
theorem dX2_hasItem_45 : decode cX2_hasItem 45 = .ok (.iconst 0, 1) := td tX2_hasItem_0_ok 26 (q := (45, .iconst 0, 1)) rfl
theorem dX2_hasItem_46 : decode cX2_hasItem 46 = .ok (.ireturn, 1) := td tX2_hasItem_0_ok 27 (q := (46, .ireturn, 1)) rfl
def fX2_hasItem_13 (k13 : Unit → Option (Int32)) (kc : (Nat → Int32)) (x1 : Int32) (x2 : Int32) (x3 : Int32) : Nat → Int32 → Option (Int32)
  | 0, _ => none
  | n13 + 1, x4 => (if x3 ≤ x4 then (k13 ()) else (Option.bind (fX0_get kc (((291 : Int32) + (x1 * (4 : Int32))) + x4)) (fun q3 => (if q3 = x2 then (some (1 : Int32)) else (fX2_hasItem_13 k13 kc x1 x2 x3 n13 (x4 + (1 : Int32)))))))
def fX2_hasItem (kc : (Nat → Int32)) (x1 : Int32) (x2 : Int32) : Option (Int32) :=
  (Option.bind (fX0_get kc ((231 : Int32) + x1)) (fun q1 => (fX2_hasItem_13 (fun (_ : Unit) => (some (0 : Int32))) kc x1 x2 q1 LF (0 : Int32))))
set_option maxHeartbeats 4000000 in
set_option maxRecDepth 100000 in
theorem mX2_hasItem {l : Launch} {D : va_G} {ad : Nat → Nat} {cI : ClassId} {kc : (Nat → Int32)} {ksv : (Nat → Int32)} {kbc : (Nat → Int32)} {kit : (Nat → Int32)} {kln : (Nat → Int32)} {ken : (Nat → Int32)} {kla : (Nat → Int32)} {kfi : (Nat → Int32)} {kea : (Nat → Int32)} {kns : Int32} {kbl : Int32} {kr0 : Int32} {kr1 : Int32} {kr2 : Int32} {kr3 : Int32} {kr4 : Int32} {kr5 : Int32} {klr : Int32} {kp0 : Int32} {kp1 : Int32} {kp2 : Int32} {kp3 : Int32} {x1 : Int32} {x2 : Int32} {r : Int32} (hs : fX2_hasItem kc x1 x2 = some r) : nd_C l yX2_hasItem cX2_hasItem 5 (some .boolean) 1 21 D [(cI, .int)] [.ref (ad 1), .int x1, .int x2] (CW ad cI kc ksv kbc kit kln ken kla kfi kea kns kbl kr0 kr1 kr2 kr3 kr4 kr5 klr kp0 kp1 kp2 kp3) (CW ad cI kc ksv kbc kit kln ken kla kfi kea kns kbl kr0 kr1 kr2 kr3 kr4 kr5 klr kp0 kp1 kp2 kp3) (some (.int r)) := by
  refine nd_ofCz (by decide) (Nat.le_of_ble_eq_true rfl) (fun p e s m args below meth c_ ls A Q hx hb hml hown hts hl hP hK hD hS hA hN hret => ?_)
  have hown : s.vm.findClass RX2 = some m.cls := hown
  have hl : lv_has ls 5 [(0, .ref (ad 1)), (1, .int x1), (2, .int x2)] := hl
  have hret : ∀ (z0 : Int32) {H : Heap} {locs : List Loc} {pc : Nat} {ls : Array Slot}, some z0 = some r → (z0 = 0 ∨ z0 = 1) → va_P D vwCl (CW ad cI kc ksv kbc kit kln ken kla kfi kea kns kbl kr0 kr1 kr2 kr3 kr4 kr5 klr kp0 kp1 kp2 kp3) H → va_S A s.heap H locs → decode cX2_hasItem pc = .ok (.ireturn, 1) → W p l e ⟨1, 0, 0, 21⟩ s m args below meth c_ H locs 0 0 Q (F0 m pc ls [.int z0]) := by
    intro z0 H locs pc ls h hz hP hS hd
    cases h
    exact hret hz hP hS hd
  rw [fX2_hasItem] at hs
  refine lv_aload_n hx hb dX2_hasItem_0 rfl (lv_at hl 0 rfl) ?_
  refine lv_sipush (v := (231 : Int32)) hx hb dX2_hasItem_1 (by decide) ?_
  refine lv_iload_n hx hb dX2_hasItem_4 rfl (lv_at hl 1 rfl) ?_
  refine lv_iadd hx hb dX2_hasItem_5 ?_
  obtain ⟨q1, eq1, hs⟩ := ob hs
  refine nd_callV (As := [.int ((231 : Int32) + x1)]) (rest := []) (st1 := [.int q1]) hx hb hml hown hts hl hP hK hD hS hA hN (mX0_get eq1) iv_X0_get wd_586 1 rfl rfl rfl rfl ⟨Nat.le_of_ble_eq_true rfl, Nat.le_of_ble_eq_true rfl⟩ (Nat.le_of_ble_eq_true rfl) ⟨Nat.zero_le _, Nat.zero_le _⟩ dX2_hasItem_6 rfl rfl (fun H locs hP hD hS => ?_)
  refine lv_istore_n (lv' := [(3, .int q1), (0, .ref (ad 1)), (1, .int x1), (2, .int x2)]) hx hb dX2_hasItem_9 rfl hl (by decide) rfl (fun ls hl => ?_)
  refine lv_iconst (v := (0 : Int32)) hx hb dX2_hasItem_10 (by decide) ?_
  refine lv_istore (lv' := [(4, .int (0 : Int32)), (3, .int q1), (0, .ref (ad 1)), (1, .int x1), (2, .int x2)]) hx hb dX2_hasItem_11 hl (by decide) rfl (fun ls hl => ?_)
  have L13 : ∀ (n13 : Nat) (k13 : Unit → Option (Int32)) (v4_5 : Int32) (H : Heap) (locs : List Loc) (ls : Array Slot), lv_has ls 5 [(0, .ref (ad 1)), (1, .int x1), (2, .int x2), (3, .int q1), (4, .int v4_5)] → va_P D vwCl (CW ad cI kc ksv kbc kit kln ken kla kfi kea kns kbl kr0 kr1 kr2 kr3 kr4 kr5 klr kp0 kp1 kp2 kp3) H → va_S A s.heap H locs → fX2_hasItem_13 k13 kc x1 x2 q1 n13 v4_5 = some r → (∀ (H : Heap) (locs : List Loc) (ls : Array Slot), lv_has ls 5 [] → va_P D vwCl (CW ad cI kc ksv kbc kit kln ken kla kfi kea kns kbl kr0 kr1 kr2 kr3 kr4 kr5 klr kp0 kp1 kp2 kp3) H → va_S A s.heap H locs → k13 () = some r → W p l e ⟨1, 0, 0, 21⟩ s m args below meth c_ H locs 0 0 Q (F0 m 45 ls [])) → W p l e ⟨1, 0, 0, 21⟩ s m args below meth c_ H locs 0 0 Q (F0 m 13 ls []) := by
    intro n13
    induction n13 with
    | zero =>
      intro k13 v4_5 H locs ls hl hP hS hs hk13
      rw [fX2_hasItem_13] at hs
      cases hs
    | succ n13 ih13 =>
      intro k13 v4_5 H locs ls hl hP hS hs hk13
      rw [fX2_hasItem_13] at hs
      refine lv_iload hx hb dX2_hasItem_13 (lv_at hl 4 rfl) ?_
      refine lv_iload_n hx hb dX2_hasItem_15 rfl (lv_at hl 3 rfl) ?_
      refine lv_icmp_ge (tgt := 45) hx hb dX2_hasItem_16 (by decide) (fun b6 => ?_) (fun b6 => ?_)
      · have hs := ite_t hs b6
        exact hk13  _ _ _ (lv_sub hl [] rfl) hP hS hs
      · have hs := ite_f hs b6
        refine lv_aload_n hx hb dX2_hasItem_19 rfl (lv_at hl 0 rfl) ?_
        refine lv_sipush (v := (291 : Int32)) hx hb dX2_hasItem_20 (by decide) ?_
        refine lv_iload_n hx hb dX2_hasItem_23 rfl (lv_at hl 1 rfl) ?_
        refine lv_iconst (v := (4 : Int32)) hx hb dX2_hasItem_24 (by decide) ?_
        refine lv_imul hx hb dX2_hasItem_25 ?_
        refine lv_iadd hx hb dX2_hasItem_26 ?_
        refine lv_iload hx hb dX2_hasItem_27 (lv_at hl 4 rfl) ?_
        refine lv_iadd hx hb dX2_hasItem_29 ?_
        obtain ⟨q7, eq7, hs⟩ := ob hs
        refine nd_callV (As := [.int (((291 : Int32) + (x1 * (4 : Int32))) + v4_5)]) (rest := []) (st1 := [.int q7]) hx hb hml hown hts hl hP hK hD hS hA hN (mX0_get eq7) iv_X0_get wd_586 1 rfl rfl rfl rfl ⟨Nat.le_of_ble_eq_true rfl, Nat.le_of_ble_eq_true rfl⟩ (Nat.le_of_ble_eq_true rfl) ⟨Nat.zero_le _, Nat.zero_le _⟩ dX2_hasItem_30 rfl rfl (fun H locs hP hD hS => ?_)
        refine lv_iload_n hx hb dX2_hasItem_33 rfl (lv_at hl 2 rfl) ?_
        refine lv_icmp_ne (tgt := 39) hx hb dX2_hasItem_34 (by decide) (fun b8 => ?_) (fun b8 => ?_)
        · have hs := ite_f hs b8
          refine lv_iinc (v := v4_5 + (1 : Int32)) (lv' := [(4, .int (v4_5 + (1 : Int32))), (0, .ref (ad 1)), (1, .int x1), (2, .int x2), (3, .int q1)]) hx hb dX2_hasItem_39 hl (k := 4) rfl rfl (by decide) rfl (fun ls hl => ?_)
          refine lv_goto (tgt := 13) hx hb dX2_hasItem_42 (by decide) ?_
          exact ih13 k13 (v4_5 + (1 : Int32)) _ _ _ (lv_sub hl [1, 2, 3, 4, 0] rfl) hP hS hs hk13
        · have hs := ite_t hs b8
          refine lv_iconst (v := (1 : Int32)) hx hb dX2_hasItem_37 (by decide) ?_
          exact hret _ hs (Or.inr rfl) hP hS dX2_hasItem_38
  refine L13 LF _ (0 : Int32) _ _ _ (lv_sub hl [2, 3, 4, 1, 0] rfl) hP hS hs (fun  H locs ls hl hP hS hs => ?_)
  refine lv_iconst (v := (0 : Int32)) hx hb dX2_hasItem_45 (by decide) ?_
  exact hret _ hs (Or.inl rfl) hP hS dX2_hasItem_46
def tX2_kindOf_0 : List (Nat × Instr × Nat) := [(0, .aload_n 0, 1), (1, .iload_n 1, 1), (2, .invokevirtual 9, 3), (5, .istore_n 2, 1), (6, .aload_n 0, 1), (7, .sipush 171, 3), (10, .iload_n 1, 1), (11, .iadd, 1), (12, .invokevirtual 15, 3), (15, .istore_n 3, 1), (16, .iload_n 3, 1), (17, .iload_n 2, 1), (18, .if_icmp .ne 5, 3), (21, .iconst 0, 1), (22, .ireturn, 1), (23, .iload_n 2, 1), (24, .iload_n 3, 1), (25, .invokestatic 20, 3), (28, .ifCond .eq 5, 3), (31, .iconst 1, 1), (32, .ireturn, 1), (33, .aload_n 0, 1), (34, .iload_n 1, 1), (35, .iload_n 2, 1), (36, .iload_n 3, 1), (37, .isub, 1), (38, .invokestatic 24, 3), (41, .ifCond .eq 5, 3), (44, .iconst 2, 1), (45, .ireturn, 1), (46, .aload_n 0, 1), (47, .iload_n 1, 1), (48, .iload_n 3, 1), (49, .iload_n 2, 1), (50, .isub, 1), (51, .invokestatic 24, 3), (54, .ifCond .eq 5, 3), (57, .iconst 3, 1), (58, .ireturn, 1), (59, .iconst 4, 1), (60, .ireturn, 1)]
theorem tX2_kindOf_0_ok : tX2_kindOf_0.all (fun q => decide (decode cX2_kindOf q.1 = .ok q.2)) = true := by decide +kernel
theorem dX2_kindOf_0 : decode cX2_kindOf 0 = .ok (.aload_n 0, 1) := td tX2_kindOf_0_ok 0 (q := (0, .aload_n 0, 1)) rfl
theorem dX2_kindOf_1 : decode cX2_kindOf 1 = .ok (.iload_n 1, 1) := td tX2_kindOf_0_ok 1 (q := (1, .iload_n 1, 1)) rfl
theorem dX2_kindOf_2 : decode cX2_kindOf 2 = .ok (.invokevirtual 9, 3) := td tX2_kindOf_0_ok 2 (q := (2, .invokevirtual 9, 3)) rfl
theorem dX2_kindOf_5 : decode cX2_kindOf 5 = .ok (.istore_n 2, 1) := td tX2_kindOf_0_ok 3 (q := (5, .istore_n 2, 1)) rfl
theorem dX2_kindOf_6 : decode cX2_kindOf 6 = .ok (.aload_n 0, 1) := td tX2_kindOf_0_ok 4 (q := (6, .aload_n 0, 1)) rfl
theorem dX2_kindOf_7 : decode cX2_kindOf 7 = .ok (.sipush 171, 3) := td tX2_kindOf_0_ok 5 (q := (7, .sipush 171, 3)) rfl
theorem dX2_kindOf_10 : decode cX2_kindOf 10 = .ok (.iload_n 1, 1) := td tX2_kindOf_0_ok 6 (q := (10, .iload_n 1, 1)) rfl
theorem dX2_kindOf_11 : decode cX2_kindOf 11 = .ok (.iadd, 1) := td tX2_kindOf_0_ok 7 (q := (11, .iadd, 1)) rfl
theorem dX2_kindOf_12 : decode cX2_kindOf 12 = .ok (.invokevirtual 15, 3) := td tX2_kindOf_0_ok 8 (q := (12, .invokevirtual 15, 3)) rfl
theorem dX2_kindOf_15 : decode cX2_kindOf 15 = .ok (.istore_n 3, 1) := td tX2_kindOf_0_ok 9 (q := (15, .istore_n 3, 1)) rfl
theorem dX2_kindOf_16 : decode cX2_kindOf 16 = .ok (.iload_n 3, 1) := td tX2_kindOf_0_ok 10 (q := (16, .iload_n 3, 1)) rfl
theorem dX2_kindOf_17 : decode cX2_kindOf 17 = .ok (.iload_n 2, 1) := td tX2_kindOf_0_ok 11 (q := (17, .iload_n 2, 1)) rfl
theorem dX2_kindOf_18 : decode cX2_kindOf 18 = .ok (.if_icmp .ne 5, 3) := td tX2_kindOf_0_ok 12 (q := (18, .if_icmp .ne 5, 3)) rfl
theorem dX2_kindOf_21 : decode cX2_kindOf 21 = .ok (.iconst 0, 1) := td tX2_kindOf_0_ok 13 (q := (21, .iconst 0, 1)) rfl
theorem dX2_kindOf_22 : decode cX2_kindOf 22 = .ok (.ireturn, 1) := td tX2_kindOf_0_ok 14 (q := (22, .ireturn, 1)) rfl
theorem dX2_kindOf_23 : decode cX2_kindOf 23 = .ok (.iload_n 2, 1) := td tX2_kindOf_0_ok 15 (q := (23, .iload_n 2, 1)) rfl
theorem dX2_kindOf_24 : decode cX2_kindOf 24 = .ok (.iload_n 3, 1) := td tX2_kindOf_0_ok 16 (q := (24, .iload_n 3, 1)) rfl
theorem dX2_kindOf_25 : decode cX2_kindOf 25 = .ok (.invokestatic 20, 3) := td tX2_kindOf_0_ok 17 (q := (25, .invokestatic 20, 3)) rfl
theorem dX2_kindOf_28 : decode cX2_kindOf 28 = .ok (.ifCond .eq 5, 3) := td tX2_kindOf_0_ok 18 (q := (28, .ifCond .eq 5, 3)) rfl
theorem dX2_kindOf_31 : decode cX2_kindOf 31 = .ok (.iconst 1, 1) := td tX2_kindOf_0_ok 19 (q := (31, .iconst 1, 1)) rfl
theorem dX2_kindOf_32 : decode cX2_kindOf 32 = .ok (.ireturn, 1) := td tX2_kindOf_0_ok 20 (q := (32, .ireturn, 1)) rfl
theorem dX2_kindOf_33 : decode cX2_kindOf 33 = .ok (.aload_n 0, 1) := td tX2_kindOf_0_ok 21 (q := (33, .aload_n 0, 1)) rfl
theorem dX2_kindOf_34 : decode cX2_kindOf 34 = .ok (.iload_n 1, 1) := td tX2_kindOf_0_ok 22 (q := (34, .iload_n 1, 1)) rfl
theorem dX2_kindOf_35 : decode cX2_kindOf 35 = .ok (.iload_n 2, 1) := td tX2_kindOf_0_ok 23 (q := (35, .iload_n 2, 1)) rfl
theorem dX2_kindOf_36 : decode cX2_kindOf 36 = .ok (.iload_n 3, 1) := td tX2_kindOf_0_ok 24 (q := (36, .iload_n 3, 1)) rfl
theorem dX2_kindOf_37 : decode cX2_kindOf 37 = .ok (.isub, 1) := td tX2_kindOf_0_ok 25 (q := (37, .isub, 1)) rfl
theorem dX2_kindOf_38 : decode cX2_kindOf 38 = .ok (.invokestatic 24, 3) := td tX2_kindOf_0_ok 26 (q := (38, .invokestatic 24, 3)) rfl
theorem dX2_kindOf_41 : decode cX2_kindOf 41 = .ok (.ifCond .eq 5, 3) := td tX2_kindOf_0_ok 27 (q := (41, .ifCond .eq 5, 3)) rfl
theorem dX2_kindOf_44 : decode cX2_kindOf 44 = .ok (.iconst 2, 1) := td tX2_kindOf_0_ok 28 (q := (44, .iconst 2, 1)) rfl
theorem dX2_kindOf_45 : decode cX2_kindOf 45 = .ok (.ireturn, 1) := td tX2_kindOf_0_ok 29 (q := (45, .ireturn, 1)) rfl
theorem dX2_kindOf_46 : decode cX2_kindOf 46 = .ok (.aload_n 0, 1) := td tX2_kindOf_0_ok 30 (q := (46, .aload_n 0, 1)) rfl
theorem dX2_kindOf_47 : decode cX2_kindOf 47 = .ok (.iload_n 1, 1) := td tX2_kindOf_0_ok 31 (q := (47, .iload_n 1, 1)) rfl
theorem dX2_kindOf_48 : decode cX2_kindOf 48 = .ok (.iload_n 3, 1) := td tX2_kindOf_0_ok 32 (q := (48, .iload_n 3, 1)) rfl
theorem dX2_kindOf_49 : decode cX2_kindOf 49 = .ok (.iload_n 2, 1) := td tX2_kindOf_0_ok 33 (q := (49, .iload_n 2, 1)) rfl
theorem dX2_kindOf_50 : decode cX2_kindOf 50 = .ok (.isub, 1) := td tX2_kindOf_0_ok 34 (q := (50, .isub, 1)) rfl
theorem dX2_kindOf_51 : decode cX2_kindOf 51 = .ok (.invokestatic 24, 3) := td tX2_kindOf_0_ok 35 (q := (51, .invokestatic 24, 3)) rfl
theorem dX2_kindOf_54 : decode cX2_kindOf 54 = .ok (.ifCond .eq 5, 3) := td tX2_kindOf_0_ok 36 (q := (54, .ifCond .eq 5, 3)) rfl
theorem dX2_kindOf_57 : decode cX2_kindOf 57 = .ok (.iconst 3, 1) := td tX2_kindOf_0_ok 37 (q := (57, .iconst 3, 1)) rfl
theorem dX2_kindOf_58 : decode cX2_kindOf 58 = .ok (.ireturn, 1) := td tX2_kindOf_0_ok 38 (q := (58, .ireturn, 1)) rfl
theorem dX2_kindOf_59 : decode cX2_kindOf 59 = .ok (.iconst 4, 1) := td tX2_kindOf_0_ok 39 (q := (59, .iconst 4, 1)) rfl
theorem dX2_kindOf_60 : decode cX2_kindOf 60 = .ok (.ireturn, 1) := td tX2_kindOf_0_ok 40 (q := (60, .ireturn, 1)) rfl
def fX2_kindOf (kc : (Nat → Int32)) (x1 : Int32) : Option (Int32) :=
  (Option.bind (fX0_sumOf kc x1) (fun q1 => (Option.bind (fX0_get kc ((171 : Int32) + x1)) (fun q2 => (if q2 = q1 then (some (0 : Int32)) else (Option.bind (fX2_isTurned q1 q2) (fun q4 => (if q4 = 0 then (Option.bind (fX2_hasItem kc x1 (q1 - q2)) (fun q6 => (if q6 = 0 then (Option.bind (fX2_hasItem kc x1 (q2 - q1)) (fun q8 => (if q8 = 0 then (some (4 : Int32)) else (some (3 : Int32))))) else (some (2 : Int32))))) else (some (1 : Int32))))))))))
set_option maxHeartbeats 4000000 in
set_option maxRecDepth 100000 in
theorem mX2_kindOf {l : Launch} {D : va_G} {ad : Nat → Nat} {cI : ClassId} {kc : (Nat → Int32)} {ksv : (Nat → Int32)} {kbc : (Nat → Int32)} {kit : (Nat → Int32)} {kln : (Nat → Int32)} {ken : (Nat → Int32)} {kla : (Nat → Int32)} {kfi : (Nat → Int32)} {kea : (Nat → Int32)} {kns : Int32} {kbl : Int32} {kr0 : Int32} {kr1 : Int32} {kr2 : Int32} {kr3 : Int32} {kr4 : Int32} {kr5 : Int32} {klr : Int32} {kp0 : Int32} {kp1 : Int32} {kp2 : Int32} {kp3 : Int32} {x1 : Int32} {r : Int32} (hs : fX2_kindOf kc x1 = some r) : nd_C l yX2_kindOf cX2_kindOf 4 (some .int) 2 46 D [(cI, .int)] [.ref (ad 1), .int x1] (CW ad cI kc ksv kbc kit kln ken kla kfi kea kns kbl kr0 kr1 kr2 kr3 kr4 kr5 klr kp0 kp1 kp2 kp3) (CW ad cI kc ksv kbc kit kln ken kla kfi kea kns kbl kr0 kr1 kr2 kr3 kr4 kr5 klr kp0 kp1 kp2 kp3) (some (.int r)) := by
  refine nd_ofCi (by decide) (Nat.le_of_ble_eq_true rfl) (fun p e s m args below meth c_ ls A Q hx hb hml hown hts hl hP hK hD hS hA hN hret => ?_)
  have hown : s.vm.findClass RX2 = some m.cls := hown
  have hl : lv_has ls 4 [(0, .ref (ad 1)), (1, .int x1)] := hl
  have hret : ∀ (z0 : Int32) {H : Heap} {locs : List Loc} {pc : Nat} {ls : Array Slot}, some z0 = some r → va_P D vwCl (CW ad cI kc ksv kbc kit kln ken kla kfi kea kns kbl kr0 kr1 kr2 kr3 kr4 kr5 klr kp0 kp1 kp2 kp3) H → va_S A s.heap H locs → decode cX2_kindOf pc = .ok (.ireturn, 1) → W p l e ⟨2, 0, 0, 46⟩ s m args below meth c_ H locs 0 0 Q (F0 m pc ls [.int z0]) := by
    intro z0 H locs pc ls h hP hS hd
    cases h
    exact hret hP hS hd
  rw [fX2_kindOf] at hs
  refine lv_aload_n hx hb dX2_kindOf_0 rfl (lv_at hl 0 rfl) ?_
  refine lv_iload_n hx hb dX2_kindOf_1 rfl (lv_at hl 1 rfl) ?_
  obtain ⟨q1, eq1, hs⟩ := ob hs
  refine nd_callV (As := [.int x1]) (rest := []) (st1 := [.int q1]) hx hb hml hown hts hl hP hK hD hS hA hN (mX0_sumOf eq1) iv_X0_sumOf wd_585 1 rfl rfl rfl rfl ⟨Nat.le_of_ble_eq_true rfl, Nat.le_of_ble_eq_true rfl⟩ (Nat.le_of_ble_eq_true rfl) ⟨Nat.zero_le _, Nat.zero_le _⟩ dX2_kindOf_2 rfl rfl (fun H locs hP hD hS => ?_)
  refine lv_istore_n (lv' := [(2, .int q1), (0, .ref (ad 1)), (1, .int x1)]) hx hb dX2_kindOf_5 rfl hl (by decide) rfl (fun ls hl => ?_)
  refine lv_aload_n hx hb dX2_kindOf_6 rfl (lv_at hl 1 rfl) ?_
  refine lv_sipush (v := (171 : Int32)) hx hb dX2_kindOf_7 (by decide) ?_
  refine lv_iload_n hx hb dX2_kindOf_10 rfl (lv_at hl 2 rfl) ?_
  refine lv_iadd hx hb dX2_kindOf_11 ?_
  obtain ⟨q2, eq2, hs⟩ := ob hs
  refine nd_callV (As := [.int ((171 : Int32) + x1)]) (rest := []) (st1 := [.int q2]) hx hb hml hown hts hl hP hK hD hS hA hN (mX0_get eq2) iv_X0_get wd_586 1 rfl rfl rfl rfl ⟨Nat.le_of_ble_eq_true rfl, Nat.le_of_ble_eq_true rfl⟩ (Nat.le_of_ble_eq_true rfl) ⟨Nat.zero_le _, Nat.zero_le _⟩ dX2_kindOf_12 rfl rfl (fun H locs hP hD hS => ?_)
  refine lv_istore_n (lv' := [(3, .int q2), (2, .int q1), (0, .ref (ad 1)), (1, .int x1)]) hx hb dX2_kindOf_15 rfl hl (by decide) rfl (fun ls hl => ?_)
  refine lv_iload_n hx hb dX2_kindOf_16 rfl (lv_at hl 0 rfl) ?_
  refine lv_iload_n hx hb dX2_kindOf_17 rfl (lv_at hl 1 rfl) ?_
  refine lv_icmp_ne (tgt := 23) hx hb dX2_kindOf_18 (by decide) (fun b3 => ?_) (fun b3 => ?_)
  · have hs := ite_f hs b3
    refine lv_iload_n hx hb dX2_kindOf_23 rfl (lv_at hl 1 rfl) ?_
    refine lv_iload_n hx hb dX2_kindOf_24 rfl (lv_at hl 0 rfl) ?_
    obtain ⟨q4, eq4, hs⟩ := ob hs
    refine nd_callS (As := [.int q1, .int q2]) (rest := []) (st1 := [.int q4]) hx hb hml hown hts hl hP hK hD hS hA hN (mX2_isTurned eq4) is_X2_isTurned wd_587 rfl rfl ⟨Nat.le_of_ble_eq_true rfl, Nat.le_of_ble_eq_true rfl⟩ (Nat.le_of_ble_eq_true rfl) ⟨Nat.zero_le _, Nat.zero_le _⟩ dX2_kindOf_25 rfl rfl (fun H locs hP hD hS => ?_)
    refine lv_if_eq (tgt := 33) hx hb dX2_kindOf_28 (by decide) (fun b5 => ?_) (fun b5 => ?_)
    · have hs := ite_t hs b5
      refine lv_aload_n hx hb dX2_kindOf_33 rfl (lv_at hl 2 rfl) ?_
      refine lv_iload_n hx hb dX2_kindOf_34 rfl (lv_at hl 3 rfl) ?_
      refine lv_iload_n hx hb dX2_kindOf_35 rfl (lv_at hl 1 rfl) ?_
      refine lv_iload_n hx hb dX2_kindOf_36 rfl (lv_at hl 0 rfl) ?_
      refine lv_isub hx hb dX2_kindOf_37 ?_
      obtain ⟨q6, eq6, hs⟩ := ob hs
      refine nd_callS (As := [.ref (ad 1), .int x1, .int (q1 - q2)]) (rest := []) (st1 := [.int q6]) hx hb hml hown hts hl hP hK hD hS hA hN (mX2_hasItem eq6) is_X2_hasItem wd_593 rfl rfl ⟨Nat.le_of_ble_eq_true rfl, Nat.le_of_ble_eq_true rfl⟩ (Nat.le_of_ble_eq_true rfl) ⟨Nat.zero_le _, Nat.zero_le _⟩ dX2_kindOf_38 rfl rfl (fun H locs hP hD hS => ?_)
      refine lv_if_eq (tgt := 46) hx hb dX2_kindOf_41 (by decide) (fun b7 => ?_) (fun b7 => ?_)
      · have hs := ite_t hs b7
        refine lv_aload_n hx hb dX2_kindOf_46 rfl (lv_at hl 2 rfl) ?_
        refine lv_iload_n hx hb dX2_kindOf_47 rfl (lv_at hl 3 rfl) ?_
        refine lv_iload_n hx hb dX2_kindOf_48 rfl (lv_at hl 0 rfl) ?_
        refine lv_iload_n hx hb dX2_kindOf_49 rfl (lv_at hl 1 rfl) ?_
        refine lv_isub hx hb dX2_kindOf_50 ?_
        obtain ⟨q8, eq8, hs⟩ := ob hs
        refine nd_callS (As := [.ref (ad 1), .int x1, .int (q2 - q1)]) (rest := []) (st1 := [.int q8]) hx hb hml hown hts hl hP hK hD hS hA hN (mX2_hasItem eq8) is_X2_hasItem wd_593 rfl rfl ⟨Nat.le_of_ble_eq_true rfl, Nat.le_of_ble_eq_true rfl⟩ (Nat.le_of_ble_eq_true rfl) ⟨Nat.zero_le _, Nat.zero_le _⟩ dX2_kindOf_51 rfl rfl (fun H locs hP hD hS => ?_)
        refine lv_if_eq (tgt := 59) hx hb dX2_kindOf_54 (by decide) (fun b9 => ?_) (fun b9 => ?_)
        · have hs := ite_t hs b9
          refine lv_iconst (v := (4 : Int32)) hx hb dX2_kindOf_59 (by decide) ?_
          exact hret _ hs hP hS dX2_kindOf_60
        · have hs := ite_f hs b9
          refine lv_iconst (v := (3 : Int32)) hx hb dX2_kindOf_57 (by decide) ?_
          exact hret _ hs hP hS dX2_kindOf_58
      · have hs := ite_f hs b7
        refine lv_iconst (v := (2 : Int32)) hx hb dX2_kindOf_44 (by decide) ?_
        exact hret _ hs hP hS dX2_kindOf_45
    · have hs := ite_f hs b5
      refine lv_iconst (v := (1 : Int32)) hx hb dX2_kindOf_31 (by decide) ?_
      exact hret _ hs hP hS dX2_kindOf_32
  · have hs := ite_t hs b3
    refine lv_iconst (v := (0 : Int32)) hx hb dX2_kindOf_21 (by decide) ?_
    exact hret _ hs hP hS dX2_kindOf_22
def tX3_obstacle_0 : List (Nat × Instr × Nat) := [(0, .aload_n 0, 1), (1, .bipush 11, 2), (3, .iload_n 1, 1), (4, .iadd, 1), (5, .invokevirtual 11, 3), (8, .aload_n 0, 1), (9, .iconst 1, 1), (10, .iload_n 2, 1), (11, .iadd, 1), (12, .invokevirtual 11, 3), (15, .iadd, 1), (16, .bipush 99, 2), (18, .if_icmp .eq 5, 3), (21, .iconst 1, 1), (22, .ireturn, 1), (23, .aload_n 0, 1), (24, .bipush 31, 2), (26, .iload_n 1, 1), (27, .iadd, 1), (28, .invokevirtual 11, 3), (31, .iconst (-1), 1), (32, .if_icmp .eq 5, 3), (35, .iconst 2, 1), (36, .ireturn, 1), (37, .aload_n 0, 1), (38, .bipush 21, 2), (40, .iload_n 2, 1), (41, .iadd, 1), (42, .invokevirtual 11, 3), (45, .iconst (-1), 1), (46, .if_icmp .eq 5, 3), (49, .iconst 3, 1), (50, .ireturn, 1), (51, .aload_n 0, 1), (52, .iload_n 1, 1), (53, .invokevirtual 17, 3), (56, .iload_n 2, 1), (57, .if_icmp .ne 5, 3), (60, .iconst 4, 1), (61, .ireturn, 1), (62, .aload_n 0, 1), (63, .iload_n 1, 1), (64, .invokevirtual 20, 3), (67, .aload_n 0, 1), (68, .iload_n 2, 1), (69, .invokevirtual 23, 3), (72, .if_icmp .le 7, 3), (75, .iconst 5, 1), (76, .goto 4, 3), (79, .iconst 0, 1), (80, .ireturn, 1)]
theorem tX3_obstacle_0_ok : tX3_obstacle_0.all (fun q => decide (decode cX3_obstacle q.1 = .ok q.2)) = true := by decide +kernel
theorem dX3_obstacle_0 : decode cX3_obstacle 0 = .ok (.aload_n 0, 1) := td tX3_obstacle_0_ok 0 (q := (0, .aload_n 0, 1)) rfl
theorem dX3_obstacle_1 : decode cX3_obstacle 1 = .ok (.bipush 11, 2) := td tX3_obstacle_0_ok 1 (q := (1, .bipush 11, 2)) rfl
theorem dX3_obstacle_3 : decode cX3_obstacle 3 = .ok (.iload_n 1, 1) := td tX3_obstacle_0_ok 2 (q := (3, .iload_n 1, 1)) rfl
theorem dX3_obstacle_4 : decode cX3_obstacle 4 = .ok (.iadd, 1) := td tX3_obstacle_0_ok 3 (q := (4, .iadd, 1)) rfl
theorem dX3_obstacle_5 : decode cX3_obstacle 5 = .ok (.invokevirtual 11, 3) := td tX3_obstacle_0_ok 4 (q := (5, .invokevirtual 11, 3)) rfl
theorem dX3_obstacle_8 : decode cX3_obstacle 8 = .ok (.aload_n 0, 1) := td tX3_obstacle_0_ok 5 (q := (8, .aload_n 0, 1)) rfl
theorem dX3_obstacle_9 : decode cX3_obstacle 9 = .ok (.iconst 1, 1) := td tX3_obstacle_0_ok 6 (q := (9, .iconst 1, 1)) rfl
theorem dX3_obstacle_10 : decode cX3_obstacle 10 = .ok (.iload_n 2, 1) := td tX3_obstacle_0_ok 7 (q := (10, .iload_n 2, 1)) rfl
theorem dX3_obstacle_11 : decode cX3_obstacle 11 = .ok (.iadd, 1) := td tX3_obstacle_0_ok 8 (q := (11, .iadd, 1)) rfl
theorem dX3_obstacle_12 : decode cX3_obstacle 12 = .ok (.invokevirtual 11, 3) := td tX3_obstacle_0_ok 9 (q := (12, .invokevirtual 11, 3)) rfl
theorem dX3_obstacle_15 : decode cX3_obstacle 15 = .ok (.iadd, 1) := td tX3_obstacle_0_ok 10 (q := (15, .iadd, 1)) rfl
theorem dX3_obstacle_16 : decode cX3_obstacle 16 = .ok (.bipush 99, 2) := td tX3_obstacle_0_ok 11 (q := (16, .bipush 99, 2)) rfl
theorem dX3_obstacle_18 : decode cX3_obstacle 18 = .ok (.if_icmp .eq 5, 3) := td tX3_obstacle_0_ok 12 (q := (18, .if_icmp .eq 5, 3)) rfl
theorem dX3_obstacle_21 : decode cX3_obstacle 21 = .ok (.iconst 1, 1) := td tX3_obstacle_0_ok 13 (q := (21, .iconst 1, 1)) rfl
theorem dX3_obstacle_22 : decode cX3_obstacle 22 = .ok (.ireturn, 1) := td tX3_obstacle_0_ok 14 (q := (22, .ireturn, 1)) rfl
theorem dX3_obstacle_23 : decode cX3_obstacle 23 = .ok (.aload_n 0, 1) := td tX3_obstacle_0_ok 15 (q := (23, .aload_n 0, 1)) rfl
theorem dX3_obstacle_24 : decode cX3_obstacle 24 = .ok (.bipush 31, 2) := td tX3_obstacle_0_ok 16 (q := (24, .bipush 31, 2)) rfl
theorem dX3_obstacle_26 : decode cX3_obstacle 26 = .ok (.iload_n 1, 1) := td tX3_obstacle_0_ok 17 (q := (26, .iload_n 1, 1)) rfl
theorem dX3_obstacle_27 : decode cX3_obstacle 27 = .ok (.iadd, 1) := td tX3_obstacle_0_ok 18 (q := (27, .iadd, 1)) rfl
theorem dX3_obstacle_28 : decode cX3_obstacle 28 = .ok (.invokevirtual 11, 3) := td tX3_obstacle_0_ok 19 (q := (28, .invokevirtual 11, 3)) rfl
theorem dX3_obstacle_31 : decode cX3_obstacle 31 = .ok (.iconst (-1), 1) := td tX3_obstacle_0_ok 20 (q := (31, .iconst (-1), 1)) rfl
theorem dX3_obstacle_32 : decode cX3_obstacle 32 = .ok (.if_icmp .eq 5, 3) := td tX3_obstacle_0_ok 21 (q := (32, .if_icmp .eq 5, 3)) rfl
theorem dX3_obstacle_35 : decode cX3_obstacle 35 = .ok (.iconst 2, 1) := td tX3_obstacle_0_ok 22 (q := (35, .iconst 2, 1)) rfl
theorem dX3_obstacle_36 : decode cX3_obstacle 36 = .ok (.ireturn, 1) := td tX3_obstacle_0_ok 23 (q := (36, .ireturn, 1)) rfl
theorem dX3_obstacle_37 : decode cX3_obstacle 37 = .ok (.aload_n 0, 1) := td tX3_obstacle_0_ok 24 (q := (37, .aload_n 0, 1)) rfl
theorem dX3_obstacle_38 : decode cX3_obstacle 38 = .ok (.bipush 21, 2) := td tX3_obstacle_0_ok 25 (q := (38, .bipush 21, 2)) rfl
theorem dX3_obstacle_40 : decode cX3_obstacle 40 = .ok (.iload_n 2, 1) := td tX3_obstacle_0_ok 26 (q := (40, .iload_n 2, 1)) rfl
theorem dX3_obstacle_41 : decode cX3_obstacle 41 = .ok (.iadd, 1) := td tX3_obstacle_0_ok 27 (q := (41, .iadd, 1)) rfl
theorem dX3_obstacle_42 : decode cX3_obstacle 42 = .ok (.invokevirtual 11, 3) := td tX3_obstacle_0_ok 28 (q := (42, .invokevirtual 11, 3)) rfl
theorem dX3_obstacle_45 : decode cX3_obstacle 45 = .ok (.iconst (-1), 1) := td tX3_obstacle_0_ok 29 (q := (45, .iconst (-1), 1)) rfl
theorem dX3_obstacle_46 : decode cX3_obstacle 46 = .ok (.if_icmp .eq 5, 3) := td tX3_obstacle_0_ok 30 (q := (46, .if_icmp .eq 5, 3)) rfl
theorem dX3_obstacle_49 : decode cX3_obstacle 49 = .ok (.iconst 3, 1) := td tX3_obstacle_0_ok 31 (q := (49, .iconst 3, 1)) rfl
theorem dX3_obstacle_50 : decode cX3_obstacle 50 = .ok (.ireturn, 1) := td tX3_obstacle_0_ok 32 (q := (50, .ireturn, 1)) rfl
theorem dX3_obstacle_51 : decode cX3_obstacle 51 = .ok (.aload_n 0, 1) := td tX3_obstacle_0_ok 33 (q := (51, .aload_n 0, 1)) rfl
theorem dX3_obstacle_52 : decode cX3_obstacle 52 = .ok (.iload_n 1, 1) := td tX3_obstacle_0_ok 34 (q := (52, .iload_n 1, 1)) rfl
theorem dX3_obstacle_53 : decode cX3_obstacle 53 = .ok (.invokevirtual 17, 3) := td tX3_obstacle_0_ok 35 (q := (53, .invokevirtual 17, 3)) rfl
theorem dX3_obstacle_56 : decode cX3_obstacle 56 = .ok (.iload_n 2, 1) := td tX3_obstacle_0_ok 36 (q := (56, .iload_n 2, 1)) rfl
theorem dX3_obstacle_57 : decode cX3_obstacle 57 = .ok (.if_icmp .ne 5, 3) := td tX3_obstacle_0_ok 37 (q := (57, .if_icmp .ne 5, 3)) rfl
theorem dX3_obstacle_60 : decode cX3_obstacle 60 = .ok (.iconst 4, 1) := td tX3_obstacle_0_ok 38 (q := (60, .iconst 4, 1)) rfl
theorem dX3_obstacle_61 : decode cX3_obstacle 61 = .ok (.ireturn, 1) := td tX3_obstacle_0_ok 39 (q := (61, .ireturn, 1)) rfl
theorem dX3_obstacle_62 : decode cX3_obstacle 62 = .ok (.aload_n 0, 1) := td tX3_obstacle_0_ok 40 (q := (62, .aload_n 0, 1)) rfl
theorem dX3_obstacle_63 : decode cX3_obstacle 63 = .ok (.iload_n 1, 1) := td tX3_obstacle_0_ok 41 (q := (63, .iload_n 1, 1)) rfl
theorem dX3_obstacle_64 : decode cX3_obstacle 64 = .ok (.invokevirtual 20, 3) := td tX3_obstacle_0_ok 42 (q := (64, .invokevirtual 20, 3)) rfl
theorem dX3_obstacle_67 : decode cX3_obstacle 67 = .ok (.aload_n 0, 1) := td tX3_obstacle_0_ok 43 (q := (67, .aload_n 0, 1)) rfl
theorem dX3_obstacle_68 : decode cX3_obstacle 68 = .ok (.iload_n 2, 1) := td tX3_obstacle_0_ok 44 (q := (68, .iload_n 2, 1)) rfl
theorem dX3_obstacle_69 : decode cX3_obstacle 69 = .ok (.invokevirtual 23, 3) := td tX3_obstacle_0_ok 45 (q := (69, .invokevirtual 23, 3)) rfl
theorem dX3_obstacle_72 : decode cX3_obstacle 72 = .ok (.if_icmp .le 7, 3) := td tX3_obstacle_0_ok 46 (q := (72, .if_icmp .le 7, 3)) rfl
theorem dX3_obstacle_75 : decode cX3_obstacle 75 = .ok (.iconst 5, 1) := td tX3_obstacle_0_ok 47 (q := (75, .iconst 5, 1)) rfl
theorem dX3_obstacle_76 : decode cX3_obstacle 76 = .ok (.goto 4, 3) := td tX3_obstacle_0_ok 48 (q := (76, .goto 4, 3)) rfl
theorem dX3_obstacle_79 : decode cX3_obstacle 79 = .ok (.iconst 0, 1) := td tX3_obstacle_0_ok 49 (q := (79, .iconst 0, 1)) rfl
theorem dX3_obstacle_80 : decode cX3_obstacle 80 = .ok (.ireturn, 1) := td tX3_obstacle_0_ok 50 (q := (80, .ireturn, 1)) rfl
def fX3_obstacle (kc : (Nat → Int32)) (x1 : Int32) (x2 : Int32) : Option (Int32) :=
  (Option.bind (fX0_get kc ((11 : Int32) + x1)) (fun q1 => (Option.bind (fX0_get kc ((1 : Int32) + x2)) (fun q2 => (if (q1 + q2) = (99 : Int32) then (Option.bind (fX0_get kc ((31 : Int32) + x1)) (fun q4 => (if q4 = (-1 : Int32) then (Option.bind (fX0_get kc ((21 : Int32) + x2)) (fun q6 => (if q6 = (-1 : Int32) then (Option.bind (fX0_firstOfRoll kc x1) (fun q8 => (if q8 = x2 then (some (4 : Int32)) else (Option.bind (fX0_lastTimeUpTo kc x1) (fun q10 => (Option.bind (fX0_firstTimeFrom kc x2) (fun q11 => (if q10 ≤ q11 then (some (0 : Int32)) else (some (5 : Int32)))))))))) else (some (3 : Int32))))) else (some (2 : Int32))))) else (some (1 : Int32)))))))
set_option maxHeartbeats 4000000 in
set_option maxRecDepth 100000 in
theorem mX3_obstacle {l : Launch} {D : va_G} {ad : Nat → Nat} {cI : ClassId} {kc : (Nat → Int32)} {ksv : (Nat → Int32)} {kbc : (Nat → Int32)} {kit : (Nat → Int32)} {kln : (Nat → Int32)} {ken : (Nat → Int32)} {kla : (Nat → Int32)} {kfi : (Nat → Int32)} {kea : (Nat → Int32)} {kns : Int32} {kbl : Int32} {kr0 : Int32} {kr1 : Int32} {kr2 : Int32} {kr3 : Int32} {kr4 : Int32} {kr5 : Int32} {klr : Int32} {kp0 : Int32} {kp1 : Int32} {kp2 : Int32} {kp3 : Int32} {x1 : Int32} {x2 : Int32} {r : Int32} (hs : fX3_obstacle kc x1 x2 = some r) : nd_C l yX3_obstacle cX3_obstacle 3 (some .int) 2 45 D [(cI, .int)] [.ref (ad 1), .int x1, .int x2] (CW ad cI kc ksv kbc kit kln ken kla kfi kea kns kbl kr0 kr1 kr2 kr3 kr4 kr5 klr kp0 kp1 kp2 kp3) (CW ad cI kc ksv kbc kit kln ken kla kfi kea kns kbl kr0 kr1 kr2 kr3 kr4 kr5 klr kp0 kp1 kp2 kp3) (some (.int r)) := by
  refine nd_ofCi (by decide) (Nat.le_of_ble_eq_true rfl) (fun p e s m args below meth c_ ls A Q hx hb hml hown hts hl hP hK hD hS hA hN hret => ?_)
  have hown : s.vm.findClass RX3 = some m.cls := hown
  have hl : lv_has ls 3 [(0, .ref (ad 1)), (1, .int x1), (2, .int x2)] := hl
  have hret : ∀ (z0 : Int32) {H : Heap} {locs : List Loc} {pc : Nat} {ls : Array Slot}, some z0 = some r → va_P D vwCl (CW ad cI kc ksv kbc kit kln ken kla kfi kea kns kbl kr0 kr1 kr2 kr3 kr4 kr5 klr kp0 kp1 kp2 kp3) H → va_S A s.heap H locs → decode cX3_obstacle pc = .ok (.ireturn, 1) → W p l e ⟨2, 0, 0, 45⟩ s m args below meth c_ H locs 0 0 Q (F0 m pc ls [.int z0]) := by
    intro z0 H locs pc ls h hP hS hd
    cases h
    exact hret hP hS hd
  rw [fX3_obstacle] at hs
  refine lv_aload_n hx hb dX3_obstacle_0 rfl (lv_at hl 0 rfl) ?_
  refine lv_bipush (v := (11 : Int32)) hx hb dX3_obstacle_1 (by decide) ?_
  refine lv_iload_n hx hb dX3_obstacle_3 rfl (lv_at hl 1 rfl) ?_
  refine lv_iadd hx hb dX3_obstacle_4 ?_
  obtain ⟨q1, eq1, hs⟩ := ob hs
  refine nd_callV (As := [.int ((11 : Int32) + x1)]) (rest := []) (st1 := [.int q1]) hx hb hml hown hts hl hP hK hD hS hA hN (mX0_get eq1) iv_X0_get wd_383 1 rfl rfl rfl rfl ⟨Nat.le_of_ble_eq_true rfl, Nat.le_of_ble_eq_true rfl⟩ (Nat.le_of_ble_eq_true rfl) ⟨Nat.zero_le _, Nat.zero_le _⟩ dX3_obstacle_5 rfl rfl (fun H locs hP hD hS => ?_)
  refine lv_aload_n hx hb dX3_obstacle_8 rfl (lv_at hl 0 rfl) ?_
  refine lv_iconst (v := (1 : Int32)) hx hb dX3_obstacle_9 (by decide) ?_
  refine lv_iload_n hx hb dX3_obstacle_10 rfl (lv_at hl 2 rfl) ?_
  refine lv_iadd hx hb dX3_obstacle_11 ?_
  obtain ⟨q2, eq2, hs⟩ := ob hs
  refine nd_callV (As := [.int ((1 : Int32) + x2)]) (rest := [.int q1]) (st1 := [.int q2, .int q1]) hx hb hml hown hts hl hP hK hD hS hA hN (mX0_get eq2) iv_X0_get wd_383 1 rfl rfl rfl rfl ⟨Nat.le_of_ble_eq_true rfl, Nat.le_of_ble_eq_true rfl⟩ (Nat.le_of_ble_eq_true rfl) ⟨Nat.zero_le _, Nat.zero_le _⟩ dX3_obstacle_12 rfl rfl (fun H locs hP hD hS => ?_)
  refine lv_iadd hx hb dX3_obstacle_15 ?_
  refine lv_bipush (v := (99 : Int32)) hx hb dX3_obstacle_16 (by decide) ?_
  refine lv_icmp_eq (tgt := 23) hx hb dX3_obstacle_18 (by decide) (fun b3 => ?_) (fun b3 => ?_)
  · have hs := ite_t hs b3
    refine lv_aload_n hx hb dX3_obstacle_23 rfl (lv_at hl 0 rfl) ?_
    refine lv_bipush (v := (31 : Int32)) hx hb dX3_obstacle_24 (by decide) ?_
    refine lv_iload_n hx hb dX3_obstacle_26 rfl (lv_at hl 1 rfl) ?_
    refine lv_iadd hx hb dX3_obstacle_27 ?_
    obtain ⟨q4, eq4, hs⟩ := ob hs
    refine nd_callV (As := [.int ((31 : Int32) + x1)]) (rest := []) (st1 := [.int q4]) hx hb hml hown hts hl hP hK hD hS hA hN (mX0_get eq4) iv_X0_get wd_383 1 rfl rfl rfl rfl ⟨Nat.le_of_ble_eq_true rfl, Nat.le_of_ble_eq_true rfl⟩ (Nat.le_of_ble_eq_true rfl) ⟨Nat.zero_le _, Nat.zero_le _⟩ dX3_obstacle_28 rfl rfl (fun H locs hP hD hS => ?_)
    refine lv_iconst (v := (-1 : Int32)) hx hb dX3_obstacle_31 (by decide) ?_
    refine lv_icmp_eq (tgt := 37) hx hb dX3_obstacle_32 (by decide) (fun b5 => ?_) (fun b5 => ?_)
    · have hs := ite_t hs b5
      refine lv_aload_n hx hb dX3_obstacle_37 rfl (lv_at hl 0 rfl) ?_
      refine lv_bipush (v := (21 : Int32)) hx hb dX3_obstacle_38 (by decide) ?_
      refine lv_iload_n hx hb dX3_obstacle_40 rfl (lv_at hl 2 rfl) ?_
      refine lv_iadd hx hb dX3_obstacle_41 ?_
      obtain ⟨q6, eq6, hs⟩ := ob hs
      refine nd_callV (As := [.int ((21 : Int32) + x2)]) (rest := []) (st1 := [.int q6]) hx hb hml hown hts hl hP hK hD hS hA hN (mX0_get eq6) iv_X0_get wd_383 1 rfl rfl rfl rfl ⟨Nat.le_of_ble_eq_true rfl, Nat.le_of_ble_eq_true rfl⟩ (Nat.le_of_ble_eq_true rfl) ⟨Nat.zero_le _, Nat.zero_le _⟩ dX3_obstacle_42 rfl rfl (fun H locs hP hD hS => ?_)
      refine lv_iconst (v := (-1 : Int32)) hx hb dX3_obstacle_45 (by decide) ?_
      refine lv_icmp_eq (tgt := 51) hx hb dX3_obstacle_46 (by decide) (fun b7 => ?_) (fun b7 => ?_)
      · have hs := ite_t hs b7
        refine lv_aload_n hx hb dX3_obstacle_51 rfl (lv_at hl 0 rfl) ?_
        refine lv_iload_n hx hb dX3_obstacle_52 rfl (lv_at hl 1 rfl) ?_
        obtain ⟨q8, eq8, hs⟩ := ob hs
        refine nd_callV (As := [.int x1]) (rest := []) (st1 := [.int q8]) hx hb hml hown hts hl hP hK hD hS hA hN (mX0_firstOfRoll eq8) iv_X0_firstOfRoll wd_384 1 rfl rfl rfl rfl ⟨Nat.le_of_ble_eq_true rfl, Nat.le_of_ble_eq_true rfl⟩ (Nat.le_of_ble_eq_true rfl) ⟨Nat.zero_le _, Nat.zero_le _⟩ dX3_obstacle_53 rfl rfl (fun H locs hP hD hS => ?_)
        refine lv_iload_n hx hb dX3_obstacle_56 rfl (lv_at hl 2 rfl) ?_
        refine lv_icmp_ne (tgt := 62) hx hb dX3_obstacle_57 (by decide) (fun b9 => ?_) (fun b9 => ?_)
        · have hs := ite_f hs b9
          refine lv_aload_n hx hb dX3_obstacle_62 rfl (lv_at hl 0 rfl) ?_
          refine lv_iload_n hx hb dX3_obstacle_63 rfl (lv_at hl 1 rfl) ?_
          obtain ⟨q10, eq10, hs⟩ := ob hs
          refine nd_callV (As := [.int x1]) (rest := []) (st1 := [.int q10]) hx hb hml hown hts hl hP hK hD hS hA hN (mX0_lastTimeUpTo eq10) iv_X0_lastTimeUpTo wd_388 1 rfl rfl rfl rfl ⟨Nat.le_of_ble_eq_true rfl, Nat.le_of_ble_eq_true rfl⟩ (Nat.le_of_ble_eq_true rfl) ⟨Nat.zero_le _, Nat.zero_le _⟩ dX3_obstacle_64 rfl rfl (fun H locs hP hD hS => ?_)
          refine lv_aload_n hx hb dX3_obstacle_67 rfl (lv_at hl 0 rfl) ?_
          refine lv_iload_n hx hb dX3_obstacle_68 rfl (lv_at hl 2 rfl) ?_
          obtain ⟨q11, eq11, hs⟩ := ob hs
          refine nd_callV (As := [.int x2]) (rest := [.int q10]) (st1 := [.int q11, .int q10]) hx hb hml hown hts hl hP hK hD hS hA hN (mX0_firstTimeFrom eq11) iv_X0_firstTimeFrom wd_389 1 rfl rfl rfl rfl ⟨Nat.le_of_ble_eq_true rfl, Nat.le_of_ble_eq_true rfl⟩ (Nat.le_of_ble_eq_true rfl) ⟨Nat.zero_le _, Nat.zero_le _⟩ dX3_obstacle_69 rfl rfl (fun H locs hP hD hS => ?_)
          refine lv_icmp_le (tgt := 79) hx hb dX3_obstacle_72 (by decide) (fun b12 => ?_) (fun b12 => ?_)
          · have hs := ite_t hs b12
            refine lv_iconst (v := (0 : Int32)) hx hb dX3_obstacle_79 (by decide) ?_
            exact hret _ hs hP hS dX3_obstacle_80
          · have hs := ite_f hs b12
            refine lv_iconst (v := (5 : Int32)) hx hb dX3_obstacle_75 (by decide) ?_
            refine lv_goto (tgt := 80) hx hb dX3_obstacle_76 (by decide) ?_
            exact hret _ hs hP hS dX3_obstacle_80
        · have hs := ite_t hs b9
          refine lv_iconst (v := (4 : Int32)) hx hb dX3_obstacle_60 (by decide) ?_
          exact hret _ hs hP hS dX3_obstacle_61
      · have hs := ite_f hs b7
        refine lv_iconst (v := (3 : Int32)) hx hb dX3_obstacle_49 (by decide) ?_
        exact hret _ hs hP hS dX3_obstacle_50
    · have hs := ite_f hs b5
      refine lv_iconst (v := (2 : Int32)) hx hb dX3_obstacle_35 (by decide) ?_
      exact hret _ hs hP hS dX3_obstacle_36
  · have hs := ite_f hs b3
    refine lv_iconst (v := (1 : Int32)) hx hb dX3_obstacle_21 (by decide) ?_
    exact hret _ hs hP hS dX3_obstacle_22
