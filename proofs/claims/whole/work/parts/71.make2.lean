/-! The constructors. -/
def tX0_init_0 : List (Nat × Instr × Nat) := [(0, .aload_n 0, 1), (1, .invokespecial 5, 3), (4, .aload_n 0, 1), (5, .sipush 531, 3), (8, .newarray .int, 2), (10, .putfield 11, 3), (13, .aload_n 0, 1), (14, .sipush 3186, 3), (17, .newarray .int, 2), (19, .putfield 15, 3), (22, .aload_n 0, 1), (23, .iconst 0, 1), (24, .putfield 18, 3), (27, .return_, 1)]
theorem tX0_init_0_ok : tX0_init_0.all (fun q => decide (decode cX0_init q.1 = .ok q.2)) = true := by decide +kernel
theorem dX0_init_0 : decode cX0_init 0 = .ok (.aload_n 0, 1) := td tX0_init_0_ok 0 (q := (0, .aload_n 0, 1)) rfl
theorem dX0_init_1 : decode cX0_init 1 = .ok (.invokespecial 5, 3) := td tX0_init_0_ok 1 (q := (1, .invokespecial 5, 3)) rfl
theorem dX0_init_4 : decode cX0_init 4 = .ok (.aload_n 0, 1) := td tX0_init_0_ok 2 (q := (4, .aload_n 0, 1)) rfl
theorem dX0_init_5 : decode cX0_init 5 = .ok (.sipush 531, 3) := td tX0_init_0_ok 3 (q := (5, .sipush 531, 3)) rfl
theorem dX0_init_8 : decode cX0_init 8 = .ok (.newarray .int, 2) := td tX0_init_0_ok 4 (q := (8, .newarray .int, 2)) rfl
theorem dX0_init_10 : decode cX0_init 10 = .ok (.putfield 11, 3) := td tX0_init_0_ok 5 (q := (10, .putfield 11, 3)) rfl
theorem dX0_init_13 : decode cX0_init 13 = .ok (.aload_n 0, 1) := td tX0_init_0_ok 6 (q := (13, .aload_n 0, 1)) rfl
theorem dX0_init_14 : decode cX0_init 14 = .ok (.sipush 3186, 3) := td tX0_init_0_ok 7 (q := (14, .sipush 3186, 3)) rfl
theorem dX0_init_17 : decode cX0_init 17 = .ok (.newarray .int, 2) := td tX0_init_0_ok 8 (q := (17, .newarray .int, 2)) rfl
theorem dX0_init_19 : decode cX0_init 19 = .ok (.putfield 15, 3) := td tX0_init_0_ok 9 (q := (19, .putfield 15, 3)) rfl
theorem dX0_init_22 : decode cX0_init 22 = .ok (.aload_n 0, 1) := td tX0_init_0_ok 10 (q := (22, .aload_n 0, 1)) rfl
theorem dX0_init_23 : decode cX0_init 23 = .ok (.iconst 0, 1) := td tX0_init_0_ok 11 (q := (23, .iconst 0, 1)) rfl
theorem dX0_init_24 : decode cX0_init 24 = .ok (.putfield 18, 3) := td tX0_init_0_ok 12 (q := (24, .putfield 18, 3)) rfl
theorem dX0_init_27 : decode cX0_init 27 = .ok (.return_, 1) := td tX0_init_0_ok 13 (q := (27, .return_, 1)) rfl
def pwX0 (cI : ClassId) (b : Nat) (W1 : va_W) : Prop := ∃ q0 q1 : Nat, W1 = [(b, .inr (0, [.ref q0, .ref q1, .int 0])), (q0, .inl (cI, 531, .inl (fun _ => 0))), (q1, .inl (cI, 3186, .inl (fun _ => 0)))]
set_option maxHeartbeats 4000000 in
set_option maxRecDepth 100000 in
theorem cX0_make {l : Launch} {D : va_G} {cI : ClassId} {b : Nat} : nd_I l yX0_init cX0_init ⟨1, 2, 3717, 12⟩ D cI b (.inr (0, [.null, .null, .int 0])) (pwX0 cI b) := by
  refine nd_ofI (by decide) (fun p e s m args below meth c_ ls A Q hx hb hml hown hts hl hP hK hD hS hA hN hM hin hret => ?_)
  have hown : s.vm.findClass RX0 = some m.cls := hown
  refine lv_aload_n hx hb dX0_init_0 rfl (lv_at hl 0 rfl) ?_
  refine W.objInit hx hb hown (hts _ wd_35) (hts _ wd_11) (hts _ wd_12) rfl (by rw [hml]; exact hl.1) rfl dX0_init_1 (Nat.le_of_ble_eq_true rfl) (Nat.le_of_ble_eq_true rfl) ?_
  refine W.eq (g2 := F0 m 4 ls []) rfl ?_
  refine lv_aload_n hx hb dX0_init_4 rfl (lv_at hl 0 rfl) ?_
  refine lv_sipush (v := (531 : Int32)) hx hb dX0_init_5 (by decide) ?_
  refine nd_newi hx hb hts hK hP hD hS hA 0 rfl (N' := 531) (by decide) (by decide) (Nat.le_of_ble_eq_true rfl) (Nat.le_of_ble_eq_true rfl) (Nat.le_of_ble_eq_true rfl) dX0_init_8 (fun q0 H hP hD hS => ?_)
  have hP : va_P D vwCl [(b, .inr (0, [.null, .null, .int 0])), (q0, .inl (cI, 531, .inl (fun _ => 0)))] H := hP
  have hD : va_D A [(b, .inr (0, [.null, .null, .int 0])), (q0, .inl (cI, 531, .inl (fun _ => 0)))] := hD
  refine va_putF (C := RX0) (T := TX0) (N := 3) (ty := .array .int) hx hb hts inlX0 tyX0 tyX0_ok nmX0 hown hK hP hD hS 0 rfl rfl 0 (by decide) (hts _ wd_37) (fun _ h => h) rfl hin rfl (by decide +kernel) rfl rfl (Nat.le_of_ble_eq_true rfl) dX0_init_10 (fun H locs hP hD hS => ?_)
  have hP : va_P D vwCl [(b, .inr (0, [.ref q0, .null, .int 0])), (q0, .inl (cI, 531, .inl (fun _ => 0)))] H := hP
  have hD : va_D A [(b, .inr (0, [.ref q0, .null, .int 0])), (q0, .inl (cI, 531, .inl (fun _ => 0)))] := hD
  refine lv_aload_n hx hb dX0_init_13 rfl (lv_at hl 0 rfl) ?_
  refine lv_sipush (v := (3186 : Int32)) hx hb dX0_init_14 (by decide) ?_
  refine nd_newi hx hb hts hK hP hD hS hA 0 rfl (N' := 3186) (by decide) (by decide) (Nat.le_of_ble_eq_true rfl) (Nat.le_of_ble_eq_true rfl) (Nat.le_of_ble_eq_true rfl) dX0_init_17 (fun q1 H hP hD hS => ?_)
  have hP : va_P D vwCl [(b, .inr (0, [.ref q0, .null, .int 0])), (q0, .inl (cI, 531, .inl (fun _ => 0))), (q1, .inl (cI, 3186, .inl (fun _ => 0)))] H := hP
  have hD : va_D A [(b, .inr (0, [.ref q0, .null, .int 0])), (q0, .inl (cI, 531, .inl (fun _ => 0))), (q1, .inl (cI, 3186, .inl (fun _ => 0)))] := hD
  refine va_putF (C := RX0) (T := TX0) (N := 3) (ty := .array .int) hx hb hts inlX0 tyX0 tyX0_ok nmX0 hown hK hP hD hS 0 rfl rfl 1 (by decide) (hts _ wd_38) (fun _ h => h) rfl hin rfl (by decide +kernel) rfl rfl (Nat.le_of_ble_eq_true rfl) dX0_init_19 (fun H locs hP hD hS => ?_)
  have hP : va_P D vwCl [(b, .inr (0, [.ref q0, .ref q1, .int 0])), (q0, .inl (cI, 531, .inl (fun _ => 0))), (q1, .inl (cI, 3186, .inl (fun _ => 0)))] H := hP
  have hD : va_D A [(b, .inr (0, [.ref q0, .ref q1, .int 0])), (q0, .inl (cI, 531, .inl (fun _ => 0))), (q1, .inl (cI, 3186, .inl (fun _ => 0)))] := hD
  refine lv_aload_n hx hb dX0_init_22 rfl (lv_at hl 0 rfl) ?_
  refine lv_iconst (v := (0 : Int32)) hx hb dX0_init_23 (by decide) ?_
  refine pf_X0_18 hx hb hts hown hK hP hD hS 0 rfl rfl dX0_init_24 (fun H locs hP hD hS => ?_)
  have hP : va_P D vwCl [(b, .inr (0, [.ref q0, .ref q1, .int 0])), (q0, .inl (cI, 531, .inl (fun _ => 0))), (q1, .inl (cI, 3186, .inl (fun _ => 0)))] H := hP
  have hD : va_D A [(b, .inr (0, [.ref q0, .ref q1, .int 0])), (q0, .inl (cI, 531, .inl (fun _ => 0))), (q1, .inl (cI, 3186, .inl (fun _ => 0)))] := hD
  exact hret ⟨q0, q1, rfl⟩ hP hD hS dX0_init_27
def tX1_init_0 : List (Nat × Instr × Nat) := [(0, .aload_n 0, 1), (1, .invokespecial 3, 3), (4, .aload_n 0, 1), (5, .bipush 60, 2), (7, .newarray .int, 2), (9, .putfield 9, 3), (12, .aload_n 0, 1), (13, .iconst 0, 1), (14, .putfield 15, 3), (17, .return_, 1)]
theorem tX1_init_0_ok : tX1_init_0.all (fun q => decide (decode cX1_init q.1 = .ok q.2)) = true := by decide +kernel
theorem dX1_init_0 : decode cX1_init 0 = .ok (.aload_n 0, 1) := td tX1_init_0_ok 0 (q := (0, .aload_n 0, 1)) rfl
theorem dX1_init_1 : decode cX1_init 1 = .ok (.invokespecial 3, 3) := td tX1_init_0_ok 1 (q := (1, .invokespecial 3, 3)) rfl
theorem dX1_init_4 : decode cX1_init 4 = .ok (.aload_n 0, 1) := td tX1_init_0_ok 2 (q := (4, .aload_n 0, 1)) rfl
theorem dX1_init_5 : decode cX1_init 5 = .ok (.bipush 60, 2) := td tX1_init_0_ok 3 (q := (5, .bipush 60, 2)) rfl
theorem dX1_init_7 : decode cX1_init 7 = .ok (.newarray .int, 2) := td tX1_init_0_ok 4 (q := (7, .newarray .int, 2)) rfl
theorem dX1_init_9 : decode cX1_init 9 = .ok (.putfield 9, 3) := td tX1_init_0_ok 5 (q := (9, .putfield 9, 3)) rfl
theorem dX1_init_12 : decode cX1_init 12 = .ok (.aload_n 0, 1) := td tX1_init_0_ok 6 (q := (12, .aload_n 0, 1)) rfl
theorem dX1_init_13 : decode cX1_init 13 = .ok (.iconst 0, 1) := td tX1_init_0_ok 7 (q := (13, .iconst 0, 1)) rfl
theorem dX1_init_14 : decode cX1_init 14 = .ok (.putfield 15, 3) := td tX1_init_0_ok 8 (q := (14, .putfield 15, 3)) rfl
theorem dX1_init_17 : decode cX1_init 17 = .ok (.return_, 1) := td tX1_init_0_ok 9 (q := (17, .return_, 1)) rfl
def pwX1 (cI : ClassId) (b : Nat) (W1 : va_W) : Prop := ∃ q0 : Nat, W1 = [(b, .inr (1, [.ref q0, .int 0])), (q0, .inl (cI, 60, .inl (fun _ => 0)))]
set_option maxHeartbeats 4000000 in
set_option maxRecDepth 100000 in
theorem cX1_make {l : Launch} {D : va_G} {cI : ClassId} {b : Nat} : nd_I l yX1_init cX1_init ⟨1, 1, 60, 12⟩ D cI b (.inr (1, [.null, .int 0])) (pwX1 cI b) := by
  refine nd_ofI (by decide) (fun p e s m args below meth c_ ls A Q hx hb hml hown hts hl hP hK hD hS hA hN hM hin hret => ?_)
  have hown : s.vm.findClass RX1 = some m.cls := hown
  refine lv_aload_n hx hb dX1_init_0 rfl (lv_at hl 0 rfl) ?_
  refine W.objInit hx hb hown (hts _ wd_42) (hts _ wd_11) (hts _ wd_12) rfl (by rw [hml]; exact hl.1) rfl dX1_init_1 (Nat.le_of_ble_eq_true rfl) (Nat.le_of_ble_eq_true rfl) ?_
  refine W.eq (g2 := F0 m 4 ls []) rfl ?_
  refine lv_aload_n hx hb dX1_init_4 rfl (lv_at hl 0 rfl) ?_
  refine lv_bipush (v := (60 : Int32)) hx hb dX1_init_5 (by decide) ?_
  refine nd_newi hx hb hts hK hP hD hS hA 0 rfl (N' := 60) (by decide) (by decide) (Nat.le_of_ble_eq_true rfl) (Nat.le_of_ble_eq_true rfl) (Nat.le_of_ble_eq_true rfl) dX1_init_7 (fun q0 H hP hD hS => ?_)
  have hP : va_P D vwCl [(b, .inr (1, [.null, .int 0])), (q0, .inl (cI, 60, .inl (fun _ => 0)))] H := hP
  have hD : va_D A [(b, .inr (1, [.null, .int 0])), (q0, .inl (cI, 60, .inl (fun _ => 0)))] := hD
  refine va_putF (C := RX1) (T := TX1) (N := 2) (ty := .array .int) hx hb hts inlX1 tyX1 tyX1_ok nmX1 hown hK hP hD hS 0 rfl rfl 0 (by decide) (hts _ wd_43) (fun _ h => h) rfl hin rfl (by decide +kernel) rfl rfl (Nat.le_of_ble_eq_true rfl) dX1_init_9 (fun H locs hP hD hS => ?_)
  have hP : va_P D vwCl [(b, .inr (1, [.ref q0, .int 0])), (q0, .inl (cI, 60, .inl (fun _ => 0)))] H := hP
  have hD : va_D A [(b, .inr (1, [.ref q0, .int 0])), (q0, .inl (cI, 60, .inl (fun _ => 0)))] := hD
  refine lv_aload_n hx hb dX1_init_12 rfl (lv_at hl 0 rfl) ?_
  refine lv_iconst (v := (0 : Int32)) hx hb dX1_init_13 (by decide) ?_
  refine pf_X1_15 hx hb hts hown hK hP hD hS 0 rfl rfl dX1_init_14 (fun H locs hP hD hS => ?_)
  have hP : va_P D vwCl [(b, .inr (1, [.ref q0, .int 0])), (q0, .inl (cI, 60, .inl (fun _ => 0)))] H := hP
  have hD : va_D A [(b, .inr (1, [.ref q0, .int 0])), (q0, .inl (cI, 60, .inl (fun _ => 0)))] := hD
  exact hret ⟨q0, rfl⟩ hP hD hS dX1_init_17
def tX4_init_0 : List (Nat × Instr × Nat) := [(0, .aload_n 0, 1), (1, .invokespecial 3, 3), (4, .aload_n 0, 1), (5, .bipush 60, 2), (7, .newarray .int, 2), (9, .putfield 9, 3), (12, .aload_n 0, 1), (13, .iconst 0, 1), (14, .putfield 15, 3), (17, .return_, 1)]
theorem tX4_init_0_ok : tX4_init_0.all (fun q => decide (decode cX4_init q.1 = .ok q.2)) = true := by decide +kernel
theorem dX4_init_0 : decode cX4_init 0 = .ok (.aload_n 0, 1) := td tX4_init_0_ok 0 (q := (0, .aload_n 0, 1)) rfl
theorem dX4_init_1 : decode cX4_init 1 = .ok (.invokespecial 3, 3) := td tX4_init_0_ok 1 (q := (1, .invokespecial 3, 3)) rfl
theorem dX4_init_4 : decode cX4_init 4 = .ok (.aload_n 0, 1) := td tX4_init_0_ok 2 (q := (4, .aload_n 0, 1)) rfl
theorem dX4_init_5 : decode cX4_init 5 = .ok (.bipush 60, 2) := td tX4_init_0_ok 3 (q := (5, .bipush 60, 2)) rfl
theorem dX4_init_7 : decode cX4_init 7 = .ok (.newarray .int, 2) := td tX4_init_0_ok 4 (q := (7, .newarray .int, 2)) rfl
theorem dX4_init_9 : decode cX4_init 9 = .ok (.putfield 9, 3) := td tX4_init_0_ok 5 (q := (9, .putfield 9, 3)) rfl
theorem dX4_init_12 : decode cX4_init 12 = .ok (.aload_n 0, 1) := td tX4_init_0_ok 6 (q := (12, .aload_n 0, 1)) rfl
theorem dX4_init_13 : decode cX4_init 13 = .ok (.iconst 0, 1) := td tX4_init_0_ok 7 (q := (13, .iconst 0, 1)) rfl
theorem dX4_init_14 : decode cX4_init 14 = .ok (.putfield 15, 3) := td tX4_init_0_ok 8 (q := (14, .putfield 15, 3)) rfl
theorem dX4_init_17 : decode cX4_init 17 = .ok (.return_, 1) := td tX4_init_0_ok 9 (q := (17, .return_, 1)) rfl
def pwX4 (cI : ClassId) (b : Nat) (W1 : va_W) : Prop := ∃ q0 : Nat, W1 = [(b, .inr (2, [.ref q0, .int 0])), (q0, .inl (cI, 60, .inl (fun _ => 0)))]
set_option maxHeartbeats 4000000 in
set_option maxRecDepth 100000 in
theorem cX4_make {l : Launch} {D : va_G} {cI : ClassId} {b : Nat} : nd_I l yX4_init cX4_init ⟨1, 1, 60, 12⟩ D cI b (.inr (2, [.null, .int 0])) (pwX4 cI b) := by
  refine nd_ofI (by decide) (fun p e s m args below meth c_ ls A Q hx hb hml hown hts hl hP hK hD hS hA hN hM hin hret => ?_)
  have hown : s.vm.findClass RX4 = some m.cls := hown
  refine lv_aload_n hx hb dX4_init_0 rfl (lv_at hl 0 rfl) ?_
  refine W.objInit hx hb hown (hts _ wd_57) (hts _ wd_11) (hts _ wd_12) rfl (by rw [hml]; exact hl.1) rfl dX4_init_1 (Nat.le_of_ble_eq_true rfl) (Nat.le_of_ble_eq_true rfl) ?_
  refine W.eq (g2 := F0 m 4 ls []) rfl ?_
  refine lv_aload_n hx hb dX4_init_4 rfl (lv_at hl 0 rfl) ?_
  refine lv_bipush (v := (60 : Int32)) hx hb dX4_init_5 (by decide) ?_
  refine nd_newi hx hb hts hK hP hD hS hA 0 rfl (N' := 60) (by decide) (by decide) (Nat.le_of_ble_eq_true rfl) (Nat.le_of_ble_eq_true rfl) (Nat.le_of_ble_eq_true rfl) dX4_init_7 (fun q0 H hP hD hS => ?_)
  have hP : va_P D vwCl [(b, .inr (2, [.null, .int 0])), (q0, .inl (cI, 60, .inl (fun _ => 0)))] H := hP
  have hD : va_D A [(b, .inr (2, [.null, .int 0])), (q0, .inl (cI, 60, .inl (fun _ => 0)))] := hD
  refine va_putF (C := RX4) (T := TX4) (N := 2) (ty := .array .int) hx hb hts inlX4 tyX4 tyX4_ok nmX4 hown hK hP hD hS 0 rfl rfl 0 (by decide) (hts _ wd_58) (fun _ h => h) rfl hin rfl (by decide +kernel) rfl rfl (Nat.le_of_ble_eq_true rfl) dX4_init_9 (fun H locs hP hD hS => ?_)
  have hP : va_P D vwCl [(b, .inr (2, [.ref q0, .int 0])), (q0, .inl (cI, 60, .inl (fun _ => 0)))] H := hP
  have hD : va_D A [(b, .inr (2, [.ref q0, .int 0])), (q0, .inl (cI, 60, .inl (fun _ => 0)))] := hD
  refine lv_aload_n hx hb dX4_init_12 rfl (lv_at hl 0 rfl) ?_
  refine lv_iconst (v := (0 : Int32)) hx hb dX4_init_13 (by decide) ?_
  refine pf_X4_15 hx hb hts hown hK hP hD hS 0 rfl rfl dX4_init_14 (fun H locs hP hD hS => ?_)
  have hP : va_P D vwCl [(b, .inr (2, [.ref q0, .int 0])), (q0, .inl (cI, 60, .inl (fun _ => 0)))] H := hP
  have hD : va_D A [(b, .inr (2, [.ref q0, .int 0])), (q0, .inl (cI, 60, .inl (fun _ => 0)))] := hD
  exact hret ⟨q0, rfl⟩ hP hD hS dX4_init_17
def tX5_init_0 : List (Nat × Instr × Nat) := [(0, .aload_n 0, 1), (1, .invokespecial 3, 3), (4, .aload_n 0, 1), (5, .sipush 1024, 3), (8, .newarray .int, 2), (10, .putfield 11, 3), (13, .aload_n 0, 1), (14, .sipush 1024, 3), (17, .newarray .int, 2), (19, .putfield 15, 3), (22, .aload_n 0, 1), (23, .bipush 10, 2), (25, .newarray .int, 2), (27, .putfield 18, 3), (30, .aload_n 0, 1), (31, .bipush 10, 2), (33, .newarray .int, 2), (35, .putfield 21, 3), (38, .aload_n 0, 1), (39, .iconst 0, 1), (40, .putfield 24, 3), (43, .aload_n 0, 1), (44, .iconst 0, 1), (45, .putfield 28, 3), (48, .aload_n 0, 1), (49, .iconst (-1), 1), (50, .putfield 31, 3), (53, .aload_n 0, 1), (54, .iconst (-1), 1), (55, .putfield 34, 3), (58, .return_, 1)]
theorem tX5_init_0_ok : tX5_init_0.all (fun q => decide (decode cX5_init q.1 = .ok q.2)) = true := by decide +kernel
theorem dX5_init_0 : decode cX5_init 0 = .ok (.aload_n 0, 1) := td tX5_init_0_ok 0 (q := (0, .aload_n 0, 1)) rfl
theorem dX5_init_1 : decode cX5_init 1 = .ok (.invokespecial 3, 3) := td tX5_init_0_ok 1 (q := (1, .invokespecial 3, 3)) rfl
theorem dX5_init_4 : decode cX5_init 4 = .ok (.aload_n 0, 1) := td tX5_init_0_ok 2 (q := (4, .aload_n 0, 1)) rfl
theorem dX5_init_5 : decode cX5_init 5 = .ok (.sipush 1024, 3) := td tX5_init_0_ok 3 (q := (5, .sipush 1024, 3)) rfl
theorem dX5_init_8 : decode cX5_init 8 = .ok (.newarray .int, 2) := td tX5_init_0_ok 4 (q := (8, .newarray .int, 2)) rfl
theorem dX5_init_10 : decode cX5_init 10 = .ok (.putfield 11, 3) := td tX5_init_0_ok 5 (q := (10, .putfield 11, 3)) rfl
theorem dX5_init_13 : decode cX5_init 13 = .ok (.aload_n 0, 1) := td tX5_init_0_ok 6 (q := (13, .aload_n 0, 1)) rfl
theorem dX5_init_14 : decode cX5_init 14 = .ok (.sipush 1024, 3) := td tX5_init_0_ok 7 (q := (14, .sipush 1024, 3)) rfl
theorem dX5_init_17 : decode cX5_init 17 = .ok (.newarray .int, 2) := td tX5_init_0_ok 8 (q := (17, .newarray .int, 2)) rfl
theorem dX5_init_19 : decode cX5_init 19 = .ok (.putfield 15, 3) := td tX5_init_0_ok 9 (q := (19, .putfield 15, 3)) rfl
theorem dX5_init_22 : decode cX5_init 22 = .ok (.aload_n 0, 1) := td tX5_init_0_ok 10 (q := (22, .aload_n 0, 1)) rfl
theorem dX5_init_23 : decode cX5_init 23 = .ok (.bipush 10, 2) := td tX5_init_0_ok 11 (q := (23, .bipush 10, 2)) rfl
theorem dX5_init_25 : decode cX5_init 25 = .ok (.newarray .int, 2) := td tX5_init_0_ok 12 (q := (25, .newarray .int, 2)) rfl
theorem dX5_init_27 : decode cX5_init 27 = .ok (.putfield 18, 3) := td tX5_init_0_ok 13 (q := (27, .putfield 18, 3)) rfl
theorem dX5_init_30 : decode cX5_init 30 = .ok (.aload_n 0, 1) := td tX5_init_0_ok 14 (q := (30, .aload_n 0, 1)) rfl
theorem dX5_init_31 : decode cX5_init 31 = .ok (.bipush 10, 2) := td tX5_init_0_ok 15 (q := (31, .bipush 10, 2)) rfl
theorem dX5_init_33 : decode cX5_init 33 = .ok (.newarray .int, 2) := td tX5_init_0_ok 16 (q := (33, .newarray .int, 2)) rfl
theorem dX5_init_35 : decode cX5_init 35 = .ok (.putfield 21, 3) := td tX5_init_0_ok 17 (q := (35, .putfield 21, 3)) rfl
theorem dX5_init_38 : decode cX5_init 38 = .ok (.aload_n 0, 1) := td tX5_init_0_ok 18 (q := (38, .aload_n 0, 1)) rfl
theorem dX5_init_39 : decode cX5_init 39 = .ok (.iconst 0, 1) := td tX5_init_0_ok 19 (q := (39, .iconst 0, 1)) rfl
theorem dX5_init_40 : decode cX5_init 40 = .ok (.putfield 24, 3) := td tX5_init_0_ok 20 (q := (40, .putfield 24, 3)) rfl
theorem dX5_init_43 : decode cX5_init 43 = .ok (.aload_n 0, 1) := td tX5_init_0_ok 21 (q := (43, .aload_n 0, 1)) rfl
theorem dX5_init_44 : decode cX5_init 44 = .ok (.iconst 0, 1) := td tX5_init_0_ok 22 (q := (44, .iconst 0, 1)) rfl
theorem dX5_init_45 : decode cX5_init 45 = .ok (.putfield 28, 3) := td tX5_init_0_ok 23 (q := (45, .putfield 28, 3)) rfl
theorem dX5_init_48 : decode cX5_init 48 = .ok (.aload_n 0, 1) := td tX5_init_0_ok 24 (q := (48, .aload_n 0, 1)) rfl
theorem dX5_init_49 : decode cX5_init 49 = .ok (.iconst (-1), 1) := td tX5_init_0_ok 25 (q := (49, .iconst (-1), 1)) rfl
theorem dX5_init_50 : decode cX5_init 50 = .ok (.putfield 31, 3) := td tX5_init_0_ok 26 (q := (50, .putfield 31, 3)) rfl
theorem dX5_init_53 : decode cX5_init 53 = .ok (.aload_n 0, 1) := td tX5_init_0_ok 27 (q := (53, .aload_n 0, 1)) rfl
theorem dX5_init_54 : decode cX5_init 54 = .ok (.iconst (-1), 1) := td tX5_init_0_ok 28 (q := (54, .iconst (-1), 1)) rfl
theorem dX5_init_55 : decode cX5_init 55 = .ok (.putfield 34, 3) := td tX5_init_0_ok 29 (q := (55, .putfield 34, 3)) rfl
theorem dX5_init_58 : decode cX5_init 58 = .ok (.return_, 1) := td tX5_init_0_ok 30 (q := (58, .return_, 1)) rfl
def pwX5 (cI : ClassId) (b : Nat) (W1 : va_W) : Prop := ∃ q0 q1 q2 q3 : Nat, W1 = [(b, .inr (3, [.ref q0, .ref q1, .ref q2, .ref q3, .int 0, .int 0, .int (-1), .int (-1)])), (q0, .inl (cI, 1024, .inl (fun _ => 0))), (q1, .inl (cI, 1024, .inl (fun _ => 0))), (q2, .inl (cI, 10, .inl (fun _ => 0))), (q3, .inl (cI, 10, .inl (fun _ => 0)))]
set_option maxHeartbeats 4000000 in
set_option maxRecDepth 100000 in
theorem cX5_make {l : Launch} {D : va_G} {cI : ClassId} {b : Nat} : nd_I l yX5_init cX5_init ⟨1, 4, 2068, 12⟩ D cI b (.inr (3, [.null, .null, .null, .null, .int 0, .int 0, .int 0, .int 0])) (pwX5 cI b) := by
  refine nd_ofI (by decide) (fun p e s m args below meth c_ ls A Q hx hb hml hown hts hl hP hK hD hS hA hN hM hin hret => ?_)
  have hown : s.vm.findClass RX5 = some m.cls := hown
  refine lv_aload_n hx hb dX5_init_0 rfl (lv_at hl 0 rfl) ?_
  refine W.objInit hx hb hown (hts _ wd_62) (hts _ wd_11) (hts _ wd_12) rfl (by rw [hml]; exact hl.1) rfl dX5_init_1 (Nat.le_of_ble_eq_true rfl) (Nat.le_of_ble_eq_true rfl) ?_
  refine W.eq (g2 := F0 m 4 ls []) rfl ?_
  refine lv_aload_n hx hb dX5_init_4 rfl (lv_at hl 0 rfl) ?_
  refine lv_sipush (v := (1024 : Int32)) hx hb dX5_init_5 (by decide) ?_
  refine nd_newi hx hb hts hK hP hD hS hA 0 rfl (N' := 1024) (by decide) (by decide) (Nat.le_of_ble_eq_true rfl) (Nat.le_of_ble_eq_true rfl) (Nat.le_of_ble_eq_true rfl) dX5_init_8 (fun q0 H hP hD hS => ?_)
  have hP : va_P D vwCl [(b, .inr (3, [.null, .null, .null, .null, .int 0, .int 0, .int 0, .int 0])), (q0, .inl (cI, 1024, .inl (fun _ => 0)))] H := hP
  have hD : va_D A [(b, .inr (3, [.null, .null, .null, .null, .int 0, .int 0, .int 0, .int 0])), (q0, .inl (cI, 1024, .inl (fun _ => 0)))] := hD
  refine va_putF (C := RX5) (T := TX5) (N := 8) (ty := .array .int) hx hb hts inlX5 tyX5 tyX5_ok nmX5 hown hK hP hD hS 0 rfl rfl 0 (by decide) (hts _ wd_63) (fun _ h => h) rfl hin rfl (by decide +kernel) rfl rfl (Nat.le_of_ble_eq_true rfl) dX5_init_10 (fun H locs hP hD hS => ?_)
  have hP : va_P D vwCl [(b, .inr (3, [.ref q0, .null, .null, .null, .int 0, .int 0, .int 0, .int 0])), (q0, .inl (cI, 1024, .inl (fun _ => 0)))] H := hP
  have hD : va_D A [(b, .inr (3, [.ref q0, .null, .null, .null, .int 0, .int 0, .int 0, .int 0])), (q0, .inl (cI, 1024, .inl (fun _ => 0)))] := hD
  refine lv_aload_n hx hb dX5_init_13 rfl (lv_at hl 0 rfl) ?_
  refine lv_sipush (v := (1024 : Int32)) hx hb dX5_init_14 (by decide) ?_
  refine nd_newi hx hb hts hK hP hD hS hA 0 rfl (N' := 1024) (by decide) (by decide) (Nat.le_of_ble_eq_true rfl) (Nat.le_of_ble_eq_true rfl) (Nat.le_of_ble_eq_true rfl) dX5_init_17 (fun q1 H hP hD hS => ?_)
  have hP : va_P D vwCl [(b, .inr (3, [.ref q0, .null, .null, .null, .int 0, .int 0, .int 0, .int 0])), (q0, .inl (cI, 1024, .inl (fun _ => 0))), (q1, .inl (cI, 1024, .inl (fun _ => 0)))] H := hP
  have hD : va_D A [(b, .inr (3, [.ref q0, .null, .null, .null, .int 0, .int 0, .int 0, .int 0])), (q0, .inl (cI, 1024, .inl (fun _ => 0))), (q1, .inl (cI, 1024, .inl (fun _ => 0)))] := hD
  refine va_putF (C := RX5) (T := TX5) (N := 8) (ty := .array .int) hx hb hts inlX5 tyX5 tyX5_ok nmX5 hown hK hP hD hS 0 rfl rfl 1 (by decide) (hts _ wd_64) (fun _ h => h) rfl hin rfl (by decide +kernel) rfl rfl (Nat.le_of_ble_eq_true rfl) dX5_init_19 (fun H locs hP hD hS => ?_)
  have hP : va_P D vwCl [(b, .inr (3, [.ref q0, .ref q1, .null, .null, .int 0, .int 0, .int 0, .int 0])), (q0, .inl (cI, 1024, .inl (fun _ => 0))), (q1, .inl (cI, 1024, .inl (fun _ => 0)))] H := hP
  have hD : va_D A [(b, .inr (3, [.ref q0, .ref q1, .null, .null, .int 0, .int 0, .int 0, .int 0])), (q0, .inl (cI, 1024, .inl (fun _ => 0))), (q1, .inl (cI, 1024, .inl (fun _ => 0)))] := hD
  refine lv_aload_n hx hb dX5_init_22 rfl (lv_at hl 0 rfl) ?_
  refine lv_bipush (v := (10 : Int32)) hx hb dX5_init_23 (by decide) ?_
  refine nd_newi hx hb hts hK hP hD hS hA 0 rfl (N' := 10) (by decide) (by decide) (Nat.le_of_ble_eq_true rfl) (Nat.le_of_ble_eq_true rfl) (Nat.le_of_ble_eq_true rfl) dX5_init_25 (fun q2 H hP hD hS => ?_)
  have hP : va_P D vwCl [(b, .inr (3, [.ref q0, .ref q1, .null, .null, .int 0, .int 0, .int 0, .int 0])), (q0, .inl (cI, 1024, .inl (fun _ => 0))), (q1, .inl (cI, 1024, .inl (fun _ => 0))), (q2, .inl (cI, 10, .inl (fun _ => 0)))] H := hP
  have hD : va_D A [(b, .inr (3, [.ref q0, .ref q1, .null, .null, .int 0, .int 0, .int 0, .int 0])), (q0, .inl (cI, 1024, .inl (fun _ => 0))), (q1, .inl (cI, 1024, .inl (fun _ => 0))), (q2, .inl (cI, 10, .inl (fun _ => 0)))] := hD
  refine va_putF (C := RX5) (T := TX5) (N := 8) (ty := .array .int) hx hb hts inlX5 tyX5 tyX5_ok nmX5 hown hK hP hD hS 0 rfl rfl 2 (by decide) (hts _ wd_65) (fun _ h => h) rfl hin rfl (by decide +kernel) rfl rfl (Nat.le_of_ble_eq_true rfl) dX5_init_27 (fun H locs hP hD hS => ?_)
  have hP : va_P D vwCl [(b, .inr (3, [.ref q0, .ref q1, .ref q2, .null, .int 0, .int 0, .int 0, .int 0])), (q0, .inl (cI, 1024, .inl (fun _ => 0))), (q1, .inl (cI, 1024, .inl (fun _ => 0))), (q2, .inl (cI, 10, .inl (fun _ => 0)))] H := hP
  have hD : va_D A [(b, .inr (3, [.ref q0, .ref q1, .ref q2, .null, .int 0, .int 0, .int 0, .int 0])), (q0, .inl (cI, 1024, .inl (fun _ => 0))), (q1, .inl (cI, 1024, .inl (fun _ => 0))), (q2, .inl (cI, 10, .inl (fun _ => 0)))] := hD
  refine lv_aload_n hx hb dX5_init_30 rfl (lv_at hl 0 rfl) ?_
  refine lv_bipush (v := (10 : Int32)) hx hb dX5_init_31 (by decide) ?_
  refine nd_newi hx hb hts hK hP hD hS hA 0 rfl (N' := 10) (by decide) (by decide) (Nat.le_of_ble_eq_true rfl) (Nat.le_of_ble_eq_true rfl) (Nat.le_of_ble_eq_true rfl) dX5_init_33 (fun q3 H hP hD hS => ?_)
  have hP : va_P D vwCl [(b, .inr (3, [.ref q0, .ref q1, .ref q2, .null, .int 0, .int 0, .int 0, .int 0])), (q0, .inl (cI, 1024, .inl (fun _ => 0))), (q1, .inl (cI, 1024, .inl (fun _ => 0))), (q2, .inl (cI, 10, .inl (fun _ => 0))), (q3, .inl (cI, 10, .inl (fun _ => 0)))] H := hP
  have hD : va_D A [(b, .inr (3, [.ref q0, .ref q1, .ref q2, .null, .int 0, .int 0, .int 0, .int 0])), (q0, .inl (cI, 1024, .inl (fun _ => 0))), (q1, .inl (cI, 1024, .inl (fun _ => 0))), (q2, .inl (cI, 10, .inl (fun _ => 0))), (q3, .inl (cI, 10, .inl (fun _ => 0)))] := hD
  refine va_putF (C := RX5) (T := TX5) (N := 8) (ty := .array .int) hx hb hts inlX5 tyX5 tyX5_ok nmX5 hown hK hP hD hS 0 rfl rfl 3 (by decide) (hts _ wd_66) (fun _ h => h) rfl hin rfl (by decide +kernel) rfl rfl (Nat.le_of_ble_eq_true rfl) dX5_init_35 (fun H locs hP hD hS => ?_)
  have hP : va_P D vwCl [(b, .inr (3, [.ref q0, .ref q1, .ref q2, .ref q3, .int 0, .int 0, .int 0, .int 0])), (q0, .inl (cI, 1024, .inl (fun _ => 0))), (q1, .inl (cI, 1024, .inl (fun _ => 0))), (q2, .inl (cI, 10, .inl (fun _ => 0))), (q3, .inl (cI, 10, .inl (fun _ => 0)))] H := hP
  have hD : va_D A [(b, .inr (3, [.ref q0, .ref q1, .ref q2, .ref q3, .int 0, .int 0, .int 0, .int 0])), (q0, .inl (cI, 1024, .inl (fun _ => 0))), (q1, .inl (cI, 1024, .inl (fun _ => 0))), (q2, .inl (cI, 10, .inl (fun _ => 0))), (q3, .inl (cI, 10, .inl (fun _ => 0)))] := hD
  refine lv_aload_n hx hb dX5_init_38 rfl (lv_at hl 0 rfl) ?_
  refine lv_iconst (v := (0 : Int32)) hx hb dX5_init_39 (by decide) ?_
  refine pf_X5_24 hx hb hts hown hK hP hD hS 0 rfl rfl dX5_init_40 (fun H locs hP hD hS => ?_)
  have hP : va_P D vwCl [(b, .inr (3, [.ref q0, .ref q1, .ref q2, .ref q3, .int 0, .int 0, .int 0, .int 0])), (q0, .inl (cI, 1024, .inl (fun _ => 0))), (q1, .inl (cI, 1024, .inl (fun _ => 0))), (q2, .inl (cI, 10, .inl (fun _ => 0))), (q3, .inl (cI, 10, .inl (fun _ => 0)))] H := hP
  have hD : va_D A [(b, .inr (3, [.ref q0, .ref q1, .ref q2, .ref q3, .int 0, .int 0, .int 0, .int 0])), (q0, .inl (cI, 1024, .inl (fun _ => 0))), (q1, .inl (cI, 1024, .inl (fun _ => 0))), (q2, .inl (cI, 10, .inl (fun _ => 0))), (q3, .inl (cI, 10, .inl (fun _ => 0)))] := hD
  refine lv_aload_n hx hb dX5_init_43 rfl (lv_at hl 0 rfl) ?_
  refine lv_iconst (v := (0 : Int32)) hx hb dX5_init_44 (by decide) ?_
  refine pf_X5_28 hx hb hts hown hK hP hD hS 0 rfl rfl dX5_init_45 (fun H locs hP hD hS => ?_)
  have hP : va_P D vwCl [(b, .inr (3, [.ref q0, .ref q1, .ref q2, .ref q3, .int 0, .int 0, .int 0, .int 0])), (q0, .inl (cI, 1024, .inl (fun _ => 0))), (q1, .inl (cI, 1024, .inl (fun _ => 0))), (q2, .inl (cI, 10, .inl (fun _ => 0))), (q3, .inl (cI, 10, .inl (fun _ => 0)))] H := hP
  have hD : va_D A [(b, .inr (3, [.ref q0, .ref q1, .ref q2, .ref q3, .int 0, .int 0, .int 0, .int 0])), (q0, .inl (cI, 1024, .inl (fun _ => 0))), (q1, .inl (cI, 1024, .inl (fun _ => 0))), (q2, .inl (cI, 10, .inl (fun _ => 0))), (q3, .inl (cI, 10, .inl (fun _ => 0)))] := hD
  refine lv_aload_n hx hb dX5_init_48 rfl (lv_at hl 0 rfl) ?_
  refine lv_iconst (v := (-1 : Int32)) hx hb dX5_init_49 (by decide) ?_
  refine pf_X5_31 hx hb hts hown hK hP hD hS 0 rfl rfl dX5_init_50 (fun H locs hP hD hS => ?_)
  have hP : va_P D vwCl [(b, .inr (3, [.ref q0, .ref q1, .ref q2, .ref q3, .int 0, .int 0, .int (-1), .int 0])), (q0, .inl (cI, 1024, .inl (fun _ => 0))), (q1, .inl (cI, 1024, .inl (fun _ => 0))), (q2, .inl (cI, 10, .inl (fun _ => 0))), (q3, .inl (cI, 10, .inl (fun _ => 0)))] H := hP
  have hD : va_D A [(b, .inr (3, [.ref q0, .ref q1, .ref q2, .ref q3, .int 0, .int 0, .int (-1), .int 0])), (q0, .inl (cI, 1024, .inl (fun _ => 0))), (q1, .inl (cI, 1024, .inl (fun _ => 0))), (q2, .inl (cI, 10, .inl (fun _ => 0))), (q3, .inl (cI, 10, .inl (fun _ => 0)))] := hD
  refine lv_aload_n hx hb dX5_init_53 rfl (lv_at hl 0 rfl) ?_
  refine lv_iconst (v := (-1 : Int32)) hx hb dX5_init_54 (by decide) ?_
  refine pf_X5_34 hx hb hts hown hK hP hD hS 0 rfl rfl dX5_init_55 (fun H locs hP hD hS => ?_)
  have hP : va_P D vwCl [(b, .inr (3, [.ref q0, .ref q1, .ref q2, .ref q3, .int 0, .int 0, .int (-1), .int (-1)])), (q0, .inl (cI, 1024, .inl (fun _ => 0))), (q1, .inl (cI, 1024, .inl (fun _ => 0))), (q2, .inl (cI, 10, .inl (fun _ => 0))), (q3, .inl (cI, 10, .inl (fun _ => 0)))] H := hP
  have hD : va_D A [(b, .inr (3, [.ref q0, .ref q1, .ref q2, .ref q3, .int 0, .int 0, .int (-1), .int (-1)])), (q0, .inl (cI, 1024, .inl (fun _ => 0))), (q1, .inl (cI, 1024, .inl (fun _ => 0))), (q2, .inl (cI, 10, .inl (fun _ => 0))), (q3, .inl (cI, 10, .inl (fun _ => 0)))] := hD
  exact hret ⟨q0, q1, q2, q3, rfl⟩ hP hD hS dX5_init_58
def tX6_init_0 : List (Nat × Instr × Nat) := [(0, .aload_n 0, 1), (1, .invokespecial 3, 3), (4, .aload_n 0, 1), (5, .iconst 0, 1), (6, .putfield 11, 3), (9, .aload_n 0, 1), (10, .iconst 0, 1), (11, .putfield 15, 3), (14, .aload_n 0, 1), (15, .iconst 0, 1), (16, .putfield 18, 3), (19, .aload_n 0, 1), (20, .iconst 0, 1), (21, .putfield 21, 3), (24, .aload_n 0, 1), (25, .iconst 0, 1), (26, .putfield 24, 3), (29, .aload_n 0, 1), (30, .iconst 0, 1), (31, .putfield 27, 3), (34, .aload_n 0, 1), (35, .iconst 4, 1), (36, .newarray .int, 2), (38, .putfield 30, 3), (41, .return_, 1)]
theorem tX6_init_0_ok : tX6_init_0.all (fun q => decide (decode cX6_init q.1 = .ok q.2)) = true := by decide +kernel
theorem dX6_init_0 : decode cX6_init 0 = .ok (.aload_n 0, 1) := td tX6_init_0_ok 0 (q := (0, .aload_n 0, 1)) rfl
theorem dX6_init_1 : decode cX6_init 1 = .ok (.invokespecial 3, 3) := td tX6_init_0_ok 1 (q := (1, .invokespecial 3, 3)) rfl
theorem dX6_init_4 : decode cX6_init 4 = .ok (.aload_n 0, 1) := td tX6_init_0_ok 2 (q := (4, .aload_n 0, 1)) rfl
theorem dX6_init_5 : decode cX6_init 5 = .ok (.iconst 0, 1) := td tX6_init_0_ok 3 (q := (5, .iconst 0, 1)) rfl
theorem dX6_init_6 : decode cX6_init 6 = .ok (.putfield 11, 3) := td tX6_init_0_ok 4 (q := (6, .putfield 11, 3)) rfl
theorem dX6_init_9 : decode cX6_init 9 = .ok (.aload_n 0, 1) := td tX6_init_0_ok 5 (q := (9, .aload_n 0, 1)) rfl
theorem dX6_init_10 : decode cX6_init 10 = .ok (.iconst 0, 1) := td tX6_init_0_ok 6 (q := (10, .iconst 0, 1)) rfl
theorem dX6_init_11 : decode cX6_init 11 = .ok (.putfield 15, 3) := td tX6_init_0_ok 7 (q := (11, .putfield 15, 3)) rfl
theorem dX6_init_14 : decode cX6_init 14 = .ok (.aload_n 0, 1) := td tX6_init_0_ok 8 (q := (14, .aload_n 0, 1)) rfl
theorem dX6_init_15 : decode cX6_init 15 = .ok (.iconst 0, 1) := td tX6_init_0_ok 9 (q := (15, .iconst 0, 1)) rfl
theorem dX6_init_16 : decode cX6_init 16 = .ok (.putfield 18, 3) := td tX6_init_0_ok 10 (q := (16, .putfield 18, 3)) rfl
theorem dX6_init_19 : decode cX6_init 19 = .ok (.aload_n 0, 1) := td tX6_init_0_ok 11 (q := (19, .aload_n 0, 1)) rfl
theorem dX6_init_20 : decode cX6_init 20 = .ok (.iconst 0, 1) := td tX6_init_0_ok 12 (q := (20, .iconst 0, 1)) rfl
theorem dX6_init_21 : decode cX6_init 21 = .ok (.putfield 21, 3) := td tX6_init_0_ok 13 (q := (21, .putfield 21, 3)) rfl
theorem dX6_init_24 : decode cX6_init 24 = .ok (.aload_n 0, 1) := td tX6_init_0_ok 14 (q := (24, .aload_n 0, 1)) rfl
theorem dX6_init_25 : decode cX6_init 25 = .ok (.iconst 0, 1) := td tX6_init_0_ok 15 (q := (25, .iconst 0, 1)) rfl
theorem dX6_init_26 : decode cX6_init 26 = .ok (.putfield 24, 3) := td tX6_init_0_ok 16 (q := (26, .putfield 24, 3)) rfl
theorem dX6_init_29 : decode cX6_init 29 = .ok (.aload_n 0, 1) := td tX6_init_0_ok 17 (q := (29, .aload_n 0, 1)) rfl
theorem dX6_init_30 : decode cX6_init 30 = .ok (.iconst 0, 1) := td tX6_init_0_ok 18 (q := (30, .iconst 0, 1)) rfl
theorem dX6_init_31 : decode cX6_init 31 = .ok (.putfield 27, 3) := td tX6_init_0_ok 19 (q := (31, .putfield 27, 3)) rfl
theorem dX6_init_34 : decode cX6_init 34 = .ok (.aload_n 0, 1) := td tX6_init_0_ok 20 (q := (34, .aload_n 0, 1)) rfl
theorem dX6_init_35 : decode cX6_init 35 = .ok (.iconst 4, 1) := td tX6_init_0_ok 21 (q := (35, .iconst 4, 1)) rfl
theorem dX6_init_36 : decode cX6_init 36 = .ok (.newarray .int, 2) := td tX6_init_0_ok 22 (q := (36, .newarray .int, 2)) rfl
theorem dX6_init_38 : decode cX6_init 38 = .ok (.putfield 30, 3) := td tX6_init_0_ok 23 (q := (38, .putfield 30, 3)) rfl
theorem dX6_init_41 : decode cX6_init 41 = .ok (.return_, 1) := td tX6_init_0_ok 24 (q := (41, .return_, 1)) rfl
def pwX6 (cI : ClassId) (b : Nat) (W1 : va_W) : Prop := ∃ q0 : Nat, W1 = [(b, .inr (4, [.int 0, .int 0, .int 0, .int 0, .int 0, .int 0, .ref q0])), (q0, .inl (cI, 4, .inl (fun _ => 0)))]
set_option maxHeartbeats 4000000 in
set_option maxRecDepth 100000 in
theorem cX6_make {l : Launch} {D : va_G} {cI : ClassId} {b : Nat} : nd_I l yX6_init cX6_init ⟨1, 1, 4, 12⟩ D cI b (.inr (4, [.int 0, .int 0, .int 0, .int 0, .int 0, .int 0, .null])) (pwX6 cI b) := by
  refine nd_ofI (by decide) (fun p e s m args below meth c_ ls A Q hx hb hml hown hts hl hP hK hD hS hA hN hM hin hret => ?_)
  have hown : s.vm.findClass RX6 = some m.cls := hown
  refine lv_aload_n hx hb dX6_init_0 rfl (lv_at hl 0 rfl) ?_
  refine W.objInit hx hb hown (hts _ wd_47) (hts _ wd_11) (hts _ wd_12) rfl (by rw [hml]; exact hl.1) rfl dX6_init_1 (Nat.le_of_ble_eq_true rfl) (Nat.le_of_ble_eq_true rfl) ?_
  refine W.eq (g2 := F0 m 4 ls []) rfl ?_
  refine lv_aload_n hx hb dX6_init_4 rfl (lv_at hl 0 rfl) ?_
  refine lv_iconst (v := (0 : Int32)) hx hb dX6_init_5 (by decide) ?_
  refine pf_X6_11 hx hb hts hown hK hP hD hS 0 rfl rfl dX6_init_6 (fun H locs hP hD hS => ?_)
  have hP : va_P D vwCl [(b, .inr (4, [.int 0, .int 0, .int 0, .int 0, .int 0, .int 0, .null]))] H := hP
  have hD : va_D A [(b, .inr (4, [.int 0, .int 0, .int 0, .int 0, .int 0, .int 0, .null]))] := hD
  refine lv_aload_n hx hb dX6_init_9 rfl (lv_at hl 0 rfl) ?_
  refine lv_iconst (v := (0 : Int32)) hx hb dX6_init_10 (by decide) ?_
  refine pf_X6_15 hx hb hts hown hK hP hD hS 0 rfl rfl dX6_init_11 (fun H locs hP hD hS => ?_)
  have hP : va_P D vwCl [(b, .inr (4, [.int 0, .int 0, .int 0, .int 0, .int 0, .int 0, .null]))] H := hP
  have hD : va_D A [(b, .inr (4, [.int 0, .int 0, .int 0, .int 0, .int 0, .int 0, .null]))] := hD
  refine lv_aload_n hx hb dX6_init_14 rfl (lv_at hl 0 rfl) ?_
  refine lv_iconst (v := (0 : Int32)) hx hb dX6_init_15 (by decide) ?_
  refine pf_X6_18 hx hb hts hown hK hP hD hS 0 rfl rfl dX6_init_16 (fun H locs hP hD hS => ?_)
  have hP : va_P D vwCl [(b, .inr (4, [.int 0, .int 0, .int 0, .int 0, .int 0, .int 0, .null]))] H := hP
  have hD : va_D A [(b, .inr (4, [.int 0, .int 0, .int 0, .int 0, .int 0, .int 0, .null]))] := hD
  refine lv_aload_n hx hb dX6_init_19 rfl (lv_at hl 0 rfl) ?_
  refine lv_iconst (v := (0 : Int32)) hx hb dX6_init_20 (by decide) ?_
  refine pf_X6_21 hx hb hts hown hK hP hD hS 0 rfl rfl dX6_init_21 (fun H locs hP hD hS => ?_)
  have hP : va_P D vwCl [(b, .inr (4, [.int 0, .int 0, .int 0, .int 0, .int 0, .int 0, .null]))] H := hP
  have hD : va_D A [(b, .inr (4, [.int 0, .int 0, .int 0, .int 0, .int 0, .int 0, .null]))] := hD
  refine lv_aload_n hx hb dX6_init_24 rfl (lv_at hl 0 rfl) ?_
  refine lv_iconst (v := (0 : Int32)) hx hb dX6_init_25 (by decide) ?_
  refine pf_X6_24 hx hb hts hown hK hP hD hS 0 rfl rfl dX6_init_26 (fun H locs hP hD hS => ?_)
  have hP : va_P D vwCl [(b, .inr (4, [.int 0, .int 0, .int 0, .int 0, .int 0, .int 0, .null]))] H := hP
  have hD : va_D A [(b, .inr (4, [.int 0, .int 0, .int 0, .int 0, .int 0, .int 0, .null]))] := hD
  refine lv_aload_n hx hb dX6_init_29 rfl (lv_at hl 0 rfl) ?_
  refine lv_iconst (v := (0 : Int32)) hx hb dX6_init_30 (by decide) ?_
  refine pf_X6_27 hx hb hts hown hK hP hD hS 0 rfl rfl dX6_init_31 (fun H locs hP hD hS => ?_)
  have hP : va_P D vwCl [(b, .inr (4, [.int 0, .int 0, .int 0, .int 0, .int 0, .int 0, .null]))] H := hP
  have hD : va_D A [(b, .inr (4, [.int 0, .int 0, .int 0, .int 0, .int 0, .int 0, .null]))] := hD
  refine lv_aload_n hx hb dX6_init_34 rfl (lv_at hl 0 rfl) ?_
  refine lv_iconst (v := (4 : Int32)) hx hb dX6_init_35 (by decide) ?_
  refine nd_newi hx hb hts hK hP hD hS hA 0 rfl (N' := 4) (by decide) (by decide) (Nat.le_of_ble_eq_true rfl) (Nat.le_of_ble_eq_true rfl) (Nat.le_of_ble_eq_true rfl) dX6_init_36 (fun q0 H hP hD hS => ?_)
  have hP : va_P D vwCl [(b, .inr (4, [.int 0, .int 0, .int 0, .int 0, .int 0, .int 0, .null])), (q0, .inl (cI, 4, .inl (fun _ => 0)))] H := hP
  have hD : va_D A [(b, .inr (4, [.int 0, .int 0, .int 0, .int 0, .int 0, .int 0, .null])), (q0, .inl (cI, 4, .inl (fun _ => 0)))] := hD
  refine va_putF (C := RX6) (T := TX6) (N := 7) (ty := .array .int) hx hb hts inlX6 tyX6 tyX6_ok nmX6 hown hK hP hD hS 0 rfl rfl 6 (by decide) (hts _ wd_54) (fun _ h => h) rfl hin rfl (by decide +kernel) rfl rfl (Nat.le_of_ble_eq_true rfl) dX6_init_38 (fun H locs hP hD hS => ?_)
  have hP : va_P D vwCl [(b, .inr (4, [.int 0, .int 0, .int 0, .int 0, .int 0, .int 0, .ref q0])), (q0, .inl (cI, 4, .inl (fun _ => 0)))] H := hP
  have hD : va_D A [(b, .inr (4, [.int 0, .int 0, .int 0, .int 0, .int 0, .int 0, .ref q0])), (q0, .inl (cI, 4, .inl (fun _ => 0)))] := hD
  exact hret ⟨q0, rfl⟩ hP hD hS dX6_init_41
def tX9_init_0 : List (Nat × Instr × Nat) := [(0, .aload_n 0, 1), (1, .invokespecial 1, 3), (4, .aload_n 0, 1), (5, .sipush 531, 3), (8, .newarray .int, 2), (10, .putfield 7, 3), (13, .aload_n 0, 1), (14, .sipush 3186, 3), (17, .newarray .int, 2), (19, .putfield 13, 3), (22, .aload_n 0, 1), (23, .bipush 60, 2), (25, .newarray .int, 2), (27, .putfield 16, 3), (30, .aload_n 0, 1), (31, .sipush 10240, 3), (34, .newarray .int, 2), (36, .putfield 19, 3), (39, .aload_n 0, 1), (40, .bipush 96, 2), (42, .newarray .int, 2), (44, .putfield 22, 3), (47, .aload_n 0, 1), (48, .iconst 0, 1), (49, .putfield 25, 3), (52, .return_, 1)]
theorem tX9_init_0_ok : tX9_init_0.all (fun q => decide (decode cX9_init q.1 = .ok q.2)) = true := by decide +kernel
theorem dX9_init_0 : decode cX9_init 0 = .ok (.aload_n 0, 1) := td tX9_init_0_ok 0 (q := (0, .aload_n 0, 1)) rfl
theorem dX9_init_1 : decode cX9_init 1 = .ok (.invokespecial 1, 3) := td tX9_init_0_ok 1 (q := (1, .invokespecial 1, 3)) rfl
theorem dX9_init_4 : decode cX9_init 4 = .ok (.aload_n 0, 1) := td tX9_init_0_ok 2 (q := (4, .aload_n 0, 1)) rfl
theorem dX9_init_5 : decode cX9_init 5 = .ok (.sipush 531, 3) := td tX9_init_0_ok 3 (q := (5, .sipush 531, 3)) rfl
theorem dX9_init_8 : decode cX9_init 8 = .ok (.newarray .int, 2) := td tX9_init_0_ok 4 (q := (8, .newarray .int, 2)) rfl
theorem dX9_init_10 : decode cX9_init 10 = .ok (.putfield 7, 3) := td tX9_init_0_ok 5 (q := (10, .putfield 7, 3)) rfl
theorem dX9_init_13 : decode cX9_init 13 = .ok (.aload_n 0, 1) := td tX9_init_0_ok 6 (q := (13, .aload_n 0, 1)) rfl
theorem dX9_init_14 : decode cX9_init 14 = .ok (.sipush 3186, 3) := td tX9_init_0_ok 7 (q := (14, .sipush 3186, 3)) rfl
theorem dX9_init_17 : decode cX9_init 17 = .ok (.newarray .int, 2) := td tX9_init_0_ok 8 (q := (17, .newarray .int, 2)) rfl
theorem dX9_init_19 : decode cX9_init 19 = .ok (.putfield 13, 3) := td tX9_init_0_ok 9 (q := (19, .putfield 13, 3)) rfl
theorem dX9_init_22 : decode cX9_init 22 = .ok (.aload_n 0, 1) := td tX9_init_0_ok 10 (q := (22, .aload_n 0, 1)) rfl
theorem dX9_init_23 : decode cX9_init 23 = .ok (.bipush 60, 2) := td tX9_init_0_ok 11 (q := (23, .bipush 60, 2)) rfl
theorem dX9_init_25 : decode cX9_init 25 = .ok (.newarray .int, 2) := td tX9_init_0_ok 12 (q := (25, .newarray .int, 2)) rfl
theorem dX9_init_27 : decode cX9_init 27 = .ok (.putfield 16, 3) := td tX9_init_0_ok 13 (q := (27, .putfield 16, 3)) rfl
theorem dX9_init_30 : decode cX9_init 30 = .ok (.aload_n 0, 1) := td tX9_init_0_ok 14 (q := (30, .aload_n 0, 1)) rfl
theorem dX9_init_31 : decode cX9_init 31 = .ok (.sipush 10240, 3) := td tX9_init_0_ok 15 (q := (31, .sipush 10240, 3)) rfl
theorem dX9_init_34 : decode cX9_init 34 = .ok (.newarray .int, 2) := td tX9_init_0_ok 16 (q := (34, .newarray .int, 2)) rfl
theorem dX9_init_36 : decode cX9_init 36 = .ok (.putfield 19, 3) := td tX9_init_0_ok 17 (q := (36, .putfield 19, 3)) rfl
theorem dX9_init_39 : decode cX9_init 39 = .ok (.aload_n 0, 1) := td tX9_init_0_ok 18 (q := (39, .aload_n 0, 1)) rfl
theorem dX9_init_40 : decode cX9_init 40 = .ok (.bipush 96, 2) := td tX9_init_0_ok 19 (q := (40, .bipush 96, 2)) rfl
theorem dX9_init_42 : decode cX9_init 42 = .ok (.newarray .int, 2) := td tX9_init_0_ok 20 (q := (42, .newarray .int, 2)) rfl
theorem dX9_init_44 : decode cX9_init 44 = .ok (.putfield 22, 3) := td tX9_init_0_ok 21 (q := (44, .putfield 22, 3)) rfl
theorem dX9_init_47 : decode cX9_init 47 = .ok (.aload_n 0, 1) := td tX9_init_0_ok 22 (q := (47, .aload_n 0, 1)) rfl
theorem dX9_init_48 : decode cX9_init 48 = .ok (.iconst 0, 1) := td tX9_init_0_ok 23 (q := (48, .iconst 0, 1)) rfl
theorem dX9_init_49 : decode cX9_init 49 = .ok (.putfield 25, 3) := td tX9_init_0_ok 24 (q := (49, .putfield 25, 3)) rfl
theorem dX9_init_52 : decode cX9_init 52 = .ok (.return_, 1) := td tX9_init_0_ok 25 (q := (52, .return_, 1)) rfl
def pwX9 (cI : ClassId) (b : Nat) (W1 : va_W) : Prop := ∃ q0 q1 q2 q3 q4 : Nat, W1 = [(b, .inr (6, [.int 0, .ref q0, .ref q1, .int 0, .ref q2, .int 0, .ref q3, .int 0, .int 0, .ref q4, .int 0, .long 0])), (q0, .inl (cI, 531, .inl (fun _ => 0))), (q1, .inl (cI, 3186, .inl (fun _ => 0))), (q2, .inl (cI, 60, .inl (fun _ => 0))), (q3, .inl (cI, 10240, .inl (fun _ => 0))), (q4, .inl (cI, 96, .inl (fun _ => 0)))]
set_option maxHeartbeats 4000000 in
set_option maxRecDepth 100000 in
theorem cX9_make {l : Launch} {D : va_G} {cI : ClassId} {b : Nat} : nd_I l yX9_init cX9_init ⟨1, 5, 14113, 12⟩ D cI b (.inr (6, [.int 0, .null, .null, .int 0, .null, .int 0, .null, .int 0, .int 0, .null, .int 0, .long 0])) (pwX9 cI b) := by
  refine nd_ofI (by decide) (fun p e s m args below meth c_ ls A Q hx hb hml hown hts hl hP hK hD hS hA hN hM hin hret => ?_)
  have hown : s.vm.findClass RX9 = some m.cls := hown
  refine lv_aload_n hx hb dX9_init_0 rfl (lv_at hl 0 rfl) ?_
  refine W.objInit hx hb hown (hts _ wd_74) (hts _ wd_11) (hts _ wd_12) rfl (by rw [hml]; exact hl.1) rfl dX9_init_1 (Nat.le_of_ble_eq_true rfl) (Nat.le_of_ble_eq_true rfl) ?_
  refine W.eq (g2 := F0 m 4 ls []) rfl ?_
  refine lv_aload_n hx hb dX9_init_4 rfl (lv_at hl 0 rfl) ?_
  refine lv_sipush (v := (531 : Int32)) hx hb dX9_init_5 (by decide) ?_
  refine nd_newi hx hb hts hK hP hD hS hA 0 rfl (N' := 531) (by decide) (by decide) (Nat.le_of_ble_eq_true rfl) (Nat.le_of_ble_eq_true rfl) (Nat.le_of_ble_eq_true rfl) dX9_init_8 (fun q0 H hP hD hS => ?_)
  have hP : va_P D vwCl [(b, .inr (6, [.int 0, .null, .null, .int 0, .null, .int 0, .null, .int 0, .int 0, .null, .int 0, .long 0])), (q0, .inl (cI, 531, .inl (fun _ => 0)))] H := hP
  have hD : va_D A [(b, .inr (6, [.int 0, .null, .null, .int 0, .null, .int 0, .null, .int 0, .int 0, .null, .int 0, .long 0])), (q0, .inl (cI, 531, .inl (fun _ => 0)))] := hD
  refine va_putF (C := RX9) (T := TX9) (N := 12) (ty := .array .int) hx hb hts inlX9 tyX9 tyX9_ok nmX9 hown hK hP hD hS 0 rfl rfl 1 (by decide) (hts _ wd_75) (fun _ h => h) rfl hin rfl (by decide +kernel) rfl rfl (Nat.le_of_ble_eq_true rfl) dX9_init_10 (fun H locs hP hD hS => ?_)
  have hP : va_P D vwCl [(b, .inr (6, [.int 0, .ref q0, .null, .int 0, .null, .int 0, .null, .int 0, .int 0, .null, .int 0, .long 0])), (q0, .inl (cI, 531, .inl (fun _ => 0)))] H := hP
  have hD : va_D A [(b, .inr (6, [.int 0, .ref q0, .null, .int 0, .null, .int 0, .null, .int 0, .int 0, .null, .int 0, .long 0])), (q0, .inl (cI, 531, .inl (fun _ => 0)))] := hD
  refine lv_aload_n hx hb dX9_init_13 rfl (lv_at hl 0 rfl) ?_
  refine lv_sipush (v := (3186 : Int32)) hx hb dX9_init_14 (by decide) ?_
  refine nd_newi hx hb hts hK hP hD hS hA 0 rfl (N' := 3186) (by decide) (by decide) (Nat.le_of_ble_eq_true rfl) (Nat.le_of_ble_eq_true rfl) (Nat.le_of_ble_eq_true rfl) dX9_init_17 (fun q1 H hP hD hS => ?_)
  have hP : va_P D vwCl [(b, .inr (6, [.int 0, .ref q0, .null, .int 0, .null, .int 0, .null, .int 0, .int 0, .null, .int 0, .long 0])), (q0, .inl (cI, 531, .inl (fun _ => 0))), (q1, .inl (cI, 3186, .inl (fun _ => 0)))] H := hP
  have hD : va_D A [(b, .inr (6, [.int 0, .ref q0, .null, .int 0, .null, .int 0, .null, .int 0, .int 0, .null, .int 0, .long 0])), (q0, .inl (cI, 531, .inl (fun _ => 0))), (q1, .inl (cI, 3186, .inl (fun _ => 0)))] := hD
  refine va_putF (C := RX9) (T := TX9) (N := 12) (ty := .array .int) hx hb hts inlX9 tyX9 tyX9_ok nmX9 hown hK hP hD hS 0 rfl rfl 2 (by decide) (hts _ wd_76) (fun _ h => h) rfl hin rfl (by decide +kernel) rfl rfl (Nat.le_of_ble_eq_true rfl) dX9_init_19 (fun H locs hP hD hS => ?_)
  have hP : va_P D vwCl [(b, .inr (6, [.int 0, .ref q0, .ref q1, .int 0, .null, .int 0, .null, .int 0, .int 0, .null, .int 0, .long 0])), (q0, .inl (cI, 531, .inl (fun _ => 0))), (q1, .inl (cI, 3186, .inl (fun _ => 0)))] H := hP
  have hD : va_D A [(b, .inr (6, [.int 0, .ref q0, .ref q1, .int 0, .null, .int 0, .null, .int 0, .int 0, .null, .int 0, .long 0])), (q0, .inl (cI, 531, .inl (fun _ => 0))), (q1, .inl (cI, 3186, .inl (fun _ => 0)))] := hD
  refine lv_aload_n hx hb dX9_init_22 rfl (lv_at hl 0 rfl) ?_
  refine lv_bipush (v := (60 : Int32)) hx hb dX9_init_23 (by decide) ?_
  refine nd_newi hx hb hts hK hP hD hS hA 0 rfl (N' := 60) (by decide) (by decide) (Nat.le_of_ble_eq_true rfl) (Nat.le_of_ble_eq_true rfl) (Nat.le_of_ble_eq_true rfl) dX9_init_25 (fun q2 H hP hD hS => ?_)
  have hP : va_P D vwCl [(b, .inr (6, [.int 0, .ref q0, .ref q1, .int 0, .null, .int 0, .null, .int 0, .int 0, .null, .int 0, .long 0])), (q0, .inl (cI, 531, .inl (fun _ => 0))), (q1, .inl (cI, 3186, .inl (fun _ => 0))), (q2, .inl (cI, 60, .inl (fun _ => 0)))] H := hP
  have hD : va_D A [(b, .inr (6, [.int 0, .ref q0, .ref q1, .int 0, .null, .int 0, .null, .int 0, .int 0, .null, .int 0, .long 0])), (q0, .inl (cI, 531, .inl (fun _ => 0))), (q1, .inl (cI, 3186, .inl (fun _ => 0))), (q2, .inl (cI, 60, .inl (fun _ => 0)))] := hD
  refine va_putF (C := RX9) (T := TX9) (N := 12) (ty := .array .int) hx hb hts inlX9 tyX9 tyX9_ok nmX9 hown hK hP hD hS 0 rfl rfl 4 (by decide) (hts _ wd_77) (fun _ h => h) rfl hin rfl (by decide +kernel) rfl rfl (Nat.le_of_ble_eq_true rfl) dX9_init_27 (fun H locs hP hD hS => ?_)
  have hP : va_P D vwCl [(b, .inr (6, [.int 0, .ref q0, .ref q1, .int 0, .ref q2, .int 0, .null, .int 0, .int 0, .null, .int 0, .long 0])), (q0, .inl (cI, 531, .inl (fun _ => 0))), (q1, .inl (cI, 3186, .inl (fun _ => 0))), (q2, .inl (cI, 60, .inl (fun _ => 0)))] H := hP
  have hD : va_D A [(b, .inr (6, [.int 0, .ref q0, .ref q1, .int 0, .ref q2, .int 0, .null, .int 0, .int 0, .null, .int 0, .long 0])), (q0, .inl (cI, 531, .inl (fun _ => 0))), (q1, .inl (cI, 3186, .inl (fun _ => 0))), (q2, .inl (cI, 60, .inl (fun _ => 0)))] := hD
  refine lv_aload_n hx hb dX9_init_30 rfl (lv_at hl 0 rfl) ?_
  refine lv_sipush (v := (10240 : Int32)) hx hb dX9_init_31 (by decide) ?_
  refine nd_newi hx hb hts hK hP hD hS hA 0 rfl (N' := 10240) (by decide) (by decide) (Nat.le_of_ble_eq_true rfl) (Nat.le_of_ble_eq_true rfl) (Nat.le_of_ble_eq_true rfl) dX9_init_34 (fun q3 H hP hD hS => ?_)
  have hP : va_P D vwCl [(b, .inr (6, [.int 0, .ref q0, .ref q1, .int 0, .ref q2, .int 0, .null, .int 0, .int 0, .null, .int 0, .long 0])), (q0, .inl (cI, 531, .inl (fun _ => 0))), (q1, .inl (cI, 3186, .inl (fun _ => 0))), (q2, .inl (cI, 60, .inl (fun _ => 0))), (q3, .inl (cI, 10240, .inl (fun _ => 0)))] H := hP
  have hD : va_D A [(b, .inr (6, [.int 0, .ref q0, .ref q1, .int 0, .ref q2, .int 0, .null, .int 0, .int 0, .null, .int 0, .long 0])), (q0, .inl (cI, 531, .inl (fun _ => 0))), (q1, .inl (cI, 3186, .inl (fun _ => 0))), (q2, .inl (cI, 60, .inl (fun _ => 0))), (q3, .inl (cI, 10240, .inl (fun _ => 0)))] := hD
  refine va_putF (C := RX9) (T := TX9) (N := 12) (ty := .array .int) hx hb hts inlX9 tyX9 tyX9_ok nmX9 hown hK hP hD hS 0 rfl rfl 6 (by decide) (hts _ wd_78) (fun _ h => h) rfl hin rfl (by decide +kernel) rfl rfl (Nat.le_of_ble_eq_true rfl) dX9_init_36 (fun H locs hP hD hS => ?_)
  have hP : va_P D vwCl [(b, .inr (6, [.int 0, .ref q0, .ref q1, .int 0, .ref q2, .int 0, .ref q3, .int 0, .int 0, .null, .int 0, .long 0])), (q0, .inl (cI, 531, .inl (fun _ => 0))), (q1, .inl (cI, 3186, .inl (fun _ => 0))), (q2, .inl (cI, 60, .inl (fun _ => 0))), (q3, .inl (cI, 10240, .inl (fun _ => 0)))] H := hP
  have hD : va_D A [(b, .inr (6, [.int 0, .ref q0, .ref q1, .int 0, .ref q2, .int 0, .ref q3, .int 0, .int 0, .null, .int 0, .long 0])), (q0, .inl (cI, 531, .inl (fun _ => 0))), (q1, .inl (cI, 3186, .inl (fun _ => 0))), (q2, .inl (cI, 60, .inl (fun _ => 0))), (q3, .inl (cI, 10240, .inl (fun _ => 0)))] := hD
  refine lv_aload_n hx hb dX9_init_39 rfl (lv_at hl 0 rfl) ?_
  refine lv_bipush (v := (96 : Int32)) hx hb dX9_init_40 (by decide) ?_
  refine nd_newi hx hb hts hK hP hD hS hA 0 rfl (N' := 96) (by decide) (by decide) (Nat.le_of_ble_eq_true rfl) (Nat.le_of_ble_eq_true rfl) (Nat.le_of_ble_eq_true rfl) dX9_init_42 (fun q4 H hP hD hS => ?_)
  have hP : va_P D vwCl [(b, .inr (6, [.int 0, .ref q0, .ref q1, .int 0, .ref q2, .int 0, .ref q3, .int 0, .int 0, .null, .int 0, .long 0])), (q0, .inl (cI, 531, .inl (fun _ => 0))), (q1, .inl (cI, 3186, .inl (fun _ => 0))), (q2, .inl (cI, 60, .inl (fun _ => 0))), (q3, .inl (cI, 10240, .inl (fun _ => 0))), (q4, .inl (cI, 96, .inl (fun _ => 0)))] H := hP
  have hD : va_D A [(b, .inr (6, [.int 0, .ref q0, .ref q1, .int 0, .ref q2, .int 0, .ref q3, .int 0, .int 0, .null, .int 0, .long 0])), (q0, .inl (cI, 531, .inl (fun _ => 0))), (q1, .inl (cI, 3186, .inl (fun _ => 0))), (q2, .inl (cI, 60, .inl (fun _ => 0))), (q3, .inl (cI, 10240, .inl (fun _ => 0))), (q4, .inl (cI, 96, .inl (fun _ => 0)))] := hD
  refine va_putF (C := RX9) (T := TX9) (N := 12) (ty := .array .int) hx hb hts inlX9 tyX9 tyX9_ok nmX9 hown hK hP hD hS 0 rfl rfl 9 (by decide) (hts _ wd_79) (fun _ h => h) rfl hin rfl (by decide +kernel) rfl rfl (Nat.le_of_ble_eq_true rfl) dX9_init_44 (fun H locs hP hD hS => ?_)
  have hP : va_P D vwCl [(b, .inr (6, [.int 0, .ref q0, .ref q1, .int 0, .ref q2, .int 0, .ref q3, .int 0, .int 0, .ref q4, .int 0, .long 0])), (q0, .inl (cI, 531, .inl (fun _ => 0))), (q1, .inl (cI, 3186, .inl (fun _ => 0))), (q2, .inl (cI, 60, .inl (fun _ => 0))), (q3, .inl (cI, 10240, .inl (fun _ => 0))), (q4, .inl (cI, 96, .inl (fun _ => 0)))] H := hP
  have hD : va_D A [(b, .inr (6, [.int 0, .ref q0, .ref q1, .int 0, .ref q2, .int 0, .ref q3, .int 0, .int 0, .ref q4, .int 0, .long 0])), (q0, .inl (cI, 531, .inl (fun _ => 0))), (q1, .inl (cI, 3186, .inl (fun _ => 0))), (q2, .inl (cI, 60, .inl (fun _ => 0))), (q3, .inl (cI, 10240, .inl (fun _ => 0))), (q4, .inl (cI, 96, .inl (fun _ => 0)))] := hD
  refine lv_aload_n hx hb dX9_init_47 rfl (lv_at hl 0 rfl) ?_
  refine lv_iconst (v := (0 : Int32)) hx hb dX9_init_48 (by decide) ?_
  refine pf_X9_25 hx hb hts hown hK hP hD hS 0 rfl rfl dX9_init_49 (fun H locs hP hD hS => ?_)
  have hP : va_P D vwCl [(b, .inr (6, [.int 0, .ref q0, .ref q1, .int 0, .ref q2, .int 0, .ref q3, .int 0, .int 0, .ref q4, .int 0, .long 0])), (q0, .inl (cI, 531, .inl (fun _ => 0))), (q1, .inl (cI, 3186, .inl (fun _ => 0))), (q2, .inl (cI, 60, .inl (fun _ => 0))), (q3, .inl (cI, 10240, .inl (fun _ => 0))), (q4, .inl (cI, 96, .inl (fun _ => 0)))] H := hP
  have hD : va_D A [(b, .inr (6, [.int 0, .ref q0, .ref q1, .int 0, .ref q2, .int 0, .ref q3, .int 0, .int 0, .ref q4, .int 0, .long 0])), (q0, .inl (cI, 531, .inl (fun _ => 0))), (q1, .inl (cI, 3186, .inl (fun _ => 0))), (q2, .inl (cI, 60, .inl (fun _ => 0))), (q3, .inl (cI, 10240, .inl (fun _ => 0))), (q4, .inl (cI, 96, .inl (fun _ => 0)))] := hD
  exact hret ⟨q0, q1, q2, q3, q4, rfl⟩ hP hD hS dX9_init_52
