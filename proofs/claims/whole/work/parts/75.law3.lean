/-! The law's helpers. -/
def tL_piece_0 : List (Nat × Instr × Nat) := [(0, .aload_n 3, 1), (1, .iconst 0, 1), (2, .aload_n 0, 1), (3, .iload_n 1, 1), (4, .iload_n 2, 1), (5, .invokevirtual 7, 3), (8, .i2l, 1), (9, .lastore, 1), (10, .goto 11, 3), (13, .astore 4, 2), (15, .iconst 1, 1), (16, .ireturn, 1), (17, .astore 4, 2), (19, .iconst 2, 1), (20, .ireturn, 1), (21, .iconst 0, 1), (22, .ireturn, 1)]
theorem tL_piece_0_ok : tL_piece_0.all (fun q => decide (decode cL_piece q.1 = .ok q.2)) = true := by decide +kernel
theorem dL_piece_0 : decode cL_piece 0 = .ok (.aload_n 3, 1) := td tL_piece_0_ok 0 (q := (0, .aload_n 3, 1)) rfl
theorem dL_piece_1 : decode cL_piece 1 = .ok (.iconst 0, 1) := td tL_piece_0_ok 1 (q := (1, .iconst 0, 1)) rfl
theorem dL_piece_2 : decode cL_piece 2 = .ok (.aload_n 0, 1) := td tL_piece_0_ok 2 (q := (2, .aload_n 0, 1)) rfl
theorem dL_piece_3 : decode cL_piece 3 = .ok (.iload_n 1, 1) := td tL_piece_0_ok 3 (q := (3, .iload_n 1, 1)) rfl
theorem dL_piece_4 : decode cL_piece 4 = .ok (.iload_n 2, 1) := td tL_piece_0_ok 4 (q := (4, .iload_n 2, 1)) rfl
theorem dL_piece_5 : decode cL_piece 5 = .ok (.invokevirtual 7, 3) := td tL_piece_0_ok 5 (q := (5, .invokevirtual 7, 3)) rfl
theorem dL_piece_8 : decode cL_piece 8 = .ok (.i2l, 1) := td tL_piece_0_ok 6 (q := (8, .i2l, 1)) rfl
theorem dL_piece_9 : decode cL_piece 9 = .ok (.lastore, 1) := td tL_piece_0_ok 7 (q := (9, .lastore, 1)) rfl
theorem dL_piece_10 : decode cL_piece 10 = .ok (.goto 11, 3) := td tL_piece_0_ok 8 (q := (10, .goto 11, 3)) rfl
theorem dL_piece_13 : decode cL_piece 13 = .ok (.astore 4, 2) := td tL_piece_0_ok 9 (q := (13, .astore 4, 2)) rfl
theorem dL_piece_15 : decode cL_piece 15 = .ok (.iconst 1, 1) := td tL_piece_0_ok 10 (q := (15, .iconst 1, 1)) rfl
theorem dL_piece_16 : decode cL_piece 16 = .ok (.ireturn, 1) := td tL_piece_0_ok 11 (q := (16, .ireturn, 1)) rfl
theorem dL_piece_17 : decode cL_piece 17 = .ok (.astore 4, 2) := td tL_piece_0_ok 12 (q := (17, .astore 4, 2)) rfl
theorem dL_piece_19 : decode cL_piece 19 = .ok (.iconst 2, 1) := td tL_piece_0_ok 13 (q := (19, .iconst 2, 1)) rfl
theorem dL_piece_20 : decode cL_piece 20 = .ok (.ireturn, 1) := td tL_piece_0_ok 14 (q := (20, .ireturn, 1)) rfl
theorem dL_piece_21 : decode cL_piece 21 = .ok (.iconst 0, 1) := td tL_piece_0_ok 15 (q := (21, .iconst 0, 1)) rfl
theorem dL_piece_22 : decode cL_piece 22 = .ok (.ireturn, 1) := td tL_piece_0_ok 16 (q := (22, .ireturn, 1)) rfl
set_option maxHeartbeats 4000000 in
set_option maxRecDepth 100000 in
theorem hL_piece {l : Launch} {D : va_G} {cI cJ : ClassId} {od b : Nat} {g : Nat → Int64} {W0 W1 : va_W} {fs : List Value} {x1 x2 : Int32} {r : Int32} (hC : nd_C l yX8_piece cX8_piece 3 (some .int) 3 80 D [(cI, .int)] [.ref b, .int x1, .int x2] W0 W1 (some (.int r))) (hq : W0[0]? = some (b, .inr (5, fs))) (hsame : W1.map (·.1) = W0.map (·.1)) : nd_H l yL_piece cL_piece 5 [(0, 10, 13, 13), (0, 10, 17, 15)] D cI cJ od g [.ref b, .int x1, .int x2, .ref od] W0 (fun W g1 => W = W1 ∧ g1 0 = r.toInt64) 0 := by
  refine nd_ofH (by decide) (Nat.le_of_ble_eq_true rfl) (fun p e s m args below meth c_ ls A Q hx hb hml hown hts hl hP hK hD hS hA hN hX hY hxt hret => ?_)
  have hown : s.vm.findClass RL = some m.cls := hown
  have hl : lv_has ls 5 [(0, .ref b), (1, .int x1), (2, .int x2), (3, .ref od)] := hl
  have hK1 : va_K D vwCl [(cI, .int)] s := hK.sub [0] rfl
  refine lv_aload_n hx hb dL_piece_0 rfl (lv_at hl 3 rfl) ?_
  refine lv_iconst (v := (0 : Int32)) hx hb dL_piece_1 (by decide) ?_
  refine lv_aload_n hx hb dL_piece_2 rfl (lv_at hl 0 rfl) ?_
  refine lv_iload_n hx hb dL_piece_3 rfl (lv_at hl 1 rfl) ?_
  refine lv_iload_n hx hb dL_piece_4 rfl (lv_at hl 2 rfl) ?_
  refine nd_callVW (As := [.int x1, .int x2]) (rest := [.int 0, .ref od]) (st1 := [.int r, .int 0, .ref od]) hx hb hml hown hts hl [(od, OU cJ g)] W0 W1 [] (wl_in hP) hK1 (wl_inD hD) hS hA hN hC iv_X8_piece wd_87 0 hq rfl hsame rfl ⟨Nat.le_of_ble_eq_true rfl, Nat.le_of_ble_eq_true rfl⟩ (Nat.le_of_ble_eq_true rfl) ⟨Nat.zero_le _, Nat.zero_le _⟩ dL_piece_5 rfl rfl (fun H locs hP hD hS => ?_)
  have hP := wl_out hP
  have hD := wl_outD hD
  refine lv_i2l hx hb dL_piece_8 rfl ?_
  refine va_last hx hb hK hP hD hS 0 1 rfl rfl in_01 dL_piece_9 (fun H locs hP hD hS => ?_)
  refine lv_goto (tgt := 21) hx hb dL_piece_10 (by decide) ?_
  refine lv_iconst (v := (0 : Int32)) hx hb dL_piece_21 (by decide) ?_
  refine W.widen (k := 1) (n := 6) (by decide) (by decide) ?_
  exact hret (W1 := W1) ⟨rfl, rfl⟩ hsame hP hS dL_piece_22
set_option maxHeartbeats 4000000 in
set_option maxRecDepth 100000 in
theorem tL_piece_1 {l : Launch} {D : va_G} {cI cJ : ClassId} {od b : Nat} {g : Nat → Int64} {W0 W1 : va_W} {fs : List Value} {x1 x2 : Int32} {PW : va_W → Prop} (hC : nd_CX l yX8_piece cX8_piece 3 (some .int) 6 82 D [(cI, .int)] [.ref b, .int x1, .int x2] W0 PW 1) (hq : W0[0]? = some (b, .inr (5, fs))) (hsame : ∀ W1, PW W1 → W1.map (·.1) = W0.map (·.1)) : nd_H l yL_piece cL_piece 5 [(0, 10, 13, 13), (0, 10, 17, 15)] D cI cJ od g [.ref b, .int x1, .int x2, .ref od] W0 (fun W _ => PW W) 1 := by
  refine nd_ofH (by decide) (Nat.le_of_ble_eq_true rfl) (fun p e s m args below meth c_ ls A Q hx hb hml hown hts hl hP hK hD hS hA hN hX hY hxt hret => ?_)
  have hown : s.vm.findClass RL = some m.cls := hown
  have hl : lv_has ls 5 [(0, .ref b), (1, .int x1), (2, .int x2), (3, .ref od)] := hl
  have hK1 : va_K D vwCl [(cI, .int)] s := hK.sub [0] rfl
  refine lv_aload_n hx hb dL_piece_0 rfl (lv_at hl 3 rfl) ?_
  refine lv_iconst (v := (0 : Int32)) hx hb dL_piece_1 (by decide) ?_
  refine lv_aload_n hx hb dL_piece_2 rfl (lv_at hl 0 rfl) ?_
  refine lv_iload_n hx hb dL_piece_3 rfl (lv_at hl 1 rfl) ?_
  refine lv_iload_n hx hb dL_piece_4 rfl (lv_at hl 2 rfl) ?_
  refine nd_callXW (As := [.int x1, .int x2]) (rest := [.int 0, .ref od]) hx hb hml hown hts hl [(od, OU cJ g)] W0 [] (wl_in hP) hK1 (wl_inD hD) hS hA hN hX hC iv_X8_piece wd_87 0 hq rfl rfl ⟨Nat.le_of_ble_eq_true rfl, Nat.le_of_ble_eq_true rfl⟩ (Nat.le_of_ble_eq_true rfl) ⟨Nat.le_of_ble_eq_true rfl, Nat.le_of_ble_eq_true rfl⟩ dL_piece_5 rfl [] ⟨0, 10, 13, 13⟩ [⟨0, 10, 17, 15⟩] (hxt.trans rfl) (fun z hz => absurd hz List.not_mem_nil) (by decide) (by decide) (hts _ wd_85) (j_cast hX (by decide)) (fun q W9 H locs hw hP hS => ?_)
  refine lv_astore (lv' := [(4, .ref q), (0, .ref b), (1, .int x1), (2, .int x2), (3, .ref od)]) hx hb dL_piece_13 hl (by decide) rfl (fun ls hl => ?_)
  refine lv_iconst (v := (1 : Int32)) hx hb dL_piece_15 (by decide) ?_
  exact hret (W1 := W9) hw (hsame _ hw) (wl_out hP) hS dL_piece_16
set_option maxHeartbeats 4000000 in
set_option maxRecDepth 100000 in
theorem tL_piece_2 {l : Launch} {D : va_G} {cI cJ : ClassId} {od b : Nat} {g : Nat → Int64} {W0 W1 : va_W} {fs : List Value} {x1 x2 : Int32} {PW : va_W → Prop} (hC : nd_CX l yX8_piece cX8_piece 3 (some .int) 6 82 D [(cI, .int)] [.ref b, .int x1, .int x2] W0 PW 2) (hq : W0[0]? = some (b, .inr (5, fs))) (hsame : ∀ W1, PW W1 → W1.map (·.1) = W0.map (·.1)) : nd_H l yL_piece cL_piece 5 [(0, 10, 13, 13), (0, 10, 17, 15)] D cI cJ od g [.ref b, .int x1, .int x2, .ref od] W0 (fun W _ => PW W) 2 := by
  refine nd_ofH (by decide) (Nat.le_of_ble_eq_true rfl) (fun p e s m args below meth c_ ls A Q hx hb hml hown hts hl hP hK hD hS hA hN hX hY hxt hret => ?_)
  have hown : s.vm.findClass RL = some m.cls := hown
  have hl : lv_has ls 5 [(0, .ref b), (1, .int x1), (2, .int x2), (3, .ref od)] := hl
  have hK1 : va_K D vwCl [(cI, .int)] s := hK.sub [0] rfl
  refine lv_aload_n hx hb dL_piece_0 rfl (lv_at hl 3 rfl) ?_
  refine lv_iconst (v := (0 : Int32)) hx hb dL_piece_1 (by decide) ?_
  refine lv_aload_n hx hb dL_piece_2 rfl (lv_at hl 0 rfl) ?_
  refine lv_iload_n hx hb dL_piece_3 rfl (lv_at hl 1 rfl) ?_
  refine lv_iload_n hx hb dL_piece_4 rfl (lv_at hl 2 rfl) ?_
  refine nd_callXW (As := [.int x1, .int x2]) (rest := [.int 0, .ref od]) hx hb hml hown hts hl [(od, OU cJ g)] W0 [] (wl_in hP) hK1 (wl_inD hD) hS hA hN hX hC iv_X8_piece wd_87 0 hq rfl rfl ⟨Nat.le_of_ble_eq_true rfl, Nat.le_of_ble_eq_true rfl⟩ (Nat.le_of_ble_eq_true rfl) ⟨Nat.le_of_ble_eq_true rfl, Nat.le_of_ble_eq_true rfl⟩ dL_piece_5 rfl [⟨0, 10, 13, 13⟩] ⟨0, 10, 17, 15⟩ [] (hxt.trans rfl) (fun z hz => by cases List.mem_singleton.mp hz; exact Or.inr ⟨by decide, _, hts _ wd_85, hY.1⟩) (by decide) (by decide) (hts _ wd_86) (j_cast hX (by decide)) (fun q W9 H locs hw hP hS => ?_)
  refine lv_astore (lv' := [(4, .ref q), (0, .ref b), (1, .int x1), (2, .int x2), (3, .ref od)]) hx hb dL_piece_17 hl (by decide) rfl (fun ls hl => ?_)
  refine lv_iconst (v := (2 : Int32)) hx hb dL_piece_19 (by decide) ?_
  exact hret (W1 := W9) hw (hsame _ hw) (wl_out hP) hS dL_piece_20
def tL_paste_0 : List (Nat × Instr × Nat) := [(0, .aload_n 2, 1), (1, .iconst 0, 1), (2, .aload_n 0, 1), (3, .iload_n 1, 1), (4, .invokevirtual 17, 3), (7, .i2l, 1), (8, .lastore, 1), (9, .goto 9, 3), (12, .astore_n 3, 1), (13, .iconst 1, 1), (14, .ireturn, 1), (15, .astore_n 3, 1), (16, .iconst 2, 1), (17, .ireturn, 1), (18, .iconst 0, 1), (19, .ireturn, 1)]
theorem tL_paste_0_ok : tL_paste_0.all (fun q => decide (decode cL_paste q.1 = .ok q.2)) = true := by decide +kernel
theorem dL_paste_0 : decode cL_paste 0 = .ok (.aload_n 2, 1) := td tL_paste_0_ok 0 (q := (0, .aload_n 2, 1)) rfl
theorem dL_paste_1 : decode cL_paste 1 = .ok (.iconst 0, 1) := td tL_paste_0_ok 1 (q := (1, .iconst 0, 1)) rfl
theorem dL_paste_2 : decode cL_paste 2 = .ok (.aload_n 0, 1) := td tL_paste_0_ok 2 (q := (2, .aload_n 0, 1)) rfl
theorem dL_paste_3 : decode cL_paste 3 = .ok (.iload_n 1, 1) := td tL_paste_0_ok 3 (q := (3, .iload_n 1, 1)) rfl
theorem dL_paste_4 : decode cL_paste 4 = .ok (.invokevirtual 17, 3) := td tL_paste_0_ok 4 (q := (4, .invokevirtual 17, 3)) rfl
theorem dL_paste_7 : decode cL_paste 7 = .ok (.i2l, 1) := td tL_paste_0_ok 5 (q := (7, .i2l, 1)) rfl
theorem dL_paste_8 : decode cL_paste 8 = .ok (.lastore, 1) := td tL_paste_0_ok 6 (q := (8, .lastore, 1)) rfl
theorem dL_paste_9 : decode cL_paste 9 = .ok (.goto 9, 3) := td tL_paste_0_ok 7 (q := (9, .goto 9, 3)) rfl
theorem dL_paste_12 : decode cL_paste 12 = .ok (.astore_n 3, 1) := td tL_paste_0_ok 8 (q := (12, .astore_n 3, 1)) rfl
theorem dL_paste_13 : decode cL_paste 13 = .ok (.iconst 1, 1) := td tL_paste_0_ok 9 (q := (13, .iconst 1, 1)) rfl
theorem dL_paste_14 : decode cL_paste 14 = .ok (.ireturn, 1) := td tL_paste_0_ok 10 (q := (14, .ireturn, 1)) rfl
theorem dL_paste_15 : decode cL_paste 15 = .ok (.astore_n 3, 1) := td tL_paste_0_ok 11 (q := (15, .astore_n 3, 1)) rfl
theorem dL_paste_16 : decode cL_paste 16 = .ok (.iconst 2, 1) := td tL_paste_0_ok 12 (q := (16, .iconst 2, 1)) rfl
theorem dL_paste_17 : decode cL_paste 17 = .ok (.ireturn, 1) := td tL_paste_0_ok 13 (q := (17, .ireturn, 1)) rfl
theorem dL_paste_18 : decode cL_paste 18 = .ok (.iconst 0, 1) := td tL_paste_0_ok 14 (q := (18, .iconst 0, 1)) rfl
theorem dL_paste_19 : decode cL_paste 19 = .ok (.ireturn, 1) := td tL_paste_0_ok 15 (q := (19, .ireturn, 1)) rfl
set_option maxHeartbeats 4000000 in
set_option maxRecDepth 100000 in
theorem hL_paste {l : Launch} {D : va_G} {cI cJ : ClassId} {od b : Nat} {g : Nat → Int64} {W0 W1 : va_W} {fs : List Value} {x1 : Int32} {r : Int32} (hC : nd_C l yX8_paste cX8_paste 3 (some .int) 6 125 D [(cI, .int)] [.ref b, .int x1] W0 W1 (some (.int r))) (hq : W0[0]? = some (b, .inr (5, fs))) (hsame : W1.map (·.1) = W0.map (·.1)) : nd_H l yL_paste cL_paste 4 [(0, 9, 12, 21), (0, 9, 15, 13)] D cI cJ od g [.ref b, .int x1, .ref od] W0 (fun W g1 => W = W1 ∧ g1 0 = r.toInt64) 0 := by
  refine nd_ofH (by decide) (Nat.le_of_ble_eq_true rfl) (fun p e s m args below meth c_ ls A Q hx hb hml hown hts hl hP hK hD hS hA hN hX hY hxt hret => ?_)
  have hown : s.vm.findClass RL = some m.cls := hown
  have hl : lv_has ls 4 [(0, .ref b), (1, .int x1), (2, .ref od)] := hl
  have hK1 : va_K D vwCl [(cI, .int)] s := hK.sub [0] rfl
  refine lv_aload_n hx hb dL_paste_0 rfl (lv_at hl 2 rfl) ?_
  refine lv_iconst (v := (0 : Int32)) hx hb dL_paste_1 (by decide) ?_
  refine lv_aload_n hx hb dL_paste_2 rfl (lv_at hl 0 rfl) ?_
  refine lv_iload_n hx hb dL_paste_3 rfl (lv_at hl 1 rfl) ?_
  refine nd_callVW (As := [.int x1]) (rest := [.int 0, .ref od]) (st1 := [.int r, .int 0, .ref od]) hx hb hml hown hts hl [(od, OU cJ g)] W0 W1 [] (wl_in hP) hK1 (wl_inD hD) hS hA hN hC iv_X8_paste wd_151 0 hq rfl hsame rfl ⟨Nat.le_of_ble_eq_true rfl, Nat.le_of_ble_eq_true rfl⟩ (Nat.le_of_ble_eq_true rfl) ⟨Nat.zero_le _, Nat.zero_le _⟩ dL_paste_4 rfl rfl (fun H locs hP hD hS => ?_)
  have hP := wl_out hP
  have hD := wl_outD hD
  refine lv_i2l hx hb dL_paste_7 rfl ?_
  refine va_last hx hb hK hP hD hS 0 1 rfl rfl in_01 dL_paste_8 (fun H locs hP hD hS => ?_)
  refine lv_goto (tgt := 18) hx hb dL_paste_9 (by decide) ?_
  refine lv_iconst (v := (0 : Int32)) hx hb dL_paste_18 (by decide) ?_
  refine W.widen (k := 1) (n := 6) (by decide) (by decide) ?_
  exact hret (W1 := W1) ⟨rfl, rfl⟩ hsame hP hS dL_paste_19
set_option maxHeartbeats 4000000 in
set_option maxRecDepth 100000 in
theorem tL_paste_3 {l : Launch} {D : va_G} {cI cJ : ClassId} {od b : Nat} {g : Nat → Int64} {W0 W1 : va_W} {fs : List Value} {x1 : Int32} {PW : va_W → Prop} (hC : nd_CX l yX8_paste cX8_paste 3 (some .int) 7 125 D [(cI, .int)] [.ref b, .int x1] W0 PW 3) (hq : W0[0]? = some (b, .inr (5, fs))) (hsame : ∀ W1, PW W1 → W1.map (·.1) = W0.map (·.1)) : nd_H l yL_paste cL_paste 4 [(0, 9, 12, 21), (0, 9, 15, 13)] D cI cJ od g [.ref b, .int x1, .ref od] W0 (fun W _ => PW W) 1 := by
  refine nd_ofH (by decide) (Nat.le_of_ble_eq_true rfl) (fun p e s m args below meth c_ ls A Q hx hb hml hown hts hl hP hK hD hS hA hN hX hY hxt hret => ?_)
  have hown : s.vm.findClass RL = some m.cls := hown
  have hl : lv_has ls 4 [(0, .ref b), (1, .int x1), (2, .ref od)] := hl
  have hK1 : va_K D vwCl [(cI, .int)] s := hK.sub [0] rfl
  refine lv_aload_n hx hb dL_paste_0 rfl (lv_at hl 2 rfl) ?_
  refine lv_iconst (v := (0 : Int32)) hx hb dL_paste_1 (by decide) ?_
  refine lv_aload_n hx hb dL_paste_2 rfl (lv_at hl 0 rfl) ?_
  refine lv_iload_n hx hb dL_paste_3 rfl (lv_at hl 1 rfl) ?_
  refine nd_callXW (As := [.int x1]) (rest := [.int 0, .ref od]) hx hb hml hown hts hl [(od, OU cJ g)] W0 [] (wl_in hP) hK1 (wl_inD hD) hS hA hN hX hC iv_X8_paste wd_151 0 hq rfl rfl ⟨Nat.le_of_ble_eq_true rfl, Nat.le_of_ble_eq_true rfl⟩ (Nat.le_of_ble_eq_true rfl) ⟨Nat.le_of_ble_eq_true rfl, Nat.le_of_ble_eq_true rfl⟩ dL_paste_4 rfl [] ⟨0, 9, 12, 21⟩ [⟨0, 9, 15, 13⟩] (hxt.trans rfl) (fun z hz => absurd hz List.not_mem_nil) (by decide) (by decide) (hts _ wd_150) (j_cast hX (by decide)) (fun q W9 H locs hw hP hS => ?_)
  refine lv_astore_n (lv' := [(3, .ref q), (0, .ref b), (1, .int x1), (2, .ref od)]) hx hb dL_paste_12 rfl hl (by decide) rfl (fun ls hl => ?_)
  refine lv_iconst (v := (1 : Int32)) hx hb dL_paste_13 (by decide) ?_
  exact hret (W1 := W9) hw (hsame _ hw) (wl_out hP) hS dL_paste_14
set_option maxHeartbeats 4000000 in
set_option maxRecDepth 100000 in
theorem tL_paste_1 {l : Launch} {D : va_G} {cI cJ : ClassId} {od b : Nat} {g : Nat → Int64} {W0 W1 : va_W} {fs : List Value} {x1 : Int32} {PW : va_W → Prop} (hC : nd_CX l yX8_paste cX8_paste 3 (some .int) 7 125 D [(cI, .int)] [.ref b, .int x1] W0 PW 1) (hq : W0[0]? = some (b, .inr (5, fs))) (hsame : ∀ W1, PW W1 → W1.map (·.1) = W0.map (·.1)) : nd_H l yL_paste cL_paste 4 [(0, 9, 12, 21), (0, 9, 15, 13)] D cI cJ od g [.ref b, .int x1, .ref od] W0 (fun W _ => PW W) 2 := by
  refine nd_ofH (by decide) (Nat.le_of_ble_eq_true rfl) (fun p e s m args below meth c_ ls A Q hx hb hml hown hts hl hP hK hD hS hA hN hX hY hxt hret => ?_)
  have hown : s.vm.findClass RL = some m.cls := hown
  have hl : lv_has ls 4 [(0, .ref b), (1, .int x1), (2, .ref od)] := hl
  have hK1 : va_K D vwCl [(cI, .int)] s := hK.sub [0] rfl
  refine lv_aload_n hx hb dL_paste_0 rfl (lv_at hl 2 rfl) ?_
  refine lv_iconst (v := (0 : Int32)) hx hb dL_paste_1 (by decide) ?_
  refine lv_aload_n hx hb dL_paste_2 rfl (lv_at hl 0 rfl) ?_
  refine lv_iload_n hx hb dL_paste_3 rfl (lv_at hl 1 rfl) ?_
  refine nd_callXW (As := [.int x1]) (rest := [.int 0, .ref od]) hx hb hml hown hts hl [(od, OU cJ g)] W0 [] (wl_in hP) hK1 (wl_inD hD) hS hA hN hX hC iv_X8_paste wd_151 0 hq rfl rfl ⟨Nat.le_of_ble_eq_true rfl, Nat.le_of_ble_eq_true rfl⟩ (Nat.le_of_ble_eq_true rfl) ⟨Nat.le_of_ble_eq_true rfl, Nat.le_of_ble_eq_true rfl⟩ dL_paste_4 rfl [⟨0, 9, 12, 21⟩] ⟨0, 9, 15, 13⟩ [] (hxt.trans rfl) (fun z hz => by cases List.mem_singleton.mp hz; exact Or.inr ⟨by decide, _, hts _ wd_150, hY.2.1⟩) (by decide) (by decide) (hts _ wd_85) (j_cast hX (by decide)) (fun q W9 H locs hw hP hS => ?_)
  refine lv_astore_n (lv' := [(3, .ref q), (0, .ref b), (1, .int x1), (2, .ref od)]) hx hb dL_paste_15 rfl hl (by decide) rfl (fun ls hl => ?_)
  refine lv_iconst (v := (2 : Int32)) hx hb dL_paste_16 (by decide) ?_
  exact hret (W1 := W9) hw (hsame _ hw) (wl_out hP) hS dL_paste_17
def tL_cut_0 : List (Nat × Instr × Nat) := [(0, .aload_n 2, 1), (1, .iconst 0, 1), (2, .aload_n 0, 1), (3, .iload_n 1, 1), (4, .invokevirtual 23, 3), (7, .i2l, 1), (8, .lastore, 1), (9, .goto 9, 3), (12, .astore_n 3, 1), (13, .iconst 1, 1), (14, .ireturn, 1), (15, .astore_n 3, 1), (16, .iconst 2, 1), (17, .ireturn, 1), (18, .iconst 0, 1), (19, .ireturn, 1)]
theorem tL_cut_0_ok : tL_cut_0.all (fun q => decide (decode cL_cut q.1 = .ok q.2)) = true := by decide +kernel
theorem dL_cut_0 : decode cL_cut 0 = .ok (.aload_n 2, 1) := td tL_cut_0_ok 0 (q := (0, .aload_n 2, 1)) rfl
theorem dL_cut_1 : decode cL_cut 1 = .ok (.iconst 0, 1) := td tL_cut_0_ok 1 (q := (1, .iconst 0, 1)) rfl
theorem dL_cut_2 : decode cL_cut 2 = .ok (.aload_n 0, 1) := td tL_cut_0_ok 2 (q := (2, .aload_n 0, 1)) rfl
theorem dL_cut_3 : decode cL_cut 3 = .ok (.iload_n 1, 1) := td tL_cut_0_ok 3 (q := (3, .iload_n 1, 1)) rfl
theorem dL_cut_4 : decode cL_cut 4 = .ok (.invokevirtual 23, 3) := td tL_cut_0_ok 4 (q := (4, .invokevirtual 23, 3)) rfl
theorem dL_cut_7 : decode cL_cut 7 = .ok (.i2l, 1) := td tL_cut_0_ok 5 (q := (7, .i2l, 1)) rfl
theorem dL_cut_8 : decode cL_cut 8 = .ok (.lastore, 1) := td tL_cut_0_ok 6 (q := (8, .lastore, 1)) rfl
theorem dL_cut_9 : decode cL_cut 9 = .ok (.goto 9, 3) := td tL_cut_0_ok 7 (q := (9, .goto 9, 3)) rfl
theorem dL_cut_12 : decode cL_cut 12 = .ok (.astore_n 3, 1) := td tL_cut_0_ok 8 (q := (12, .astore_n 3, 1)) rfl
theorem dL_cut_13 : decode cL_cut 13 = .ok (.iconst 1, 1) := td tL_cut_0_ok 9 (q := (13, .iconst 1, 1)) rfl
theorem dL_cut_14 : decode cL_cut 14 = .ok (.ireturn, 1) := td tL_cut_0_ok 10 (q := (14, .ireturn, 1)) rfl
theorem dL_cut_15 : decode cL_cut 15 = .ok (.astore_n 3, 1) := td tL_cut_0_ok 11 (q := (15, .astore_n 3, 1)) rfl
theorem dL_cut_16 : decode cL_cut 16 = .ok (.iconst 2, 1) := td tL_cut_0_ok 12 (q := (16, .iconst 2, 1)) rfl
theorem dL_cut_17 : decode cL_cut 17 = .ok (.ireturn, 1) := td tL_cut_0_ok 13 (q := (17, .ireturn, 1)) rfl
theorem dL_cut_18 : decode cL_cut 18 = .ok (.iconst 0, 1) := td tL_cut_0_ok 14 (q := (18, .iconst 0, 1)) rfl
theorem dL_cut_19 : decode cL_cut 19 = .ok (.ireturn, 1) := td tL_cut_0_ok 15 (q := (19, .ireturn, 1)) rfl
set_option maxHeartbeats 4000000 in
set_option maxRecDepth 100000 in
theorem hL_cut {l : Launch} {D : va_G} {cI cJ : ClassId} {od b : Nat} {g : Nat → Int64} {W0 W1 : va_W} {fs : List Value} {x1 : Int32} {r : Int32} (hC : nd_C l yX8_cut cX8_cut 3 (some .int) 3 80 D [(cI, .int)] [.ref b, .int x1] W0 W1 (some (.int r))) (hq : W0[0]? = some (b, .inr (5, fs))) (hsame : W1.map (·.1) = W0.map (·.1)) : nd_H l yL_cut cL_cut 4 [(0, 9, 12, 21), (0, 9, 15, 15)] D cI cJ od g [.ref b, .int x1, .ref od] W0 (fun W g1 => W = W1 ∧ g1 0 = r.toInt64) 0 := by
  refine nd_ofH (by decide) (Nat.le_of_ble_eq_true rfl) (fun p e s m args below meth c_ ls A Q hx hb hml hown hts hl hP hK hD hS hA hN hX hY hxt hret => ?_)
  have hown : s.vm.findClass RL = some m.cls := hown
  have hl : lv_has ls 4 [(0, .ref b), (1, .int x1), (2, .ref od)] := hl
  have hK1 : va_K D vwCl [(cI, .int)] s := hK.sub [0] rfl
  refine lv_aload_n hx hb dL_cut_0 rfl (lv_at hl 2 rfl) ?_
  refine lv_iconst (v := (0 : Int32)) hx hb dL_cut_1 (by decide) ?_
  refine lv_aload_n hx hb dL_cut_2 rfl (lv_at hl 0 rfl) ?_
  refine lv_iload_n hx hb dL_cut_3 rfl (lv_at hl 1 rfl) ?_
  refine nd_callVW (As := [.int x1]) (rest := [.int 0, .ref od]) (st1 := [.int r, .int 0, .ref od]) hx hb hml hown hts hl [(od, OU cJ g)] W0 W1 [] (wl_in hP) hK1 (wl_inD hD) hS hA hN hC iv_X8_cut wd_333 0 hq rfl hsame rfl ⟨Nat.le_of_ble_eq_true rfl, Nat.le_of_ble_eq_true rfl⟩ (Nat.le_of_ble_eq_true rfl) ⟨Nat.zero_le _, Nat.zero_le _⟩ dL_cut_4 rfl rfl (fun H locs hP hD hS => ?_)
  have hP := wl_out hP
  have hD := wl_outD hD
  refine lv_i2l hx hb dL_cut_7 rfl ?_
  refine va_last hx hb hK hP hD hS 0 1 rfl rfl in_01 dL_cut_8 (fun H locs hP hD hS => ?_)
  refine lv_goto (tgt := 18) hx hb dL_cut_9 (by decide) ?_
  refine lv_iconst (v := (0 : Int32)) hx hb dL_cut_18 (by decide) ?_
  refine W.widen (k := 1) (n := 6) (by decide) (by decide) ?_
  exact hret (W1 := W1) ⟨rfl, rfl⟩ hsame hP hS dL_cut_19
set_option maxHeartbeats 4000000 in
set_option maxRecDepth 100000 in
theorem tL_cut_3 {l : Launch} {D : va_G} {cI cJ : ClassId} {od b : Nat} {g : Nat → Int64} {W0 W1 : va_W} {fs : List Value} {x1 : Int32} {PW : va_W → Prop} (hC : nd_CX l yX8_cut cX8_cut 3 (some .int) 7 103 D [(cI, .int)] [.ref b, .int x1] W0 PW 3) (hq : W0[0]? = some (b, .inr (5, fs))) (hsame : ∀ W1, PW W1 → W1.map (·.1) = W0.map (·.1)) : nd_H l yL_cut cL_cut 4 [(0, 9, 12, 21), (0, 9, 15, 15)] D cI cJ od g [.ref b, .int x1, .ref od] W0 (fun W _ => PW W) 1 := by
  refine nd_ofH (by decide) (Nat.le_of_ble_eq_true rfl) (fun p e s m args below meth c_ ls A Q hx hb hml hown hts hl hP hK hD hS hA hN hX hY hxt hret => ?_)
  have hown : s.vm.findClass RL = some m.cls := hown
  have hl : lv_has ls 4 [(0, .ref b), (1, .int x1), (2, .ref od)] := hl
  have hK1 : va_K D vwCl [(cI, .int)] s := hK.sub [0] rfl
  refine lv_aload_n hx hb dL_cut_0 rfl (lv_at hl 2 rfl) ?_
  refine lv_iconst (v := (0 : Int32)) hx hb dL_cut_1 (by decide) ?_
  refine lv_aload_n hx hb dL_cut_2 rfl (lv_at hl 0 rfl) ?_
  refine lv_iload_n hx hb dL_cut_3 rfl (lv_at hl 1 rfl) ?_
  refine nd_callXW (As := [.int x1]) (rest := [.int 0, .ref od]) hx hb hml hown hts hl [(od, OU cJ g)] W0 [] (wl_in hP) hK1 (wl_inD hD) hS hA hN hX hC iv_X8_cut wd_333 0 hq rfl rfl ⟨Nat.le_of_ble_eq_true rfl, Nat.le_of_ble_eq_true rfl⟩ (Nat.le_of_ble_eq_true rfl) ⟨Nat.le_of_ble_eq_true rfl, Nat.le_of_ble_eq_true rfl⟩ dL_cut_4 rfl [] ⟨0, 9, 12, 21⟩ [⟨0, 9, 15, 15⟩] (hxt.trans rfl) (fun z hz => absurd hz List.not_mem_nil) (by decide) (by decide) (hts _ wd_150) (j_cast hX (by decide)) (fun q W9 H locs hw hP hS => ?_)
  refine lv_astore_n (lv' := [(3, .ref q), (0, .ref b), (1, .int x1), (2, .ref od)]) hx hb dL_cut_12 rfl hl (by decide) rfl (fun ls hl => ?_)
  refine lv_iconst (v := (1 : Int32)) hx hb dL_cut_13 (by decide) ?_
  exact hret (W1 := W9) hw (hsame _ hw) (wl_out hP) hS dL_cut_14
set_option maxHeartbeats 4000000 in
set_option maxRecDepth 100000 in
theorem tL_cut_2 {l : Launch} {D : va_G} {cI cJ : ClassId} {od b : Nat} {g : Nat → Int64} {W0 W1 : va_W} {fs : List Value} {x1 : Int32} {PW : va_W → Prop} (hC : nd_CX l yX8_cut cX8_cut 3 (some .int) 7 103 D [(cI, .int)] [.ref b, .int x1] W0 PW 2) (hq : W0[0]? = some (b, .inr (5, fs))) (hsame : ∀ W1, PW W1 → W1.map (·.1) = W0.map (·.1)) : nd_H l yL_cut cL_cut 4 [(0, 9, 12, 21), (0, 9, 15, 15)] D cI cJ od g [.ref b, .int x1, .ref od] W0 (fun W _ => PW W) 2 := by
  refine nd_ofH (by decide) (Nat.le_of_ble_eq_true rfl) (fun p e s m args below meth c_ ls A Q hx hb hml hown hts hl hP hK hD hS hA hN hX hY hxt hret => ?_)
  have hown : s.vm.findClass RL = some m.cls := hown
  have hl : lv_has ls 4 [(0, .ref b), (1, .int x1), (2, .ref od)] := hl
  have hK1 : va_K D vwCl [(cI, .int)] s := hK.sub [0] rfl
  refine lv_aload_n hx hb dL_cut_0 rfl (lv_at hl 2 rfl) ?_
  refine lv_iconst (v := (0 : Int32)) hx hb dL_cut_1 (by decide) ?_
  refine lv_aload_n hx hb dL_cut_2 rfl (lv_at hl 0 rfl) ?_
  refine lv_iload_n hx hb dL_cut_3 rfl (lv_at hl 1 rfl) ?_
  refine nd_callXW (As := [.int x1]) (rest := [.int 0, .ref od]) hx hb hml hown hts hl [(od, OU cJ g)] W0 [] (wl_in hP) hK1 (wl_inD hD) hS hA hN hX hC iv_X8_cut wd_333 0 hq rfl rfl ⟨Nat.le_of_ble_eq_true rfl, Nat.le_of_ble_eq_true rfl⟩ (Nat.le_of_ble_eq_true rfl) ⟨Nat.le_of_ble_eq_true rfl, Nat.le_of_ble_eq_true rfl⟩ dL_cut_4 rfl [⟨0, 9, 12, 21⟩] ⟨0, 9, 15, 15⟩ [] (hxt.trans rfl) (fun z hz => by cases List.mem_singleton.mp hz; exact Or.inr ⟨by decide, _, hts _ wd_150, hY.2.2⟩) (by decide) (by decide) (hts _ wd_86) (j_cast hX (by decide)) (fun q W9 H locs hw hP hS => ?_)
  refine lv_astore_n (lv' := [(3, .ref q), (0, .ref b), (1, .int x1), (2, .ref od)]) hx hb dL_cut_15 rfl hl (by decide) rfl (fun ls hl => ?_)
  refine lv_iconst (v := (2 : Int32)) hx hb dL_cut_16 (by decide) ?_
  exact hret (W1 := W9) hw (hsame _ hw) (wl_out hP) hS dL_cut_17
def tL_correct_0 : List (Nat × Instr × Nat) := [(0, .aload_n 3, 1), (1, .iconst 0, 1), (2, .aload_n 0, 1), (3, .iload_n 1, 1), (4, .iload_n 2, 1), (5, .invokevirtual 26, 3), (8, .i2l, 1), (9, .lastore, 1), (10, .goto 7, 3), (13, .astore 4, 2), (15, .iconst 1, 1), (16, .ireturn, 1), (17, .iconst 0, 1), (18, .ireturn, 1)]
theorem tL_correct_0_ok : tL_correct_0.all (fun q => decide (decode cL_correct q.1 = .ok q.2)) = true := by decide +kernel
theorem dL_correct_0 : decode cL_correct 0 = .ok (.aload_n 3, 1) := td tL_correct_0_ok 0 (q := (0, .aload_n 3, 1)) rfl
theorem dL_correct_1 : decode cL_correct 1 = .ok (.iconst 0, 1) := td tL_correct_0_ok 1 (q := (1, .iconst 0, 1)) rfl
theorem dL_correct_2 : decode cL_correct 2 = .ok (.aload_n 0, 1) := td tL_correct_0_ok 2 (q := (2, .aload_n 0, 1)) rfl
theorem dL_correct_3 : decode cL_correct 3 = .ok (.iload_n 1, 1) := td tL_correct_0_ok 3 (q := (3, .iload_n 1, 1)) rfl
theorem dL_correct_4 : decode cL_correct 4 = .ok (.iload_n 2, 1) := td tL_correct_0_ok 4 (q := (4, .iload_n 2, 1)) rfl
theorem dL_correct_5 : decode cL_correct 5 = .ok (.invokevirtual 26, 3) := td tL_correct_0_ok 5 (q := (5, .invokevirtual 26, 3)) rfl
theorem dL_correct_8 : decode cL_correct 8 = .ok (.i2l, 1) := td tL_correct_0_ok 6 (q := (8, .i2l, 1)) rfl
theorem dL_correct_9 : decode cL_correct 9 = .ok (.lastore, 1) := td tL_correct_0_ok 7 (q := (9, .lastore, 1)) rfl
theorem dL_correct_10 : decode cL_correct 10 = .ok (.goto 7, 3) := td tL_correct_0_ok 8 (q := (10, .goto 7, 3)) rfl
theorem dL_correct_13 : decode cL_correct 13 = .ok (.astore 4, 2) := td tL_correct_0_ok 9 (q := (13, .astore 4, 2)) rfl
theorem dL_correct_15 : decode cL_correct 15 = .ok (.iconst 1, 1) := td tL_correct_0_ok 10 (q := (15, .iconst 1, 1)) rfl
theorem dL_correct_16 : decode cL_correct 16 = .ok (.ireturn, 1) := td tL_correct_0_ok 11 (q := (16, .ireturn, 1)) rfl
theorem dL_correct_17 : decode cL_correct 17 = .ok (.iconst 0, 1) := td tL_correct_0_ok 12 (q := (17, .iconst 0, 1)) rfl
theorem dL_correct_18 : decode cL_correct 18 = .ok (.ireturn, 1) := td tL_correct_0_ok 13 (q := (18, .ireturn, 1)) rfl
set_option maxHeartbeats 4000000 in
set_option maxRecDepth 100000 in
theorem hL_correct {l : Launch} {D : va_G} {cI cJ : ClassId} {od b : Nat} {g : Nat → Int64} {W0 W1 : va_W} {fs : List Value} {x1 x2 : Int32} {r : Int32} (hC : nd_C l yX8_correct cX8_correct 5 (some .int) 4 84 D [(cI, .int)] [.ref b, .int x1, .int x2] W0 W1 (some (.int r))) (hq : W0[0]? = some (b, .inr (5, fs))) (hsame : W1.map (·.1) = W0.map (·.1)) : nd_H l yL_correct cL_correct 5 [(0, 10, 13, 21)] D cI cJ od g [.ref b, .int x1, .int x2, .ref od] W0 (fun W g1 => W = W1 ∧ g1 0 = r.toInt64) 0 := by
  refine nd_ofH (by decide) (Nat.le_of_ble_eq_true rfl) (fun p e s m args below meth c_ ls A Q hx hb hml hown hts hl hP hK hD hS hA hN hX hY hxt hret => ?_)
  have hown : s.vm.findClass RL = some m.cls := hown
  have hl : lv_has ls 5 [(0, .ref b), (1, .int x1), (2, .int x2), (3, .ref od)] := hl
  have hK1 : va_K D vwCl [(cI, .int)] s := hK.sub [0] rfl
  refine lv_aload_n hx hb dL_correct_0 rfl (lv_at hl 3 rfl) ?_
  refine lv_iconst (v := (0 : Int32)) hx hb dL_correct_1 (by decide) ?_
  refine lv_aload_n hx hb dL_correct_2 rfl (lv_at hl 0 rfl) ?_
  refine lv_iload_n hx hb dL_correct_3 rfl (lv_at hl 1 rfl) ?_
  refine lv_iload_n hx hb dL_correct_4 rfl (lv_at hl 2 rfl) ?_
  refine nd_callVW (As := [.int x1, .int x2]) (rest := [.int 0, .ref od]) (st1 := [.int r, .int 0, .ref od]) hx hb hml hown hts hl [(od, OU cJ g)] W0 W1 [] (wl_in hP) hK1 (wl_inD hD) hS hA hN hC iv_X8_correct wd_352 0 hq rfl hsame rfl ⟨Nat.le_of_ble_eq_true rfl, Nat.le_of_ble_eq_true rfl⟩ (Nat.le_of_ble_eq_true rfl) ⟨Nat.zero_le _, Nat.zero_le _⟩ dL_correct_5 rfl rfl (fun H locs hP hD hS => ?_)
  have hP := wl_out hP
  have hD := wl_outD hD
  refine lv_i2l hx hb dL_correct_8 rfl ?_
  refine va_last hx hb hK hP hD hS 0 1 rfl rfl in_01 dL_correct_9 (fun H locs hP hD hS => ?_)
  refine lv_goto (tgt := 17) hx hb dL_correct_10 (by decide) ?_
  refine lv_iconst (v := (0 : Int32)) hx hb dL_correct_17 (by decide) ?_
  refine W.widen (k := 1) (n := 6) (by decide) (by decide) ?_
  exact hret (W1 := W1) ⟨rfl, rfl⟩ hsame hP hS dL_correct_18
set_option maxHeartbeats 4000000 in
set_option maxRecDepth 100000 in
theorem tL_correct_3 {l : Launch} {D : va_G} {cI cJ : ClassId} {od b : Nat} {g : Nat → Int64} {W0 W1 : va_W} {fs : List Value} {x1 x2 : Int32} {PW : va_W → Prop} (hC : nd_CX l yX8_correct cX8_correct 5 (some .int) 8 125 D [(cI, .int)] [.ref b, .int x1, .int x2] W0 PW 3) (hq : W0[0]? = some (b, .inr (5, fs))) (hsame : ∀ W1, PW W1 → W1.map (·.1) = W0.map (·.1)) : nd_H l yL_correct cL_correct 5 [(0, 10, 13, 21)] D cI cJ od g [.ref b, .int x1, .int x2, .ref od] W0 (fun W _ => PW W) 1 := by
  refine nd_ofH (by decide) (Nat.le_of_ble_eq_true rfl) (fun p e s m args below meth c_ ls A Q hx hb hml hown hts hl hP hK hD hS hA hN hX hY hxt hret => ?_)
  have hown : s.vm.findClass RL = some m.cls := hown
  have hl : lv_has ls 5 [(0, .ref b), (1, .int x1), (2, .int x2), (3, .ref od)] := hl
  have hK1 : va_K D vwCl [(cI, .int)] s := hK.sub [0] rfl
  refine lv_aload_n hx hb dL_correct_0 rfl (lv_at hl 3 rfl) ?_
  refine lv_iconst (v := (0 : Int32)) hx hb dL_correct_1 (by decide) ?_
  refine lv_aload_n hx hb dL_correct_2 rfl (lv_at hl 0 rfl) ?_
  refine lv_iload_n hx hb dL_correct_3 rfl (lv_at hl 1 rfl) ?_
  refine lv_iload_n hx hb dL_correct_4 rfl (lv_at hl 2 rfl) ?_
  refine nd_callXW (As := [.int x1, .int x2]) (rest := [.int 0, .ref od]) hx hb hml hown hts hl [(od, OU cJ g)] W0 [] (wl_in hP) hK1 (wl_inD hD) hS hA hN hX hC iv_X8_correct wd_352 0 hq rfl rfl ⟨Nat.le_of_ble_eq_true rfl, Nat.le_of_ble_eq_true rfl⟩ (Nat.le_of_ble_eq_true rfl) ⟨Nat.le_of_ble_eq_true rfl, Nat.le_of_ble_eq_true rfl⟩ dL_correct_5 rfl [] ⟨0, 10, 13, 21⟩ [] (hxt.trans rfl) (fun z hz => absurd hz List.not_mem_nil) (by decide) (by decide) (hts _ wd_150) (j_cast hX (by decide)) (fun q W9 H locs hw hP hS => ?_)
  refine lv_astore (lv' := [(4, .ref q), (0, .ref b), (1, .int x1), (2, .int x2), (3, .ref od)]) hx hb dL_correct_13 hl (by decide) rfl (fun ls hl => ?_)
  refine lv_iconst (v := (1 : Int32)) hx hb dL_correct_15 (by decide) ?_
  exact hret (W1 := W9) hw (hsame _ hw) (wl_out hP) hS dL_correct_16
def tL_join_0 : List (Nat × Instr × Nat) := [(0, .aload_n 3, 1), (1, .iconst 0, 1), (2, .aload_n 0, 1), (3, .iload_n 1, 1), (4, .iload_n 2, 1), (5, .invokevirtual 29, 3), (8, .i2l, 1), (9, .lastore, 1), (10, .goto 11, 3), (13, .astore 4, 2), (15, .iconst 1, 1), (16, .ireturn, 1), (17, .astore 4, 2), (19, .iconst 2, 1), (20, .ireturn, 1), (21, .iconst 0, 1), (22, .ireturn, 1)]
theorem tL_join_0_ok : tL_join_0.all (fun q => decide (decode cL_join q.1 = .ok q.2)) = true := by decide +kernel
theorem dL_join_0 : decode cL_join 0 = .ok (.aload_n 3, 1) := td tL_join_0_ok 0 (q := (0, .aload_n 3, 1)) rfl
theorem dL_join_1 : decode cL_join 1 = .ok (.iconst 0, 1) := td tL_join_0_ok 1 (q := (1, .iconst 0, 1)) rfl
theorem dL_join_2 : decode cL_join 2 = .ok (.aload_n 0, 1) := td tL_join_0_ok 2 (q := (2, .aload_n 0, 1)) rfl
theorem dL_join_3 : decode cL_join 3 = .ok (.iload_n 1, 1) := td tL_join_0_ok 3 (q := (3, .iload_n 1, 1)) rfl
theorem dL_join_4 : decode cL_join 4 = .ok (.iload_n 2, 1) := td tL_join_0_ok 4 (q := (4, .iload_n 2, 1)) rfl
theorem dL_join_5 : decode cL_join 5 = .ok (.invokevirtual 29, 3) := td tL_join_0_ok 5 (q := (5, .invokevirtual 29, 3)) rfl
theorem dL_join_8 : decode cL_join 8 = .ok (.i2l, 1) := td tL_join_0_ok 6 (q := (8, .i2l, 1)) rfl
theorem dL_join_9 : decode cL_join 9 = .ok (.lastore, 1) := td tL_join_0_ok 7 (q := (9, .lastore, 1)) rfl
theorem dL_join_10 : decode cL_join 10 = .ok (.goto 11, 3) := td tL_join_0_ok 8 (q := (10, .goto 11, 3)) rfl
theorem dL_join_13 : decode cL_join 13 = .ok (.astore 4, 2) := td tL_join_0_ok 9 (q := (13, .astore 4, 2)) rfl
theorem dL_join_15 : decode cL_join 15 = .ok (.iconst 1, 1) := td tL_join_0_ok 10 (q := (15, .iconst 1, 1)) rfl
theorem dL_join_16 : decode cL_join 16 = .ok (.ireturn, 1) := td tL_join_0_ok 11 (q := (16, .ireturn, 1)) rfl
theorem dL_join_17 : decode cL_join 17 = .ok (.astore 4, 2) := td tL_join_0_ok 12 (q := (17, .astore 4, 2)) rfl
theorem dL_join_19 : decode cL_join 19 = .ok (.iconst 2, 1) := td tL_join_0_ok 13 (q := (19, .iconst 2, 1)) rfl
theorem dL_join_20 : decode cL_join 20 = .ok (.ireturn, 1) := td tL_join_0_ok 14 (q := (20, .ireturn, 1)) rfl
theorem dL_join_21 : decode cL_join 21 = .ok (.iconst 0, 1) := td tL_join_0_ok 15 (q := (21, .iconst 0, 1)) rfl
theorem dL_join_22 : decode cL_join 22 = .ok (.ireturn, 1) := td tL_join_0_ok 16 (q := (22, .ireturn, 1)) rfl
set_option maxHeartbeats 4000000 in
set_option maxRecDepth 100000 in
theorem hL_join {l : Launch} {D : va_G} {cI cJ : ClassId} {od b : Nat} {g : Nat → Int64} {W0 W1 : va_W} {fs : List Value} {x1 x2 : Int32} {r : Int32} (hC : nd_C l yX8_join cX8_join 3 (some .int) 3 80 D [(cI, .int)] [.ref b, .int x1, .int x2] W0 W1 (some (.int r))) (hq : W0[0]? = some (b, .inr (5, fs))) (hsame : W1.map (·.1) = W0.map (·.1)) : nd_H l yL_join cL_join 5 [(0, 10, 13, 21), (0, 10, 17, 15)] D cI cJ od g [.ref b, .int x1, .int x2, .ref od] W0 (fun W g1 => W = W1 ∧ g1 0 = r.toInt64) 0 := by
  refine nd_ofH (by decide) (Nat.le_of_ble_eq_true rfl) (fun p e s m args below meth c_ ls A Q hx hb hml hown hts hl hP hK hD hS hA hN hX hY hxt hret => ?_)
  have hown : s.vm.findClass RL = some m.cls := hown
  have hl : lv_has ls 5 [(0, .ref b), (1, .int x1), (2, .int x2), (3, .ref od)] := hl
  have hK1 : va_K D vwCl [(cI, .int)] s := hK.sub [0] rfl
  refine lv_aload_n hx hb dL_join_0 rfl (lv_at hl 3 rfl) ?_
  refine lv_iconst (v := (0 : Int32)) hx hb dL_join_1 (by decide) ?_
  refine lv_aload_n hx hb dL_join_2 rfl (lv_at hl 0 rfl) ?_
  refine lv_iload_n hx hb dL_join_3 rfl (lv_at hl 1 rfl) ?_
  refine lv_iload_n hx hb dL_join_4 rfl (lv_at hl 2 rfl) ?_
  refine nd_callVW (As := [.int x1, .int x2]) (rest := [.int 0, .ref od]) (st1 := [.int r, .int 0, .ref od]) hx hb hml hown hts hl [(od, OU cJ g)] W0 W1 [] (wl_in hP) hK1 (wl_inD hD) hS hA hN hC iv_X8_join wd_375 0 hq rfl hsame rfl ⟨Nat.le_of_ble_eq_true rfl, Nat.le_of_ble_eq_true rfl⟩ (Nat.le_of_ble_eq_true rfl) ⟨Nat.zero_le _, Nat.zero_le _⟩ dL_join_5 rfl rfl (fun H locs hP hD hS => ?_)
  have hP := wl_out hP
  have hD := wl_outD hD
  refine lv_i2l hx hb dL_join_8 rfl ?_
  refine va_last hx hb hK hP hD hS 0 1 rfl rfl in_01 dL_join_9 (fun H locs hP hD hS => ?_)
  refine lv_goto (tgt := 21) hx hb dL_join_10 (by decide) ?_
  refine lv_iconst (v := (0 : Int32)) hx hb dL_join_21 (by decide) ?_
  refine W.widen (k := 1) (n := 6) (by decide) (by decide) ?_
  exact hret (W1 := W1) ⟨rfl, rfl⟩ hsame hP hS dL_join_22
set_option maxHeartbeats 4000000 in
set_option maxRecDepth 100000 in
theorem tL_join_3 {l : Launch} {D : va_G} {cI cJ : ClassId} {od b : Nat} {g : Nat → Int64} {W0 W1 : va_W} {fs : List Value} {x1 x2 : Int32} {PW : va_W → Prop} (hC : nd_CX l yX8_join cX8_join 3 (some .int) 7 103 D [(cI, .int)] [.ref b, .int x1, .int x2] W0 PW 3) (hq : W0[0]? = some (b, .inr (5, fs))) (hsame : ∀ W1, PW W1 → W1.map (·.1) = W0.map (·.1)) : nd_H l yL_join cL_join 5 [(0, 10, 13, 21), (0, 10, 17, 15)] D cI cJ od g [.ref b, .int x1, .int x2, .ref od] W0 (fun W _ => PW W) 1 := by
  refine nd_ofH (by decide) (Nat.le_of_ble_eq_true rfl) (fun p e s m args below meth c_ ls A Q hx hb hml hown hts hl hP hK hD hS hA hN hX hY hxt hret => ?_)
  have hown : s.vm.findClass RL = some m.cls := hown
  have hl : lv_has ls 5 [(0, .ref b), (1, .int x1), (2, .int x2), (3, .ref od)] := hl
  have hK1 : va_K D vwCl [(cI, .int)] s := hK.sub [0] rfl
  refine lv_aload_n hx hb dL_join_0 rfl (lv_at hl 3 rfl) ?_
  refine lv_iconst (v := (0 : Int32)) hx hb dL_join_1 (by decide) ?_
  refine lv_aload_n hx hb dL_join_2 rfl (lv_at hl 0 rfl) ?_
  refine lv_iload_n hx hb dL_join_3 rfl (lv_at hl 1 rfl) ?_
  refine lv_iload_n hx hb dL_join_4 rfl (lv_at hl 2 rfl) ?_
  refine nd_callXW (As := [.int x1, .int x2]) (rest := [.int 0, .ref od]) hx hb hml hown hts hl [(od, OU cJ g)] W0 [] (wl_in hP) hK1 (wl_inD hD) hS hA hN hX hC iv_X8_join wd_375 0 hq rfl rfl ⟨Nat.le_of_ble_eq_true rfl, Nat.le_of_ble_eq_true rfl⟩ (Nat.le_of_ble_eq_true rfl) ⟨Nat.le_of_ble_eq_true rfl, Nat.le_of_ble_eq_true rfl⟩ dL_join_5 rfl [] ⟨0, 10, 13, 21⟩ [⟨0, 10, 17, 15⟩] (hxt.trans rfl) (fun z hz => absurd hz List.not_mem_nil) (by decide) (by decide) (hts _ wd_150) (j_cast hX (by decide)) (fun q W9 H locs hw hP hS => ?_)
  refine lv_astore (lv' := [(4, .ref q), (0, .ref b), (1, .int x1), (2, .int x2), (3, .ref od)]) hx hb dL_join_13 hl (by decide) rfl (fun ls hl => ?_)
  refine lv_iconst (v := (1 : Int32)) hx hb dL_join_15 (by decide) ?_
  exact hret (W1 := W9) hw (hsame _ hw) (wl_out hP) hS dL_join_16
set_option maxHeartbeats 4000000 in
set_option maxRecDepth 100000 in
theorem tL_join_2 {l : Launch} {D : va_G} {cI cJ : ClassId} {od b : Nat} {g : Nat → Int64} {W0 W1 : va_W} {fs : List Value} {x1 x2 : Int32} {PW : va_W → Prop} (hC : nd_CX l yX8_join cX8_join 3 (some .int) 7 103 D [(cI, .int)] [.ref b, .int x1, .int x2] W0 PW 2) (hq : W0[0]? = some (b, .inr (5, fs))) (hsame : ∀ W1, PW W1 → W1.map (·.1) = W0.map (·.1)) : nd_H l yL_join cL_join 5 [(0, 10, 13, 21), (0, 10, 17, 15)] D cI cJ od g [.ref b, .int x1, .int x2, .ref od] W0 (fun W _ => PW W) 2 := by
  refine nd_ofH (by decide) (Nat.le_of_ble_eq_true rfl) (fun p e s m args below meth c_ ls A Q hx hb hml hown hts hl hP hK hD hS hA hN hX hY hxt hret => ?_)
  have hown : s.vm.findClass RL = some m.cls := hown
  have hl : lv_has ls 5 [(0, .ref b), (1, .int x1), (2, .int x2), (3, .ref od)] := hl
  have hK1 : va_K D vwCl [(cI, .int)] s := hK.sub [0] rfl
  refine lv_aload_n hx hb dL_join_0 rfl (lv_at hl 3 rfl) ?_
  refine lv_iconst (v := (0 : Int32)) hx hb dL_join_1 (by decide) ?_
  refine lv_aload_n hx hb dL_join_2 rfl (lv_at hl 0 rfl) ?_
  refine lv_iload_n hx hb dL_join_3 rfl (lv_at hl 1 rfl) ?_
  refine lv_iload_n hx hb dL_join_4 rfl (lv_at hl 2 rfl) ?_
  refine nd_callXW (As := [.int x1, .int x2]) (rest := [.int 0, .ref od]) hx hb hml hown hts hl [(od, OU cJ g)] W0 [] (wl_in hP) hK1 (wl_inD hD) hS hA hN hX hC iv_X8_join wd_375 0 hq rfl rfl ⟨Nat.le_of_ble_eq_true rfl, Nat.le_of_ble_eq_true rfl⟩ (Nat.le_of_ble_eq_true rfl) ⟨Nat.le_of_ble_eq_true rfl, Nat.le_of_ble_eq_true rfl⟩ dL_join_5 rfl [⟨0, 10, 13, 21⟩] ⟨0, 10, 17, 15⟩ [] (hxt.trans rfl) (fun z hz => by cases List.mem_singleton.mp hz; exact Or.inr ⟨by decide, _, hts _ wd_150, hY.2.2⟩) (by decide) (by decide) (hts _ wd_86) (j_cast hX (by decide)) (fun q W9 H locs hw hP hS => ?_)
  refine lv_astore (lv' := [(4, .ref q), (0, .ref b), (1, .int x1), (2, .int x2), (3, .ref od)]) hx hb dL_join_17 hl (by decide) rfl (fun ls hl => ?_)
  refine lv_iconst (v := (2 : Int32)) hx hb dL_join_19 (by decide) ?_
  exact hret (W1 := W9) hw (hsame _ hw) (wl_out hP) hS dL_join_20
def tL_part_0 : List (Nat × Instr × Nat) := [(0, .aload_n 2, 1), (1, .iconst 0, 1), (2, .aload_n 0, 1), (3, .iload_n 1, 1), (4, .invokevirtual 32, 3), (7, .i2l, 1), (8, .lastore, 1), (9, .goto 9, 3), (12, .astore_n 3, 1), (13, .iconst 1, 1), (14, .ireturn, 1), (15, .astore_n 3, 1), (16, .iconst 2, 1), (17, .ireturn, 1), (18, .iconst 0, 1), (19, .ireturn, 1)]
theorem tL_part_0_ok : tL_part_0.all (fun q => decide (decode cL_part q.1 = .ok q.2)) = true := by decide +kernel
theorem dL_part_0 : decode cL_part 0 = .ok (.aload_n 2, 1) := td tL_part_0_ok 0 (q := (0, .aload_n 2, 1)) rfl
theorem dL_part_1 : decode cL_part 1 = .ok (.iconst 0, 1) := td tL_part_0_ok 1 (q := (1, .iconst 0, 1)) rfl
theorem dL_part_2 : decode cL_part 2 = .ok (.aload_n 0, 1) := td tL_part_0_ok 2 (q := (2, .aload_n 0, 1)) rfl
theorem dL_part_3 : decode cL_part 3 = .ok (.iload_n 1, 1) := td tL_part_0_ok 3 (q := (3, .iload_n 1, 1)) rfl
theorem dL_part_4 : decode cL_part 4 = .ok (.invokevirtual 32, 3) := td tL_part_0_ok 4 (q := (4, .invokevirtual 32, 3)) rfl
theorem dL_part_7 : decode cL_part 7 = .ok (.i2l, 1) := td tL_part_0_ok 5 (q := (7, .i2l, 1)) rfl
theorem dL_part_8 : decode cL_part 8 = .ok (.lastore, 1) := td tL_part_0_ok 6 (q := (8, .lastore, 1)) rfl
theorem dL_part_9 : decode cL_part 9 = .ok (.goto 9, 3) := td tL_part_0_ok 7 (q := (9, .goto 9, 3)) rfl
theorem dL_part_12 : decode cL_part 12 = .ok (.astore_n 3, 1) := td tL_part_0_ok 8 (q := (12, .astore_n 3, 1)) rfl
theorem dL_part_13 : decode cL_part 13 = .ok (.iconst 1, 1) := td tL_part_0_ok 9 (q := (13, .iconst 1, 1)) rfl
theorem dL_part_14 : decode cL_part 14 = .ok (.ireturn, 1) := td tL_part_0_ok 10 (q := (14, .ireturn, 1)) rfl
theorem dL_part_15 : decode cL_part 15 = .ok (.astore_n 3, 1) := td tL_part_0_ok 11 (q := (15, .astore_n 3, 1)) rfl
theorem dL_part_16 : decode cL_part 16 = .ok (.iconst 2, 1) := td tL_part_0_ok 12 (q := (16, .iconst 2, 1)) rfl
theorem dL_part_17 : decode cL_part 17 = .ok (.ireturn, 1) := td tL_part_0_ok 13 (q := (17, .ireturn, 1)) rfl
theorem dL_part_18 : decode cL_part 18 = .ok (.iconst 0, 1) := td tL_part_0_ok 14 (q := (18, .iconst 0, 1)) rfl
theorem dL_part_19 : decode cL_part 19 = .ok (.ireturn, 1) := td tL_part_0_ok 15 (q := (19, .ireturn, 1)) rfl
set_option maxHeartbeats 4000000 in
set_option maxRecDepth 100000 in
theorem hL_part {l : Launch} {D : va_G} {cI cJ : ClassId} {od b : Nat} {g : Nat → Int64} {W0 W1 : va_W} {fs : List Value} {x1 : Int32} {r : Int32} (hC : nd_C l yX8_part cX8_part 3 (some .int) 3 80 D [(cI, .int)] [.ref b, .int x1] W0 W1 (some (.int r))) (hq : W0[0]? = some (b, .inr (5, fs))) (hsame : W1.map (·.1) = W0.map (·.1)) : nd_H l yL_part cL_part 4 [(0, 9, 12, 21), (0, 9, 15, 15)] D cI cJ od g [.ref b, .int x1, .ref od] W0 (fun W g1 => W = W1 ∧ g1 0 = r.toInt64) 0 := by
  refine nd_ofH (by decide) (Nat.le_of_ble_eq_true rfl) (fun p e s m args below meth c_ ls A Q hx hb hml hown hts hl hP hK hD hS hA hN hX hY hxt hret => ?_)
  have hown : s.vm.findClass RL = some m.cls := hown
  have hl : lv_has ls 4 [(0, .ref b), (1, .int x1), (2, .ref od)] := hl
  have hK1 : va_K D vwCl [(cI, .int)] s := hK.sub [0] rfl
  refine lv_aload_n hx hb dL_part_0 rfl (lv_at hl 2 rfl) ?_
  refine lv_iconst (v := (0 : Int32)) hx hb dL_part_1 (by decide) ?_
  refine lv_aload_n hx hb dL_part_2 rfl (lv_at hl 0 rfl) ?_
  refine lv_iload_n hx hb dL_part_3 rfl (lv_at hl 1 rfl) ?_
  refine nd_callVW (As := [.int x1]) (rest := [.int 0, .ref od]) (st1 := [.int r, .int 0, .ref od]) hx hb hml hown hts hl [(od, OU cJ g)] W0 W1 [] (wl_in hP) hK1 (wl_inD hD) hS hA hN hC iv_X8_part wd_422 0 hq rfl hsame rfl ⟨Nat.le_of_ble_eq_true rfl, Nat.le_of_ble_eq_true rfl⟩ (Nat.le_of_ble_eq_true rfl) ⟨Nat.zero_le _, Nat.zero_le _⟩ dL_part_4 rfl rfl (fun H locs hP hD hS => ?_)
  have hP := wl_out hP
  have hD := wl_outD hD
  refine lv_i2l hx hb dL_part_7 rfl ?_
  refine va_last hx hb hK hP hD hS 0 1 rfl rfl in_01 dL_part_8 (fun H locs hP hD hS => ?_)
  refine lv_goto (tgt := 18) hx hb dL_part_9 (by decide) ?_
  refine lv_iconst (v := (0 : Int32)) hx hb dL_part_18 (by decide) ?_
  refine W.widen (k := 1) (n := 6) (by decide) (by decide) ?_
  exact hret (W1 := W1) ⟨rfl, rfl⟩ hsame hP hS dL_part_19
set_option maxHeartbeats 4000000 in
set_option maxRecDepth 100000 in
theorem tL_part_3 {l : Launch} {D : va_G} {cI cJ : ClassId} {od b : Nat} {g : Nat → Int64} {W0 W1 : va_W} {fs : List Value} {x1 : Int32} {PW : va_W → Prop} (hC : nd_CX l yX8_part cX8_part 3 (some .int) 7 103 D [(cI, .int)] [.ref b, .int x1] W0 PW 3) (hq : W0[0]? = some (b, .inr (5, fs))) (hsame : ∀ W1, PW W1 → W1.map (·.1) = W0.map (·.1)) : nd_H l yL_part cL_part 4 [(0, 9, 12, 21), (0, 9, 15, 15)] D cI cJ od g [.ref b, .int x1, .ref od] W0 (fun W _ => PW W) 1 := by
  refine nd_ofH (by decide) (Nat.le_of_ble_eq_true rfl) (fun p e s m args below meth c_ ls A Q hx hb hml hown hts hl hP hK hD hS hA hN hX hY hxt hret => ?_)
  have hown : s.vm.findClass RL = some m.cls := hown
  have hl : lv_has ls 4 [(0, .ref b), (1, .int x1), (2, .ref od)] := hl
  have hK1 : va_K D vwCl [(cI, .int)] s := hK.sub [0] rfl
  refine lv_aload_n hx hb dL_part_0 rfl (lv_at hl 2 rfl) ?_
  refine lv_iconst (v := (0 : Int32)) hx hb dL_part_1 (by decide) ?_
  refine lv_aload_n hx hb dL_part_2 rfl (lv_at hl 0 rfl) ?_
  refine lv_iload_n hx hb dL_part_3 rfl (lv_at hl 1 rfl) ?_
  refine nd_callXW (As := [.int x1]) (rest := [.int 0, .ref od]) hx hb hml hown hts hl [(od, OU cJ g)] W0 [] (wl_in hP) hK1 (wl_inD hD) hS hA hN hX hC iv_X8_part wd_422 0 hq rfl rfl ⟨Nat.le_of_ble_eq_true rfl, Nat.le_of_ble_eq_true rfl⟩ (Nat.le_of_ble_eq_true rfl) ⟨Nat.le_of_ble_eq_true rfl, Nat.le_of_ble_eq_true rfl⟩ dL_part_4 rfl [] ⟨0, 9, 12, 21⟩ [⟨0, 9, 15, 15⟩] (hxt.trans rfl) (fun z hz => absurd hz List.not_mem_nil) (by decide) (by decide) (hts _ wd_150) (j_cast hX (by decide)) (fun q W9 H locs hw hP hS => ?_)
  refine lv_astore_n (lv' := [(3, .ref q), (0, .ref b), (1, .int x1), (2, .ref od)]) hx hb dL_part_12 rfl hl (by decide) rfl (fun ls hl => ?_)
  refine lv_iconst (v := (1 : Int32)) hx hb dL_part_13 (by decide) ?_
  exact hret (W1 := W9) hw (hsame _ hw) (wl_out hP) hS dL_part_14
set_option maxHeartbeats 4000000 in
set_option maxRecDepth 100000 in
theorem tL_part_2 {l : Launch} {D : va_G} {cI cJ : ClassId} {od b : Nat} {g : Nat → Int64} {W0 W1 : va_W} {fs : List Value} {x1 : Int32} {PW : va_W → Prop} (hC : nd_CX l yX8_part cX8_part 3 (some .int) 7 103 D [(cI, .int)] [.ref b, .int x1] W0 PW 2) (hq : W0[0]? = some (b, .inr (5, fs))) (hsame : ∀ W1, PW W1 → W1.map (·.1) = W0.map (·.1)) : nd_H l yL_part cL_part 4 [(0, 9, 12, 21), (0, 9, 15, 15)] D cI cJ od g [.ref b, .int x1, .ref od] W0 (fun W _ => PW W) 2 := by
  refine nd_ofH (by decide) (Nat.le_of_ble_eq_true rfl) (fun p e s m args below meth c_ ls A Q hx hb hml hown hts hl hP hK hD hS hA hN hX hY hxt hret => ?_)
  have hown : s.vm.findClass RL = some m.cls := hown
  have hl : lv_has ls 4 [(0, .ref b), (1, .int x1), (2, .ref od)] := hl
  have hK1 : va_K D vwCl [(cI, .int)] s := hK.sub [0] rfl
  refine lv_aload_n hx hb dL_part_0 rfl (lv_at hl 2 rfl) ?_
  refine lv_iconst (v := (0 : Int32)) hx hb dL_part_1 (by decide) ?_
  refine lv_aload_n hx hb dL_part_2 rfl (lv_at hl 0 rfl) ?_
  refine lv_iload_n hx hb dL_part_3 rfl (lv_at hl 1 rfl) ?_
  refine nd_callXW (As := [.int x1]) (rest := [.int 0, .ref od]) hx hb hml hown hts hl [(od, OU cJ g)] W0 [] (wl_in hP) hK1 (wl_inD hD) hS hA hN hX hC iv_X8_part wd_422 0 hq rfl rfl ⟨Nat.le_of_ble_eq_true rfl, Nat.le_of_ble_eq_true rfl⟩ (Nat.le_of_ble_eq_true rfl) ⟨Nat.le_of_ble_eq_true rfl, Nat.le_of_ble_eq_true rfl⟩ dL_part_4 rfl [⟨0, 9, 12, 21⟩] ⟨0, 9, 15, 15⟩ [] (hxt.trans rfl) (fun z hz => by cases List.mem_singleton.mp hz; exact Or.inr ⟨by decide, _, hts _ wd_150, hY.2.2⟩) (by decide) (by decide) (hts _ wd_86) (j_cast hX (by decide)) (fun q W9 H locs hw hP hS => ?_)
  refine lv_astore_n (lv' := [(3, .ref q), (0, .ref b), (1, .int x1), (2, .ref od)]) hx hb dL_part_15 rfl hl (by decide) rfl (fun ls hl => ?_)
  refine lv_iconst (v := (2 : Int32)) hx hb dL_part_16 (by decide) ?_
  exact hret (W1 := W9) hw (hsame _ hw) (wl_out hP) hS dL_part_17
def tL_append_0 : List (Nat × Instr × Nat) := [(0, .aload_n 2, 1), (1, .iconst 0, 1), (2, .aload_n 0, 1), (3, .iload_n 1, 1), (4, .invokevirtual 35, 3), (7, .i2l, 1), (8, .lastore, 1), (9, .goto 9, 3), (12, .astore_n 3, 1), (13, .iconst 1, 1), (14, .ireturn, 1), (15, .astore_n 3, 1), (16, .iconst 2, 1), (17, .ireturn, 1), (18, .iconst 0, 1), (19, .ireturn, 1)]
theorem tL_append_0_ok : tL_append_0.all (fun q => decide (decode cL_append q.1 = .ok q.2)) = true := by decide +kernel
theorem dL_append_0 : decode cL_append 0 = .ok (.aload_n 2, 1) := td tL_append_0_ok 0 (q := (0, .aload_n 2, 1)) rfl
theorem dL_append_1 : decode cL_append 1 = .ok (.iconst 0, 1) := td tL_append_0_ok 1 (q := (1, .iconst 0, 1)) rfl
theorem dL_append_2 : decode cL_append 2 = .ok (.aload_n 0, 1) := td tL_append_0_ok 2 (q := (2, .aload_n 0, 1)) rfl
theorem dL_append_3 : decode cL_append 3 = .ok (.iload_n 1, 1) := td tL_append_0_ok 3 (q := (3, .iload_n 1, 1)) rfl
theorem dL_append_4 : decode cL_append 4 = .ok (.invokevirtual 35, 3) := td tL_append_0_ok 4 (q := (4, .invokevirtual 35, 3)) rfl
theorem dL_append_7 : decode cL_append 7 = .ok (.i2l, 1) := td tL_append_0_ok 5 (q := (7, .i2l, 1)) rfl
theorem dL_append_8 : decode cL_append 8 = .ok (.lastore, 1) := td tL_append_0_ok 6 (q := (8, .lastore, 1)) rfl
theorem dL_append_9 : decode cL_append 9 = .ok (.goto 9, 3) := td tL_append_0_ok 7 (q := (9, .goto 9, 3)) rfl
theorem dL_append_12 : decode cL_append 12 = .ok (.astore_n 3, 1) := td tL_append_0_ok 8 (q := (12, .astore_n 3, 1)) rfl
theorem dL_append_13 : decode cL_append 13 = .ok (.iconst 1, 1) := td tL_append_0_ok 9 (q := (13, .iconst 1, 1)) rfl
theorem dL_append_14 : decode cL_append 14 = .ok (.ireturn, 1) := td tL_append_0_ok 10 (q := (14, .ireturn, 1)) rfl
theorem dL_append_15 : decode cL_append 15 = .ok (.astore_n 3, 1) := td tL_append_0_ok 11 (q := (15, .astore_n 3, 1)) rfl
theorem dL_append_16 : decode cL_append 16 = .ok (.iconst 2, 1) := td tL_append_0_ok 12 (q := (16, .iconst 2, 1)) rfl
theorem dL_append_17 : decode cL_append 17 = .ok (.ireturn, 1) := td tL_append_0_ok 13 (q := (17, .ireturn, 1)) rfl
theorem dL_append_18 : decode cL_append 18 = .ok (.iconst 0, 1) := td tL_append_0_ok 14 (q := (18, .iconst 0, 1)) rfl
theorem dL_append_19 : decode cL_append 19 = .ok (.ireturn, 1) := td tL_append_0_ok 15 (q := (19, .ireturn, 1)) rfl
set_option maxHeartbeats 4000000 in
set_option maxRecDepth 100000 in
theorem hL_append {l : Launch} {D : va_G} {cI cJ : ClassId} {od b : Nat} {g : Nat → Int64} {W0 W1 : va_W} {fs : List Value} {x1 : Int32} {r : Int32} (hC : nd_C l yX8_append cX8_append 2 (some .int) 1 21 D [(cI, .int)] [.ref b, .int x1] W0 W1 (some (.int r))) (hq : W0[0]? = some (b, .inr (5, fs))) (hsame : W1.map (·.1) = W0.map (·.1)) : nd_H l yL_append cL_append 4 [(0, 9, 12, 13), (0, 9, 15, 15)] D cI cJ od g [.ref b, .int x1, .ref od] W0 (fun W g1 => W = W1 ∧ g1 0 = r.toInt64) 0 := by
  refine nd_ofH (by decide) (Nat.le_of_ble_eq_true rfl) (fun p e s m args below meth c_ ls A Q hx hb hml hown hts hl hP hK hD hS hA hN hX hY hxt hret => ?_)
  have hown : s.vm.findClass RL = some m.cls := hown
  have hl : lv_has ls 4 [(0, .ref b), (1, .int x1), (2, .ref od)] := hl
  have hK1 : va_K D vwCl [(cI, .int)] s := hK.sub [0] rfl
  refine lv_aload_n hx hb dL_append_0 rfl (lv_at hl 2 rfl) ?_
  refine lv_iconst (v := (0 : Int32)) hx hb dL_append_1 (by decide) ?_
  refine lv_aload_n hx hb dL_append_2 rfl (lv_at hl 0 rfl) ?_
  refine lv_iload_n hx hb dL_append_3 rfl (lv_at hl 1 rfl) ?_
  refine nd_callVW (As := [.int x1]) (rest := [.int 0, .ref od]) (st1 := [.int r, .int 0, .ref od]) hx hb hml hown hts hl [(od, OU cJ g)] W0 W1 [] (wl_in hP) hK1 (wl_inD hD) hS hA hN hC iv_X8_append wd_488 0 hq rfl hsame rfl ⟨Nat.le_of_ble_eq_true rfl, Nat.le_of_ble_eq_true rfl⟩ (Nat.le_of_ble_eq_true rfl) ⟨Nat.zero_le _, Nat.zero_le _⟩ dL_append_4 rfl rfl (fun H locs hP hD hS => ?_)
  have hP := wl_out hP
  have hD := wl_outD hD
  refine lv_i2l hx hb dL_append_7 rfl ?_
  refine va_last hx hb hK hP hD hS 0 1 rfl rfl in_01 dL_append_8 (fun H locs hP hD hS => ?_)
  refine lv_goto (tgt := 18) hx hb dL_append_9 (by decide) ?_
  refine lv_iconst (v := (0 : Int32)) hx hb dL_append_18 (by decide) ?_
  refine W.widen (k := 1) (n := 6) (by decide) (by decide) ?_
  exact hret (W1 := W1) ⟨rfl, rfl⟩ hsame hP hS dL_append_19
set_option maxHeartbeats 4000000 in
set_option maxRecDepth 100000 in
theorem tL_append_1 {l : Launch} {D : va_G} {cI cJ : ClassId} {od b : Nat} {g : Nat → Int64} {W0 W1 : va_W} {fs : List Value} {x1 : Int32} {PW : va_W → Prop} (hC : nd_CX l yX8_append cX8_append 2 (some .int) 6 82 D [(cI, .int)] [.ref b, .int x1] W0 PW 1) (hq : W0[0]? = some (b, .inr (5, fs))) (hsame : ∀ W1, PW W1 → W1.map (·.1) = W0.map (·.1)) : nd_H l yL_append cL_append 4 [(0, 9, 12, 13), (0, 9, 15, 15)] D cI cJ od g [.ref b, .int x1, .ref od] W0 (fun W _ => PW W) 1 := by
  refine nd_ofH (by decide) (Nat.le_of_ble_eq_true rfl) (fun p e s m args below meth c_ ls A Q hx hb hml hown hts hl hP hK hD hS hA hN hX hY hxt hret => ?_)
  have hown : s.vm.findClass RL = some m.cls := hown
  have hl : lv_has ls 4 [(0, .ref b), (1, .int x1), (2, .ref od)] := hl
  have hK1 : va_K D vwCl [(cI, .int)] s := hK.sub [0] rfl
  refine lv_aload_n hx hb dL_append_0 rfl (lv_at hl 2 rfl) ?_
  refine lv_iconst (v := (0 : Int32)) hx hb dL_append_1 (by decide) ?_
  refine lv_aload_n hx hb dL_append_2 rfl (lv_at hl 0 rfl) ?_
  refine lv_iload_n hx hb dL_append_3 rfl (lv_at hl 1 rfl) ?_
  refine nd_callXW (As := [.int x1]) (rest := [.int 0, .ref od]) hx hb hml hown hts hl [(od, OU cJ g)] W0 [] (wl_in hP) hK1 (wl_inD hD) hS hA hN hX hC iv_X8_append wd_488 0 hq rfl rfl ⟨Nat.le_of_ble_eq_true rfl, Nat.le_of_ble_eq_true rfl⟩ (Nat.le_of_ble_eq_true rfl) ⟨Nat.le_of_ble_eq_true rfl, Nat.le_of_ble_eq_true rfl⟩ dL_append_4 rfl [] ⟨0, 9, 12, 13⟩ [⟨0, 9, 15, 15⟩] (hxt.trans rfl) (fun z hz => absurd hz List.not_mem_nil) (by decide) (by decide) (hts _ wd_85) (j_cast hX (by decide)) (fun q W9 H locs hw hP hS => ?_)
  refine lv_astore_n (lv' := [(3, .ref q), (0, .ref b), (1, .int x1), (2, .ref od)]) hx hb dL_append_12 rfl hl (by decide) rfl (fun ls hl => ?_)
  refine lv_iconst (v := (1 : Int32)) hx hb dL_append_13 (by decide) ?_
  exact hret (W1 := W9) hw (hsame _ hw) (wl_out hP) hS dL_append_14
set_option maxHeartbeats 4000000 in
set_option maxRecDepth 100000 in
theorem tL_append_2 {l : Launch} {D : va_G} {cI cJ : ClassId} {od b : Nat} {g : Nat → Int64} {W0 W1 : va_W} {fs : List Value} {x1 : Int32} {PW : va_W → Prop} (hC : nd_CX l yX8_append cX8_append 2 (some .int) 6 82 D [(cI, .int)] [.ref b, .int x1] W0 PW 2) (hq : W0[0]? = some (b, .inr (5, fs))) (hsame : ∀ W1, PW W1 → W1.map (·.1) = W0.map (·.1)) : nd_H l yL_append cL_append 4 [(0, 9, 12, 13), (0, 9, 15, 15)] D cI cJ od g [.ref b, .int x1, .ref od] W0 (fun W _ => PW W) 2 := by
  refine nd_ofH (by decide) (Nat.le_of_ble_eq_true rfl) (fun p e s m args below meth c_ ls A Q hx hb hml hown hts hl hP hK hD hS hA hN hX hY hxt hret => ?_)
  have hown : s.vm.findClass RL = some m.cls := hown
  have hl : lv_has ls 4 [(0, .ref b), (1, .int x1), (2, .ref od)] := hl
  have hK1 : va_K D vwCl [(cI, .int)] s := hK.sub [0] rfl
  refine lv_aload_n hx hb dL_append_0 rfl (lv_at hl 2 rfl) ?_
  refine lv_iconst (v := (0 : Int32)) hx hb dL_append_1 (by decide) ?_
  refine lv_aload_n hx hb dL_append_2 rfl (lv_at hl 0 rfl) ?_
  refine lv_iload_n hx hb dL_append_3 rfl (lv_at hl 1 rfl) ?_
  refine nd_callXW (As := [.int x1]) (rest := [.int 0, .ref od]) hx hb hml hown hts hl [(od, OU cJ g)] W0 [] (wl_in hP) hK1 (wl_inD hD) hS hA hN hX hC iv_X8_append wd_488 0 hq rfl rfl ⟨Nat.le_of_ble_eq_true rfl, Nat.le_of_ble_eq_true rfl⟩ (Nat.le_of_ble_eq_true rfl) ⟨Nat.le_of_ble_eq_true rfl, Nat.le_of_ble_eq_true rfl⟩ dL_append_4 rfl [⟨0, 9, 12, 13⟩] ⟨0, 9, 15, 15⟩ [] (hxt.trans rfl) (fun z hz => by cases List.mem_singleton.mp hz; exact Or.inr ⟨by decide, _, hts _ wd_85, hY.1⟩) (by decide) (by decide) (hts _ wd_86) (j_cast hX (by decide)) (fun q W9 H locs hw hP hS => ?_)
  refine lv_astore_n (lv' := [(3, .ref q), (0, .ref b), (1, .int x1), (2, .ref od)]) hx hb dL_append_15 rfl hl (by decide) rfl (fun ls hl => ?_)
  refine lv_iconst (v := (2 : Int32)) hx hb dL_append_16 (by decide) ?_
  exact hret (W1 := W9) hw (hsame _ hw) (wl_out hP) hS dL_append_17
def tL_undo_0 : List (Nat × Instr × Nat) := [(0, .aload_n 1, 1), (1, .iconst 0, 1), (2, .aload_n 0, 1), (3, .invokevirtual 38, 3), (6, .i2l, 1), (7, .lastore, 1), (8, .goto 6, 3), (11, .astore_n 2, 1), (12, .iconst 1, 1), (13, .ireturn, 1), (14, .iconst 0, 1), (15, .ireturn, 1)]
theorem tL_undo_0_ok : tL_undo_0.all (fun q => decide (decode cL_undo q.1 = .ok q.2)) = true := by decide +kernel
theorem dL_undo_0 : decode cL_undo 0 = .ok (.aload_n 1, 1) := td tL_undo_0_ok 0 (q := (0, .aload_n 1, 1)) rfl
theorem dL_undo_1 : decode cL_undo 1 = .ok (.iconst 0, 1) := td tL_undo_0_ok 1 (q := (1, .iconst 0, 1)) rfl
theorem dL_undo_2 : decode cL_undo 2 = .ok (.aload_n 0, 1) := td tL_undo_0_ok 2 (q := (2, .aload_n 0, 1)) rfl
theorem dL_undo_3 : decode cL_undo 3 = .ok (.invokevirtual 38, 3) := td tL_undo_0_ok 3 (q := (3, .invokevirtual 38, 3)) rfl
theorem dL_undo_6 : decode cL_undo 6 = .ok (.i2l, 1) := td tL_undo_0_ok 4 (q := (6, .i2l, 1)) rfl
theorem dL_undo_7 : decode cL_undo 7 = .ok (.lastore, 1) := td tL_undo_0_ok 5 (q := (7, .lastore, 1)) rfl
theorem dL_undo_8 : decode cL_undo 8 = .ok (.goto 6, 3) := td tL_undo_0_ok 6 (q := (8, .goto 6, 3)) rfl
theorem dL_undo_11 : decode cL_undo 11 = .ok (.astore_n 2, 1) := td tL_undo_0_ok 7 (q := (11, .astore_n 2, 1)) rfl
theorem dL_undo_12 : decode cL_undo 12 = .ok (.iconst 1, 1) := td tL_undo_0_ok 8 (q := (12, .iconst 1, 1)) rfl
theorem dL_undo_13 : decode cL_undo 13 = .ok (.ireturn, 1) := td tL_undo_0_ok 9 (q := (13, .ireturn, 1)) rfl
theorem dL_undo_14 : decode cL_undo 14 = .ok (.iconst 0, 1) := td tL_undo_0_ok 10 (q := (14, .iconst 0, 1)) rfl
theorem dL_undo_15 : decode cL_undo 15 = .ok (.ireturn, 1) := td tL_undo_0_ok 11 (q := (15, .ireturn, 1)) rfl
set_option maxHeartbeats 4000000 in
set_option maxRecDepth 100000 in
theorem hL_undo {l : Launch} {D : va_G} {cI cJ : ClassId} {od b : Nat} {g : Nat → Int64} {W0 W1 : va_W} {fs : List Value} {r : Int32} (hC : nd_C l yX8_undo cX8_undo 1 (some .int) 2 80 D [(cI, .int)] [.ref b] W0 W1 (some (.int r))) (hq : W0[0]? = some (b, .inr (5, fs))) (hsame : W1.map (·.1) = W0.map (·.1)) : nd_H l yL_undo cL_undo 3 [(0, 8, 11, 15)] D cI cJ od g [.ref b, .ref od] W0 (fun W g1 => W = W1 ∧ g1 0 = r.toInt64) 0 := by
  refine nd_ofH (by decide) (Nat.le_of_ble_eq_true rfl) (fun p e s m args below meth c_ ls A Q hx hb hml hown hts hl hP hK hD hS hA hN hX hY hxt hret => ?_)
  have hown : s.vm.findClass RL = some m.cls := hown
  have hl : lv_has ls 3 [(0, .ref b), (1, .ref od)] := hl
  have hK1 : va_K D vwCl [(cI, .int)] s := hK.sub [0] rfl
  refine lv_aload_n hx hb dL_undo_0 rfl (lv_at hl 1 rfl) ?_
  refine lv_iconst (v := (0 : Int32)) hx hb dL_undo_1 (by decide) ?_
  refine lv_aload_n hx hb dL_undo_2 rfl (lv_at hl 0 rfl) ?_
  refine nd_callVW (As := []) (rest := [.int 0, .ref od]) (st1 := [.int r, .int 0, .ref od]) hx hb hml hown hts hl [(od, OU cJ g)] W0 W1 [] (wl_in hP) hK1 (wl_inD hD) hS hA hN hC iv_X8_undo wd_519 0 hq rfl hsame rfl ⟨Nat.le_of_ble_eq_true rfl, Nat.le_of_ble_eq_true rfl⟩ (Nat.le_of_ble_eq_true rfl) ⟨Nat.zero_le _, Nat.zero_le _⟩ dL_undo_3 rfl rfl (fun H locs hP hD hS => ?_)
  have hP := wl_out hP
  have hD := wl_outD hD
  refine lv_i2l hx hb dL_undo_6 rfl ?_
  refine va_last hx hb hK hP hD hS 0 1 rfl rfl in_01 dL_undo_7 (fun H locs hP hD hS => ?_)
  refine lv_goto (tgt := 14) hx hb dL_undo_8 (by decide) ?_
  refine lv_iconst (v := (0 : Int32)) hx hb dL_undo_14 (by decide) ?_
  refine W.widen (k := 1) (n := 6) (by decide) (by decide) ?_
  exact hret (W1 := W1) ⟨rfl, rfl⟩ hsame hP hS dL_undo_15
set_option maxHeartbeats 4000000 in
set_option maxRecDepth 100000 in
theorem tL_undo_2 {l : Launch} {D : va_G} {cI cJ : ClassId} {od b : Nat} {g : Nat → Int64} {W0 W1 : va_W} {fs : List Value} {PW : va_W → Prop} (hC : nd_CX l yX8_undo cX8_undo 1 (some .int) 6 82 D [(cI, .int)] [.ref b] W0 PW 2) (hq : W0[0]? = some (b, .inr (5, fs))) (hsame : ∀ W1, PW W1 → W1.map (·.1) = W0.map (·.1)) : nd_H l yL_undo cL_undo 3 [(0, 8, 11, 15)] D cI cJ od g [.ref b, .ref od] W0 (fun W _ => PW W) 1 := by
  refine nd_ofH (by decide) (Nat.le_of_ble_eq_true rfl) (fun p e s m args below meth c_ ls A Q hx hb hml hown hts hl hP hK hD hS hA hN hX hY hxt hret => ?_)
  have hown : s.vm.findClass RL = some m.cls := hown
  have hl : lv_has ls 3 [(0, .ref b), (1, .ref od)] := hl
  have hK1 : va_K D vwCl [(cI, .int)] s := hK.sub [0] rfl
  refine lv_aload_n hx hb dL_undo_0 rfl (lv_at hl 1 rfl) ?_
  refine lv_iconst (v := (0 : Int32)) hx hb dL_undo_1 (by decide) ?_
  refine lv_aload_n hx hb dL_undo_2 rfl (lv_at hl 0 rfl) ?_
  refine nd_callXW (As := []) (rest := [.int 0, .ref od]) hx hb hml hown hts hl [(od, OU cJ g)] W0 [] (wl_in hP) hK1 (wl_inD hD) hS hA hN hX hC iv_X8_undo wd_519 0 hq rfl rfl ⟨Nat.le_of_ble_eq_true rfl, Nat.le_of_ble_eq_true rfl⟩ (Nat.le_of_ble_eq_true rfl) ⟨Nat.le_of_ble_eq_true rfl, Nat.le_of_ble_eq_true rfl⟩ dL_undo_3 rfl [] ⟨0, 8, 11, 15⟩ [] (hxt.trans rfl) (fun z hz => absurd hz List.not_mem_nil) (by decide) (by decide) (hts _ wd_86) (j_cast hX (by decide)) (fun q W9 H locs hw hP hS => ?_)
  refine lv_astore_n (lv' := [(2, .ref q), (0, .ref b), (1, .ref od)]) hx hb dL_undo_11 rfl hl (by decide) rfl (fun ls hl => ?_)
  refine lv_iconst (v := (1 : Int32)) hx hb dL_undo_12 (by decide) ?_
  exact hret (W1 := W9) hw (hsame _ hw) (wl_out hP) hS dL_undo_13
def tL_pieceOf_0 : List (Nat × Instr × Nat) := [(0, .aload_n 3, 1), (1, .iconst 0, 1), (2, .aload_n 0, 1), (3, .iload_n 1, 1), (4, .iload_n 2, 1), (5, .invokevirtual 42, 3), (8, .i2l, 1), (9, .lastore, 1), (10, .goto 11, 3), (13, .astore 4, 2), (15, .iconst 1, 1), (16, .ireturn, 1), (17, .astore 4, 2), (19, .iconst 2, 1), (20, .ireturn, 1), (21, .iconst 0, 1), (22, .ireturn, 1)]
theorem tL_pieceOf_0_ok : tL_pieceOf_0.all (fun q => decide (decode cL_pieceOf q.1 = .ok q.2)) = true := by decide +kernel
theorem dL_pieceOf_0 : decode cL_pieceOf 0 = .ok (.aload_n 3, 1) := td tL_pieceOf_0_ok 0 (q := (0, .aload_n 3, 1)) rfl
theorem dL_pieceOf_1 : decode cL_pieceOf 1 = .ok (.iconst 0, 1) := td tL_pieceOf_0_ok 1 (q := (1, .iconst 0, 1)) rfl
theorem dL_pieceOf_2 : decode cL_pieceOf 2 = .ok (.aload_n 0, 1) := td tL_pieceOf_0_ok 2 (q := (2, .aload_n 0, 1)) rfl
theorem dL_pieceOf_3 : decode cL_pieceOf 3 = .ok (.iload_n 1, 1) := td tL_pieceOf_0_ok 3 (q := (3, .iload_n 1, 1)) rfl
theorem dL_pieceOf_4 : decode cL_pieceOf 4 = .ok (.iload_n 2, 1) := td tL_pieceOf_0_ok 4 (q := (4, .iload_n 2, 1)) rfl
theorem dL_pieceOf_5 : decode cL_pieceOf 5 = .ok (.invokevirtual 42, 3) := td tL_pieceOf_0_ok 5 (q := (5, .invokevirtual 42, 3)) rfl
theorem dL_pieceOf_8 : decode cL_pieceOf 8 = .ok (.i2l, 1) := td tL_pieceOf_0_ok 6 (q := (8, .i2l, 1)) rfl
theorem dL_pieceOf_9 : decode cL_pieceOf 9 = .ok (.lastore, 1) := td tL_pieceOf_0_ok 7 (q := (9, .lastore, 1)) rfl
theorem dL_pieceOf_10 : decode cL_pieceOf 10 = .ok (.goto 11, 3) := td tL_pieceOf_0_ok 8 (q := (10, .goto 11, 3)) rfl
theorem dL_pieceOf_13 : decode cL_pieceOf 13 = .ok (.astore 4, 2) := td tL_pieceOf_0_ok 9 (q := (13, .astore 4, 2)) rfl
theorem dL_pieceOf_15 : decode cL_pieceOf 15 = .ok (.iconst 1, 1) := td tL_pieceOf_0_ok 10 (q := (15, .iconst 1, 1)) rfl
theorem dL_pieceOf_16 : decode cL_pieceOf 16 = .ok (.ireturn, 1) := td tL_pieceOf_0_ok 11 (q := (16, .ireturn, 1)) rfl
theorem dL_pieceOf_17 : decode cL_pieceOf 17 = .ok (.astore 4, 2) := td tL_pieceOf_0_ok 12 (q := (17, .astore 4, 2)) rfl
theorem dL_pieceOf_19 : decode cL_pieceOf 19 = .ok (.iconst 2, 1) := td tL_pieceOf_0_ok 13 (q := (19, .iconst 2, 1)) rfl
theorem dL_pieceOf_20 : decode cL_pieceOf 20 = .ok (.ireturn, 1) := td tL_pieceOf_0_ok 14 (q := (20, .ireturn, 1)) rfl
theorem dL_pieceOf_21 : decode cL_pieceOf 21 = .ok (.iconst 0, 1) := td tL_pieceOf_0_ok 15 (q := (21, .iconst 0, 1)) rfl
theorem dL_pieceOf_22 : decode cL_pieceOf 22 = .ok (.ireturn, 1) := td tL_pieceOf_0_ok 16 (q := (22, .ireturn, 1)) rfl
set_option maxHeartbeats 4000000 in
set_option maxRecDepth 100000 in
theorem hL_pieceOf {l : Launch} {D : va_G} {cI cJ : ClassId} {od b : Nat} {g : Nat → Int64} {W0 W1 : va_W} {fs : List Value} {x1 x2 : Int32} {r : Int32} (hC : nd_C l yX8_pieceOf cX8_pieceOf 3 (some .int) 5 112 D [(cI, .int)] [.ref b, .int x1, .int x2] W0 W1 (some (.int r))) (hq : W0[0]? = some (b, .inr (5, fs))) (hsame : W1.map (·.1) = W0.map (·.1)) : nd_H l yL_pieceOf cL_pieceOf 5 [(0, 10, 13, 21), (0, 10, 17, 13)] D cI cJ od g [.ref b, .int x1, .int x2, .ref od] W0 (fun W g1 => W = W1 ∧ g1 0 = r.toInt64) 0 := by
  refine nd_ofH (by decide) (Nat.le_of_ble_eq_true rfl) (fun p e s m args below meth c_ ls A Q hx hb hml hown hts hl hP hK hD hS hA hN hX hY hxt hret => ?_)
  have hown : s.vm.findClass RL = some m.cls := hown
  have hl : lv_has ls 5 [(0, .ref b), (1, .int x1), (2, .int x2), (3, .ref od)] := hl
  have hK1 : va_K D vwCl [(cI, .int)] s := hK.sub [0] rfl
  refine lv_aload_n hx hb dL_pieceOf_0 rfl (lv_at hl 3 rfl) ?_
  refine lv_iconst (v := (0 : Int32)) hx hb dL_pieceOf_1 (by decide) ?_
  refine lv_aload_n hx hb dL_pieceOf_2 rfl (lv_at hl 0 rfl) ?_
  refine lv_iload_n hx hb dL_pieceOf_3 rfl (lv_at hl 1 rfl) ?_
  refine lv_iload_n hx hb dL_pieceOf_4 rfl (lv_at hl 2 rfl) ?_
  refine nd_callVW (As := [.int x1, .int x2]) (rest := [.int 0, .ref od]) (st1 := [.int r, .int 0, .ref od]) hx hb hml hown hts hl [(od, OU cJ g)] W0 W1 [] (wl_in hP) hK1 (wl_inD hD) hS hA hN hC iv_X8_pieceOf wd_538 0 hq rfl hsame rfl ⟨Nat.le_of_ble_eq_true rfl, Nat.le_of_ble_eq_true rfl⟩ (Nat.le_of_ble_eq_true rfl) ⟨Nat.zero_le _, Nat.zero_le _⟩ dL_pieceOf_5 rfl rfl (fun H locs hP hD hS => ?_)
  have hP := wl_out hP
  have hD := wl_outD hD
  refine lv_i2l hx hb dL_pieceOf_8 rfl ?_
  refine va_last hx hb hK hP hD hS 0 1 rfl rfl in_01 dL_pieceOf_9 (fun H locs hP hD hS => ?_)
  refine lv_goto (tgt := 21) hx hb dL_pieceOf_10 (by decide) ?_
  refine lv_iconst (v := (0 : Int32)) hx hb dL_pieceOf_21 (by decide) ?_
  refine W.widen (k := 1) (n := 6) (by decide) (by decide) ?_
  exact hret (W1 := W1) ⟨rfl, rfl⟩ hsame hP hS dL_pieceOf_22
set_option maxHeartbeats 4000000 in
set_option maxRecDepth 100000 in
theorem tL_pieceOf_3 {l : Launch} {D : va_G} {cI cJ : ClassId} {od b : Nat} {g : Nat → Int64} {W0 W1 : va_W} {fs : List Value} {x1 x2 : Int32} {PW : va_W → Prop} (hC : nd_CX l yX8_pieceOf cX8_pieceOf 3 (some .int) 7 112 D [(cI, .int)] [.ref b, .int x1, .int x2] W0 PW 3) (hq : W0[0]? = some (b, .inr (5, fs))) (hsame : ∀ W1, PW W1 → W1.map (·.1) = W0.map (·.1)) : nd_H l yL_pieceOf cL_pieceOf 5 [(0, 10, 13, 21), (0, 10, 17, 13)] D cI cJ od g [.ref b, .int x1, .int x2, .ref od] W0 (fun W _ => PW W) 1 := by
  refine nd_ofH (by decide) (Nat.le_of_ble_eq_true rfl) (fun p e s m args below meth c_ ls A Q hx hb hml hown hts hl hP hK hD hS hA hN hX hY hxt hret => ?_)
  have hown : s.vm.findClass RL = some m.cls := hown
  have hl : lv_has ls 5 [(0, .ref b), (1, .int x1), (2, .int x2), (3, .ref od)] := hl
  have hK1 : va_K D vwCl [(cI, .int)] s := hK.sub [0] rfl
  refine lv_aload_n hx hb dL_pieceOf_0 rfl (lv_at hl 3 rfl) ?_
  refine lv_iconst (v := (0 : Int32)) hx hb dL_pieceOf_1 (by decide) ?_
  refine lv_aload_n hx hb dL_pieceOf_2 rfl (lv_at hl 0 rfl) ?_
  refine lv_iload_n hx hb dL_pieceOf_3 rfl (lv_at hl 1 rfl) ?_
  refine lv_iload_n hx hb dL_pieceOf_4 rfl (lv_at hl 2 rfl) ?_
  refine nd_callXW (As := [.int x1, .int x2]) (rest := [.int 0, .ref od]) hx hb hml hown hts hl [(od, OU cJ g)] W0 [] (wl_in hP) hK1 (wl_inD hD) hS hA hN hX hC iv_X8_pieceOf wd_538 0 hq rfl rfl ⟨Nat.le_of_ble_eq_true rfl, Nat.le_of_ble_eq_true rfl⟩ (Nat.le_of_ble_eq_true rfl) ⟨Nat.le_of_ble_eq_true rfl, Nat.le_of_ble_eq_true rfl⟩ dL_pieceOf_5 rfl [] ⟨0, 10, 13, 21⟩ [⟨0, 10, 17, 13⟩] (hxt.trans rfl) (fun z hz => absurd hz List.not_mem_nil) (by decide) (by decide) (hts _ wd_150) (j_cast hX (by decide)) (fun q W9 H locs hw hP hS => ?_)
  refine lv_astore (lv' := [(4, .ref q), (0, .ref b), (1, .int x1), (2, .int x2), (3, .ref od)]) hx hb dL_pieceOf_13 hl (by decide) rfl (fun ls hl => ?_)
  refine lv_iconst (v := (1 : Int32)) hx hb dL_pieceOf_15 (by decide) ?_
  exact hret (W1 := W9) hw (hsame _ hw) (wl_out hP) hS dL_pieceOf_16
set_option maxHeartbeats 4000000 in
set_option maxRecDepth 100000 in
theorem tL_pieceOf_1 {l : Launch} {D : va_G} {cI cJ : ClassId} {od b : Nat} {g : Nat → Int64} {W0 W1 : va_W} {fs : List Value} {x1 x2 : Int32} {PW : va_W → Prop} (hC : nd_CX l yX8_pieceOf cX8_pieceOf 3 (some .int) 7 112 D [(cI, .int)] [.ref b, .int x1, .int x2] W0 PW 1) (hq : W0[0]? = some (b, .inr (5, fs))) (hsame : ∀ W1, PW W1 → W1.map (·.1) = W0.map (·.1)) : nd_H l yL_pieceOf cL_pieceOf 5 [(0, 10, 13, 21), (0, 10, 17, 13)] D cI cJ od g [.ref b, .int x1, .int x2, .ref od] W0 (fun W _ => PW W) 2 := by
  refine nd_ofH (by decide) (Nat.le_of_ble_eq_true rfl) (fun p e s m args below meth c_ ls A Q hx hb hml hown hts hl hP hK hD hS hA hN hX hY hxt hret => ?_)
  have hown : s.vm.findClass RL = some m.cls := hown
  have hl : lv_has ls 5 [(0, .ref b), (1, .int x1), (2, .int x2), (3, .ref od)] := hl
  have hK1 : va_K D vwCl [(cI, .int)] s := hK.sub [0] rfl
  refine lv_aload_n hx hb dL_pieceOf_0 rfl (lv_at hl 3 rfl) ?_
  refine lv_iconst (v := (0 : Int32)) hx hb dL_pieceOf_1 (by decide) ?_
  refine lv_aload_n hx hb dL_pieceOf_2 rfl (lv_at hl 0 rfl) ?_
  refine lv_iload_n hx hb dL_pieceOf_3 rfl (lv_at hl 1 rfl) ?_
  refine lv_iload_n hx hb dL_pieceOf_4 rfl (lv_at hl 2 rfl) ?_
  refine nd_callXW (As := [.int x1, .int x2]) (rest := [.int 0, .ref od]) hx hb hml hown hts hl [(od, OU cJ g)] W0 [] (wl_in hP) hK1 (wl_inD hD) hS hA hN hX hC iv_X8_pieceOf wd_538 0 hq rfl rfl ⟨Nat.le_of_ble_eq_true rfl, Nat.le_of_ble_eq_true rfl⟩ (Nat.le_of_ble_eq_true rfl) ⟨Nat.le_of_ble_eq_true rfl, Nat.le_of_ble_eq_true rfl⟩ dL_pieceOf_5 rfl [⟨0, 10, 13, 21⟩] ⟨0, 10, 17, 13⟩ [] (hxt.trans rfl) (fun z hz => by cases List.mem_singleton.mp hz; exact Or.inr ⟨by decide, _, hts _ wd_150, hY.2.1⟩) (by decide) (by decide) (hts _ wd_85) (j_cast hX (by decide)) (fun q W9 H locs hw hP hS => ?_)
  refine lv_astore (lv' := [(4, .ref q), (0, .ref b), (1, .int x1), (2, .int x2), (3, .ref od)]) hx hb dL_pieceOf_17 hl (by decide) rfl (fun ls hl => ?_)
  refine lv_iconst (v := (2 : Int32)) hx hb dL_pieceOf_19 (by decide) ?_
  exact hret (W1 := W9) hw (hsame _ hw) (wl_out hP) hS dL_pieceOf_20
def tL_receipt_0 : List (Nat × Instr × Nat) := [(0, .aload 4, 2), (2, .iconst 0, 1), (3, .aload_n 0, 1), (4, .iload_n 1, 1), (5, .iload_n 2, 1), (6, .iload_n 3, 1), (7, .invokevirtual 45, 3), (10, .i2l, 1), (11, .lastore, 1), (12, .goto 11, 3), (15, .astore 5, 2), (17, .iconst 1, 1), (18, .ireturn, 1), (19, .astore 5, 2), (21, .iconst 2, 1), (22, .ireturn, 1), (23, .iconst 0, 1), (24, .ireturn, 1)]
theorem tL_receipt_0_ok : tL_receipt_0.all (fun q => decide (decode cL_receipt q.1 = .ok q.2)) = true := by decide +kernel
theorem dL_receipt_0 : decode cL_receipt 0 = .ok (.aload 4, 2) := td tL_receipt_0_ok 0 (q := (0, .aload 4, 2)) rfl
theorem dL_receipt_2 : decode cL_receipt 2 = .ok (.iconst 0, 1) := td tL_receipt_0_ok 1 (q := (2, .iconst 0, 1)) rfl
theorem dL_receipt_3 : decode cL_receipt 3 = .ok (.aload_n 0, 1) := td tL_receipt_0_ok 2 (q := (3, .aload_n 0, 1)) rfl
theorem dL_receipt_4 : decode cL_receipt 4 = .ok (.iload_n 1, 1) := td tL_receipt_0_ok 3 (q := (4, .iload_n 1, 1)) rfl
theorem dL_receipt_5 : decode cL_receipt 5 = .ok (.iload_n 2, 1) := td tL_receipt_0_ok 4 (q := (5, .iload_n 2, 1)) rfl
theorem dL_receipt_6 : decode cL_receipt 6 = .ok (.iload_n 3, 1) := td tL_receipt_0_ok 5 (q := (6, .iload_n 3, 1)) rfl
theorem dL_receipt_7 : decode cL_receipt 7 = .ok (.invokevirtual 45, 3) := td tL_receipt_0_ok 6 (q := (7, .invokevirtual 45, 3)) rfl
theorem dL_receipt_10 : decode cL_receipt 10 = .ok (.i2l, 1) := td tL_receipt_0_ok 7 (q := (10, .i2l, 1)) rfl
theorem dL_receipt_11 : decode cL_receipt 11 = .ok (.lastore, 1) := td tL_receipt_0_ok 8 (q := (11, .lastore, 1)) rfl
theorem dL_receipt_12 : decode cL_receipt 12 = .ok (.goto 11, 3) := td tL_receipt_0_ok 9 (q := (12, .goto 11, 3)) rfl
theorem dL_receipt_15 : decode cL_receipt 15 = .ok (.astore 5, 2) := td tL_receipt_0_ok 10 (q := (15, .astore 5, 2)) rfl
theorem dL_receipt_17 : decode cL_receipt 17 = .ok (.iconst 1, 1) := td tL_receipt_0_ok 11 (q := (17, .iconst 1, 1)) rfl
theorem dL_receipt_18 : decode cL_receipt 18 = .ok (.ireturn, 1) := td tL_receipt_0_ok 12 (q := (18, .ireturn, 1)) rfl
theorem dL_receipt_19 : decode cL_receipt 19 = .ok (.astore 5, 2) := td tL_receipt_0_ok 13 (q := (19, .astore 5, 2)) rfl
theorem dL_receipt_21 : decode cL_receipt 21 = .ok (.iconst 2, 1) := td tL_receipt_0_ok 14 (q := (21, .iconst 2, 1)) rfl
theorem dL_receipt_22 : decode cL_receipt 22 = .ok (.ireturn, 1) := td tL_receipt_0_ok 15 (q := (22, .ireturn, 1)) rfl
theorem dL_receipt_23 : decode cL_receipt 23 = .ok (.iconst 0, 1) := td tL_receipt_0_ok 16 (q := (23, .iconst 0, 1)) rfl
theorem dL_receipt_24 : decode cL_receipt 24 = .ok (.ireturn, 1) := td tL_receipt_0_ok 17 (q := (24, .ireturn, 1)) rfl
set_option maxHeartbeats 4000000 in
set_option maxRecDepth 100000 in
theorem hL_receipt {l : Launch} {D : va_G} {cI cJ : ClassId} {od b : Nat} {g : Nat → Int64} {W0 W1 : va_W} {fs : List Value} {x1 x2 x3 : Int32} {r : Int32} (hC : nd_C l yX8_receipt cX8_receipt 4 (some .int) 4 93 D [(cI, .int)] [.ref b, .int x1, .int x2, .int x3] W0 W1 (some (.int r))) (hq : W0[0]? = some (b, .inr (5, fs))) (hsame : W1.map (·.1) = W0.map (·.1)) : nd_H l yL_receipt cL_receipt 6 [(0, 12, 15, 21), (0, 12, 19, 13)] D cI cJ od g [.ref b, .int x1, .int x2, .int x3, .ref od] W0 (fun W g1 => W = W1 ∧ g1 0 = r.toInt64) 0 := by
  refine nd_ofH (by decide) (Nat.le_of_ble_eq_true rfl) (fun p e s m args below meth c_ ls A Q hx hb hml hown hts hl hP hK hD hS hA hN hX hY hxt hret => ?_)
  have hown : s.vm.findClass RL = some m.cls := hown
  have hl : lv_has ls 6 [(0, .ref b), (1, .int x1), (2, .int x2), (3, .int x3), (4, .ref od)] := hl
  have hK1 : va_K D vwCl [(cI, .int)] s := hK.sub [0] rfl
  refine lv_aload hx hb dL_receipt_0 (lv_at hl 4 rfl) ?_
  refine lv_iconst (v := (0 : Int32)) hx hb dL_receipt_2 (by decide) ?_
  refine lv_aload_n hx hb dL_receipt_3 rfl (lv_at hl 0 rfl) ?_
  refine lv_iload_n hx hb dL_receipt_4 rfl (lv_at hl 1 rfl) ?_
  refine lv_iload_n hx hb dL_receipt_5 rfl (lv_at hl 2 rfl) ?_
  refine lv_iload_n hx hb dL_receipt_6 rfl (lv_at hl 3 rfl) ?_
  refine nd_callVW (As := [.int x1, .int x2, .int x3]) (rest := [.int 0, .ref od]) (st1 := [.int r, .int 0, .ref od]) hx hb hml hown hts hl [(od, OU cJ g)] W0 W1 [] (wl_in hP) hK1 (wl_inD hD) hS hA hN hC iv_X8_receipt wd_573 0 hq rfl hsame rfl ⟨Nat.le_of_ble_eq_true rfl, Nat.le_of_ble_eq_true rfl⟩ (Nat.le_of_ble_eq_true rfl) ⟨Nat.zero_le _, Nat.zero_le _⟩ dL_receipt_7 rfl rfl (fun H locs hP hD hS => ?_)
  have hP := wl_out hP
  have hD := wl_outD hD
  refine lv_i2l hx hb dL_receipt_10 rfl ?_
  refine va_last hx hb hK hP hD hS 0 1 rfl rfl in_01 dL_receipt_11 (fun H locs hP hD hS => ?_)
  refine lv_goto (tgt := 23) hx hb dL_receipt_12 (by decide) ?_
  refine lv_iconst (v := (0 : Int32)) hx hb dL_receipt_23 (by decide) ?_
  refine W.widen (k := 1) (n := 6) (by decide) (by decide) ?_
  exact hret (W1 := W1) ⟨rfl, rfl⟩ hsame hP hS dL_receipt_24
set_option maxHeartbeats 4000000 in
set_option maxRecDepth 100000 in
theorem tL_receipt_3 {l : Launch} {D : va_G} {cI cJ : ClassId} {od b : Nat} {g : Nat → Int64} {W0 W1 : va_W} {fs : List Value} {x1 x2 x3 : Int32} {PW : va_W → Prop} (hC : nd_CX l yX8_receipt cX8_receipt 4 (some .int) 8 125 D [(cI, .int)] [.ref b, .int x1, .int x2, .int x3] W0 PW 3) (hq : W0[0]? = some (b, .inr (5, fs))) (hsame : ∀ W1, PW W1 → W1.map (·.1) = W0.map (·.1)) : nd_H l yL_receipt cL_receipt 6 [(0, 12, 15, 21), (0, 12, 19, 13)] D cI cJ od g [.ref b, .int x1, .int x2, .int x3, .ref od] W0 (fun W _ => PW W) 1 := by
  refine nd_ofH (by decide) (Nat.le_of_ble_eq_true rfl) (fun p e s m args below meth c_ ls A Q hx hb hml hown hts hl hP hK hD hS hA hN hX hY hxt hret => ?_)
  have hown : s.vm.findClass RL = some m.cls := hown
  have hl : lv_has ls 6 [(0, .ref b), (1, .int x1), (2, .int x2), (3, .int x3), (4, .ref od)] := hl
  have hK1 : va_K D vwCl [(cI, .int)] s := hK.sub [0] rfl
  refine lv_aload hx hb dL_receipt_0 (lv_at hl 4 rfl) ?_
  refine lv_iconst (v := (0 : Int32)) hx hb dL_receipt_2 (by decide) ?_
  refine lv_aload_n hx hb dL_receipt_3 rfl (lv_at hl 0 rfl) ?_
  refine lv_iload_n hx hb dL_receipt_4 rfl (lv_at hl 1 rfl) ?_
  refine lv_iload_n hx hb dL_receipt_5 rfl (lv_at hl 2 rfl) ?_
  refine lv_iload_n hx hb dL_receipt_6 rfl (lv_at hl 3 rfl) ?_
  refine nd_callXW (As := [.int x1, .int x2, .int x3]) (rest := [.int 0, .ref od]) hx hb hml hown hts hl [(od, OU cJ g)] W0 [] (wl_in hP) hK1 (wl_inD hD) hS hA hN hX hC iv_X8_receipt wd_573 0 hq rfl rfl ⟨Nat.le_of_ble_eq_true rfl, Nat.le_of_ble_eq_true rfl⟩ (Nat.le_of_ble_eq_true rfl) ⟨Nat.le_of_ble_eq_true rfl, Nat.le_of_ble_eq_true rfl⟩ dL_receipt_7 rfl [] ⟨0, 12, 15, 21⟩ [⟨0, 12, 19, 13⟩] (hxt.trans rfl) (fun z hz => absurd hz List.not_mem_nil) (by decide) (by decide) (hts _ wd_150) (j_cast hX (by decide)) (fun q W9 H locs hw hP hS => ?_)
  refine lv_astore (lv' := [(5, .ref q), (0, .ref b), (1, .int x1), (2, .int x2), (3, .int x3), (4, .ref od)]) hx hb dL_receipt_15 hl (by decide) rfl (fun ls hl => ?_)
  refine lv_iconst (v := (1 : Int32)) hx hb dL_receipt_17 (by decide) ?_
  exact hret (W1 := W9) hw (hsame _ hw) (wl_out hP) hS dL_receipt_18
set_option maxHeartbeats 4000000 in
set_option maxRecDepth 100000 in
theorem tL_receipt_1 {l : Launch} {D : va_G} {cI cJ : ClassId} {od b : Nat} {g : Nat → Int64} {W0 W1 : va_W} {fs : List Value} {x1 x2 x3 : Int32} {PW : va_W → Prop} (hC : nd_CX l yX8_receipt cX8_receipt 4 (some .int) 8 125 D [(cI, .int)] [.ref b, .int x1, .int x2, .int x3] W0 PW 1) (hq : W0[0]? = some (b, .inr (5, fs))) (hsame : ∀ W1, PW W1 → W1.map (·.1) = W0.map (·.1)) : nd_H l yL_receipt cL_receipt 6 [(0, 12, 15, 21), (0, 12, 19, 13)] D cI cJ od g [.ref b, .int x1, .int x2, .int x3, .ref od] W0 (fun W _ => PW W) 2 := by
  refine nd_ofH (by decide) (Nat.le_of_ble_eq_true rfl) (fun p e s m args below meth c_ ls A Q hx hb hml hown hts hl hP hK hD hS hA hN hX hY hxt hret => ?_)
  have hown : s.vm.findClass RL = some m.cls := hown
  have hl : lv_has ls 6 [(0, .ref b), (1, .int x1), (2, .int x2), (3, .int x3), (4, .ref od)] := hl
  have hK1 : va_K D vwCl [(cI, .int)] s := hK.sub [0] rfl
  refine lv_aload hx hb dL_receipt_0 (lv_at hl 4 rfl) ?_
  refine lv_iconst (v := (0 : Int32)) hx hb dL_receipt_2 (by decide) ?_
  refine lv_aload_n hx hb dL_receipt_3 rfl (lv_at hl 0 rfl) ?_
  refine lv_iload_n hx hb dL_receipt_4 rfl (lv_at hl 1 rfl) ?_
  refine lv_iload_n hx hb dL_receipt_5 rfl (lv_at hl 2 rfl) ?_
  refine lv_iload_n hx hb dL_receipt_6 rfl (lv_at hl 3 rfl) ?_
  refine nd_callXW (As := [.int x1, .int x2, .int x3]) (rest := [.int 0, .ref od]) hx hb hml hown hts hl [(od, OU cJ g)] W0 [] (wl_in hP) hK1 (wl_inD hD) hS hA hN hX hC iv_X8_receipt wd_573 0 hq rfl rfl ⟨Nat.le_of_ble_eq_true rfl, Nat.le_of_ble_eq_true rfl⟩ (Nat.le_of_ble_eq_true rfl) ⟨Nat.le_of_ble_eq_true rfl, Nat.le_of_ble_eq_true rfl⟩ dL_receipt_7 rfl [⟨0, 12, 15, 21⟩] ⟨0, 12, 19, 13⟩ [] (hxt.trans rfl) (fun z hz => by cases List.mem_singleton.mp hz; exact Or.inr ⟨by decide, _, hts _ wd_150, hY.2.1⟩) (by decide) (by decide) (hts _ wd_85) (j_cast hX (by decide)) (fun q W9 H locs hw hP hS => ?_)
  refine lv_astore (lv' := [(5, .ref q), (0, .ref b), (1, .int x1), (2, .int x2), (3, .int x3), (4, .ref od)]) hx hb dL_receipt_19 hl (by decide) rfl (fun ls hl => ?_)
  refine lv_iconst (v := (2 : Int32)) hx hb dL_receipt_21 (by decide) ?_
  exact hret (W1 := W9) hw (hsame _ hw) (wl_out hP) hS dL_receipt_22
def tL_page_0 : List (Nat × Instr × Nat) := [(0, .aload_n 3, 1), (1, .iconst 0, 1), (2, .aload_n 0, 1), (3, .iload_n 1, 1), (4, .iload_n 2, 1), (5, .invokevirtual 49, 3), (8, .i2l, 1), (9, .lastore, 1), (10, .goto 7, 3), (13, .astore 4, 2), (15, .iconst 1, 1), (16, .ireturn, 1), (17, .iconst 0, 1), (18, .ireturn, 1)]
theorem tL_page_0_ok : tL_page_0.all (fun q => decide (decode cL_page q.1 = .ok q.2)) = true := by decide +kernel
theorem dL_page_0 : decode cL_page 0 = .ok (.aload_n 3, 1) := td tL_page_0_ok 0 (q := (0, .aload_n 3, 1)) rfl
theorem dL_page_1 : decode cL_page 1 = .ok (.iconst 0, 1) := td tL_page_0_ok 1 (q := (1, .iconst 0, 1)) rfl
theorem dL_page_2 : decode cL_page 2 = .ok (.aload_n 0, 1) := td tL_page_0_ok 2 (q := (2, .aload_n 0, 1)) rfl
theorem dL_page_3 : decode cL_page 3 = .ok (.iload_n 1, 1) := td tL_page_0_ok 3 (q := (3, .iload_n 1, 1)) rfl
theorem dL_page_4 : decode cL_page 4 = .ok (.iload_n 2, 1) := td tL_page_0_ok 4 (q := (4, .iload_n 2, 1)) rfl
theorem dL_page_5 : decode cL_page 5 = .ok (.invokevirtual 49, 3) := td tL_page_0_ok 5 (q := (5, .invokevirtual 49, 3)) rfl
theorem dL_page_8 : decode cL_page 8 = .ok (.i2l, 1) := td tL_page_0_ok 6 (q := (8, .i2l, 1)) rfl
theorem dL_page_9 : decode cL_page 9 = .ok (.lastore, 1) := td tL_page_0_ok 7 (q := (9, .lastore, 1)) rfl
theorem dL_page_10 : decode cL_page 10 = .ok (.goto 7, 3) := td tL_page_0_ok 8 (q := (10, .goto 7, 3)) rfl
theorem dL_page_13 : decode cL_page 13 = .ok (.astore 4, 2) := td tL_page_0_ok 9 (q := (13, .astore 4, 2)) rfl
theorem dL_page_15 : decode cL_page 15 = .ok (.iconst 1, 1) := td tL_page_0_ok 10 (q := (15, .iconst 1, 1)) rfl
theorem dL_page_16 : decode cL_page 16 = .ok (.ireturn, 1) := td tL_page_0_ok 11 (q := (16, .ireturn, 1)) rfl
theorem dL_page_17 : decode cL_page 17 = .ok (.iconst 0, 1) := td tL_page_0_ok 12 (q := (17, .iconst 0, 1)) rfl
theorem dL_page_18 : decode cL_page 18 = .ok (.ireturn, 1) := td tL_page_0_ok 13 (q := (18, .ireturn, 1)) rfl
set_option maxHeartbeats 4000000 in
set_option maxRecDepth 100000 in
theorem hL_page {l : Launch} {D : va_G} {cI cJ : ClassId} {od b : Nat} {g : Nat → Int64} {W0 W1 : va_W} {fs : List Value} {x1 x2 : Int32} {r : Int32} (hC : nd_C l yX8_page cX8_page 3 (some .int) 4 90 D [(cI, .int)] [.ref b, .int x1, .int x2] W0 W1 (some (.int r))) (hq : W0[0]? = some (b, .inr (5, fs))) (hsame : W1.map (·.1) = W0.map (·.1)) : nd_H l yL_page cL_page 5 [(0, 10, 13, 13)] D cI cJ od g [.ref b, .int x1, .int x2, .ref od] W0 (fun W g1 => W = W1 ∧ g1 0 = r.toInt64) 0 := by
  refine nd_ofH (by decide) (Nat.le_of_ble_eq_true rfl) (fun p e s m args below meth c_ ls A Q hx hb hml hown hts hl hP hK hD hS hA hN hX hY hxt hret => ?_)
  have hown : s.vm.findClass RL = some m.cls := hown
  have hl : lv_has ls 5 [(0, .ref b), (1, .int x1), (2, .int x2), (3, .ref od)] := hl
  have hK1 : va_K D vwCl [(cI, .int)] s := hK.sub [0] rfl
  refine lv_aload_n hx hb dL_page_0 rfl (lv_at hl 3 rfl) ?_
  refine lv_iconst (v := (0 : Int32)) hx hb dL_page_1 (by decide) ?_
  refine lv_aload_n hx hb dL_page_2 rfl (lv_at hl 0 rfl) ?_
  refine lv_iload_n hx hb dL_page_3 rfl (lv_at hl 1 rfl) ?_
  refine lv_iload_n hx hb dL_page_4 rfl (lv_at hl 2 rfl) ?_
  refine nd_callVW (As := [.int x1, .int x2]) (rest := [.int 0, .ref od]) (st1 := [.int r, .int 0, .ref od]) hx hb hml hown hts hl [(od, OU cJ g)] W0 W1 [] (wl_in hP) hK1 (wl_inD hD) hS hA hN hC iv_X8_page wd_652 0 hq rfl hsame rfl ⟨Nat.le_of_ble_eq_true rfl, Nat.le_of_ble_eq_true rfl⟩ (Nat.le_of_ble_eq_true rfl) ⟨Nat.zero_le _, Nat.zero_le _⟩ dL_page_5 rfl rfl (fun H locs hP hD hS => ?_)
  have hP := wl_out hP
  have hD := wl_outD hD
  refine lv_i2l hx hb dL_page_8 rfl ?_
  refine va_last hx hb hK hP hD hS 0 1 rfl rfl in_01 dL_page_9 (fun H locs hP hD hS => ?_)
  refine lv_goto (tgt := 17) hx hb dL_page_10 (by decide) ?_
  refine lv_iconst (v := (0 : Int32)) hx hb dL_page_17 (by decide) ?_
  refine W.widen (k := 1) (n := 6) (by decide) (by decide) ?_
  exact hret (W1 := W1) ⟨rfl, rfl⟩ hsame hP hS dL_page_18
set_option maxHeartbeats 4000000 in
set_option maxRecDepth 100000 in
theorem tL_page_1 {l : Launch} {D : va_G} {cI cJ : ClassId} {od b : Nat} {g : Nat → Int64} {W0 W1 : va_W} {fs : List Value} {x1 x2 : Int32} {PW : va_W → Prop} (hC : nd_CX l yX8_page cX8_page 3 (some .int) 7 103 D [(cI, .int)] [.ref b, .int x1, .int x2] W0 PW 1) (hq : W0[0]? = some (b, .inr (5, fs))) (hsame : ∀ W1, PW W1 → W1.map (·.1) = W0.map (·.1)) : nd_H l yL_page cL_page 5 [(0, 10, 13, 13)] D cI cJ od g [.ref b, .int x1, .int x2, .ref od] W0 (fun W _ => PW W) 1 := by
  refine nd_ofH (by decide) (Nat.le_of_ble_eq_true rfl) (fun p e s m args below meth c_ ls A Q hx hb hml hown hts hl hP hK hD hS hA hN hX hY hxt hret => ?_)
  have hown : s.vm.findClass RL = some m.cls := hown
  have hl : lv_has ls 5 [(0, .ref b), (1, .int x1), (2, .int x2), (3, .ref od)] := hl
  have hK1 : va_K D vwCl [(cI, .int)] s := hK.sub [0] rfl
  refine lv_aload_n hx hb dL_page_0 rfl (lv_at hl 3 rfl) ?_
  refine lv_iconst (v := (0 : Int32)) hx hb dL_page_1 (by decide) ?_
  refine lv_aload_n hx hb dL_page_2 rfl (lv_at hl 0 rfl) ?_
  refine lv_iload_n hx hb dL_page_3 rfl (lv_at hl 1 rfl) ?_
  refine lv_iload_n hx hb dL_page_4 rfl (lv_at hl 2 rfl) ?_
  refine nd_callXW (As := [.int x1, .int x2]) (rest := [.int 0, .ref od]) hx hb hml hown hts hl [(od, OU cJ g)] W0 [] (wl_in hP) hK1 (wl_inD hD) hS hA hN hX hC iv_X8_page wd_652 0 hq rfl rfl ⟨Nat.le_of_ble_eq_true rfl, Nat.le_of_ble_eq_true rfl⟩ (Nat.le_of_ble_eq_true rfl) ⟨Nat.le_of_ble_eq_true rfl, Nat.le_of_ble_eq_true rfl⟩ dL_page_5 rfl [] ⟨0, 10, 13, 13⟩ [] (hxt.trans rfl) (fun z hz => absurd hz List.not_mem_nil) (by decide) (by decide) (hts _ wd_85) (j_cast hX (by decide)) (fun q W9 H locs hw hP hS => ?_)
  refine lv_astore (lv' := [(4, .ref q), (0, .ref b), (1, .int x1), (2, .int x2), (3, .ref od)]) hx hb dL_page_13 hl (by decide) rfl (fun ls hl => ?_)
  refine lv_iconst (v := (1 : Int32)) hx hb dL_page_15 (by decide) ?_
  exact hret (W1 := W9) hw (hsame _ hw) (wl_out hP) hS dL_page_16
def tL_line_0 : List (Nat × Instr × Nat) := [(0, .aload 4, 2), (2, .iconst 0, 1), (3, .aload_n 0, 1), (4, .iload_n 1, 1), (5, .iload_n 2, 1), (6, .iload_n 3, 1), (7, .invokevirtual 52, 3), (10, .i2l, 1), (11, .lastore, 1), (12, .goto 7, 3), (15, .astore 5, 2), (17, .iconst 1, 1), (18, .ireturn, 1), (19, .iconst 0, 1), (20, .ireturn, 1)]
theorem tL_line_0_ok : tL_line_0.all (fun q => decide (decode cL_line q.1 = .ok q.2)) = true := by decide +kernel
theorem dL_line_0 : decode cL_line 0 = .ok (.aload 4, 2) := td tL_line_0_ok 0 (q := (0, .aload 4, 2)) rfl
theorem dL_line_2 : decode cL_line 2 = .ok (.iconst 0, 1) := td tL_line_0_ok 1 (q := (2, .iconst 0, 1)) rfl
theorem dL_line_3 : decode cL_line 3 = .ok (.aload_n 0, 1) := td tL_line_0_ok 2 (q := (3, .aload_n 0, 1)) rfl
theorem dL_line_4 : decode cL_line 4 = .ok (.iload_n 1, 1) := td tL_line_0_ok 3 (q := (4, .iload_n 1, 1)) rfl
theorem dL_line_5 : decode cL_line 5 = .ok (.iload_n 2, 1) := td tL_line_0_ok 4 (q := (5, .iload_n 2, 1)) rfl
theorem dL_line_6 : decode cL_line 6 = .ok (.iload_n 3, 1) := td tL_line_0_ok 5 (q := (6, .iload_n 3, 1)) rfl
theorem dL_line_7 : decode cL_line 7 = .ok (.invokevirtual 52, 3) := td tL_line_0_ok 6 (q := (7, .invokevirtual 52, 3)) rfl
theorem dL_line_10 : decode cL_line 10 = .ok (.i2l, 1) := td tL_line_0_ok 7 (q := (10, .i2l, 1)) rfl
theorem dL_line_11 : decode cL_line 11 = .ok (.lastore, 1) := td tL_line_0_ok 8 (q := (11, .lastore, 1)) rfl
theorem dL_line_12 : decode cL_line 12 = .ok (.goto 7, 3) := td tL_line_0_ok 9 (q := (12, .goto 7, 3)) rfl
theorem dL_line_15 : decode cL_line 15 = .ok (.astore 5, 2) := td tL_line_0_ok 10 (q := (15, .astore 5, 2)) rfl
theorem dL_line_17 : decode cL_line 17 = .ok (.iconst 1, 1) := td tL_line_0_ok 11 (q := (17, .iconst 1, 1)) rfl
theorem dL_line_18 : decode cL_line 18 = .ok (.ireturn, 1) := td tL_line_0_ok 12 (q := (18, .ireturn, 1)) rfl
theorem dL_line_19 : decode cL_line 19 = .ok (.iconst 0, 1) := td tL_line_0_ok 13 (q := (19, .iconst 0, 1)) rfl
theorem dL_line_20 : decode cL_line 20 = .ok (.ireturn, 1) := td tL_line_0_ok 14 (q := (20, .ireturn, 1)) rfl
set_option maxHeartbeats 4000000 in
set_option maxRecDepth 100000 in
theorem hL_line {l : Launch} {D : va_G} {cI cJ : ClassId} {od b : Nat} {g : Nat → Int64} {W0 W1 : va_W} {fs : List Value} {x1 x2 x3 : Int32} {r : Int32} (hC : nd_C l yX8_line cX8_line 5 (some .int) 3 68 D [(cI, .int)] [.ref b, .int x1, .int x2, .int x3] W0 W1 (some (.int r))) (hq : W0[0]? = some (b, .inr (5, fs))) (hsame : W1.map (·.1) = W0.map (·.1)) : nd_H l yL_line cL_line 6 [(0, 12, 15, 13)] D cI cJ od g [.ref b, .int x1, .int x2, .int x3, .ref od] W0 (fun W g1 => W = W1 ∧ g1 0 = r.toInt64) 0 := by
  refine nd_ofH (by decide) (Nat.le_of_ble_eq_true rfl) (fun p e s m args below meth c_ ls A Q hx hb hml hown hts hl hP hK hD hS hA hN hX hY hxt hret => ?_)
  have hown : s.vm.findClass RL = some m.cls := hown
  have hl : lv_has ls 6 [(0, .ref b), (1, .int x1), (2, .int x2), (3, .int x3), (4, .ref od)] := hl
  have hK1 : va_K D vwCl [(cI, .int)] s := hK.sub [0] rfl
  refine lv_aload hx hb dL_line_0 (lv_at hl 4 rfl) ?_
  refine lv_iconst (v := (0 : Int32)) hx hb dL_line_2 (by decide) ?_
  refine lv_aload_n hx hb dL_line_3 rfl (lv_at hl 0 rfl) ?_
  refine lv_iload_n hx hb dL_line_4 rfl (lv_at hl 1 rfl) ?_
  refine lv_iload_n hx hb dL_line_5 rfl (lv_at hl 2 rfl) ?_
  refine lv_iload_n hx hb dL_line_6 rfl (lv_at hl 3 rfl) ?_
  refine nd_callVW (As := [.int x1, .int x2, .int x3]) (rest := [.int 0, .ref od]) (st1 := [.int r, .int 0, .ref od]) hx hb hml hown hts hl [(od, OU cJ g)] W0 W1 [] (wl_in hP) hK1 (wl_inD hD) hS hA hN hC iv_X8_line wd_678 0 hq rfl hsame rfl ⟨Nat.le_of_ble_eq_true rfl, Nat.le_of_ble_eq_true rfl⟩ (Nat.le_of_ble_eq_true rfl) ⟨Nat.zero_le _, Nat.zero_le _⟩ dL_line_7 rfl rfl (fun H locs hP hD hS => ?_)
  have hP := wl_out hP
  have hD := wl_outD hD
  refine lv_i2l hx hb dL_line_10 rfl ?_
  refine va_last hx hb hK hP hD hS 0 1 rfl rfl in_01 dL_line_11 (fun H locs hP hD hS => ?_)
  refine lv_goto (tgt := 19) hx hb dL_line_12 (by decide) ?_
  refine lv_iconst (v := (0 : Int32)) hx hb dL_line_19 (by decide) ?_
  refine W.widen (k := 1) (n := 6) (by decide) (by decide) ?_
  exact hret (W1 := W1) ⟨rfl, rfl⟩ hsame hP hS dL_line_20
set_option maxHeartbeats 4000000 in
set_option maxRecDepth 100000 in
theorem tL_line_1 {l : Launch} {D : va_G} {cI cJ : ClassId} {od b : Nat} {g : Nat → Int64} {W0 W1 : va_W} {fs : List Value} {x1 x2 x3 : Int32} {PW : va_W → Prop} (hC : nd_CX l yX8_line cX8_line 5 (some .int) 7 103 D [(cI, .int)] [.ref b, .int x1, .int x2, .int x3] W0 PW 1) (hq : W0[0]? = some (b, .inr (5, fs))) (hsame : ∀ W1, PW W1 → W1.map (·.1) = W0.map (·.1)) : nd_H l yL_line cL_line 6 [(0, 12, 15, 13)] D cI cJ od g [.ref b, .int x1, .int x2, .int x3, .ref od] W0 (fun W _ => PW W) 1 := by
  refine nd_ofH (by decide) (Nat.le_of_ble_eq_true rfl) (fun p e s m args below meth c_ ls A Q hx hb hml hown hts hl hP hK hD hS hA hN hX hY hxt hret => ?_)
  have hown : s.vm.findClass RL = some m.cls := hown
  have hl : lv_has ls 6 [(0, .ref b), (1, .int x1), (2, .int x2), (3, .int x3), (4, .ref od)] := hl
  have hK1 : va_K D vwCl [(cI, .int)] s := hK.sub [0] rfl
  refine lv_aload hx hb dL_line_0 (lv_at hl 4 rfl) ?_
  refine lv_iconst (v := (0 : Int32)) hx hb dL_line_2 (by decide) ?_
  refine lv_aload_n hx hb dL_line_3 rfl (lv_at hl 0 rfl) ?_
  refine lv_iload_n hx hb dL_line_4 rfl (lv_at hl 1 rfl) ?_
  refine lv_iload_n hx hb dL_line_5 rfl (lv_at hl 2 rfl) ?_
  refine lv_iload_n hx hb dL_line_6 rfl (lv_at hl 3 rfl) ?_
  refine nd_callXW (As := [.int x1, .int x2, .int x3]) (rest := [.int 0, .ref od]) hx hb hml hown hts hl [(od, OU cJ g)] W0 [] (wl_in hP) hK1 (wl_inD hD) hS hA hN hX hC iv_X8_line wd_678 0 hq rfl rfl ⟨Nat.le_of_ble_eq_true rfl, Nat.le_of_ble_eq_true rfl⟩ (Nat.le_of_ble_eq_true rfl) ⟨Nat.le_of_ble_eq_true rfl, Nat.le_of_ble_eq_true rfl⟩ dL_line_7 rfl [] ⟨0, 12, 15, 13⟩ [] (hxt.trans rfl) (fun z hz => absurd hz List.not_mem_nil) (by decide) (by decide) (hts _ wd_85) (j_cast hX (by decide)) (fun q W9 H locs hw hP hS => ?_)
  refine lv_astore (lv' := [(5, .ref q), (0, .ref b), (1, .int x1), (2, .int x2), (3, .int x3), (4, .ref od)]) hx hb dL_line_15 hl (by decide) rfl (fun ls hl => ?_)
  refine lv_iconst (v := (1 : Int32)) hx hb dL_line_17 (by decide) ?_
  exact hret (W1 := W9) hw (hsame _ hw) (wl_out hP) hS dL_line_18
def tL_sum_0 : List (Nat × Instr × Nat) := [(0, .aload_n 3, 1), (1, .iconst 0, 1), (2, .aload_n 0, 1), (3, .iload_n 1, 1), (4, .iload_n 2, 1), (5, .invokevirtual 55, 3), (8, .i2l, 1), (9, .lastore, 1), (10, .goto 7, 3), (13, .astore 4, 2), (15, .iconst 1, 1), (16, .ireturn, 1), (17, .iconst 0, 1), (18, .ireturn, 1)]
theorem tL_sum_0_ok : tL_sum_0.all (fun q => decide (decode cL_sum q.1 = .ok q.2)) = true := by decide +kernel
theorem dL_sum_0 : decode cL_sum 0 = .ok (.aload_n 3, 1) := td tL_sum_0_ok 0 (q := (0, .aload_n 3, 1)) rfl
theorem dL_sum_1 : decode cL_sum 1 = .ok (.iconst 0, 1) := td tL_sum_0_ok 1 (q := (1, .iconst 0, 1)) rfl
theorem dL_sum_2 : decode cL_sum 2 = .ok (.aload_n 0, 1) := td tL_sum_0_ok 2 (q := (2, .aload_n 0, 1)) rfl
theorem dL_sum_3 : decode cL_sum 3 = .ok (.iload_n 1, 1) := td tL_sum_0_ok 3 (q := (3, .iload_n 1, 1)) rfl
theorem dL_sum_4 : decode cL_sum 4 = .ok (.iload_n 2, 1) := td tL_sum_0_ok 4 (q := (4, .iload_n 2, 1)) rfl
theorem dL_sum_5 : decode cL_sum 5 = .ok (.invokevirtual 55, 3) := td tL_sum_0_ok 5 (q := (5, .invokevirtual 55, 3)) rfl
theorem dL_sum_8 : decode cL_sum 8 = .ok (.i2l, 1) := td tL_sum_0_ok 6 (q := (8, .i2l, 1)) rfl
theorem dL_sum_9 : decode cL_sum 9 = .ok (.lastore, 1) := td tL_sum_0_ok 7 (q := (9, .lastore, 1)) rfl
theorem dL_sum_10 : decode cL_sum 10 = .ok (.goto 7, 3) := td tL_sum_0_ok 8 (q := (10, .goto 7, 3)) rfl
theorem dL_sum_13 : decode cL_sum 13 = .ok (.astore 4, 2) := td tL_sum_0_ok 9 (q := (13, .astore 4, 2)) rfl
theorem dL_sum_15 : decode cL_sum 15 = .ok (.iconst 1, 1) := td tL_sum_0_ok 10 (q := (15, .iconst 1, 1)) rfl
theorem dL_sum_16 : decode cL_sum 16 = .ok (.ireturn, 1) := td tL_sum_0_ok 11 (q := (16, .ireturn, 1)) rfl
theorem dL_sum_17 : decode cL_sum 17 = .ok (.iconst 0, 1) := td tL_sum_0_ok 12 (q := (17, .iconst 0, 1)) rfl
theorem dL_sum_18 : decode cL_sum 18 = .ok (.ireturn, 1) := td tL_sum_0_ok 13 (q := (18, .ireturn, 1)) rfl
set_option maxHeartbeats 4000000 in
set_option maxRecDepth 100000 in
theorem hL_sum {l : Launch} {D : va_G} {cI cJ : ClassId} {od b : Nat} {g : Nat → Int64} {W0 W1 : va_W} {fs : List Value} {x1 x2 : Int32} {r : Int32} (hC : nd_C l yX8_sum cX8_sum 3 (some .int) 3 69 D [(cI, .int)] [.ref b, .int x1, .int x2] W0 W1 (some (.int r))) (hq : W0[0]? = some (b, .inr (5, fs))) (hsame : W1.map (·.1) = W0.map (·.1)) : nd_H l yL_sum cL_sum 5 [(0, 10, 13, 13)] D cI cJ od g [.ref b, .int x1, .int x2, .ref od] W0 (fun W g1 => W = W1 ∧ g1 0 = r.toInt64) 0 := by
  refine nd_ofH (by decide) (Nat.le_of_ble_eq_true rfl) (fun p e s m args below meth c_ ls A Q hx hb hml hown hts hl hP hK hD hS hA hN hX hY hxt hret => ?_)
  have hown : s.vm.findClass RL = some m.cls := hown
  have hl : lv_has ls 5 [(0, .ref b), (1, .int x1), (2, .int x2), (3, .ref od)] := hl
  have hK1 : va_K D vwCl [(cI, .int)] s := hK.sub [0] rfl
  refine lv_aload_n hx hb dL_sum_0 rfl (lv_at hl 3 rfl) ?_
  refine lv_iconst (v := (0 : Int32)) hx hb dL_sum_1 (by decide) ?_
  refine lv_aload_n hx hb dL_sum_2 rfl (lv_at hl 0 rfl) ?_
  refine lv_iload_n hx hb dL_sum_3 rfl (lv_at hl 1 rfl) ?_
  refine lv_iload_n hx hb dL_sum_4 rfl (lv_at hl 2 rfl) ?_
  refine nd_callVW (As := [.int x1, .int x2]) (rest := [.int 0, .ref od]) (st1 := [.int r, .int 0, .ref od]) hx hb hml hown hts hl [(od, OU cJ g)] W0 W1 [] (wl_in hP) hK1 (wl_inD hD) hS hA hN hC iv_X8_sum wd_724 0 hq rfl hsame rfl ⟨Nat.le_of_ble_eq_true rfl, Nat.le_of_ble_eq_true rfl⟩ (Nat.le_of_ble_eq_true rfl) ⟨Nat.zero_le _, Nat.zero_le _⟩ dL_sum_5 rfl rfl (fun H locs hP hD hS => ?_)
  have hP := wl_out hP
  have hD := wl_outD hD
  refine lv_i2l hx hb dL_sum_8 rfl ?_
  refine va_last hx hb hK hP hD hS 0 1 rfl rfl in_01 dL_sum_9 (fun H locs hP hD hS => ?_)
  refine lv_goto (tgt := 17) hx hb dL_sum_10 (by decide) ?_
  refine lv_iconst (v := (0 : Int32)) hx hb dL_sum_17 (by decide) ?_
  refine W.widen (k := 1) (n := 6) (by decide) (by decide) ?_
  exact hret (W1 := W1) ⟨rfl, rfl⟩ hsame hP hS dL_sum_18
set_option maxHeartbeats 4000000 in
set_option maxRecDepth 100000 in
theorem tL_sum_1 {l : Launch} {D : va_G} {cI cJ : ClassId} {od b : Nat} {g : Nat → Int64} {W0 W1 : va_W} {fs : List Value} {x1 x2 : Int32} {PW : va_W → Prop} (hC : nd_CX l yX8_sum cX8_sum 3 (some .int) 7 103 D [(cI, .int)] [.ref b, .int x1, .int x2] W0 PW 1) (hq : W0[0]? = some (b, .inr (5, fs))) (hsame : ∀ W1, PW W1 → W1.map (·.1) = W0.map (·.1)) : nd_H l yL_sum cL_sum 5 [(0, 10, 13, 13)] D cI cJ od g [.ref b, .int x1, .int x2, .ref od] W0 (fun W _ => PW W) 1 := by
  refine nd_ofH (by decide) (Nat.le_of_ble_eq_true rfl) (fun p e s m args below meth c_ ls A Q hx hb hml hown hts hl hP hK hD hS hA hN hX hY hxt hret => ?_)
  have hown : s.vm.findClass RL = some m.cls := hown
  have hl : lv_has ls 5 [(0, .ref b), (1, .int x1), (2, .int x2), (3, .ref od)] := hl
  have hK1 : va_K D vwCl [(cI, .int)] s := hK.sub [0] rfl
  refine lv_aload_n hx hb dL_sum_0 rfl (lv_at hl 3 rfl) ?_
  refine lv_iconst (v := (0 : Int32)) hx hb dL_sum_1 (by decide) ?_
  refine lv_aload_n hx hb dL_sum_2 rfl (lv_at hl 0 rfl) ?_
  refine lv_iload_n hx hb dL_sum_3 rfl (lv_at hl 1 rfl) ?_
  refine lv_iload_n hx hb dL_sum_4 rfl (lv_at hl 2 rfl) ?_
  refine nd_callXW (As := [.int x1, .int x2]) (rest := [.int 0, .ref od]) hx hb hml hown hts hl [(od, OU cJ g)] W0 [] (wl_in hP) hK1 (wl_inD hD) hS hA hN hX hC iv_X8_sum wd_724 0 hq rfl rfl ⟨Nat.le_of_ble_eq_true rfl, Nat.le_of_ble_eq_true rfl⟩ (Nat.le_of_ble_eq_true rfl) ⟨Nat.le_of_ble_eq_true rfl, Nat.le_of_ble_eq_true rfl⟩ dL_sum_5 rfl [] ⟨0, 10, 13, 13⟩ [] (hxt.trans rfl) (fun z hz => absurd hz List.not_mem_nil) (by decide) (by decide) (hts _ wd_85) (j_cast hX (by decide)) (fun q W9 H locs hw hP hS => ?_)
  refine lv_astore (lv' := [(4, .ref q), (0, .ref b), (1, .int x1), (2, .int x2), (3, .ref od)]) hx hb dL_sum_13 hl (by decide) rfl (fun ls hl => ?_)
  refine lv_iconst (v := (1 : Int32)) hx hb dL_sum_15 (by decide) ?_
  exact hret (W1 := W9) hw (hsame _ hw) (wl_out hP) hS dL_sum_16
def tL_count_0 : List (Nat × Instr × Nat) := [(0, .aload_n 2, 1), (1, .iconst 0, 1), (2, .aload_n 0, 1), (3, .iload_n 1, 1), (4, .invokevirtual 58, 3), (7, .i2l, 1), (8, .lastore, 1), (9, .goto 6, 3), (12, .astore_n 3, 1), (13, .iconst 1, 1), (14, .ireturn, 1), (15, .iconst 0, 1), (16, .ireturn, 1)]
theorem tL_count_0_ok : tL_count_0.all (fun q => decide (decode cL_count q.1 = .ok q.2)) = true := by decide +kernel
theorem dL_count_0 : decode cL_count 0 = .ok (.aload_n 2, 1) := td tL_count_0_ok 0 (q := (0, .aload_n 2, 1)) rfl
theorem dL_count_1 : decode cL_count 1 = .ok (.iconst 0, 1) := td tL_count_0_ok 1 (q := (1, .iconst 0, 1)) rfl
theorem dL_count_2 : decode cL_count 2 = .ok (.aload_n 0, 1) := td tL_count_0_ok 2 (q := (2, .aload_n 0, 1)) rfl
theorem dL_count_3 : decode cL_count 3 = .ok (.iload_n 1, 1) := td tL_count_0_ok 3 (q := (3, .iload_n 1, 1)) rfl
theorem dL_count_4 : decode cL_count 4 = .ok (.invokevirtual 58, 3) := td tL_count_0_ok 4 (q := (4, .invokevirtual 58, 3)) rfl
theorem dL_count_7 : decode cL_count 7 = .ok (.i2l, 1) := td tL_count_0_ok 5 (q := (7, .i2l, 1)) rfl
theorem dL_count_8 : decode cL_count 8 = .ok (.lastore, 1) := td tL_count_0_ok 6 (q := (8, .lastore, 1)) rfl
theorem dL_count_9 : decode cL_count 9 = .ok (.goto 6, 3) := td tL_count_0_ok 7 (q := (9, .goto 6, 3)) rfl
theorem dL_count_12 : decode cL_count 12 = .ok (.astore_n 3, 1) := td tL_count_0_ok 8 (q := (12, .astore_n 3, 1)) rfl
theorem dL_count_13 : decode cL_count 13 = .ok (.iconst 1, 1) := td tL_count_0_ok 9 (q := (13, .iconst 1, 1)) rfl
theorem dL_count_14 : decode cL_count 14 = .ok (.ireturn, 1) := td tL_count_0_ok 10 (q := (14, .ireturn, 1)) rfl
theorem dL_count_15 : decode cL_count 15 = .ok (.iconst 0, 1) := td tL_count_0_ok 11 (q := (15, .iconst 0, 1)) rfl
theorem dL_count_16 : decode cL_count 16 = .ok (.ireturn, 1) := td tL_count_0_ok 12 (q := (16, .ireturn, 1)) rfl
set_option maxHeartbeats 4000000 in
set_option maxRecDepth 100000 in
theorem hL_count {l : Launch} {D : va_G} {cI cJ : ClassId} {od b : Nat} {g : Nat → Int64} {W0 W1 : va_W} {fs : List Value} {x1 : Int32} {r : Int32} (hC : nd_C l yX8_count cX8_count 2 (some .int) 5 114 D [(cI, .int)] [.ref b, .int x1] W0 W1 (some (.int r))) (hq : W0[0]? = some (b, .inr (5, fs))) (hsame : W1.map (·.1) = W0.map (·.1)) : nd_H l yL_count cL_count 4 [(0, 9, 12, 13)] D cI cJ od g [.ref b, .int x1, .ref od] W0 (fun W g1 => W = W1 ∧ g1 0 = r.toInt64) 0 := by
  refine nd_ofH (by decide) (Nat.le_of_ble_eq_true rfl) (fun p e s m args below meth c_ ls A Q hx hb hml hown hts hl hP hK hD hS hA hN hX hY hxt hret => ?_)
  have hown : s.vm.findClass RL = some m.cls := hown
  have hl : lv_has ls 4 [(0, .ref b), (1, .int x1), (2, .ref od)] := hl
  have hK1 : va_K D vwCl [(cI, .int)] s := hK.sub [0] rfl
  refine lv_aload_n hx hb dL_count_0 rfl (lv_at hl 2 rfl) ?_
  refine lv_iconst (v := (0 : Int32)) hx hb dL_count_1 (by decide) ?_
  refine lv_aload_n hx hb dL_count_2 rfl (lv_at hl 0 rfl) ?_
  refine lv_iload_n hx hb dL_count_3 rfl (lv_at hl 1 rfl) ?_
  refine nd_callVW (As := [.int x1]) (rest := [.int 0, .ref od]) (st1 := [.int r, .int 0, .ref od]) hx hb hml hown hts hl [(od, OU cJ g)] W0 W1 [] (wl_in hP) hK1 (wl_inD hD) hS hA hN hC iv_X8_count wd_743 0 hq rfl hsame rfl ⟨Nat.le_of_ble_eq_true rfl, Nat.le_of_ble_eq_true rfl⟩ (Nat.le_of_ble_eq_true rfl) ⟨Nat.zero_le _, Nat.zero_le _⟩ dL_count_4 rfl rfl (fun H locs hP hD hS => ?_)
  have hP := wl_out hP
  have hD := wl_outD hD
  refine lv_i2l hx hb dL_count_7 rfl ?_
  refine va_last hx hb hK hP hD hS 0 1 rfl rfl in_01 dL_count_8 (fun H locs hP hD hS => ?_)
  refine lv_goto (tgt := 15) hx hb dL_count_9 (by decide) ?_
  refine lv_iconst (v := (0 : Int32)) hx hb dL_count_15 (by decide) ?_
  refine W.widen (k := 1) (n := 6) (by decide) (by decide) ?_
  exact hret (W1 := W1) ⟨rfl, rfl⟩ hsame hP hS dL_count_16
set_option maxHeartbeats 4000000 in
set_option maxRecDepth 100000 in
theorem tL_count_1 {l : Launch} {D : va_G} {cI cJ : ClassId} {od b : Nat} {g : Nat → Int64} {W0 W1 : va_W} {fs : List Value} {x1 : Int32} {PW : va_W → Prop} (hC : nd_CX l yX8_count cX8_count 2 (some .int) 7 114 D [(cI, .int)] [.ref b, .int x1] W0 PW 1) (hq : W0[0]? = some (b, .inr (5, fs))) (hsame : ∀ W1, PW W1 → W1.map (·.1) = W0.map (·.1)) : nd_H l yL_count cL_count 4 [(0, 9, 12, 13)] D cI cJ od g [.ref b, .int x1, .ref od] W0 (fun W _ => PW W) 1 := by
  refine nd_ofH (by decide) (Nat.le_of_ble_eq_true rfl) (fun p e s m args below meth c_ ls A Q hx hb hml hown hts hl hP hK hD hS hA hN hX hY hxt hret => ?_)
  have hown : s.vm.findClass RL = some m.cls := hown
  have hl : lv_has ls 4 [(0, .ref b), (1, .int x1), (2, .ref od)] := hl
  have hK1 : va_K D vwCl [(cI, .int)] s := hK.sub [0] rfl
  refine lv_aload_n hx hb dL_count_0 rfl (lv_at hl 2 rfl) ?_
  refine lv_iconst (v := (0 : Int32)) hx hb dL_count_1 (by decide) ?_
  refine lv_aload_n hx hb dL_count_2 rfl (lv_at hl 0 rfl) ?_
  refine lv_iload_n hx hb dL_count_3 rfl (lv_at hl 1 rfl) ?_
  refine nd_callXW (As := [.int x1]) (rest := [.int 0, .ref od]) hx hb hml hown hts hl [(od, OU cJ g)] W0 [] (wl_in hP) hK1 (wl_inD hD) hS hA hN hX hC iv_X8_count wd_743 0 hq rfl rfl ⟨Nat.le_of_ble_eq_true rfl, Nat.le_of_ble_eq_true rfl⟩ (Nat.le_of_ble_eq_true rfl) ⟨Nat.le_of_ble_eq_true rfl, Nat.le_of_ble_eq_true rfl⟩ dL_count_4 rfl [] ⟨0, 9, 12, 13⟩ [] (hxt.trans rfl) (fun z hz => absurd hz List.not_mem_nil) (by decide) (by decide) (hts _ wd_85) (j_cast hX (by decide)) (fun q W9 H locs hw hP hS => ?_)
  refine lv_astore_n (lv' := [(3, .ref q), (0, .ref b), (1, .int x1), (2, .ref od)]) hx hb dL_count_12 rfl hl (by decide) rfl (fun ls hl => ?_)
  refine lv_iconst (v := (1 : Int32)) hx hb dL_count_13 (by decide) ?_
  exact hret (W1 := W9) hw (hsame _ hw) (wl_out hP) hS dL_count_14
def tL_fits_0 : List (Nat × Instr × Nat) := [(0, .aload_n 3, 1), (1, .iconst 0, 1), (2, .aload_n 0, 1), (3, .iload_n 1, 1), (4, .iload_n 2, 1), (5, .invokevirtual 61, 3), (8, .i2l, 1), (9, .lastore, 1), (10, .goto 7, 3), (13, .astore 4, 2), (15, .iconst 1, 1), (16, .ireturn, 1), (17, .iconst 0, 1), (18, .ireturn, 1)]
theorem tL_fits_0_ok : tL_fits_0.all (fun q => decide (decode cL_fits q.1 = .ok q.2)) = true := by decide +kernel
theorem dL_fits_0 : decode cL_fits 0 = .ok (.aload_n 3, 1) := td tL_fits_0_ok 0 (q := (0, .aload_n 3, 1)) rfl
theorem dL_fits_1 : decode cL_fits 1 = .ok (.iconst 0, 1) := td tL_fits_0_ok 1 (q := (1, .iconst 0, 1)) rfl
theorem dL_fits_2 : decode cL_fits 2 = .ok (.aload_n 0, 1) := td tL_fits_0_ok 2 (q := (2, .aload_n 0, 1)) rfl
theorem dL_fits_3 : decode cL_fits 3 = .ok (.iload_n 1, 1) := td tL_fits_0_ok 3 (q := (3, .iload_n 1, 1)) rfl
theorem dL_fits_4 : decode cL_fits 4 = .ok (.iload_n 2, 1) := td tL_fits_0_ok 4 (q := (4, .iload_n 2, 1)) rfl
theorem dL_fits_5 : decode cL_fits 5 = .ok (.invokevirtual 61, 3) := td tL_fits_0_ok 5 (q := (5, .invokevirtual 61, 3)) rfl
theorem dL_fits_8 : decode cL_fits 8 = .ok (.i2l, 1) := td tL_fits_0_ok 6 (q := (8, .i2l, 1)) rfl
theorem dL_fits_9 : decode cL_fits 9 = .ok (.lastore, 1) := td tL_fits_0_ok 7 (q := (9, .lastore, 1)) rfl
theorem dL_fits_10 : decode cL_fits 10 = .ok (.goto 7, 3) := td tL_fits_0_ok 8 (q := (10, .goto 7, 3)) rfl
theorem dL_fits_13 : decode cL_fits 13 = .ok (.astore 4, 2) := td tL_fits_0_ok 9 (q := (13, .astore 4, 2)) rfl
theorem dL_fits_15 : decode cL_fits 15 = .ok (.iconst 1, 1) := td tL_fits_0_ok 10 (q := (15, .iconst 1, 1)) rfl
theorem dL_fits_16 : decode cL_fits 16 = .ok (.ireturn, 1) := td tL_fits_0_ok 11 (q := (16, .ireturn, 1)) rfl
theorem dL_fits_17 : decode cL_fits 17 = .ok (.iconst 0, 1) := td tL_fits_0_ok 12 (q := (17, .iconst 0, 1)) rfl
theorem dL_fits_18 : decode cL_fits 18 = .ok (.ireturn, 1) := td tL_fits_0_ok 13 (q := (18, .ireturn, 1)) rfl
set_option maxHeartbeats 4000000 in
set_option maxRecDepth 100000 in
theorem hL_fits {l : Launch} {D : va_G} {cI cJ : ClassId} {od b : Nat} {g : Nat → Int64} {W0 W1 : va_W} {fs : List Value} {x1 x2 : Int32} {r : Int32} (hC : nd_C l yX8_fits cX8_fits 3 (some .int) 3 67 D [(cI, .int)] [.ref b, .int x1, .int x2] W0 W1 (some (.int r))) (hq : W0[0]? = some (b, .inr (5, fs))) (hsame : W1.map (·.1) = W0.map (·.1)) : nd_H l yL_fits cL_fits 5 [(0, 10, 13, 21)] D cI cJ od g [.ref b, .int x1, .int x2, .ref od] W0 (fun W g1 => W = W1 ∧ g1 0 = r.toInt64) 0 := by
  refine nd_ofH (by decide) (Nat.le_of_ble_eq_true rfl) (fun p e s m args below meth c_ ls A Q hx hb hml hown hts hl hP hK hD hS hA hN hX hY hxt hret => ?_)
  have hown : s.vm.findClass RL = some m.cls := hown
  have hl : lv_has ls 5 [(0, .ref b), (1, .int x1), (2, .int x2), (3, .ref od)] := hl
  have hK1 : va_K D vwCl [(cI, .int)] s := hK.sub [0] rfl
  refine lv_aload_n hx hb dL_fits_0 rfl (lv_at hl 3 rfl) ?_
  refine lv_iconst (v := (0 : Int32)) hx hb dL_fits_1 (by decide) ?_
  refine lv_aload_n hx hb dL_fits_2 rfl (lv_at hl 0 rfl) ?_
  refine lv_iload_n hx hb dL_fits_3 rfl (lv_at hl 1 rfl) ?_
  refine lv_iload_n hx hb dL_fits_4 rfl (lv_at hl 2 rfl) ?_
  refine nd_callVW (As := [.int x1, .int x2]) (rest := [.int 0, .ref od]) (st1 := [.int r, .int 0, .ref od]) hx hb hml hown hts hl [(od, OU cJ g)] W0 W1 [] (wl_in hP) hK1 (wl_inD hD) hS hA hN hC iv_X8_fits wd_794 0 hq rfl hsame rfl ⟨Nat.le_of_ble_eq_true rfl, Nat.le_of_ble_eq_true rfl⟩ (Nat.le_of_ble_eq_true rfl) ⟨Nat.zero_le _, Nat.zero_le _⟩ dL_fits_5 rfl rfl (fun H locs hP hD hS => ?_)
  have hP := wl_out hP
  have hD := wl_outD hD
  refine lv_i2l hx hb dL_fits_8 rfl ?_
  refine va_last hx hb hK hP hD hS 0 1 rfl rfl in_01 dL_fits_9 (fun H locs hP hD hS => ?_)
  refine lv_goto (tgt := 17) hx hb dL_fits_10 (by decide) ?_
  refine lv_iconst (v := (0 : Int32)) hx hb dL_fits_17 (by decide) ?_
  refine W.widen (k := 1) (n := 6) (by decide) (by decide) ?_
  exact hret (W1 := W1) ⟨rfl, rfl⟩ hsame hP hS dL_fits_18
set_option maxHeartbeats 4000000 in
set_option maxRecDepth 100000 in
theorem tL_fits_3 {l : Launch} {D : va_G} {cI cJ : ClassId} {od b : Nat} {g : Nat → Int64} {W0 W1 : va_W} {fs : List Value} {x1 x2 : Int32} {PW : va_W → Prop} (hC : nd_CX l yX8_fits cX8_fits 3 (some .int) 7 103 D [(cI, .int)] [.ref b, .int x1, .int x2] W0 PW 3) (hq : W0[0]? = some (b, .inr (5, fs))) (hsame : ∀ W1, PW W1 → W1.map (·.1) = W0.map (·.1)) : nd_H l yL_fits cL_fits 5 [(0, 10, 13, 21)] D cI cJ od g [.ref b, .int x1, .int x2, .ref od] W0 (fun W _ => PW W) 1 := by
  refine nd_ofH (by decide) (Nat.le_of_ble_eq_true rfl) (fun p e s m args below meth c_ ls A Q hx hb hml hown hts hl hP hK hD hS hA hN hX hY hxt hret => ?_)
  have hown : s.vm.findClass RL = some m.cls := hown
  have hl : lv_has ls 5 [(0, .ref b), (1, .int x1), (2, .int x2), (3, .ref od)] := hl
  have hK1 : va_K D vwCl [(cI, .int)] s := hK.sub [0] rfl
  refine lv_aload_n hx hb dL_fits_0 rfl (lv_at hl 3 rfl) ?_
  refine lv_iconst (v := (0 : Int32)) hx hb dL_fits_1 (by decide) ?_
  refine lv_aload_n hx hb dL_fits_2 rfl (lv_at hl 0 rfl) ?_
  refine lv_iload_n hx hb dL_fits_3 rfl (lv_at hl 1 rfl) ?_
  refine lv_iload_n hx hb dL_fits_4 rfl (lv_at hl 2 rfl) ?_
  refine nd_callXW (As := [.int x1, .int x2]) (rest := [.int 0, .ref od]) hx hb hml hown hts hl [(od, OU cJ g)] W0 [] (wl_in hP) hK1 (wl_inD hD) hS hA hN hX hC iv_X8_fits wd_794 0 hq rfl rfl ⟨Nat.le_of_ble_eq_true rfl, Nat.le_of_ble_eq_true rfl⟩ (Nat.le_of_ble_eq_true rfl) ⟨Nat.le_of_ble_eq_true rfl, Nat.le_of_ble_eq_true rfl⟩ dL_fits_5 rfl [] ⟨0, 10, 13, 21⟩ [] (hxt.trans rfl) (fun z hz => absurd hz List.not_mem_nil) (by decide) (by decide) (hts _ wd_150) (j_cast hX (by decide)) (fun q W9 H locs hw hP hS => ?_)
  refine lv_astore (lv' := [(4, .ref q), (0, .ref b), (1, .int x1), (2, .int x2), (3, .ref od)]) hx hb dL_fits_13 hl (by decide) rfl (fun ls hl => ?_)
  refine lv_iconst (v := (1 : Int32)) hx hb dL_fits_15 (by decide) ?_
  exact hret (W1 := W9) hw (hsame _ hw) (wl_out hP) hS dL_fits_16
def tL_longest_0 : List (Nat × Instr × Nat) := [(0, .aload_n 2, 1), (1, .iconst 0, 1), (2, .aload_n 0, 1), (3, .iload_n 1, 1), (4, .invokevirtual 64, 3), (7, .i2l, 1), (8, .lastore, 1), (9, .goto 6, 3), (12, .astore_n 3, 1), (13, .iconst 1, 1), (14, .ireturn, 1), (15, .iconst 0, 1), (16, .ireturn, 1)]
theorem tL_longest_0_ok : tL_longest_0.all (fun q => decide (decode cL_longest q.1 = .ok q.2)) = true := by decide +kernel
theorem dL_longest_0 : decode cL_longest 0 = .ok (.aload_n 2, 1) := td tL_longest_0_ok 0 (q := (0, .aload_n 2, 1)) rfl
theorem dL_longest_1 : decode cL_longest 1 = .ok (.iconst 0, 1) := td tL_longest_0_ok 1 (q := (1, .iconst 0, 1)) rfl
theorem dL_longest_2 : decode cL_longest 2 = .ok (.aload_n 0, 1) := td tL_longest_0_ok 2 (q := (2, .aload_n 0, 1)) rfl
theorem dL_longest_3 : decode cL_longest 3 = .ok (.iload_n 1, 1) := td tL_longest_0_ok 3 (q := (3, .iload_n 1, 1)) rfl
theorem dL_longest_4 : decode cL_longest 4 = .ok (.invokevirtual 64, 3) := td tL_longest_0_ok 4 (q := (4, .invokevirtual 64, 3)) rfl
theorem dL_longest_7 : decode cL_longest 7 = .ok (.i2l, 1) := td tL_longest_0_ok 5 (q := (7, .i2l, 1)) rfl
theorem dL_longest_8 : decode cL_longest 8 = .ok (.lastore, 1) := td tL_longest_0_ok 6 (q := (8, .lastore, 1)) rfl
theorem dL_longest_9 : decode cL_longest 9 = .ok (.goto 6, 3) := td tL_longest_0_ok 7 (q := (9, .goto 6, 3)) rfl
theorem dL_longest_12 : decode cL_longest 12 = .ok (.astore_n 3, 1) := td tL_longest_0_ok 8 (q := (12, .astore_n 3, 1)) rfl
theorem dL_longest_13 : decode cL_longest 13 = .ok (.iconst 1, 1) := td tL_longest_0_ok 9 (q := (13, .iconst 1, 1)) rfl
theorem dL_longest_14 : decode cL_longest 14 = .ok (.ireturn, 1) := td tL_longest_0_ok 10 (q := (14, .ireturn, 1)) rfl
theorem dL_longest_15 : decode cL_longest 15 = .ok (.iconst 0, 1) := td tL_longest_0_ok 11 (q := (15, .iconst 0, 1)) rfl
theorem dL_longest_16 : decode cL_longest 16 = .ok (.ireturn, 1) := td tL_longest_0_ok 12 (q := (16, .ireturn, 1)) rfl
set_option maxHeartbeats 4000000 in
set_option maxRecDepth 100000 in
theorem hL_longest {l : Launch} {D : va_G} {cI cJ : ClassId} {od b : Nat} {g : Nat → Int64} {W0 W1 : va_W} {fs : List Value} {x1 : Int32} {r : Int32} (hC : nd_C l yX8_longest cX8_longest 2 (some .int) 5 109 D [(cI, .int)] [.ref b, .int x1] W0 W1 (some (.int r))) (hq : W0[0]? = some (b, .inr (5, fs))) (hsame : W1.map (·.1) = W0.map (·.1)) : nd_H l yL_longest cL_longest 4 [(0, 9, 12, 13)] D cI cJ od g [.ref b, .int x1, .ref od] W0 (fun W g1 => W = W1 ∧ g1 0 = r.toInt64) 0 := by
  refine nd_ofH (by decide) (Nat.le_of_ble_eq_true rfl) (fun p e s m args below meth c_ ls A Q hx hb hml hown hts hl hP hK hD hS hA hN hX hY hxt hret => ?_)
  have hown : s.vm.findClass RL = some m.cls := hown
  have hl : lv_has ls 4 [(0, .ref b), (1, .int x1), (2, .ref od)] := hl
  have hK1 : va_K D vwCl [(cI, .int)] s := hK.sub [0] rfl
  refine lv_aload_n hx hb dL_longest_0 rfl (lv_at hl 2 rfl) ?_
  refine lv_iconst (v := (0 : Int32)) hx hb dL_longest_1 (by decide) ?_
  refine lv_aload_n hx hb dL_longest_2 rfl (lv_at hl 0 rfl) ?_
  refine lv_iload_n hx hb dL_longest_3 rfl (lv_at hl 1 rfl) ?_
  refine nd_callVW (As := [.int x1]) (rest := [.int 0, .ref od]) (st1 := [.int r, .int 0, .ref od]) hx hb hml hown hts hl [(od, OU cJ g)] W0 W1 [] (wl_in hP) hK1 (wl_inD hD) hS hA hN hC iv_X8_longest wd_805 0 hq rfl hsame rfl ⟨Nat.le_of_ble_eq_true rfl, Nat.le_of_ble_eq_true rfl⟩ (Nat.le_of_ble_eq_true rfl) ⟨Nat.zero_le _, Nat.zero_le _⟩ dL_longest_4 rfl rfl (fun H locs hP hD hS => ?_)
  have hP := wl_out hP
  have hD := wl_outD hD
  refine lv_i2l hx hb dL_longest_7 rfl ?_
  refine va_last hx hb hK hP hD hS 0 1 rfl rfl in_01 dL_longest_8 (fun H locs hP hD hS => ?_)
  refine lv_goto (tgt := 15) hx hb dL_longest_9 (by decide) ?_
  refine lv_iconst (v := (0 : Int32)) hx hb dL_longest_15 (by decide) ?_
  refine W.widen (k := 1) (n := 6) (by decide) (by decide) ?_
  exact hret (W1 := W1) ⟨rfl, rfl⟩ hsame hP hS dL_longest_16
set_option maxHeartbeats 4000000 in
set_option maxRecDepth 100000 in
theorem tL_longest_1 {l : Launch} {D : va_G} {cI cJ : ClassId} {od b : Nat} {g : Nat → Int64} {W0 W1 : va_W} {fs : List Value} {x1 : Int32} {PW : va_W → Prop} (hC : nd_CX l yX8_longest cX8_longest 2 (some .int) 7 109 D [(cI, .int)] [.ref b, .int x1] W0 PW 1) (hq : W0[0]? = some (b, .inr (5, fs))) (hsame : ∀ W1, PW W1 → W1.map (·.1) = W0.map (·.1)) : nd_H l yL_longest cL_longest 4 [(0, 9, 12, 13)] D cI cJ od g [.ref b, .int x1, .ref od] W0 (fun W _ => PW W) 1 := by
  refine nd_ofH (by decide) (Nat.le_of_ble_eq_true rfl) (fun p e s m args below meth c_ ls A Q hx hb hml hown hts hl hP hK hD hS hA hN hX hY hxt hret => ?_)
  have hown : s.vm.findClass RL = some m.cls := hown
  have hl : lv_has ls 4 [(0, .ref b), (1, .int x1), (2, .ref od)] := hl
  have hK1 : va_K D vwCl [(cI, .int)] s := hK.sub [0] rfl
  refine lv_aload_n hx hb dL_longest_0 rfl (lv_at hl 2 rfl) ?_
  refine lv_iconst (v := (0 : Int32)) hx hb dL_longest_1 (by decide) ?_
  refine lv_aload_n hx hb dL_longest_2 rfl (lv_at hl 0 rfl) ?_
  refine lv_iload_n hx hb dL_longest_3 rfl (lv_at hl 1 rfl) ?_
  refine nd_callXW (As := [.int x1]) (rest := [.int 0, .ref od]) hx hb hml hown hts hl [(od, OU cJ g)] W0 [] (wl_in hP) hK1 (wl_inD hD) hS hA hN hX hC iv_X8_longest wd_805 0 hq rfl rfl ⟨Nat.le_of_ble_eq_true rfl, Nat.le_of_ble_eq_true rfl⟩ (Nat.le_of_ble_eq_true rfl) ⟨Nat.le_of_ble_eq_true rfl, Nat.le_of_ble_eq_true rfl⟩ dL_longest_4 rfl [] ⟨0, 9, 12, 13⟩ [] (hxt.trans rfl) (fun z hz => absurd hz List.not_mem_nil) (by decide) (by decide) (hts _ wd_85) (j_cast hX (by decide)) (fun q W9 H locs hw hP hS => ?_)
  refine lv_astore_n (lv' := [(3, .ref q), (0, .ref b), (1, .int x1), (2, .ref od)]) hx hb dL_longest_12 rfl hl (by decide) rfl (fun ls hl => ?_)
  refine lv_iconst (v := (1 : Int32)) hx hb dL_longest_13 (by decide) ?_
  exact hret (W1 := W9) hw (hsame _ hw) (wl_out hP) hS dL_longest_14
