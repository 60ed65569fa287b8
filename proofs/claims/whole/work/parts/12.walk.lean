def tX5_search_0 : List (Nat × Instr × Nat) := [(0, .aload_n 0, 1), (1, .aload_n 1, 1), (2, .invokevirtual 37, 3), (5, .bipush 10, 2), (7, .invokestatic 42, 3), (10, .putfield 24, 3), (13, .aload_n 0, 1), (14, .iconst 0, 1), (15, .putfield 28, 3), (18, .aload_n 0, 1), (19, .iconst (-1), 1), (20, .putfield 31, 3), (23, .aload_n 0, 1), (24, .iconst (-1), 1), (25, .putfield 34, 3), (28, .aload_n 0, 1), (29, .getfield 15, 3), (32, .iconst 0, 1), (33, .iconst (-1), 1), (34, .iastore, 1), (35, .iconst 0, 1), (36, .istore_n 2, 1), (37, .iload_n 2, 1), (38, .aload_n 0, 1), (39, .getfield 24, 3), (42, .if_icmp .ge 15, 3), (45, .aload_n 0, 1), (46, .aload_n 1, 1), (47, .iload_n 2, 1), (48, .invokevirtual 48, 3), (51, .iinc 2 1, 3), (54, .goto (-17), 3), (57, .iconst 0, 1), (58, .istore_n 2, 1), (59, .iload_n 2, 1), (60, .aload_n 0, 1), (61, .getfield 24, 3), (64, .if_icmp .ge 25, 3), (67, .aload_n 0, 1), (68, .getfield 28, 3), (71, .aload_n 0, 1), (72, .getfield 24, 3), (75, .if_icmp .ge 14, 3), (78, .aload_n 0, 1), (79, .iload_n 2, 1), (80, .invokevirtual 52, 3), (83, .iinc 2 1, 3), (86, .goto (-27), 3), (89, .return_, 1)]
theorem tX5_search_0_ok : tX5_search_0.all (fun q => decide (decode cX5_search q.1 = .ok q.2)) = true := by decide +kernel
theorem dX5_search_0 : decode cX5_search 0 = .ok (.aload_n 0, 1) := td tX5_search_0_ok 0 (q := (0, .aload_n 0, 1)) rfl
theorem dX5_search_1 : decode cX5_search 1 = .ok (.aload_n 1, 1) := td tX5_search_0_ok 1 (q := (1, .aload_n 1, 1)) rfl
theorem dX5_search_2 : decode cX5_search 2 = .ok (.invokevirtual 37, 3) := td tX5_search_0_ok 2 (q := (2, .invokevirtual 37, 3)) rfl
theorem dX5_search_5 : decode cX5_search 5 = .ok (.bipush 10, 2) := td tX5_search_0_ok 3 (q := (5, .bipush 10, 2)) rfl
theorem dX5_search_7 : decode cX5_search 7 = .ok (.invokestatic 42, 3) := td tX5_search_0_ok 4 (q := (7, .invokestatic 42, 3)) rfl
theorem dX5_search_10 : decode cX5_search 10 = .ok (.putfield 24, 3) := td tX5_search_0_ok 5 (q := (10, .putfield 24, 3)) rfl
theorem dX5_search_13 : decode cX5_search 13 = .ok (.aload_n 0, 1) := td tX5_search_0_ok 6 (q := (13, .aload_n 0, 1)) rfl
theorem dX5_search_14 : decode cX5_search 14 = .ok (.iconst 0, 1) := td tX5_search_0_ok 7 (q := (14, .iconst 0, 1)) rfl
theorem dX5_search_15 : decode cX5_search 15 = .ok (.putfield 28, 3) := td tX5_search_0_ok 8 (q := (15, .putfield 28, 3)) rfl
theorem dX5_search_18 : decode cX5_search 18 = .ok (.aload_n 0, 1) := td tX5_search_0_ok 9 (q := (18, .aload_n 0, 1)) rfl
theorem dX5_search_19 : decode cX5_search 19 = .ok (.iconst (-1), 1) := td tX5_search_0_ok 10 (q := (19, .iconst (-1), 1)) rfl
theorem dX5_search_20 : decode cX5_search 20 = .ok (.putfield 31, 3) := td tX5_search_0_ok 11 (q := (20, .putfield 31, 3)) rfl
theorem dX5_search_23 : decode cX5_search 23 = .ok (.aload_n 0, 1) := td tX5_search_0_ok 12 (q := (23, .aload_n 0, 1)) rfl
theorem dX5_search_24 : decode cX5_search 24 = .ok (.iconst (-1), 1) := td tX5_search_0_ok 13 (q := (24, .iconst (-1), 1)) rfl
theorem dX5_search_25 : decode cX5_search 25 = .ok (.putfield 34, 3) := td tX5_search_0_ok 14 (q := (25, .putfield 34, 3)) rfl
theorem dX5_search_28 : decode cX5_search 28 = .ok (.aload_n 0, 1) := td tX5_search_0_ok 15 (q := (28, .aload_n 0, 1)) rfl
theorem dX5_search_29 : decode cX5_search 29 = .ok (.getfield 15, 3) := td tX5_search_0_ok 16 (q := (29, .getfield 15, 3)) rfl
theorem dX5_search_32 : decode cX5_search 32 = .ok (.iconst 0, 1) := td tX5_search_0_ok 17 (q := (32, .iconst 0, 1)) rfl
theorem dX5_search_33 : decode cX5_search 33 = .ok (.iconst (-1), 1) := td tX5_search_0_ok 18 (q := (33, .iconst (-1), 1)) rfl
theorem dX5_search_34 : decode cX5_search 34 = .ok (.iastore, 1) := td tX5_search_0_ok 19 (q := (34, .iastore, 1)) rfl
theorem dX5_search_35 : decode cX5_search 35 = .ok (.iconst 0, 1) := td tX5_search_0_ok 20 (q := (35, .iconst 0, 1)) rfl
theorem dX5_search_36 : decode cX5_search 36 = .ok (.istore_n 2, 1) := td tX5_search_0_ok 21 (q := (36, .istore_n 2, 1)) rfl
theorem dX5_search_37 : decode cX5_search 37 = .ok (.iload_n 2, 1) := td tX5_search_0_ok 22 (q := (37, .iload_n 2, 1)) rfl
theorem dX5_search_38 : decode cX5_search 38 = .ok (.aload_n 0, 1) := td tX5_search_0_ok 23 (q := (38, .aload_n 0, 1)) rfl
theorem dX5_search_39 : decode cX5_search 39 = .ok (.getfield 24, 3) := td tX5_search_0_ok 24 (q := (39, .getfield 24, 3)) rfl
theorem dX5_search_42 : decode cX5_search 42 = .ok (.if_icmp .ge 15, 3) := td tX5_search_0_ok 25 (q := (42, .if_icmp .ge 15, 3)) rfl
theorem dX5_search_45 : decode cX5_search 45 = .ok (.aload_n 0, 1) := td tX5_search_0_ok 26 (q := (45, .aload_n 0, 1)) rfl
theorem dX5_search_46 : decode cX5_search 46 = .ok (.aload_n 1, 1) := td tX5_search_0_ok 27 (q := (46, .aload_n 1, 1)) rfl
theorem dX5_search_47 : decode cX5_search 47 = .ok (.iload_n 2, 1) := td tX5_search_0_ok 28 (q := (47, .iload_n 2, 1)) rfl
theorem dX5_search_48 : decode cX5_search 48 = .ok (.invokevirtual 48, 3) := td tX5_search_0_ok 29 (q := (48, .invokevirtual 48, 3)) rfl
theorem dX5_search_51 : decode cX5_search 51 = .ok (.iinc 2 1, 3) := td tX5_search_0_ok 30 (q := (51, .iinc 2 1, 3)) rfl
theorem dX5_search_54 : decode cX5_search 54 = .ok (.goto (-17), 3) := td tX5_search_0_ok 31 (q := (54, .goto (-17), 3)) rfl
theorem dX5_search_57 : decode cX5_search 57 = .ok (.iconst 0, 1) := td tX5_search_0_ok 32 (q := (57, .iconst 0, 1)) rfl
theorem dX5_search_58 : decode cX5_search 58 = .ok (.istore_n 2, 1) := td tX5_search_0_ok 33 (q := (58, .istore_n 2, 1)) rfl
theorem dX5_search_59 : decode cX5_search 59 = .ok (.iload_n 2, 1) := td tX5_search_0_ok 34 (q := (59, .iload_n 2, 1)) rfl
theorem dX5_search_60 : decode cX5_search 60 = .ok (.aload_n 0, 1) := td tX5_search_0_ok 35 (q := (60, .aload_n 0, 1)) rfl
theorem dX5_search_61 : decode cX5_search 61 = .ok (.getfield 24, 3) := td tX5_search_0_ok 36 (q := (61, .getfield 24, 3)) rfl
theorem dX5_search_64 : decode cX5_search 64 = .ok (.if_icmp .ge 25, 3) := td tX5_search_0_ok 37 (q := (64, .if_icmp .ge 25, 3)) rfl
theorem dX5_search_67 : decode cX5_search 67 = .ok (.aload_n 0, 1) := td tX5_search_0_ok 38 (q := (67, .aload_n 0, 1)) rfl
theorem dX5_search_68 : decode cX5_search 68 = .ok (.getfield 28, 3) := td tX5_search_0_ok 39 (q := (68, .getfield 28, 3)) rfl
theorem dX5_search_71 : decode cX5_search 71 = .ok (.aload_n 0, 1) := td tX5_search_0_ok 40 (q := (71, .aload_n 0, 1)) rfl
theorem dX5_search_72 : decode cX5_search 72 = .ok (.getfield 24, 3) := td tX5_search_0_ok 41 (q := (72, .getfield 24, 3)) rfl
theorem dX5_search_75 : decode cX5_search 75 = .ok (.if_icmp .ge 14, 3) := td tX5_search_0_ok 42 (q := (75, .if_icmp .ge 14, 3)) rfl
theorem dX5_search_78 : decode cX5_search 78 = .ok (.aload_n 0, 1) := td tX5_search_0_ok 43 (q := (78, .aload_n 0, 1)) rfl
theorem dX5_search_79 : decode cX5_search 79 = .ok (.iload_n 2, 1) := td tX5_search_0_ok 44 (q := (79, .iload_n 2, 1)) rfl
theorem dX5_search_80 : decode cX5_search 80 = .ok (.invokevirtual 52, 3) := td tX5_search_0_ok 45 (q := (80, .invokevirtual 52, 3)) rfl
theorem dX5_search_83 : decode cX5_search 83 = .ok (.iinc 2 1, 3) := td tX5_search_0_ok 46 (q := (83, .iinc 2 1, 3)) rfl
theorem dX5_search_86 : decode cX5_search 86 = .ok (.goto (-27), 3) := td tX5_search_0_ok 47 (q := (86, .goto (-27), 3)) rfl
theorem dX5_search_89 : decode cX5_search 89 = .ok (.return_, 1) := td tX5_search_0_ok 48 (q := (89, .return_, 1)) rfl
def fX5_search_37 (k37 : (Nat → Int32) → (Nat → Int32) → (Nat → Int32) → Option ((Nat → Int32) × (Nat → Int32) × (Nat → Int32) × (Nat → Int32) × Int32 × Int32 × Int32 × Int32)) (kc : (Nat → Int32)) (kp0 : Int32) : Nat → Int32 → (Nat → Int32) → (Nat → Int32) → (Nat → Int32) → Option ((Nat → Int32) × (Nat → Int32) × (Nat → Int32) × (Nat → Int32) × Int32 × Int32 × Int32 × Int32)
  | 0, _, _, _, _ => none
  | n37 + 1, x2, kla, kfi, kea => (if kp0 ≤ x2 then (k37 kla kfi kea) else (Option.bind (fX5_lookAt kc kla kfi kea kp0 x2) (fun q4 => (fX5_search_37 k37 kc kp0 n37 (x2 + (1 : Int32)) q4.1 q4.2.1 q4.2.2))))
def fX5_search_59 (k59 : (Nat → Int32) → Int32 → Int32 → Int32 → Option ((Nat → Int32) × (Nat → Int32) × (Nat → Int32) × (Nat → Int32) × Int32 × Int32 × Int32 × Int32)) (kla : (Nat → Int32)) (kfi : (Nat → Int32)) (kea : (Nat → Int32)) (kp0 : Int32) : Nat → Int32 → (Nat → Int32) → Int32 → Int32 → Int32 → Option ((Nat → Int32) × (Nat → Int32) × (Nat → Int32) × (Nat → Int32) × Int32 × Int32 × Int32 × Int32)
  | 0, _, _, _, _, _ => none
  | n59 + 1, x2, ken, kp1, kp2, kp3 => (if kp0 ≤ x2 then (k59 ken kp1 kp2 kp3) else (if kp0 ≤ kp1 then (k59 ken kp1 kp2 kp3) else (Option.bind (fX5_searchFrom ken kla kfi kea kp0 kp1 kp2 kp3 x2) (fun q10 => (fX5_search_59 k59 kla kfi kea kp0 n59 (x2 + (1 : Int32)) q10.1 q10.2.1 q10.2.2.1 q10.2.2.2)))))
def fX5_search (kc : (Nat → Int32)) (ken : (Nat → Int32)) (kla : (Nat → Int32)) (kfi : (Nat → Int32)) (kea : (Nat → Int32)) (kp0 : Int32) (kp1 : Int32) (kp2 : Int32) (kp3 : Int32) : Option ((Nat → Int32) × (Nat → Int32) × (Nat → Int32) × (Nat → Int32) × Int32 × Int32 × Int32 × Int32) :=
  (Option.bind (fX0_pieces kc) (fun q1 => (Option.bind (aput kla 1024 (0 : Int32) (-1 : Int32)) (fun c2 => (fX5_search_37 (fun (kla_u5 : (Nat → Int32)) (kfi_u5 : (Nat → Int32)) (kea_u5 : (Nat → Int32)) => (fX5_search_59 (fun (ken_u11 : (Nat → Int32)) (kp1_u11 : Int32) (kp2_u11 : Int32) (kp3_u11 : Int32) => (some (ken_u11, kla_u5, kfi_u5, kea_u5, (if (10 : Int32) < q1 then (10 : Int32) else q1), kp1_u11, kp2_u11, kp3_u11))) kla_u5 kfi_u5 kea_u5 (if (10 : Int32) < q1 then (10 : Int32) else q1) LF (0 : Int32) ken (0 : Int32) (-1 : Int32) (-1 : Int32))) kc (if (10 : Int32) < q1 then (10 : Int32) else q1) LF (0 : Int32) c2 kfi kea)))))
set_option maxHeartbeats 4000000 in
set_option maxRecDepth 100000 in
theorem mX5_search {l : Launch} {D : va_G} {ad : Nat → Nat} {cI : ClassId} {kc : (Nat → Int32)} {ksv : (Nat → Int32)} {kbc : (Nat → Int32)} {kit : (Nat → Int32)} {kln : (Nat → Int32)} {ken : (Nat → Int32)} {kla : (Nat → Int32)} {kfi : (Nat → Int32)} {kea : (Nat → Int32)} {kns : Int32} {kbl : Int32} {kr0 : Int32} {kr1 : Int32} {kr2 : Int32} {kr3 : Int32} {kr4 : Int32} {kr5 : Int32} {klr : Int32} {kp0 : Int32} {kp1 : Int32} {kp2 : Int32} {kp3 : Int32} {ken' : (Nat → Int32)} {kla' : (Nat → Int32)} {kfi' : (Nat → Int32)} {kea' : (Nat → Int32)} {kp0' : Int32} {kp1' : Int32} {kp2' : Int32} {kp3' : Int32} (hs : fX5_search kc ken kla kfi kea kp0 kp1 kp2 kp3 = some (ken', kla', kfi', kea', kp0', kp1', kp2', kp3')) : nd_C l yX5_search cX5_search 3 none 4 87 D [(cI, .int)] [.ref (ad 5), .ref (ad 1)] (CW ad cI kc ksv kbc kit kln ken kla kfi kea kns kbl kr0 kr1 kr2 kr3 kr4 kr5 klr kp0 kp1 kp2 kp3) (CW ad cI kc ksv kbc kit kln ken' kla' kfi' kea' kns kbl kr0 kr1 kr2 kr3 kr4 kr5 klr kp0' kp1' kp2' kp3') none := by
  refine nd_ofCv (by decide) (Nat.le_of_ble_eq_true rfl) (fun p e s m args below meth c_ ls A Q hx hb hml hown hts hl hP hK hD hS hA hN hret => ?_)
  have hown : s.vm.findClass RX5 = some m.cls := hown
  have hl : lv_has ls 3 [(0, .ref (ad 5)), (1, .ref (ad 1))] := hl
  have hret : ∀ (z0 : (Nat → Int32)) (z1 : (Nat → Int32)) (z2 : (Nat → Int32)) (z3 : (Nat → Int32)) (z4 : Int32) (z5 : Int32) (z6 : Int32) (z7 : Int32) {H : Heap} {locs : List Loc} {pc : Nat} {ls : Array Slot}, some (z0, z1, z2, z3, z4, z5, z6, z7) = some (ken', kla', kfi', kea', kp0', kp1', kp2', kp3') → va_P D vwCl (CW ad cI kc ksv kbc kit kln z0 z1 z2 z3 kns kbl kr0 kr1 kr2 kr3 kr4 kr5 klr z4 z5 z6 z7) H → va_S A s.heap H locs → decode cX5_search pc = .ok (.return_, 1) → W p l e ⟨4, 0, 0, 87⟩ s m args below meth c_ H locs 0 0 Q (F0 m pc ls []) := by
    intro z0 z1 z2 z3 z4 z5 z6 z7 H locs pc ls h hP hS hd
    cases h
    exact hret hP hS hd
  rw [fX5_search] at hs
  refine lv_aload_n hx hb dX5_search_0 rfl (lv_at hl 0 rfl) ?_
  refine lv_aload_n hx hb dX5_search_1 rfl (lv_at hl 1 rfl) ?_
  obtain ⟨q1, eq1, hs⟩ := ob hs
  refine nd_callV (As := []) (rest := [.ref (ad 5)]) (st1 := [.int q1, .ref (ad 5)]) hx hb hml hown hts hl hP hK hD hS hA hN (mX0_pieces eq1) iv_X0_pieces wd_816 1 rfl rfl rfl rfl ⟨Nat.le_of_ble_eq_true rfl, Nat.le_of_ble_eq_true rfl⟩ (Nat.le_of_ble_eq_true rfl) ⟨Nat.zero_le _, Nat.zero_le _⟩ dX5_search_2 rfl rfl (fun H locs hP hD hS => ?_)
  refine lv_bipush (v := (10 : Int32)) hx hb dX5_search_5 (by decide) ?_
  refine va_mmin hx hb (hml.trans hl.1.symm) hown (hts _ wd_813) (hts _ wd_814) (hts _ wd_665) (hts _ wd_815) (Nat.le_of_ble_eq_true rfl) (Nat.le_of_ble_eq_true rfl) (Nat.zero_le _) (Nat.zero_le _) dX5_search_7 ?_
  refine pf_X5_24 hx hb hts hown hK hP hD hS 5 rfl rfl dX5_search_10 (fun H locs hP hD hS => ?_)
  have hP : va_P D vwCl (CW ad cI kc ksv kbc kit kln ken kla kfi kea kns kbl kr0 kr1 kr2 kr3 kr4 kr5 klr (if (10 : Int32) < q1 then (10 : Int32) else q1) kp1 kp2 kp3) H := hP
  have hD : va_D A (CW ad cI kc ksv kbc kit kln ken kla kfi kea kns kbl kr0 kr1 kr2 kr3 kr4 kr5 klr (if (10 : Int32) < q1 then (10 : Int32) else q1) kp1 kp2 kp3) := hD
  refine lv_aload_n hx hb dX5_search_13 rfl (lv_at hl 0 rfl) ?_
  refine lv_iconst (v := (0 : Int32)) hx hb dX5_search_14 (by decide) ?_
  refine pf_X5_28 hx hb hts hown hK hP hD hS 5 rfl rfl dX5_search_15 (fun H locs hP hD hS => ?_)
  have hP : va_P D vwCl (CW ad cI kc ksv kbc kit kln ken kla kfi kea kns kbl kr0 kr1 kr2 kr3 kr4 kr5 klr (if (10 : Int32) < q1 then (10 : Int32) else q1) (0 : Int32) kp2 kp3) H := hP
  have hD : va_D A (CW ad cI kc ksv kbc kit kln ken kla kfi kea kns kbl kr0 kr1 kr2 kr3 kr4 kr5 klr (if (10 : Int32) < q1 then (10 : Int32) else q1) (0 : Int32) kp2 kp3) := hD
  refine lv_aload_n hx hb dX5_search_18 rfl (lv_at hl 0 rfl) ?_
  refine lv_iconst (v := (-1 : Int32)) hx hb dX5_search_19 (by decide) ?_
  refine pf_X5_31 hx hb hts hown hK hP hD hS 5 rfl rfl dX5_search_20 (fun H locs hP hD hS => ?_)
  have hP : va_P D vwCl (CW ad cI kc ksv kbc kit kln ken kla kfi kea kns kbl kr0 kr1 kr2 kr3 kr4 kr5 klr (if (10 : Int32) < q1 then (10 : Int32) else q1) (0 : Int32) (-1 : Int32) kp3) H := hP
  have hD : va_D A (CW ad cI kc ksv kbc kit kln ken kla kfi kea kns kbl kr0 kr1 kr2 kr3 kr4 kr5 klr (if (10 : Int32) < q1 then (10 : Int32) else q1) (0 : Int32) (-1 : Int32) kp3) := hD
  refine lv_aload_n hx hb dX5_search_23 rfl (lv_at hl 0 rfl) ?_
  refine lv_iconst (v := (-1 : Int32)) hx hb dX5_search_24 (by decide) ?_
  refine pf_X5_34 hx hb hts hown hK hP hD hS 5 rfl rfl dX5_search_25 (fun H locs hP hD hS => ?_)
  have hP : va_P D vwCl (CW ad cI kc ksv kbc kit kln ken kla kfi kea kns kbl kr0 kr1 kr2 kr3 kr4 kr5 klr (if (10 : Int32) < q1 then (10 : Int32) else q1) (0 : Int32) (-1 : Int32) (-1 : Int32)) H := hP
  have hD : va_D A (CW ad cI kc ksv kbc kit kln ken kla kfi kea kns kbl kr0 kr1 kr2 kr3 kr4 kr5 klr (if (10 : Int32) < q1 then (10 : Int32) else q1) (0 : Int32) (-1 : Int32) (-1 : Int32)) := hD
  refine lv_aload_n hx hb dX5_search_28 rfl (lv_at hl 0 rfl) ?_
  refine gf_X5_15 hx hb hts hown hK hP 5 rfl rfl dX5_search_29 ?_
  refine lv_iconst (v := (0 : Int32)) hx hb dX5_search_32 (by decide) ?_
  refine lv_iconst (v := (-1 : Int32)) hx hb dX5_search_33 (by decide) ?_
  obtain ⟨c2, ec2, hs⟩ := ob hs
  refine nd_iast hx hb hK hP hD hS 12 0 rfl rfl ec2 dX5_search_34 (fun H locs hP hD hS => ?_)
  have hP : va_P D vwCl (CW ad cI kc ksv kbc kit kln ken c2 kfi kea kns kbl kr0 kr1 kr2 kr3 kr4 kr5 klr (if (10 : Int32) < q1 then (10 : Int32) else q1) (0 : Int32) (-1 : Int32) (-1 : Int32)) H := hP
  have hD : va_D A (CW ad cI kc ksv kbc kit kln ken c2 kfi kea kns kbl kr0 kr1 kr2 kr3 kr4 kr5 klr (if (10 : Int32) < q1 then (10 : Int32) else q1) (0 : Int32) (-1 : Int32) (-1 : Int32)) := hD
  refine lv_iconst (v := (0 : Int32)) hx hb dX5_search_35 (by decide) ?_
  refine lv_istore_n (lv' := [(2, .int (0 : Int32)), (0, .ref (ad 5)), (1, .ref (ad 1))]) hx hb dX5_search_36 rfl hl (by decide) rfl (fun ls hl => ?_)
  have L37 : ∀ (n37 : Nat) (k37 : (Nat → Int32) → (Nat → Int32) → (Nat → Int32) → Option ((Nat → Int32) × (Nat → Int32) × (Nat → Int32) × (Nat → Int32) × Int32 × Int32 × Int32 × Int32)) (v2_5 : Int32) (kla_5 : (Nat → Int32)) (kfi_5 : (Nat → Int32)) (kea_5 : (Nat → Int32)) (H : Heap) (locs : List Loc) (ls : Array Slot), lv_has ls 3 [(0, .ref (ad 5)), (1, .ref (ad 1)), (2, .int v2_5)] → va_P D vwCl (CW ad cI kc ksv kbc kit kln ken kla_5 kfi_5 kea_5 kns kbl kr0 kr1 kr2 kr3 kr4 kr5 klr (if (10 : Int32) < q1 then (10 : Int32) else q1) (0 : Int32) (-1 : Int32) (-1 : Int32)) H → va_S A s.heap H locs → fX5_search_37 k37 kc (if (10 : Int32) < q1 then (10 : Int32) else q1) n37 v2_5 kla_5 kfi_5 kea_5 = some (ken', kla', kfi', kea', kp0', kp1', kp2', kp3') → (∀ (kla_u5 : (Nat → Int32)) (kfi_u5 : (Nat → Int32)) (kea_u5 : (Nat → Int32)) (H : Heap) (locs : List Loc) (ls : Array Slot), lv_has ls 3 [(0, .ref (ad 5))] → va_P D vwCl (CW ad cI kc ksv kbc kit kln ken kla_u5 kfi_u5 kea_u5 kns kbl kr0 kr1 kr2 kr3 kr4 kr5 klr (if (10 : Int32) < q1 then (10 : Int32) else q1) (0 : Int32) (-1 : Int32) (-1 : Int32)) H → va_S A s.heap H locs → k37 kla_u5 kfi_u5 kea_u5 = some (ken', kla', kfi', kea', kp0', kp1', kp2', kp3') → W p l e ⟨4, 0, 0, 87⟩ s m args below meth c_ H locs 0 0 Q (F0 m 57 ls [])) → W p l e ⟨4, 0, 0, 87⟩ s m args below meth c_ H locs 0 0 Q (F0 m 37 ls []) := by
    intro n37
    induction n37 with
    | zero =>
      intro k37 v2_5 kla_5 kfi_5 kea_5 H locs ls hl hP hS hs hk37
      rw [fX5_search_37] at hs
      cases hs
    | succ n37 ih37 =>
      intro k37 v2_5 kla_5 kfi_5 kea_5 H locs ls hl hP hS hs hk37
      rw [fX5_search_37] at hs
      have hD : va_D A (CW ad cI kc ksv kbc kit kln ken kla_5 kfi_5 kea_5 kns kbl kr0 kr1 kr2 kr3 kr4 kr5 klr (if (10 : Int32) < q1 then (10 : Int32) else q1) (0 : Int32) (-1 : Int32) (-1 : Int32)) := nd_DD hD rfl
      refine lv_iload_n hx hb dX5_search_37 rfl (lv_at hl 2 rfl) ?_
      refine lv_aload_n hx hb dX5_search_38 rfl (lv_at hl 0 rfl) ?_
      refine gf_X5_24 hx hb hts hown hK hP 5 rfl rfl dX5_search_39 ?_
      refine lv_icmp_ge (tgt := 57) hx hb dX5_search_42 (by decide) (fun b6 => ?_) (fun b6 => ?_)
      · have hs := ite_t hs b6
        exact hk37 kla_5 kfi_5 kea_5 _ _ _ (lv_sub hl [0] rfl) hP hS hs
      · have hs := ite_f hs b6
        refine lv_aload_n hx hb dX5_search_45 rfl (lv_at hl 0 rfl) ?_
        refine lv_aload_n hx hb dX5_search_46 rfl (lv_at hl 1 rfl) ?_
        refine lv_iload_n hx hb dX5_search_47 rfl (lv_at hl 2 rfl) ?_
        obtain ⟨q7, eq7, hs⟩ := ob hs
        refine nd_callV (As := [.ref (ad 1), .int v2_5]) (rest := []) (st1 := []) hx hb hml hown hts hl hP hK hD hS hA hN (mX5_lookAt eq7) iv_X5_lookAt wd_817 5 rfl rfl rfl rfl ⟨Nat.le_of_ble_eq_true rfl, Nat.le_of_ble_eq_true rfl⟩ (Nat.le_of_ble_eq_true rfl) ⟨Nat.zero_le _, Nat.zero_le _⟩ dX5_search_48 rfl rfl (fun H locs hP hD hS => ?_)
        refine lv_iinc (v := v2_5 + (1 : Int32)) (lv' := [(2, .int (v2_5 + (1 : Int32))), (0, .ref (ad 5)), (1, .ref (ad 1))]) hx hb dX5_search_51 hl (k := 2) rfl rfl (by decide) rfl (fun ls hl => ?_)
        refine lv_goto (tgt := 37) hx hb dX5_search_54 (by decide) ?_
        exact ih37 k37 (v2_5 + (1 : Int32)) q7.1 q7.2.1 q7.2.2 _ _ _ (lv_sub hl [1, 2, 0] rfl) hP hS hs hk37
  refine L37 LF _ (0 : Int32) c2 kfi kea _ _ _ (lv_sub hl [1, 2, 0] rfl) hP hS hs (fun kla_u5 kfi_u5 kea_u5 H locs ls hl hP hS hs => ?_)
  have hD : va_D A (CW ad cI kc ksv kbc kit kln ken kla_u5 kfi_u5 kea_u5 kns kbl kr0 kr1 kr2 kr3 kr4 kr5 klr (if (10 : Int32) < q1 then (10 : Int32) else q1) (0 : Int32) (-1 : Int32) (-1 : Int32)) := nd_DD hD rfl
  refine lv_iconst (v := (0 : Int32)) hx hb dX5_search_57 (by decide) ?_
  refine lv_istore_n (lv' := [(2, .int (0 : Int32)), (0, .ref (ad 5))]) hx hb dX5_search_58 rfl hl (by decide) rfl (fun ls hl => ?_)
  have L59 : ∀ (n59 : Nat) (k59 : (Nat → Int32) → Int32 → Int32 → Int32 → Option ((Nat → Int32) × (Nat → Int32) × (Nat → Int32) × (Nat → Int32) × Int32 × Int32 × Int32 × Int32)) (v2_11 : Int32) (ken_11 : (Nat → Int32)) (kp1_11 : Int32) (kp2_11 : Int32) (kp3_11 : Int32) (H : Heap) (locs : List Loc) (ls : Array Slot), lv_has ls 3 [(0, .ref (ad 5)), (2, .int v2_11)] → va_P D vwCl (CW ad cI kc ksv kbc kit kln ken_11 kla_u5 kfi_u5 kea_u5 kns kbl kr0 kr1 kr2 kr3 kr4 kr5 klr (if (10 : Int32) < q1 then (10 : Int32) else q1) kp1_11 kp2_11 kp3_11) H → va_S A s.heap H locs → fX5_search_59 k59 kla_u5 kfi_u5 kea_u5 (if (10 : Int32) < q1 then (10 : Int32) else q1) n59 v2_11 ken_11 kp1_11 kp2_11 kp3_11 = some (ken', kla', kfi', kea', kp0', kp1', kp2', kp3') → (∀ (ken_u11 : (Nat → Int32)) (kp1_u11 : Int32) (kp2_u11 : Int32) (kp3_u11 : Int32) (H : Heap) (locs : List Loc) (ls : Array Slot), lv_has ls 3 [] → va_P D vwCl (CW ad cI kc ksv kbc kit kln ken_u11 kla_u5 kfi_u5 kea_u5 kns kbl kr0 kr1 kr2 kr3 kr4 kr5 klr (if (10 : Int32) < q1 then (10 : Int32) else q1) kp1_u11 kp2_u11 kp3_u11) H → va_S A s.heap H locs → k59 ken_u11 kp1_u11 kp2_u11 kp3_u11 = some (ken', kla', kfi', kea', kp0', kp1', kp2', kp3') → W p l e ⟨4, 0, 0, 87⟩ s m args below meth c_ H locs 0 0 Q (F0 m 89 ls [])) → W p l e ⟨4, 0, 0, 87⟩ s m args below meth c_ H locs 0 0 Q (F0 m 59 ls []) := by
    intro n59
    induction n59 with
    | zero =>
      intro k59 v2_11 ken_11 kp1_11 kp2_11 kp3_11 H locs ls hl hP hS hs hk59
      rw [fX5_search_59] at hs
      cases hs
    | succ n59 ih59 =>
      intro k59 v2_11 ken_11 kp1_11 kp2_11 kp3_11 H locs ls hl hP hS hs hk59
      rw [fX5_search_59] at hs
      have hD : va_D A (CW ad cI kc ksv kbc kit kln ken_11 kla_u5 kfi_u5 kea_u5 kns kbl kr0 kr1 kr2 kr3 kr4 kr5 klr (if (10 : Int32) < q1 then (10 : Int32) else q1) kp1_11 kp2_11 kp3_11) := nd_DD hD rfl
      refine lv_iload_n hx hb dX5_search_59 rfl (lv_at hl 1 rfl) ?_
      refine lv_aload_n hx hb dX5_search_60 rfl (lv_at hl 0 rfl) ?_
      refine gf_X5_24 hx hb hts hown hK hP 5 rfl rfl dX5_search_61 ?_
      refine lv_icmp_ge (tgt := 89) hx hb dX5_search_64 (by decide) (fun b12 => ?_) (fun b12 => ?_)
      · have hs := ite_t hs b12
        exact hk59 ken_11 kp1_11 kp2_11 kp3_11 _ _ _ (lv_sub hl [] rfl) hP hS hs
      · have hs := ite_f hs b12
        refine lv_aload_n hx hb dX5_search_67 rfl (lv_at hl 0 rfl) ?_
        refine gf_X5_28 hx hb hts hown hK hP 5 rfl rfl dX5_search_68 ?_
        refine lv_aload_n hx hb dX5_search_71 rfl (lv_at hl 0 rfl) ?_
        refine gf_X5_24 hx hb hts hown hK hP 5 rfl rfl dX5_search_72 ?_
        refine lv_icmp_ge (tgt := 89) hx hb dX5_search_75 (by decide) (fun b13 => ?_) (fun b13 => ?_)
        · have hs := ite_t hs b13
          exact hk59 ken_11 kp1_11 kp2_11 kp3_11 _ _ _ (lv_sub hl [] rfl) hP hS hs
        · have hs := ite_f hs b13
          refine lv_aload_n hx hb dX5_search_78 rfl (lv_at hl 0 rfl) ?_
          refine lv_iload_n hx hb dX5_search_79 rfl (lv_at hl 1 rfl) ?_
          obtain ⟨q14, eq14, hs⟩ := ob hs
          refine nd_callV (As := [.int v2_11]) (rest := []) (st1 := []) hx hb hml hown hts hl hP hK hD hS hA hN (mX5_searchFrom eq14) iv_X5_searchFrom wd_827 5 rfl rfl rfl rfl ⟨Nat.le_of_ble_eq_true rfl, Nat.le_of_ble_eq_true rfl⟩ (Nat.le_of_ble_eq_true rfl) ⟨Nat.zero_le _, Nat.zero_le _⟩ dX5_search_80 rfl rfl (fun H locs hP hD hS => ?_)
          refine lv_iinc (v := v2_11 + (1 : Int32)) (lv' := [(2, .int (v2_11 + (1 : Int32))), (0, .ref (ad 5))]) hx hb dX5_search_83 hl (k := 1) rfl rfl (by decide) rfl (fun ls hl => ?_)
          refine lv_goto (tgt := 59) hx hb dX5_search_86 (by decide) ?_
          exact ih59 k59 (v2_11 + (1 : Int32)) q14.1 q14.2.1 q14.2.2.1 q14.2.2.2 _ _ _ (lv_sub hl [1, 0] rfl) hP hS hs hk59
  refine L59 LF _ (0 : Int32) ken (0 : Int32) (-1 : Int32) (-1 : Int32) _ _ _ (lv_sub hl [1, 0] rfl) hP hS hs (fun ken_u11 kp1_u11 kp2_u11 kp3_u11 H locs ls hl hP hS hs => ?_)
  have hD : va_D A (CW ad cI kc ksv kbc kit kln ken_u11 kla_u5 kfi_u5 kea_u5 kns kbl kr0 kr1 kr2 kr3 kr4 kr5 klr (if (10 : Int32) < q1 then (10 : Int32) else q1) kp1_u11 kp2_u11 kp3_u11) := nd_DD hD rfl
  exact hret _ _ _ _ _ _ _ _ hs hP hS dX5_search_89
def tX6_begin_0 : List (Nat × Instr × Nat) := [(0, .aload_n 0, 1), (1, .iload_n 1, 1), (2, .putfield 11, 3), (5, .aload_n 0, 1), (6, .iconst 0, 1), (7, .putfield 15, 3), (10, .aload_n 0, 1), (11, .iconst 0, 1), (12, .putfield 18, 3), (15, .return_, 1)]
theorem tX6_begin_0_ok : tX6_begin_0.all (fun q => decide (decode cX6_begin q.1 = .ok q.2)) = true := by decide +kernel
theorem dX6_begin_0 : decode cX6_begin 0 = .ok (.aload_n 0, 1) := td tX6_begin_0_ok 0 (q := (0, .aload_n 0, 1)) rfl
theorem dX6_begin_1 : decode cX6_begin 1 = .ok (.iload_n 1, 1) := td tX6_begin_0_ok 1 (q := (1, .iload_n 1, 1)) rfl
theorem dX6_begin_2 : decode cX6_begin 2 = .ok (.putfield 11, 3) := td tX6_begin_0_ok 2 (q := (2, .putfield 11, 3)) rfl
theorem dX6_begin_5 : decode cX6_begin 5 = .ok (.aload_n 0, 1) := td tX6_begin_0_ok 3 (q := (5, .aload_n 0, 1)) rfl
theorem dX6_begin_6 : decode cX6_begin 6 = .ok (.iconst 0, 1) := td tX6_begin_0_ok 4 (q := (6, .iconst 0, 1)) rfl
theorem dX6_begin_7 : decode cX6_begin 7 = .ok (.putfield 15, 3) := td tX6_begin_0_ok 5 (q := (7, .putfield 15, 3)) rfl
theorem dX6_begin_10 : decode cX6_begin 10 = .ok (.aload_n 0, 1) := td tX6_begin_0_ok 6 (q := (10, .aload_n 0, 1)) rfl
theorem dX6_begin_11 : decode cX6_begin 11 = .ok (.iconst 0, 1) := td tX6_begin_0_ok 7 (q := (11, .iconst 0, 1)) rfl
theorem dX6_begin_12 : decode cX6_begin 12 = .ok (.putfield 18, 3) := td tX6_begin_0_ok 8 (q := (12, .putfield 18, 3)) rfl
theorem dX6_begin_15 : decode cX6_begin 15 = .ok (.return_, 1) := td tX6_begin_0_ok 9 (q := (15, .return_, 1)) rfl
def fX6_begin (kr0 : Int32) (kr1 : Int32) (kr2 : Int32) (x1 : Int32) : Option (Int32 × Int32 × Int32) :=
  (some (x1, (0 : Int32), (0 : Int32)))
set_option maxHeartbeats 4000000 in
set_option maxRecDepth 100000 in
theorem mX6_begin {l : Launch} {D : va_G} {ad : Nat → Nat} {cI : ClassId} {kc : (Nat → Int32)} {ksv : (Nat → Int32)} {kbc : (Nat → Int32)} {kit : (Nat → Int32)} {kln : (Nat → Int32)} {ken : (Nat → Int32)} {kla : (Nat → Int32)} {kfi : (Nat → Int32)} {kea : (Nat → Int32)} {kns : Int32} {kbl : Int32} {kr0 : Int32} {kr1 : Int32} {kr2 : Int32} {kr3 : Int32} {kr4 : Int32} {kr5 : Int32} {klr : Int32} {kp0 : Int32} {kp1 : Int32} {kp2 : Int32} {kp3 : Int32} {x1 : Int32} {kr0' : Int32} {kr1' : Int32} {kr2' : Int32} (hs : fX6_begin kr0 kr1 kr2 x1 = some (kr0', kr1', kr2')) : nd_C l yX6_begin cX6_begin 2 none 0 0 D [(cI, .int)] [.ref (ad 3), .int x1] (CW ad cI kc ksv kbc kit kln ken kla kfi kea kns kbl kr0 kr1 kr2 kr3 kr4 kr5 klr kp0 kp1 kp2 kp3) (CW ad cI kc ksv kbc kit kln ken kla kfi kea kns kbl kr0' kr1' kr2' kr3 kr4 kr5 klr kp0 kp1 kp2 kp3) none := by
  refine nd_ofCv (by decide) (Nat.le_of_ble_eq_true rfl) (fun p e s m args below meth c_ ls A Q hx hb hml hown hts hl hP hK hD hS hA hN hret => ?_)
  have hown : s.vm.findClass RX6 = some m.cls := hown
  have hl : lv_has ls 2 [(0, .ref (ad 3)), (1, .int x1)] := hl
  have hret : ∀ (z0 : Int32) (z1 : Int32) (z2 : Int32) {H : Heap} {locs : List Loc} {pc : Nat} {ls : Array Slot}, some (z0, z1, z2) = some (kr0', kr1', kr2') → va_P D vwCl (CW ad cI kc ksv kbc kit kln ken kla kfi kea kns kbl z0 z1 z2 kr3 kr4 kr5 klr kp0 kp1 kp2 kp3) H → va_S A s.heap H locs → decode cX6_begin pc = .ok (.return_, 1) → W p l e ⟨0, 0, 0, 0⟩ s m args below meth c_ H locs 0 0 Q (F0 m pc ls []) := by
    intro z0 z1 z2 H locs pc ls h hP hS hd
    cases h
    exact hret hP hS hd
  rw [fX6_begin] at hs
  refine lv_aload_n hx hb dX6_begin_0 rfl (lv_at hl 0 rfl) ?_
  refine lv_iload_n hx hb dX6_begin_1 rfl (lv_at hl 1 rfl) ?_
  refine pf_X6_11 hx hb hts hown hK hP hD hS 3 rfl rfl dX6_begin_2 (fun H locs hP hD hS => ?_)
  have hP : va_P D vwCl (CW ad cI kc ksv kbc kit kln ken kla kfi kea kns kbl x1 kr1 kr2 kr3 kr4 kr5 klr kp0 kp1 kp2 kp3) H := hP
  have hD : va_D A (CW ad cI kc ksv kbc kit kln ken kla kfi kea kns kbl x1 kr1 kr2 kr3 kr4 kr5 klr kp0 kp1 kp2 kp3) := hD
  refine lv_aload_n hx hb dX6_begin_5 rfl (lv_at hl 0 rfl) ?_
  refine lv_iconst (v := (0 : Int32)) hx hb dX6_begin_6 (by decide) ?_
  refine pf_X6_15 hx hb hts hown hK hP hD hS 3 rfl rfl dX6_begin_7 (fun H locs hP hD hS => ?_)
  have hP : va_P D vwCl (CW ad cI kc ksv kbc kit kln ken kla kfi kea kns kbl x1 (0 : Int32) kr2 kr3 kr4 kr5 klr kp0 kp1 kp2 kp3) H := hP
  have hD : va_D A (CW ad cI kc ksv kbc kit kln ken kla kfi kea kns kbl x1 (0 : Int32) kr2 kr3 kr4 kr5 klr kp0 kp1 kp2 kp3) := hD
  refine lv_aload_n hx hb dX6_begin_10 rfl (lv_at hl 0 rfl) ?_
  refine lv_iconst (v := (0 : Int32)) hx hb dX6_begin_11 (by decide) ?_
  refine pf_X6_18 hx hb hts hown hK hP hD hS 3 rfl rfl dX6_begin_12 (fun H locs hP hD hS => ?_)
  have hP : va_P D vwCl (CW ad cI kc ksv kbc kit kln ken kla kfi kea kns kbl x1 (0 : Int32) (0 : Int32) kr3 kr4 kr5 klr kp0 kp1 kp2 kp3) H := hP
  have hD : va_D A (CW ad cI kc ksv kbc kit kln ken kla kfi kea kns kbl x1 (0 : Int32) (0 : Int32) kr3 kr4 kr5 klr kp0 kp1 kp2 kp3) := hD
  exact hret _ _ _ hs hP hS dX6_begin_15
def tX6_restart_0 : List (Nat × Instr × Nat) := [(0, .aload_n 0, 1), (1, .iconst 0, 1), (2, .putfield 27, 3), (5, .aload_n 0, 1), (6, .iconst 0, 1), (7, .invokevirtual 34, 3), (10, .return_, 1)]
theorem tX6_restart_0_ok : tX6_restart_0.all (fun q => decide (decode cX6_restart q.1 = .ok q.2)) = true := by decide +kernel
theorem dX6_restart_0 : decode cX6_restart 0 = .ok (.aload_n 0, 1) := td tX6_restart_0_ok 0 (q := (0, .aload_n 0, 1)) rfl
theorem dX6_restart_1 : decode cX6_restart 1 = .ok (.iconst 0, 1) := td tX6_restart_0_ok 1 (q := (1, .iconst 0, 1)) rfl
theorem dX6_restart_2 : decode cX6_restart 2 = .ok (.putfield 27, 3) := td tX6_restart_0_ok 2 (q := (2, .putfield 27, 3)) rfl
theorem dX6_restart_5 : decode cX6_restart 5 = .ok (.aload_n 0, 1) := td tX6_restart_0_ok 3 (q := (5, .aload_n 0, 1)) rfl
theorem dX6_restart_6 : decode cX6_restart 6 = .ok (.iconst 0, 1) := td tX6_restart_0_ok 4 (q := (6, .iconst 0, 1)) rfl
theorem dX6_restart_7 : decode cX6_restart 7 = .ok (.invokevirtual 34, 3) := td tX6_restart_0_ok 5 (q := (7, .invokevirtual 34, 3)) rfl
theorem dX6_restart_10 : decode cX6_restart 10 = .ok (.return_, 1) := td tX6_restart_0_ok 6 (q := (10, .return_, 1)) rfl
def fX6_restart (kr0 : Int32) (kr1 : Int32) (kr2 : Int32) (kr5 : Int32) : Option (Int32 × Int32 × Int32 × Int32) :=
  (Option.bind (fX6_begin kr0 kr1 kr2 (0 : Int32)) (fun q1 => (some (q1.1, q1.2.1, q1.2.2, (0 : Int32)))))
set_option maxHeartbeats 4000000 in
set_option maxRecDepth 100000 in
theorem mX6_restart {l : Launch} {D : va_G} {ad : Nat → Nat} {cI : ClassId} {kc : (Nat → Int32)} {ksv : (Nat → Int32)} {kbc : (Nat → Int32)} {kit : (Nat → Int32)} {kln : (Nat → Int32)} {ken : (Nat → Int32)} {kla : (Nat → Int32)} {kfi : (Nat → Int32)} {kea : (Nat → Int32)} {kns : Int32} {kbl : Int32} {kr0 : Int32} {kr1 : Int32} {kr2 : Int32} {kr3 : Int32} {kr4 : Int32} {kr5 : Int32} {klr : Int32} {kp0 : Int32} {kp1 : Int32} {kp2 : Int32} {kp3 : Int32} {kr0' : Int32} {kr1' : Int32} {kr2' : Int32} {kr5' : Int32} (hs : fX6_restart kr0 kr1 kr2 kr5 = some (kr0', kr1', kr2', kr5')) : nd_C l yX6_restart cX6_restart 1 none 1 21 D [(cI, .int)] [.ref (ad 3)] (CW ad cI kc ksv kbc kit kln ken kla kfi kea kns kbl kr0 kr1 kr2 kr3 kr4 kr5 klr kp0 kp1 kp2 kp3) (CW ad cI kc ksv kbc kit kln ken kla kfi kea kns kbl kr0' kr1' kr2' kr3 kr4 kr5' klr kp0 kp1 kp2 kp3) none := by
  refine nd_ofCv (by decide) (Nat.le_of_ble_eq_true rfl) (fun p e s m args below meth c_ ls A Q hx hb hml hown hts hl hP hK hD hS hA hN hret => ?_)
  have hown : s.vm.findClass RX6 = some m.cls := hown
  have hl : lv_has ls 1 [(0, .ref (ad 3))] := hl
  have hret : ∀ (z0 : Int32) (z1 : Int32) (z2 : Int32) (z3 : Int32) {H : Heap} {locs : List Loc} {pc : Nat} {ls : Array Slot}, some (z0, z1, z2, z3) = some (kr0', kr1', kr2', kr5') → va_P D vwCl (CW ad cI kc ksv kbc kit kln ken kla kfi kea kns kbl z0 z1 z2 kr3 kr4 z3 klr kp0 kp1 kp2 kp3) H → va_S A s.heap H locs → decode cX6_restart pc = .ok (.return_, 1) → W p l e ⟨1, 0, 0, 21⟩ s m args below meth c_ H locs 0 0 Q (F0 m pc ls []) := by
    intro z0 z1 z2 z3 H locs pc ls h hP hS hd
    cases h
    exact hret hP hS hd
  rw [fX6_restart] at hs
  refine lv_aload_n hx hb dX6_restart_0 rfl (lv_at hl 0 rfl) ?_
  refine lv_iconst (v := (0 : Int32)) hx hb dX6_restart_1 (by decide) ?_
  refine pf_X6_27 hx hb hts hown hK hP hD hS 3 rfl rfl dX6_restart_2 (fun H locs hP hD hS => ?_)
  have hP : va_P D vwCl (CW ad cI kc ksv kbc kit kln ken kla kfi kea kns kbl kr0 kr1 kr2 kr3 kr4 (0 : Int32) klr kp0 kp1 kp2 kp3) H := hP
  have hD : va_D A (CW ad cI kc ksv kbc kit kln ken kla kfi kea kns kbl kr0 kr1 kr2 kr3 kr4 (0 : Int32) klr kp0 kp1 kp2 kp3) := hD
  refine lv_aload_n hx hb dX6_restart_5 rfl (lv_at hl 0 rfl) ?_
  refine lv_iconst (v := (0 : Int32)) hx hb dX6_restart_6 (by decide) ?_
  obtain ⟨q1, eq1, hs⟩ := ob hs
  refine nd_callV (As := [.int (0 : Int32)]) (rest := []) (st1 := []) hx hb hml hown hts hl hP hK hD hS hA hN (mX6_begin eq1) iv_X6_begin wd_173 3 rfl rfl rfl rfl ⟨Nat.le_of_ble_eq_true rfl, Nat.le_of_ble_eq_true rfl⟩ (Nat.le_of_ble_eq_true rfl) ⟨Nat.zero_le _, Nat.zero_le _⟩ dX6_restart_7 rfl rfl (fun H locs hP hD hS => ?_)
  exact hret _ _ _ _ hs hP hS dX6_restart_10
def tX6_time_0 : List (Nat × Instr × Nat) := [(0, .aload_n 0, 1), (1, .getfield 21, 3), (4, .ireturn, 1)]
theorem tX6_time_0_ok : tX6_time_0.all (fun q => decide (decode cX6_time q.1 = .ok q.2)) = true := by decide +kernel
theorem dX6_time_0 : decode cX6_time 0 = .ok (.aload_n 0, 1) := td tX6_time_0_ok 0 (q := (0, .aload_n 0, 1)) rfl
theorem dX6_time_1 : decode cX6_time 1 = .ok (.getfield 21, 3) := td tX6_time_0_ok 1 (q := (1, .getfield 21, 3)) rfl
theorem dX6_time_4 : decode cX6_time 4 = .ok (.ireturn, 1) := td tX6_time_0_ok 2 (q := (4, .ireturn, 1)) rfl
def fX6_time (kr3 : Int32) : Option (Int32) :=
  (some kr3)
set_option maxHeartbeats 4000000 in
set_option maxRecDepth 100000 in
theorem mX6_time {l : Launch} {D : va_G} {ad : Nat → Nat} {cI : ClassId} {kc : (Nat → Int32)} {ksv : (Nat → Int32)} {kbc : (Nat → Int32)} {kit : (Nat → Int32)} {kln : (Nat → Int32)} {ken : (Nat → Int32)} {kla : (Nat → Int32)} {kfi : (Nat → Int32)} {kea : (Nat → Int32)} {kns : Int32} {kbl : Int32} {kr0 : Int32} {kr1 : Int32} {kr2 : Int32} {kr3 : Int32} {kr4 : Int32} {kr5 : Int32} {klr : Int32} {kp0 : Int32} {kp1 : Int32} {kp2 : Int32} {kp3 : Int32} {r : Int32} (hs : fX6_time kr3 = some r) : nd_C l yX6_time cX6_time 1 (some .int) 0 0 D [(cI, .int)] [.ref (ad 3)] (CW ad cI kc ksv kbc kit kln ken kla kfi kea kns kbl kr0 kr1 kr2 kr3 kr4 kr5 klr kp0 kp1 kp2 kp3) (CW ad cI kc ksv kbc kit kln ken kla kfi kea kns kbl kr0 kr1 kr2 kr3 kr4 kr5 klr kp0 kp1 kp2 kp3) (some (.int r)) := by
  refine nd_ofCi (by decide) (Nat.le_of_ble_eq_true rfl) (fun p e s m args below meth c_ ls A Q hx hb hml hown hts hl hP hK hD hS hA hN hret => ?_)
  have hown : s.vm.findClass RX6 = some m.cls := hown
  have hl : lv_has ls 1 [(0, .ref (ad 3))] := hl
  have hret : ∀ (z0 : Int32) {H : Heap} {locs : List Loc} {pc : Nat} {ls : Array Slot}, some z0 = some r → va_P D vwCl (CW ad cI kc ksv kbc kit kln ken kla kfi kea kns kbl kr0 kr1 kr2 kr3 kr4 kr5 klr kp0 kp1 kp2 kp3) H → va_S A s.heap H locs → decode cX6_time pc = .ok (.ireturn, 1) → W p l e ⟨0, 0, 0, 0⟩ s m args below meth c_ H locs 0 0 Q (F0 m pc ls [.int z0]) := by
    intro z0 H locs pc ls h hP hS hd
    cases h
    exact hret hP hS hd
  rw [fX6_time] at hs
  refine lv_aload_n hx hb dX6_time_0 rfl (lv_at hl 0 rfl) ?_
  refine gf_X6_21 hx hb hts hown hK hP 3 rfl rfl dX6_time_1 ?_
  exact hret _ hs hP hS dX6_time_4
def tX6_shop_0 : List (Nat × Instr × Nat) := [(0, .aload_n 0, 1), (1, .getfield 24, 3), (4, .ireturn, 1)]
theorem tX6_shop_0_ok : tX6_shop_0.all (fun q => decide (decode cX6_shop q.1 = .ok q.2)) = true := by decide +kernel
theorem dX6_shop_0 : decode cX6_shop 0 = .ok (.aload_n 0, 1) := td tX6_shop_0_ok 0 (q := (0, .aload_n 0, 1)) rfl
theorem dX6_shop_1 : decode cX6_shop 1 = .ok (.getfield 24, 3) := td tX6_shop_0_ok 1 (q := (1, .getfield 24, 3)) rfl
theorem dX6_shop_4 : decode cX6_shop 4 = .ok (.ireturn, 1) := td tX6_shop_0_ok 2 (q := (4, .ireturn, 1)) rfl
def fX6_shop (kr4 : Int32) : Option (Int32) :=
  (some kr4)
set_option maxHeartbeats 4000000 in
set_option maxRecDepth 100000 in
theorem mX6_shop {l : Launch} {D : va_G} {ad : Nat → Nat} {cI : ClassId} {kc : (Nat → Int32)} {ksv : (Nat → Int32)} {kbc : (Nat → Int32)} {kit : (Nat → Int32)} {kln : (Nat → Int32)} {ken : (Nat → Int32)} {kla : (Nat → Int32)} {kfi : (Nat → Int32)} {kea : (Nat → Int32)} {kns : Int32} {kbl : Int32} {kr0 : Int32} {kr1 : Int32} {kr2 : Int32} {kr3 : Int32} {kr4 : Int32} {kr5 : Int32} {klr : Int32} {kp0 : Int32} {kp1 : Int32} {kp2 : Int32} {kp3 : Int32} {r : Int32} (hs : fX6_shop kr4 = some r) : nd_C l yX6_shop cX6_shop 1 (some .int) 0 0 D [(cI, .int)] [.ref (ad 3)] (CW ad cI kc ksv kbc kit kln ken kla kfi kea kns kbl kr0 kr1 kr2 kr3 kr4 kr5 klr kp0 kp1 kp2 kp3) (CW ad cI kc ksv kbc kit kln ken kla kfi kea kns kbl kr0 kr1 kr2 kr3 kr4 kr5 klr kp0 kp1 kp2 kp3) (some (.int r)) := by
  refine nd_ofCi (by decide) (Nat.le_of_ble_eq_true rfl) (fun p e s m args below meth c_ ls A Q hx hb hml hown hts hl hP hK hD hS hA hN hret => ?_)
  have hown : s.vm.findClass RX6 = some m.cls := hown
  have hl : lv_has ls 1 [(0, .ref (ad 3))] := hl
  have hret : ∀ (z0 : Int32) {H : Heap} {locs : List Loc} {pc : Nat} {ls : Array Slot}, some z0 = some r → va_P D vwCl (CW ad cI kc ksv kbc kit kln ken kla kfi kea kns kbl kr0 kr1 kr2 kr3 kr4 kr5 klr kp0 kp1 kp2 kp3) H → va_S A s.heap H locs → decode cX6_shop pc = .ok (.ireturn, 1) → W p l e ⟨0, 0, 0, 0⟩ s m args below meth c_ H locs 0 0 Q (F0 m pc ls [.int z0]) := by
    intro z0 H locs pc ls h hP hS hd
    cases h
    exact hret hP hS hd
  rw [fX6_shop] at hs
  refine lv_aload_n hx hb dX6_shop_0 rfl (lv_at hl 0 rfl) ?_
  refine gf_X6_24 hx hb hts hown hK hP 3 rfl rfl dX6_shop_1 ?_
  exact hret _ hs hP hS dX6_shop_4
def tX6_items_0 : List (Nat × Instr × Nat) := [(0, .aload_n 0, 1), (1, .getfield 27, 3), (4, .ireturn, 1)]
theorem tX6_items_0_ok : tX6_items_0.all (fun q => decide (decode cX6_items q.1 = .ok q.2)) = true := by decide +kernel
theorem dX6_items_0 : decode cX6_items 0 = .ok (.aload_n 0, 1) := td tX6_items_0_ok 0 (q := (0, .aload_n 0, 1)) rfl
theorem dX6_items_1 : decode cX6_items 1 = .ok (.getfield 27, 3) := td tX6_items_0_ok 1 (q := (1, .getfield 27, 3)) rfl
theorem dX6_items_4 : decode cX6_items 4 = .ok (.ireturn, 1) := td tX6_items_0_ok 2 (q := (4, .ireturn, 1)) rfl
def fX6_items (kr5 : Int32) : Option (Int32) :=
  (some kr5)
set_option maxHeartbeats 4000000 in
set_option maxRecDepth 100000 in
theorem mX6_items {l : Launch} {D : va_G} {ad : Nat → Nat} {cI : ClassId} {kc : (Nat → Int32)} {ksv : (Nat → Int32)} {kbc : (Nat → Int32)} {kit : (Nat → Int32)} {kln : (Nat → Int32)} {ken : (Nat → Int32)} {kla : (Nat → Int32)} {kfi : (Nat → Int32)} {kea : (Nat → Int32)} {kns : Int32} {kbl : Int32} {kr0 : Int32} {kr1 : Int32} {kr2 : Int32} {kr3 : Int32} {kr4 : Int32} {kr5 : Int32} {klr : Int32} {kp0 : Int32} {kp1 : Int32} {kp2 : Int32} {kp3 : Int32} {r : Int32} (hs : fX6_items kr5 = some r) : nd_C l yX6_items cX6_items 1 (some .int) 0 0 D [(cI, .int)] [.ref (ad 3)] (CW ad cI kc ksv kbc kit kln ken kla kfi kea kns kbl kr0 kr1 kr2 kr3 kr4 kr5 klr kp0 kp1 kp2 kp3) (CW ad cI kc ksv kbc kit kln ken kla kfi kea kns kbl kr0 kr1 kr2 kr3 kr4 kr5 klr kp0 kp1 kp2 kp3) (some (.int r)) := by
  refine nd_ofCi (by decide) (Nat.le_of_ble_eq_true rfl) (fun p e s m args below meth c_ ls A Q hx hb hml hown hts hl hP hK hD hS hA hN hret => ?_)
  have hown : s.vm.findClass RX6 = some m.cls := hown
  have hl : lv_has ls 1 [(0, .ref (ad 3))] := hl
  have hret : ∀ (z0 : Int32) {H : Heap} {locs : List Loc} {pc : Nat} {ls : Array Slot}, some z0 = some r → va_P D vwCl (CW ad cI kc ksv kbc kit kln ken kla kfi kea kns kbl kr0 kr1 kr2 kr3 kr4 kr5 klr kp0 kp1 kp2 kp3) H → va_S A s.heap H locs → decode cX6_items pc = .ok (.ireturn, 1) → W p l e ⟨0, 0, 0, 0⟩ s m args below meth c_ H locs 0 0 Q (F0 m pc ls [.int z0]) := by
    intro z0 H locs pc ls h hP hS hd
    cases h
    exact hret hP hS hd
  rw [fX6_items] at hs
  refine lv_aload_n hx hb dX6_items_0 rfl (lv_at hl 0 rfl) ?_
  refine gf_X6_27 hx hb hts hown hK hP 3 rfl rfl dX6_items_1 ?_
  exact hret _ hs hP hS dX6_items_4
def tX6_itemAt_0 : List (Nat × Instr × Nat) := [(0, .iload_n 1, 1), (1, .ifCond .lt 17, 3), (4, .iload_n 1, 1), (5, .iconst 4, 1), (6, .if_icmp .ge 12, 3), (9, .aload_n 0, 1), (10, .getfield 30, 3), (13, .iload_n 1, 1), (14, .iaload, 1), (15, .goto 4, 3), (18, .iconst 0, 1), (19, .ireturn, 1)]
theorem tX6_itemAt_0_ok : tX6_itemAt_0.all (fun q => decide (decode cX6_itemAt q.1 = .ok q.2)) = true := by decide +kernel
theorem dX6_itemAt_0 : decode cX6_itemAt 0 = .ok (.iload_n 1, 1) := td tX6_itemAt_0_ok 0 (q := (0, .iload_n 1, 1)) rfl
theorem dX6_itemAt_1 : decode cX6_itemAt 1 = .ok (.ifCond .lt 17, 3) := td tX6_itemAt_0_ok 1 (q := (1, .ifCond .lt 17, 3)) rfl
theorem dX6_itemAt_4 : decode cX6_itemAt 4 = .ok (.iload_n 1, 1) := td tX6_itemAt_0_ok 2 (q := (4, .iload_n 1, 1)) rfl
theorem dX6_itemAt_5 : decode cX6_itemAt 5 = .ok (.iconst 4, 1) := td tX6_itemAt_0_ok 3 (q := (5, .iconst 4, 1)) rfl
theorem dX6_itemAt_6 : decode cX6_itemAt 6 = .ok (.if_icmp .ge 12, 3) := td tX6_itemAt_0_ok 4 (q := (6, .if_icmp .ge 12, 3)) rfl
theorem dX6_itemAt_9 : decode cX6_itemAt 9 = .ok (.aload_n 0, 1) := td tX6_itemAt_0_ok 5 (q := (9, .aload_n 0, 1)) rfl
theorem dX6_itemAt_10 : decode cX6_itemAt 10 = .ok (.getfield 30, 3) := td tX6_itemAt_0_ok 6 (q := (10, .getfield 30, 3)) rfl
theorem dX6_itemAt_13 : decode cX6_itemAt 13 = .ok (.iload_n 1, 1) := td tX6_itemAt_0_ok 7 (q := (13, .iload_n 1, 1)) rfl
theorem dX6_itemAt_14 : decode cX6_itemAt 14 = .ok (.iaload, 1) := td tX6_itemAt_0_ok 8 (q := (14, .iaload, 1)) rfl
theorem dX6_itemAt_15 : decode cX6_itemAt 15 = .ok (.goto 4, 3) := td tX6_itemAt_0_ok 9 (q := (15, .goto 4, 3)) rfl
theorem dX6_itemAt_18 : decode cX6_itemAt 18 = .ok (.iconst 0, 1) := td tX6_itemAt_0_ok 10 (q := (18, .iconst 0, 1)) rfl
theorem dX6_itemAt_19 : decode cX6_itemAt 19 = .ok (.ireturn, 1) := td tX6_itemAt_0_ok 11 (q := (19, .ireturn, 1)) rfl
def fX6_itemAt (kit : (Nat → Int32)) (x1 : Int32) : Option (Int32) :=
  (if x1 < 0 then (some (0 : Int32)) else (if (4 : Int32) ≤ x1 then (some (0 : Int32)) else (Option.bind (aget kit 4 x1) (fun t3 => (some t3)))))
set_option maxHeartbeats 4000000 in
set_option maxRecDepth 100000 in
theorem mX6_itemAt {l : Launch} {D : va_G} {ad : Nat → Nat} {cI : ClassId} {kc : (Nat → Int32)} {ksv : (Nat → Int32)} {kbc : (Nat → Int32)} {kit : (Nat → Int32)} {kln : (Nat → Int32)} {ken : (Nat → Int32)} {kla : (Nat → Int32)} {kfi : (Nat → Int32)} {kea : (Nat → Int32)} {kns : Int32} {kbl : Int32} {kr0 : Int32} {kr1 : Int32} {kr2 : Int32} {kr3 : Int32} {kr4 : Int32} {kr5 : Int32} {klr : Int32} {kp0 : Int32} {kp1 : Int32} {kp2 : Int32} {kp3 : Int32} {x1 : Int32} {r : Int32} (hs : fX6_itemAt kit x1 = some r) : nd_C l yX6_itemAt cX6_itemAt 2 (some .int) 0 0 D [(cI, .int)] [.ref (ad 3), .int x1] (CW ad cI kc ksv kbc kit kln ken kla kfi kea kns kbl kr0 kr1 kr2 kr3 kr4 kr5 klr kp0 kp1 kp2 kp3) (CW ad cI kc ksv kbc kit kln ken kla kfi kea kns kbl kr0 kr1 kr2 kr3 kr4 kr5 klr kp0 kp1 kp2 kp3) (some (.int r)) := by
  refine nd_ofCi (by decide) (Nat.le_of_ble_eq_true rfl) (fun p e s m args below meth c_ ls A Q hx hb hml hown hts hl hP hK hD hS hA hN hret => ?_)
  have hown : s.vm.findClass RX6 = some m.cls := hown
  have hl : lv_has ls 2 [(0, .ref (ad 3)), (1, .int x1)] := hl
  have hret : ∀ (z0 : Int32) {H : Heap} {locs : List Loc} {pc : Nat} {ls : Array Slot}, some z0 = some r → va_P D vwCl (CW ad cI kc ksv kbc kit kln ken kla kfi kea kns kbl kr0 kr1 kr2 kr3 kr4 kr5 klr kp0 kp1 kp2 kp3) H → va_S A s.heap H locs → decode cX6_itemAt pc = .ok (.ireturn, 1) → W p l e ⟨0, 0, 0, 0⟩ s m args below meth c_ H locs 0 0 Q (F0 m pc ls [.int z0]) := by
    intro z0 H locs pc ls h hP hS hd
    cases h
    exact hret hP hS hd
  rw [fX6_itemAt] at hs
  refine lv_iload_n hx hb dX6_itemAt_0 rfl (lv_at hl 1 rfl) ?_
  refine lv_if_lt (tgt := 18) hx hb dX6_itemAt_1 (by decide) (fun b1 => ?_) (fun b1 => ?_)
  · have hs := ite_t hs b1
    refine lv_iconst (v := (0 : Int32)) hx hb dX6_itemAt_18 (by decide) ?_
    exact hret _ hs hP hS dX6_itemAt_19
  · have hs := ite_f hs b1
    refine lv_iload_n hx hb dX6_itemAt_4 rfl (lv_at hl 1 rfl) ?_
    refine lv_iconst (v := (4 : Int32)) hx hb dX6_itemAt_5 (by decide) ?_
    refine lv_icmp_ge (tgt := 18) hx hb dX6_itemAt_6 (by decide) (fun b2 => ?_) (fun b2 => ?_)
    · have hs := ite_t hs b2
      refine lv_iconst (v := (0 : Int32)) hx hb dX6_itemAt_18 (by decide) ?_
      exact hret _ hs hP hS dX6_itemAt_19
    · have hs := ite_f hs b2
      refine lv_aload_n hx hb dX6_itemAt_9 rfl (lv_at hl 0 rfl) ?_
      refine gf_X6_30 hx hb hts hown hK hP 3 rfl rfl dX6_itemAt_10 ?_
      refine lv_iload_n hx hb dX6_itemAt_13 rfl (lv_at hl 1 rfl) ?_
      obtain ⟨t3, et3, hs⟩ := ob hs
      refine nd_iald hx hb hK hP 9 0 rfl rfl et3 dX6_itemAt_14 ?_
      refine lv_goto (tgt := 19) hx hb dX6_itemAt_15 (by decide) ?_
      exact hret _ hs hP hS dX6_itemAt_19
def tX6_printed_0 : List (Nat × Instr × Nat) := [(0, .aload_n 0, 1), (1, .getfield 15, 3), (4, .ireturn, 1)]
theorem tX6_printed_0_ok : tX6_printed_0.all (fun q => decide (decode cX6_printed q.1 = .ok q.2)) = true := by decide +kernel
theorem dX6_printed_0 : decode cX6_printed 0 = .ok (.aload_n 0, 1) := td tX6_printed_0_ok 0 (q := (0, .aload_n 0, 1)) rfl
theorem dX6_printed_1 : decode cX6_printed 1 = .ok (.getfield 15, 3) := td tX6_printed_0_ok 1 (q := (1, .getfield 15, 3)) rfl
theorem dX6_printed_4 : decode cX6_printed 4 = .ok (.ireturn, 1) := td tX6_printed_0_ok 2 (q := (4, .ireturn, 1)) rfl
def fX6_printed (kr1 : Int32) : Option (Int32) :=
  (some kr1)
set_option maxHeartbeats 4000000 in
set_option maxRecDepth 100000 in
theorem mX6_printed {l : Launch} {D : va_G} {ad : Nat → Nat} {cI : ClassId} {kc : (Nat → Int32)} {ksv : (Nat → Int32)} {kbc : (Nat → Int32)} {kit : (Nat → Int32)} {kln : (Nat → Int32)} {ken : (Nat → Int32)} {kla : (Nat → Int32)} {kfi : (Nat → Int32)} {kea : (Nat → Int32)} {kns : Int32} {kbl : Int32} {kr0 : Int32} {kr1 : Int32} {kr2 : Int32} {kr3 : Int32} {kr4 : Int32} {kr5 : Int32} {klr : Int32} {kp0 : Int32} {kp1 : Int32} {kp2 : Int32} {kp3 : Int32} {r : Int32} (hs : fX6_printed kr1 = some r) : nd_C l yX6_printed cX6_printed 1 (some .int) 0 0 D [(cI, .int)] [.ref (ad 3)] (CW ad cI kc ksv kbc kit kln ken kla kfi kea kns kbl kr0 kr1 kr2 kr3 kr4 kr5 klr kp0 kp1 kp2 kp3) (CW ad cI kc ksv kbc kit kln ken kla kfi kea kns kbl kr0 kr1 kr2 kr3 kr4 kr5 klr kp0 kp1 kp2 kp3) (some (.int r)) := by
  refine nd_ofCi (by decide) (Nat.le_of_ble_eq_true rfl) (fun p e s m args below meth c_ ls A Q hx hb hml hown hts hl hP hK hD hS hA hN hret => ?_)
  have hown : s.vm.findClass RX6 = some m.cls := hown
  have hl : lv_has ls 1 [(0, .ref (ad 3))] := hl
  have hret : ∀ (z0 : Int32) {H : Heap} {locs : List Loc} {pc : Nat} {ls : Array Slot}, some z0 = some r → va_P D vwCl (CW ad cI kc ksv kbc kit kln ken kla kfi kea kns kbl kr0 kr1 kr2 kr3 kr4 kr5 klr kp0 kp1 kp2 kp3) H → va_S A s.heap H locs → decode cX6_printed pc = .ok (.ireturn, 1) → W p l e ⟨0, 0, 0, 0⟩ s m args below meth c_ H locs 0 0 Q (F0 m pc ls [.int z0]) := by
    intro z0 H locs pc ls h hP hS hd
    cases h
    exact hret hP hS hd
  rw [fX6_printed] at hs
  refine lv_aload_n hx hb dX6_printed_0 rfl (lv_at hl 0 rfl) ?_
  refine gf_X6_15 hx hb hts hown hK hP 3 rfl rfl dX6_printed_1 ?_
  exact hret _ hs hP hS dX6_printed_4
def tX6_isAtEndOfReceipt_0 : List (Nat × Instr × Nat) := [(0, .aload_n 0, 1), (1, .getfield 11, 3), (4, .iconst 3, 1), (5, .if_icmp .ne 14, 3), (8, .aload_n 0, 1), (9, .getfield 18, 3), (12, .ifCond .le 7, 3), (15, .iconst 1, 1), (16, .goto 4, 3), (19, .iconst 0, 1), (20, .ireturn, 1)]
theorem tX6_isAtEndOfReceipt_0_ok : tX6_isAtEndOfReceipt_0.all (fun q => decide (decode cX6_isAtEndOfReceipt q.1 = .ok q.2)) = true := by decide +kernel
theorem dX6_isAtEndOfReceipt_0 : decode cX6_isAtEndOfReceipt 0 = .ok (.aload_n 0, 1) := td tX6_isAtEndOfReceipt_0_ok 0 (q := (0, .aload_n 0, 1)) rfl
theorem dX6_isAtEndOfReceipt_1 : decode cX6_isAtEndOfReceipt 1 = .ok (.getfield 11, 3) := td tX6_isAtEndOfReceipt_0_ok 1 (q := (1, .getfield 11, 3)) rfl
theorem dX6_isAtEndOfReceipt_4 : decode cX6_isAtEndOfReceipt 4 = .ok (.iconst 3, 1) := td tX6_isAtEndOfReceipt_0_ok 2 (q := (4, .iconst 3, 1)) rfl
theorem dX6_isAtEndOfReceipt_5 : decode cX6_isAtEndOfReceipt 5 = .ok (.if_icmp .ne 14, 3) := td tX6_isAtEndOfReceipt_0_ok 3 (q := (5, .if_icmp .ne 14, 3)) rfl
theorem dX6_isAtEndOfReceipt_8 : decode cX6_isAtEndOfReceipt 8 = .ok (.aload_n 0, 1) := td tX6_isAtEndOfReceipt_0_ok 4 (q := (8, .aload_n 0, 1)) rfl
theorem dX6_isAtEndOfReceipt_9 : decode cX6_isAtEndOfReceipt 9 = .ok (.getfield 18, 3) := td tX6_isAtEndOfReceipt_0_ok 5 (q := (9, .getfield 18, 3)) rfl
theorem dX6_isAtEndOfReceipt_12 : decode cX6_isAtEndOfReceipt 12 = .ok (.ifCond .le 7, 3) := td tX6_isAtEndOfReceipt_0_ok 6 (q := (12, .ifCond .le 7, 3)) rfl
theorem dX6_isAtEndOfReceipt_15 : decode cX6_isAtEndOfReceipt 15 = .ok (.iconst 1, 1) := td tX6_isAtEndOfReceipt_0_ok 7 (q := (15, .iconst 1, 1)) rfl
theorem dX6_isAtEndOfReceipt_16 : decode cX6_isAtEndOfReceipt 16 = .ok (.goto 4, 3) := td tX6_isAtEndOfReceipt_0_ok 8 (q := (16, .goto 4, 3)) rfl
theorem dX6_isAtEndOfReceipt_19 : decode cX6_isAtEndOfReceipt 19 = .ok (.iconst 0, 1) := td tX6_isAtEndOfReceipt_0_ok 9 (q := (19, .iconst 0, 1)) rfl
theorem dX6_isAtEndOfReceipt_20 : decode cX6_isAtEndOfReceipt 20 = .ok (.ireturn, 1) := td tX6_isAtEndOfReceipt_0_ok 10 (q := (20, .ireturn, 1)) rfl
def fX6_isAtEndOfReceipt (kr0 : Int32) (kr2 : Int32) : Option (Int32) :=
  (if kr0 = (3 : Int32) then (if kr2 ≤ 0 then (some (0 : Int32)) else (some (1 : Int32))) else (some (0 : Int32)))
set_option maxHeartbeats 4000000 in
set_option maxRecDepth 100000 in
theorem mX6_isAtEndOfReceipt {l : Launch} {D : va_G} {ad : Nat → Nat} {cI : ClassId} {kc : (Nat → Int32)} {ksv : (Nat → Int32)} {kbc : (Nat → Int32)} {kit : (Nat → Int32)} {kln : (Nat → Int32)} {ken : (Nat → Int32)} {kla : (Nat → Int32)} {kfi : (Nat → Int32)} {kea : (Nat → Int32)} {kns : Int32} {kbl : Int32} {kr0 : Int32} {kr1 : Int32} {kr2 : Int32} {kr3 : Int32} {kr4 : Int32} {kr5 : Int32} {klr : Int32} {kp0 : Int32} {kp1 : Int32} {kp2 : Int32} {kp3 : Int32} {r : Int32} (hs : fX6_isAtEndOfReceipt kr0 kr2 = some r) : nd_C l yX6_isAtEndOfReceipt cX6_isAtEndOfReceipt 1 (some .boolean) 0 0 D [(cI, .int)] [.ref (ad 3)] (CW ad cI kc ksv kbc kit kln ken kla kfi kea kns kbl kr0 kr1 kr2 kr3 kr4 kr5 klr kp0 kp1 kp2 kp3) (CW ad cI kc ksv kbc kit kln ken kla kfi kea kns kbl kr0 kr1 kr2 kr3 kr4 kr5 klr kp0 kp1 kp2 kp3) (some (.int r)) := by
  refine nd_ofCz (by decide) (Nat.le_of_ble_eq_true rfl) (fun p e s m args below meth c_ ls A Q hx hb hml hown hts hl hP hK hD hS hA hN hret => ?_)
  have hown : s.vm.findClass RX6 = some m.cls := hown
  have hl : lv_has ls 1 [(0, .ref (ad 3))] := hl
  have hret : ∀ (z0 : Int32) {H : Heap} {locs : List Loc} {pc : Nat} {ls : Array Slot}, some z0 = some r → (z0 = 0 ∨ z0 = 1) → va_P D vwCl (CW ad cI kc ksv kbc kit kln ken kla kfi kea kns kbl kr0 kr1 kr2 kr3 kr4 kr5 klr kp0 kp1 kp2 kp3) H → va_S A s.heap H locs → decode cX6_isAtEndOfReceipt pc = .ok (.ireturn, 1) → W p l e ⟨0, 0, 0, 0⟩ s m args below meth c_ H locs 0 0 Q (F0 m pc ls [.int z0]) := by
    intro z0 H locs pc ls h hz hP hS hd
    cases h
    exact hret hz hP hS hd
  rw [fX6_isAtEndOfReceipt] at hs
  refine lv_aload_n hx hb dX6_isAtEndOfReceipt_0 rfl (lv_at hl 0 rfl) ?_
  refine gf_X6_11 hx hb hts hown hK hP 3 rfl rfl dX6_isAtEndOfReceipt_1 ?_
  refine lv_iconst (v := (3 : Int32)) hx hb dX6_isAtEndOfReceipt_4 (by decide) ?_
  refine lv_icmp_ne (tgt := 19) hx hb dX6_isAtEndOfReceipt_5 (by decide) (fun b1 => ?_) (fun b1 => ?_)
  · have hs := ite_f hs b1
    refine lv_iconst (v := (0 : Int32)) hx hb dX6_isAtEndOfReceipt_19 (by decide) ?_
    exact hret _ hs (Or.inl rfl) hP hS dX6_isAtEndOfReceipt_20
  · have hs := ite_t hs b1
    refine lv_aload_n hx hb dX6_isAtEndOfReceipt_8 rfl (lv_at hl 0 rfl) ?_
    refine gf_X6_18 hx hb hts hown hK hP 3 rfl rfl dX6_isAtEndOfReceipt_9 ?_
    refine lv_if_le (tgt := 19) hx hb dX6_isAtEndOfReceipt_12 (by decide) (fun b2 => ?_) (fun b2 => ?_)
    · have hs := ite_t hs b2
      refine lv_iconst (v := (0 : Int32)) hx hb dX6_isAtEndOfReceipt_19 (by decide) ?_
      exact hret _ hs (Or.inl rfl) hP hS dX6_isAtEndOfReceipt_20
    · have hs := ite_f hs b2
      refine lv_iconst (v := (1 : Int32)) hx hb dX6_isAtEndOfReceipt_15 (by decide) ?_
      refine lv_goto (tgt := 20) hx hb dX6_isAtEndOfReceipt_16 (by decide) ?_
      exact hret _ hs (Or.inr rfl) hP hS dX6_isAtEndOfReceipt_20
def tX6_mostDigits_0 : List (Nat × Instr × Nat) := [(0, .aload_n 0, 1), (1, .getfield 11, 3), (4, .lookupswitch 32 #[(1, 28), (2, 30)], 28), (32, .iconst 1, 1), (33, .ireturn, 1), (34, .iconst 3, 1), (35, .ireturn, 1), (36, .iconst 4, 1), (37, .ireturn, 1)]
theorem tX6_mostDigits_0_ok : tX6_mostDigits_0.all (fun q => decide (decode cX6_mostDigits q.1 = .ok q.2)) = true := by decide +kernel
theorem dX6_mostDigits_0 : decode cX6_mostDigits 0 = .ok (.aload_n 0, 1) := td tX6_mostDigits_0_ok 0 (q := (0, .aload_n 0, 1)) rfl
theorem dX6_mostDigits_1 : decode cX6_mostDigits 1 = .ok (.getfield 11, 3) := td tX6_mostDigits_0_ok 1 (q := (1, .getfield 11, 3)) rfl
theorem dX6_mostDigits_4 : decode cX6_mostDigits 4 = .ok (.lookupswitch 32 #[(1, 28), (2, 30)], 28) := td tX6_mostDigits_0_ok 2 (q := (4, .lookupswitch 32 #[(1, 28), (2, 30)], 28)) rfl
theorem dX6_mostDigits_32 : decode cX6_mostDigits 32 = .ok (.iconst 1, 1) := td tX6_mostDigits_0_ok 3 (q := (32, .iconst 1, 1)) rfl
theorem dX6_mostDigits_33 : decode cX6_mostDigits 33 = .ok (.ireturn, 1) := td tX6_mostDigits_0_ok 4 (q := (33, .ireturn, 1)) rfl
theorem dX6_mostDigits_34 : decode cX6_mostDigits 34 = .ok (.iconst 3, 1) := td tX6_mostDigits_0_ok 5 (q := (34, .iconst 3, 1)) rfl
theorem dX6_mostDigits_35 : decode cX6_mostDigits 35 = .ok (.ireturn, 1) := td tX6_mostDigits_0_ok 6 (q := (35, .ireturn, 1)) rfl
theorem dX6_mostDigits_36 : decode cX6_mostDigits 36 = .ok (.iconst 4, 1) := td tX6_mostDigits_0_ok 7 (q := (36, .iconst 4, 1)) rfl
theorem dX6_mostDigits_37 : decode cX6_mostDigits 37 = .ok (.ireturn, 1) := td tX6_mostDigits_0_ok 8 (q := (37, .ireturn, 1)) rfl
def fX6_mostDigits (kr0 : Int32) : Option (Int32) :=
  (if kr0 = (1 : Int32) then (some (1 : Int32)) else (if kr0 = (2 : Int32) then (some (3 : Int32)) else (some (4 : Int32))))
set_option maxHeartbeats 4000000 in
set_option maxRecDepth 100000 in
theorem mX6_mostDigits {l : Launch} {D : va_G} {ad : Nat → Nat} {cI : ClassId} {kc : (Nat → Int32)} {ksv : (Nat → Int32)} {kbc : (Nat → Int32)} {kit : (Nat → Int32)} {kln : (Nat → Int32)} {ken : (Nat → Int32)} {kla : (Nat → Int32)} {kfi : (Nat → Int32)} {kea : (Nat → Int32)} {kns : Int32} {kbl : Int32} {kr0 : Int32} {kr1 : Int32} {kr2 : Int32} {kr3 : Int32} {kr4 : Int32} {kr5 : Int32} {klr : Int32} {kp0 : Int32} {kp1 : Int32} {kp2 : Int32} {kp3 : Int32} {r : Int32} (hs : fX6_mostDigits kr0 = some r) : nd_C l yX6_mostDigits cX6_mostDigits 1 (some .int) 0 0 D [(cI, .int)] [.ref (ad 3)] (CW ad cI kc ksv kbc kit kln ken kla kfi kea kns kbl kr0 kr1 kr2 kr3 kr4 kr5 klr kp0 kp1 kp2 kp3) (CW ad cI kc ksv kbc kit kln ken kla kfi kea kns kbl kr0 kr1 kr2 kr3 kr4 kr5 klr kp0 kp1 kp2 kp3) (some (.int r)) := by
  refine nd_ofCi (by decide) (Nat.le_of_ble_eq_true rfl) (fun p e s m args below meth c_ ls A Q hx hb hml hown hts hl hP hK hD hS hA hN hret => ?_)
  have hown : s.vm.findClass RX6 = some m.cls := hown
  have hl : lv_has ls 1 [(0, .ref (ad 3))] := hl
  have hret : ∀ (z0 : Int32) {H : Heap} {locs : List Loc} {pc : Nat} {ls : Array Slot}, some z0 = some r → va_P D vwCl (CW ad cI kc ksv kbc kit kln ken kla kfi kea kns kbl kr0 kr1 kr2 kr3 kr4 kr5 klr kp0 kp1 kp2 kp3) H → va_S A s.heap H locs → decode cX6_mostDigits pc = .ok (.ireturn, 1) → W p l e ⟨0, 0, 0, 0⟩ s m args below meth c_ H locs 0 0 Q (F0 m pc ls [.int z0]) := by
    intro z0 H locs pc ls h hP hS hd
    cases h
    exact hret hP hS hd
  rw [fX6_mostDigits] at hs
  refine lv_aload_n hx hb dX6_mostDigits_0 rfl (lv_at hl 0 rfl) ?_
  refine gf_X6_11 hx hb hts hown hK hP 3 rfl rfl dX6_mostDigits_1 ?_
  by_cases b1 : kr0 = (1 : Int32)
  · have hs := ite_t hs b1
    rw [b1]
    refine lv_lookup (off := (28)) (tgt := 32) hx hb dX6_mostDigits_4 (by decide) (by decide) (by decide) ?_
    refine lv_iconst (v := (1 : Int32)) hx hb dX6_mostDigits_32 (by decide) ?_
    exact hret _ hs hP hS dX6_mostDigits_33
  have hs := ite_f hs b1
  by_cases b2 : kr0 = (2 : Int32)
  · have hs := ite_t hs b2
    rw [b2]
    refine lv_lookup (off := (30)) (tgt := 34) hx hb dX6_mostDigits_4 (by decide) (by decide) (by decide) ?_
    refine lv_iconst (v := (3 : Int32)) hx hb dX6_mostDigits_34 (by decide) ?_
    exact hret _ hs hP hS dX6_mostDigits_35
  have hs := ite_f hs b2
  have zb1 : kr0.toInt ≠ (1) := sw_ne b1
  have zb2 : kr0.toInt ≠ (2) := sw_ne b2
  refine lv_lookup (off := (32)) (tgt := 36) hx hb dX6_mostDigits_4 (by decide) (by simp [Op.lookupswitch.offset, zb1, Ne.symm zb1, zb2, Ne.symm zb2]) (by decide) ?_
  refine lv_iconst (v := (4 : Int32)) hx hb dX6_mostDigits_36 (by decide) ?_
  exact hret _ hs hP hS dX6_mostDigits_37
def tX6_acceptDigit_0 : List (Nat × Instr × Nat) := [(0, .aload_n 0, 1), (1, .getfield 18, 3), (4, .ifCond .ne 24, 3), (7, .iload_n 1, 1), (8, .ifCond .gt 11, 3), (11, .aload_n 0, 1), (12, .getfield 11, 3), (15, .iconst 2, 1), (16, .if_icmp .eq 7, 3), (19, .iconst 1, 1), (20, .goto 4, 3), (23, .iconst 0, 1), (24, .istore_n 2, 1), (25, .goto 27, 3), (28, .aload_n 0, 1), (29, .getfield 15, 3), (32, .ifCond .le 18, 3), (35, .aload_n 0, 1), (36, .getfield 18, 3), (39, .aload_n 0, 1), (40, .invokevirtual 45, 3), (43, .if_icmp .ge 7, 3), (46, .iconst 1, 1), (47, .goto 4, 3), (50, .iconst 0, 1), (51, .istore_n 2, 1), (52, .iload_n 2, 1), (53, .ifCond .eq 26, 3), (56, .aload_n 0, 1), (57, .aload_n 0, 1), (58, .getfield 15, 3), (61, .bipush 10, 2), (63, .imul, 1), (64, .iload_n 1, 1), (65, .iadd, 1), (66, .putfield 15, 3), (69, .aload_n 0, 1), (70, .dup, 1), (71, .getfield 18, 3), (74, .iconst 1, 1), (75, .iadd, 1), (76, .putfield 18, 3), (79, .iload_n 2, 1), (80, .ireturn, 1)]
theorem tX6_acceptDigit_0_ok : tX6_acceptDigit_0.all (fun q => decide (decode cX6_acceptDigit q.1 = .ok q.2)) = true := by decide +kernel
theorem dX6_acceptDigit_0 : decode cX6_acceptDigit 0 = .ok (.aload_n 0, 1) := td tX6_acceptDigit_0_ok 0 (q := (0, .aload_n 0, 1)) rfl
theorem dX6_acceptDigit_1 : decode cX6_acceptDigit 1 = .ok (.getfield 18, 3) := td tX6_acceptDigit_0_ok 1 (q := (1, .getfield 18, 3)) rfl
theorem dX6_acceptDigit_4 : decode cX6_acceptDigit 4 = .ok (.ifCond .ne 24, 3) := td tX6_acceptDigit_0_ok 2 (q := (4, .ifCond .ne 24, 3)) rfl
theorem dX6_acceptDigit_7 : decode cX6_acceptDigit 7 = .ok (.iload_n 1, 1) := td tX6_acceptDigit_0_ok 3 (q := (7, .iload_n 1, 1)) rfl
theorem dX6_acceptDigit_8 : decode cX6_acceptDigit 8 = .ok (.ifCond .gt 11, 3) := td tX6_acceptDigit_0_ok 4 (q := (8, .ifCond .gt 11, 3)) rfl
theorem dX6_acceptDigit_11 : decode cX6_acceptDigit 11 = .ok (.aload_n 0, 1) := td tX6_acceptDigit_0_ok 5 (q := (11, .aload_n 0, 1)) rfl
theorem dX6_acceptDigit_12 : decode cX6_acceptDigit 12 = .ok (.getfield 11, 3) := td tX6_acceptDigit_0_ok 6 (q := (12, .getfield 11, 3)) rfl
theorem dX6_acceptDigit_15 : decode cX6_acceptDigit 15 = .ok (.iconst 2, 1) := td tX6_acceptDigit_0_ok 7 (q := (15, .iconst 2, 1)) rfl
theorem dX6_acceptDigit_16 : decode cX6_acceptDigit 16 = .ok (.if_icmp .eq 7, 3) := td tX6_acceptDigit_0_ok 8 (q := (16, .if_icmp .eq 7, 3)) rfl
theorem dX6_acceptDigit_19 : decode cX6_acceptDigit 19 = .ok (.iconst 1, 1) := td tX6_acceptDigit_0_ok 9 (q := (19, .iconst 1, 1)) rfl
theorem dX6_acceptDigit_20 : decode cX6_acceptDigit 20 = .ok (.goto 4, 3) := td tX6_acceptDigit_0_ok 10 (q := (20, .goto 4, 3)) rfl
theorem dX6_acceptDigit_23 : decode cX6_acceptDigit 23 = .ok (.iconst 0, 1) := td tX6_acceptDigit_0_ok 11 (q := (23, .iconst 0, 1)) rfl
theorem dX6_acceptDigit_24 : decode cX6_acceptDigit 24 = .ok (.istore_n 2, 1) := td tX6_acceptDigit_0_ok 12 (q := (24, .istore_n 2, 1)) rfl
theorem dX6_acceptDigit_25 : decode cX6_acceptDigit 25 = .ok (.goto 27, 3) := td tX6_acceptDigit_0_ok 13 (q := (25, .goto 27, 3)) rfl
theorem dX6_acceptDigit_28 : decode cX6_acceptDigit 28 = .ok (.aload_n 0, 1) := td tX6_acceptDigit_0_ok 14 (q := (28, .aload_n 0, 1)) rfl
theorem dX6_acceptDigit_29 : decode cX6_acceptDigit 29 = .ok (.getfield 15, 3) := td tX6_acceptDigit_0_ok 15 (q := (29, .getfield 15, 3)) rfl
theorem dX6_acceptDigit_32 : decode cX6_acceptDigit 32 = .ok (.ifCond .le 18, 3) := td tX6_acceptDigit_0_ok 16 (q := (32, .ifCond .le 18, 3)) rfl
theorem dX6_acceptDigit_35 : decode cX6_acceptDigit 35 = .ok (.aload_n 0, 1) := td tX6_acceptDigit_0_ok 17 (q := (35, .aload_n 0, 1)) rfl
theorem dX6_acceptDigit_36 : decode cX6_acceptDigit 36 = .ok (.getfield 18, 3) := td tX6_acceptDigit_0_ok 18 (q := (36, .getfield 18, 3)) rfl
theorem dX6_acceptDigit_39 : decode cX6_acceptDigit 39 = .ok (.aload_n 0, 1) := td tX6_acceptDigit_0_ok 19 (q := (39, .aload_n 0, 1)) rfl
theorem dX6_acceptDigit_40 : decode cX6_acceptDigit 40 = .ok (.invokevirtual 45, 3) := td tX6_acceptDigit_0_ok 20 (q := (40, .invokevirtual 45, 3)) rfl
theorem dX6_acceptDigit_43 : decode cX6_acceptDigit 43 = .ok (.if_icmp .ge 7, 3) := td tX6_acceptDigit_0_ok 21 (q := (43, .if_icmp .ge 7, 3)) rfl
theorem dX6_acceptDigit_46 : decode cX6_acceptDigit 46 = .ok (.iconst 1, 1) := td tX6_acceptDigit_0_ok 22 (q := (46, .iconst 1, 1)) rfl
theorem dX6_acceptDigit_47 : decode cX6_acceptDigit 47 = .ok (.goto 4, 3) := td tX6_acceptDigit_0_ok 23 (q := (47, .goto 4, 3)) rfl
theorem dX6_acceptDigit_50 : decode cX6_acceptDigit 50 = .ok (.iconst 0, 1) := td tX6_acceptDigit_0_ok 24 (q := (50, .iconst 0, 1)) rfl
theorem dX6_acceptDigit_51 : decode cX6_acceptDigit 51 = .ok (.istore_n 2, 1) := td tX6_acceptDigit_0_ok 25 (q := (51, .istore_n 2, 1)) rfl
theorem dX6_acceptDigit_52 : decode cX6_acceptDigit 52 = .ok (.iload_n 2, 1) := td tX6_acceptDigit_0_ok 26 (q := (52, .iload_n 2, 1)) rfl
theorem dX6_acceptDigit_53 : decode cX6_acceptDigit 53 = .ok (.ifCond .eq 26, 3) := td tX6_acceptDigit_0_ok 27 (q := (53, .ifCond .eq 26, 3)) rfl
theorem dX6_acceptDigit_56 : decode cX6_acceptDigit 56 = .ok (.aload_n 0, 1) := td tX6_acceptDigit_0_ok 28 (q := (56, .aload_n 0, 1)) rfl
theorem dX6_acceptDigit_57 : decode cX6_acceptDigit 57 = .ok (.aload_n 0, 1) := td tX6_acceptDigit_0_ok 29 (q := (57, .aload_n 0, 1)) rfl
theorem dX6_acceptDigit_58 : decode cX6_acceptDigit 58 = .ok (.getfield 15, 3) := td tX6_acceptDigit_0_ok 30 (q := (58, .getfield 15, 3)) rfl
theorem dX6_acceptDigit_61 : decode cX6_acceptDigit 61 = .ok (.bipush 10, 2) := td tX6_acceptDigit_0_ok 31 (q := (61, .bipush 10, 2)) rfl
theorem dX6_acceptDigit_63 : decode cX6_acceptDigit 63 = .ok (.imul, 1) := td tX6_acceptDigit_0_ok 32 (q := (63, .imul, 1)) rfl
theorem dX6_acceptDigit_64 : decode cX6_acceptDigit 64 = .ok (.iload_n 1, 1) := td tX6_acceptDigit_0_ok 33 (q := (64, .iload_n 1, 1)) rfl
theorem dX6_acceptDigit_65 : decode cX6_acceptDigit 65 = .ok (.iadd, 1) := td tX6_acceptDigit_0_ok 34 (q := (65, .iadd, 1)) rfl
theorem dX6_acceptDigit_66 : decode cX6_acceptDigit 66 = .ok (.putfield 15, 3) := td tX6_acceptDigit_0_ok 35 (q := (66, .putfield 15, 3)) rfl
theorem dX6_acceptDigit_69 : decode cX6_acceptDigit 69 = .ok (.aload_n 0, 1) := td tX6_acceptDigit_0_ok 36 (q := (69, .aload_n 0, 1)) rfl
theorem dX6_acceptDigit_70 : decode cX6_acceptDigit 70 = .ok (.dup, 1) := td tX6_acceptDigit_0_ok 37 (q := (70, .dup, 1)) rfl
theorem dX6_acceptDigit_71 : decode cX6_acceptDigit 71 = .ok (.getfield 18, 3) := td tX6_acceptDigit_0_ok 38 (q := (71, .getfield 18, 3)) rfl
theorem dX6_acceptDigit_74 : decode cX6_acceptDigit 74 = .ok (.iconst 1, 1) := td tX6_acceptDigit_0_ok 39 (q := (74, .iconst 1, 1)) rfl
theorem dX6_acceptDigit_75 : decode cX6_acceptDigit 75 = .ok (.iadd, 1) := td tX6_acceptDigit_0_ok 40 (q := (75, .iadd, 1)) rfl
theorem dX6_acceptDigit_76 : decode cX6_acceptDigit 76 = .ok (.putfield 18, 3) := td tX6_acceptDigit_0_ok 41 (q := (76, .putfield 18, 3)) rfl
theorem dX6_acceptDigit_79 : decode cX6_acceptDigit 79 = .ok (.iload_n 2, 1) := td tX6_acceptDigit_0_ok 42 (q := (79, .iload_n 2, 1)) rfl
theorem dX6_acceptDigit_80 : decode cX6_acceptDigit 80 = .ok (.ireturn, 1) := td tX6_acceptDigit_0_ok 43 (q := (80, .ireturn, 1)) rfl
def fX6_acceptDigit (kr0 : Int32) (kr1 : Int32) (kr2 : Int32) (x1 : Int32) : Option (Int32 × Int32 × Int32) :=
  (if kr2 = 0 then (if 0 < x1 then (some ((1 : Int32), (kr1 * (10 : Int32)) + x1, kr2 + (1 : Int32))) else (if kr0 = (2 : Int32) then (some ((0 : Int32), kr1, kr2)) else (some ((1 : Int32), (kr1 * (10 : Int32)) + x1, kr2 + (1 : Int32))))) else (if kr1 ≤ 0 then (some ((0 : Int32), kr1, kr2)) else (Option.bind (fX6_mostDigits kr0) (fun q3 => (if q3 ≤ kr2 then (some ((0 : Int32), kr1, kr2)) else (some ((1 : Int32), (kr1 * (10 : Int32)) + x1, kr2 + (1 : Int32))))))))
set_option maxHeartbeats 4000000 in
set_option maxRecDepth 100000 in
theorem mX6_acceptDigit {l : Launch} {D : va_G} {ad : Nat → Nat} {cI : ClassId} {kc : (Nat → Int32)} {ksv : (Nat → Int32)} {kbc : (Nat → Int32)} {kit : (Nat → Int32)} {kln : (Nat → Int32)} {ken : (Nat → Int32)} {kla : (Nat → Int32)} {kfi : (Nat → Int32)} {kea : (Nat → Int32)} {kns : Int32} {kbl : Int32} {kr0 : Int32} {kr1 : Int32} {kr2 : Int32} {kr3 : Int32} {kr4 : Int32} {kr5 : Int32} {klr : Int32} {kp0 : Int32} {kp1 : Int32} {kp2 : Int32} {kp3 : Int32} {x1 : Int32} {r : Int32} {kr1' : Int32} {kr2' : Int32} (hs : fX6_acceptDigit kr0 kr1 kr2 x1 = some (r, kr1', kr2')) : nd_C l yX6_acceptDigit cX6_acceptDigit 3 (some .boolean) 1 20 D [(cI, .int)] [.ref (ad 3), .int x1] (CW ad cI kc ksv kbc kit kln ken kla kfi kea kns kbl kr0 kr1 kr2 kr3 kr4 kr5 klr kp0 kp1 kp2 kp3) (CW ad cI kc ksv kbc kit kln ken kla kfi kea kns kbl kr0 kr1' kr2' kr3 kr4 kr5 klr kp0 kp1 kp2 kp3) (some (.int r)) := by
  refine nd_ofCz (by decide) (Nat.le_of_ble_eq_true rfl) (fun p e s m args below meth c_ ls A Q hx hb hml hown hts hl hP hK hD hS hA hN hret => ?_)
  have hown : s.vm.findClass RX6 = some m.cls := hown
  have hl : lv_has ls 3 [(0, .ref (ad 3)), (1, .int x1)] := hl
  have hret : ∀ (z0 : Int32) (z1 : Int32) (z2 : Int32) {H : Heap} {locs : List Loc} {pc : Nat} {ls : Array Slot}, some (z0, z1, z2) = some (r, kr1', kr2') → (z0 = 0 ∨ z0 = 1) → va_P D vwCl (CW ad cI kc ksv kbc kit kln ken kla kfi kea kns kbl kr0 z1 z2 kr3 kr4 kr5 klr kp0 kp1 kp2 kp3) H → va_S A s.heap H locs → decode cX6_acceptDigit pc = .ok (.ireturn, 1) → W p l e ⟨1, 0, 0, 20⟩ s m args below meth c_ H locs 0 0 Q (F0 m pc ls [.int z0]) := by
    intro z0 z1 z2 H locs pc ls h hz hP hS hd
    cases h
    exact hret hz hP hS hd
  rw [fX6_acceptDigit] at hs
  refine lv_aload_n hx hb dX6_acceptDigit_0 rfl (lv_at hl 0 rfl) ?_
  refine gf_X6_18 hx hb hts hown hK hP 3 rfl rfl dX6_acceptDigit_1 ?_
  refine lv_if_ne (tgt := 28) hx hb dX6_acceptDigit_4 (by decide) (fun b1 => ?_) (fun b1 => ?_)
  · have hs := ite_f hs b1
    refine lv_aload_n hx hb dX6_acceptDigit_28 rfl (lv_at hl 0 rfl) ?_
    refine gf_X6_15 hx hb hts hown hK hP 3 rfl rfl dX6_acceptDigit_29 ?_
    refine lv_if_le (tgt := 50) hx hb dX6_acceptDigit_32 (by decide) (fun b2 => ?_) (fun b2 => ?_)
    · have hs := ite_t hs b2
      refine lv_iconst (v := (0 : Int32)) hx hb dX6_acceptDigit_50 (by decide) ?_
      refine lv_istore_n (lv' := [(2, .int (0 : Int32)), (0, .ref (ad 3)), (1, .int x1)]) hx hb dX6_acceptDigit_51 rfl hl (by decide) rfl (fun ls hl => ?_)
      refine lv_iload_n hx hb dX6_acceptDigit_52 rfl (lv_at hl 0 rfl) ?_
      refine lv_if_eq (tgt := 79) hx hb dX6_acceptDigit_53 (by decide) (fun _ => ?_) (fun h => absurd (by decide) h)
      refine lv_iload_n hx hb dX6_acceptDigit_79 rfl (lv_at hl 0 rfl) ?_
      exact hret _ _ _ hs (Or.inl rfl) hP hS dX6_acceptDigit_80
    · have hs := ite_f hs b2
      refine lv_aload_n hx hb dX6_acceptDigit_35 rfl (lv_at hl 0 rfl) ?_
      refine gf_X6_18 hx hb hts hown hK hP 3 rfl rfl dX6_acceptDigit_36 ?_
      refine lv_aload_n hx hb dX6_acceptDigit_39 rfl (lv_at hl 0 rfl) ?_
      obtain ⟨q3, eq3, hs⟩ := ob hs
      refine nd_callV (As := []) (rest := [.int kr2]) (st1 := [.int q3, .int kr2]) hx hb hml hown hts hl hP hK hD hS hA hN (mX6_mostDigits eq3) iv_X6_mostDigits wd_193 3 rfl rfl rfl rfl ⟨Nat.le_of_ble_eq_true rfl, Nat.le_of_ble_eq_true rfl⟩ (Nat.le_of_ble_eq_true rfl) ⟨Nat.zero_le _, Nat.zero_le _⟩ dX6_acceptDigit_40 rfl rfl (fun H locs hP hD hS => ?_)
      refine lv_icmp_ge (tgt := 50) hx hb dX6_acceptDigit_43 (by decide) (fun b4 => ?_) (fun b4 => ?_)
      · have hs := ite_t hs b4
        refine lv_iconst (v := (0 : Int32)) hx hb dX6_acceptDigit_50 (by decide) ?_
        refine lv_istore_n (lv' := [(2, .int (0 : Int32)), (0, .ref (ad 3)), (1, .int x1)]) hx hb dX6_acceptDigit_51 rfl hl (by decide) rfl (fun ls hl => ?_)
        refine lv_iload_n hx hb dX6_acceptDigit_52 rfl (lv_at hl 0 rfl) ?_
        refine lv_if_eq (tgt := 79) hx hb dX6_acceptDigit_53 (by decide) (fun _ => ?_) (fun h => absurd (by decide) h)
        refine lv_iload_n hx hb dX6_acceptDigit_79 rfl (lv_at hl 0 rfl) ?_
        exact hret _ _ _ hs (Or.inl rfl) hP hS dX6_acceptDigit_80
      · have hs := ite_f hs b4
        refine lv_iconst (v := (1 : Int32)) hx hb dX6_acceptDigit_46 (by decide) ?_
        refine lv_goto (tgt := 51) hx hb dX6_acceptDigit_47 (by decide) ?_
        refine lv_istore_n (lv' := [(2, .int (1 : Int32)), (0, .ref (ad 3)), (1, .int x1)]) hx hb dX6_acceptDigit_51 rfl hl (by decide) rfl (fun ls hl => ?_)
        refine lv_iload_n hx hb dX6_acceptDigit_52 rfl (lv_at hl 0 rfl) ?_
        refine lv_if_eq (tgt := 79) hx hb dX6_acceptDigit_53 (by decide) (fun h => absurd h (by decide)) (fun _ => ?_)
        refine lv_aload_n hx hb dX6_acceptDigit_56 rfl (lv_at hl 1 rfl) ?_
        refine lv_aload_n hx hb dX6_acceptDigit_57 rfl (lv_at hl 1 rfl) ?_
        refine gf_X6_15 hx hb hts hown hK hP 3 rfl rfl dX6_acceptDigit_58 ?_
        refine lv_bipush (v := (10 : Int32)) hx hb dX6_acceptDigit_61 (by decide) ?_
        refine lv_imul hx hb dX6_acceptDigit_63 ?_
        refine lv_iload_n hx hb dX6_acceptDigit_64 rfl (lv_at hl 2 rfl) ?_
        refine lv_iadd hx hb dX6_acceptDigit_65 ?_
        refine pf_X6_15 hx hb hts hown hK hP hD hS 3 rfl rfl dX6_acceptDigit_66 (fun H locs hP hD hS => ?_)
        have hP : va_P D vwCl (CW ad cI kc ksv kbc kit kln ken kla kfi kea kns kbl kr0 ((kr1 * (10 : Int32)) + x1) kr2 kr3 kr4 kr5 klr kp0 kp1 kp2 kp3) H := hP
        have hD : va_D A (CW ad cI kc ksv kbc kit kln ken kla kfi kea kns kbl kr0 ((kr1 * (10 : Int32)) + x1) kr2 kr3 kr4 kr5 klr kp0 kp1 kp2 kp3) := hD
        refine lv_aload_n hx hb dX6_acceptDigit_69 rfl (lv_at hl 1 rfl) ?_
        refine lv_dup hx hb dX6_acceptDigit_70 rfl ?_
        refine gf_X6_18 hx hb hts hown hK hP 3 rfl rfl dX6_acceptDigit_71 ?_
        refine lv_iconst (v := (1 : Int32)) hx hb dX6_acceptDigit_74 (by decide) ?_
        refine lv_iadd hx hb dX6_acceptDigit_75 ?_
        refine pf_X6_18 hx hb hts hown hK hP hD hS 3 rfl rfl dX6_acceptDigit_76 (fun H locs hP hD hS => ?_)
        have hP : va_P D vwCl (CW ad cI kc ksv kbc kit kln ken kla kfi kea kns kbl kr0 ((kr1 * (10 : Int32)) + x1) (kr2 + (1 : Int32)) kr3 kr4 kr5 klr kp0 kp1 kp2 kp3) H := hP
        have hD : va_D A (CW ad cI kc ksv kbc kit kln ken kla kfi kea kns kbl kr0 ((kr1 * (10 : Int32)) + x1) (kr2 + (1 : Int32)) kr3 kr4 kr5 klr kp0 kp1 kp2 kp3) := hD
        refine lv_iload_n hx hb dX6_acceptDigit_79 rfl (lv_at hl 0 rfl) ?_
        exact hret _ _ _ hs (Or.inr rfl) hP hS dX6_acceptDigit_80
  · have hs := ite_t hs b1
    refine lv_iload_n hx hb dX6_acceptDigit_7 rfl (lv_at hl 1 rfl) ?_
    refine lv_if_gt (tgt := 19) hx hb dX6_acceptDigit_8 (by decide) (fun b5 => ?_) (fun b5 => ?_)
    · have hs := ite_t hs b5
      refine lv_iconst (v := (1 : Int32)) hx hb dX6_acceptDigit_19 (by decide) ?_
      refine lv_goto (tgt := 24) hx hb dX6_acceptDigit_20 (by decide) ?_
      refine lv_istore_n (lv' := [(2, .int (1 : Int32)), (0, .ref (ad 3)), (1, .int x1)]) hx hb dX6_acceptDigit_24 rfl hl (by decide) rfl (fun ls hl => ?_)
      refine lv_goto (tgt := 52) hx hb dX6_acceptDigit_25 (by decide) ?_
      refine lv_iload_n hx hb dX6_acceptDigit_52 rfl (lv_at hl 0 rfl) ?_
      refine lv_if_eq (tgt := 79) hx hb dX6_acceptDigit_53 (by decide) (fun h => absurd h (by decide)) (fun _ => ?_)
      refine lv_aload_n hx hb dX6_acceptDigit_56 rfl (lv_at hl 1 rfl) ?_
      refine lv_aload_n hx hb dX6_acceptDigit_57 rfl (lv_at hl 1 rfl) ?_
      refine gf_X6_15 hx hb hts hown hK hP 3 rfl rfl dX6_acceptDigit_58 ?_
      refine lv_bipush (v := (10 : Int32)) hx hb dX6_acceptDigit_61 (by decide) ?_
      refine lv_imul hx hb dX6_acceptDigit_63 ?_
      refine lv_iload_n hx hb dX6_acceptDigit_64 rfl (lv_at hl 2 rfl) ?_
      refine lv_iadd hx hb dX6_acceptDigit_65 ?_
      refine pf_X6_15 hx hb hts hown hK hP hD hS 3 rfl rfl dX6_acceptDigit_66 (fun H locs hP hD hS => ?_)
      have hP : va_P D vwCl (CW ad cI kc ksv kbc kit kln ken kla kfi kea kns kbl kr0 ((kr1 * (10 : Int32)) + x1) kr2 kr3 kr4 kr5 klr kp0 kp1 kp2 kp3) H := hP
      have hD : va_D A (CW ad cI kc ksv kbc kit kln ken kla kfi kea kns kbl kr0 ((kr1 * (10 : Int32)) + x1) kr2 kr3 kr4 kr5 klr kp0 kp1 kp2 kp3) := hD
      refine lv_aload_n hx hb dX6_acceptDigit_69 rfl (lv_at hl 1 rfl) ?_
      refine lv_dup hx hb dX6_acceptDigit_70 rfl ?_
      refine gf_X6_18 hx hb hts hown hK hP 3 rfl rfl dX6_acceptDigit_71 ?_
      refine lv_iconst (v := (1 : Int32)) hx hb dX6_acceptDigit_74 (by decide) ?_
      refine lv_iadd hx hb dX6_acceptDigit_75 ?_
      refine pf_X6_18 hx hb hts hown hK hP hD hS 3 rfl rfl dX6_acceptDigit_76 (fun H locs hP hD hS => ?_)
      have hP : va_P D vwCl (CW ad cI kc ksv kbc kit kln ken kla kfi kea kns kbl kr0 ((kr1 * (10 : Int32)) + x1) (kr2 + (1 : Int32)) kr3 kr4 kr5 klr kp0 kp1 kp2 kp3) H := hP
      have hD : va_D A (CW ad cI kc ksv kbc kit kln ken kla kfi kea kns kbl kr0 ((kr1 * (10 : Int32)) + x1) (kr2 + (1 : Int32)) kr3 kr4 kr5 klr kp0 kp1 kp2 kp3) := hD
      refine lv_iload_n hx hb dX6_acceptDigit_79 rfl (lv_at hl 0 rfl) ?_
      exact hret _ _ _ hs (Or.inr rfl) hP hS dX6_acceptDigit_80
    · have hs := ite_f hs b5
      refine lv_aload_n hx hb dX6_acceptDigit_11 rfl (lv_at hl 0 rfl) ?_
      refine gf_X6_11 hx hb hts hown hK hP 3 rfl rfl dX6_acceptDigit_12 ?_
      refine lv_iconst (v := (2 : Int32)) hx hb dX6_acceptDigit_15 (by decide) ?_
      refine lv_icmp_eq (tgt := 23) hx hb dX6_acceptDigit_16 (by decide) (fun b6 => ?_) (fun b6 => ?_)
      · have hs := ite_t hs b6
        refine lv_iconst (v := (0 : Int32)) hx hb dX6_acceptDigit_23 (by decide) ?_
        refine lv_istore_n (lv' := [(2, .int (0 : Int32)), (0, .ref (ad 3)), (1, .int x1)]) hx hb dX6_acceptDigit_24 rfl hl (by decide) rfl (fun ls hl => ?_)
        refine lv_goto (tgt := 52) hx hb dX6_acceptDigit_25 (by decide) ?_
        refine lv_iload_n hx hb dX6_acceptDigit_52 rfl (lv_at hl 0 rfl) ?_
        refine lv_if_eq (tgt := 79) hx hb dX6_acceptDigit_53 (by decide) (fun _ => ?_) (fun h => absurd (by decide) h)
        refine lv_iload_n hx hb dX6_acceptDigit_79 rfl (lv_at hl 0 rfl) ?_
        exact hret _ _ _ hs (Or.inl rfl) hP hS dX6_acceptDigit_80
      · have hs := ite_f hs b6
        refine lv_iconst (v := (1 : Int32)) hx hb dX6_acceptDigit_19 (by decide) ?_
        refine lv_goto (tgt := 24) hx hb dX6_acceptDigit_20 (by decide) ?_
        refine lv_istore_n (lv' := [(2, .int (1 : Int32)), (0, .ref (ad 3)), (1, .int x1)]) hx hb dX6_acceptDigit_24 rfl hl (by decide) rfl (fun ls hl => ?_)
        refine lv_goto (tgt := 52) hx hb dX6_acceptDigit_25 (by decide) ?_
        refine lv_iload_n hx hb dX6_acceptDigit_52 rfl (lv_at hl 0 rfl) ?_
        refine lv_if_eq (tgt := 79) hx hb dX6_acceptDigit_53 (by decide) (fun h => absurd h (by decide)) (fun _ => ?_)
        refine lv_aload_n hx hb dX6_acceptDigit_56 rfl (lv_at hl 1 rfl) ?_
        refine lv_aload_n hx hb dX6_acceptDigit_57 rfl (lv_at hl 1 rfl) ?_
        refine gf_X6_15 hx hb hts hown hK hP 3 rfl rfl dX6_acceptDigit_58 ?_
        refine lv_bipush (v := (10 : Int32)) hx hb dX6_acceptDigit_61 (by decide) ?_
        refine lv_imul hx hb dX6_acceptDigit_63 ?_
        refine lv_iload_n hx hb dX6_acceptDigit_64 rfl (lv_at hl 2 rfl) ?_
        refine lv_iadd hx hb dX6_acceptDigit_65 ?_
        refine pf_X6_15 hx hb hts hown hK hP hD hS 3 rfl rfl dX6_acceptDigit_66 (fun H locs hP hD hS => ?_)
        have hP : va_P D vwCl (CW ad cI kc ksv kbc kit kln ken kla kfi kea kns kbl kr0 ((kr1 * (10 : Int32)) + x1) kr2 kr3 kr4 kr5 klr kp0 kp1 kp2 kp3) H := hP
        have hD : va_D A (CW ad cI kc ksv kbc kit kln ken kla kfi kea kns kbl kr0 ((kr1 * (10 : Int32)) + x1) kr2 kr3 kr4 kr5 klr kp0 kp1 kp2 kp3) := hD
        refine lv_aload_n hx hb dX6_acceptDigit_69 rfl (lv_at hl 1 rfl) ?_
        refine lv_dup hx hb dX6_acceptDigit_70 rfl ?_
        refine gf_X6_18 hx hb hts hown hK hP 3 rfl rfl dX6_acceptDigit_71 ?_
        refine lv_iconst (v := (1 : Int32)) hx hb dX6_acceptDigit_74 (by decide) ?_
        refine lv_iadd hx hb dX6_acceptDigit_75 ?_
        refine pf_X6_18 hx hb hts hown hK hP hD hS 3 rfl rfl dX6_acceptDigit_76 (fun H locs hP hD hS => ?_)
        have hP : va_P D vwCl (CW ad cI kc ksv kbc kit kln ken kla kfi kea kns kbl kr0 ((kr1 * (10 : Int32)) + x1) (kr2 + (1 : Int32)) kr3 kr4 kr5 klr kp0 kp1 kp2 kp3) H := hP
        have hD : va_D A (CW ad cI kc ksv kbc kit kln ken kla kfi kea kns kbl kr0 ((kr1 * (10 : Int32)) + x1) (kr2 + (1 : Int32)) kr3 kr4 kr5 klr kp0 kp1 kp2 kp3) := hD
        refine lv_iload_n hx hb dX6_acceptDigit_79 rfl (lv_at hl 0 rfl) ?_
        exact hret _ _ _ hs (Or.inr rfl) hP hS dX6_acceptDigit_80
def tX6_endItem_0 : List (Nat × Instr × Nat) := [(0, .aload_n 0, 1), (1, .getfield 27, 3), (4, .ifCond .lt 34, 3), (7, .aload_n 0, 1), (8, .getfield 27, 3), (11, .iconst 4, 1), (12, .if_icmp .ge 26, 3), (15, .aload_n 0, 1), (16, .getfield 30, 3), (19, .aload_n 0, 1), (20, .getfield 27, 3), (23, .aload_n 0, 1), (24, .getfield 15, 3), (27, .iastore, 1), (28, .aload_n 0, 1), (29, .dup, 1), (30, .getfield 27, 3), (33, .iconst 1, 1), (34, .iadd, 1), (35, .putfield 27, 3), (38, .aload_n 0, 1), (39, .iload_n 1, 1), (40, .invokevirtual 34, 3), (43, .iconst 1, 1), (44, .ireturn, 1)]
theorem tX6_endItem_0_ok : tX6_endItem_0.all (fun q => decide (decode cX6_endItem q.1 = .ok q.2)) = true := by decide +kernel
theorem dX6_endItem_0 : decode cX6_endItem 0 = .ok (.aload_n 0, 1) := td tX6_endItem_0_ok 0 (q := (0, .aload_n 0, 1)) rfl
theorem dX6_endItem_1 : decode cX6_endItem 1 = .ok (.getfield 27, 3) := td tX6_endItem_0_ok 1 (q := (1, .getfield 27, 3)) rfl
theorem dX6_endItem_4 : decode cX6_endItem 4 = .ok (.ifCond .lt 34, 3) := td tX6_endItem_0_ok 2 (q := (4, .ifCond .lt 34, 3)) rfl
theorem dX6_endItem_7 : decode cX6_endItem 7 = .ok (.aload_n 0, 1) := td tX6_endItem_0_ok 3 (q := (7, .aload_n 0, 1)) rfl
theorem dX6_endItem_8 : decode cX6_endItem 8 = .ok (.getfield 27, 3) := td tX6_endItem_0_ok 4 (q := (8, .getfield 27, 3)) rfl
theorem dX6_endItem_11 : decode cX6_endItem 11 = .ok (.iconst 4, 1) := td tX6_endItem_0_ok 5 (q := (11, .iconst 4, 1)) rfl
theorem dX6_endItem_12 : decode cX6_endItem 12 = .ok (.if_icmp .ge 26, 3) := td tX6_endItem_0_ok 6 (q := (12, .if_icmp .ge 26, 3)) rfl
theorem dX6_endItem_15 : decode cX6_endItem 15 = .ok (.aload_n 0, 1) := td tX6_endItem_0_ok 7 (q := (15, .aload_n 0, 1)) rfl
theorem dX6_endItem_16 : decode cX6_endItem 16 = .ok (.getfield 30, 3) := td tX6_endItem_0_ok 8 (q := (16, .getfield 30, 3)) rfl
theorem dX6_endItem_19 : decode cX6_endItem 19 = .ok (.aload_n 0, 1) := td tX6_endItem_0_ok 9 (q := (19, .aload_n 0, 1)) rfl
theorem dX6_endItem_20 : decode cX6_endItem 20 = .ok (.getfield 27, 3) := td tX6_endItem_0_ok 10 (q := (20, .getfield 27, 3)) rfl
theorem dX6_endItem_23 : decode cX6_endItem 23 = .ok (.aload_n 0, 1) := td tX6_endItem_0_ok 11 (q := (23, .aload_n 0, 1)) rfl
theorem dX6_endItem_24 : decode cX6_endItem 24 = .ok (.getfield 15, 3) := td tX6_endItem_0_ok 12 (q := (24, .getfield 15, 3)) rfl
theorem dX6_endItem_27 : decode cX6_endItem 27 = .ok (.iastore, 1) := td tX6_endItem_0_ok 13 (q := (27, .iastore, 1)) rfl
theorem dX6_endItem_28 : decode cX6_endItem 28 = .ok (.aload_n 0, 1) := td tX6_endItem_0_ok 14 (q := (28, .aload_n 0, 1)) rfl
theorem dX6_endItem_29 : decode cX6_endItem 29 = .ok (.dup, 1) := td tX6_endItem_0_ok 15 (q := (29, .dup, 1)) rfl
theorem dX6_endItem_30 : decode cX6_endItem 30 = .ok (.getfield 27, 3) := td tX6_endItem_0_ok 16 (q := (30, .getfield 27, 3)) rfl
theorem dX6_endItem_33 : decode cX6_endItem 33 = .ok (.iconst 1, 1) := td tX6_endItem_0_ok 17 (q := (33, .iconst 1, 1)) rfl
theorem dX6_endItem_34 : decode cX6_endItem 34 = .ok (.iadd, 1) := td tX6_endItem_0_ok 18 (q := (34, .iadd, 1)) rfl
theorem dX6_endItem_35 : decode cX6_endItem 35 = .ok (.putfield 27, 3) := td tX6_endItem_0_ok 19 (q := (35, .putfield 27, 3)) rfl
theorem dX6_endItem_38 : decode cX6_endItem 38 = .ok (.aload_n 0, 1) := td tX6_endItem_0_ok 20 (q := (38, .aload_n 0, 1)) rfl
theorem dX6_endItem_39 : decode cX6_endItem 39 = .ok (.iload_n 1, 1) := td tX6_endItem_0_ok 21 (q := (39, .iload_n 1, 1)) rfl
theorem dX6_endItem_40 : decode cX6_endItem 40 = .ok (.invokevirtual 34, 3) := td tX6_endItem_0_ok 22 (q := (40, .invokevirtual 34, 3)) rfl
theorem dX6_endItem_43 : decode cX6_endItem 43 = .ok (.iconst 1, 1) := td tX6_endItem_0_ok 23 (q := (43, .iconst 1, 1)) rfl
theorem dX6_endItem_44 : decode cX6_endItem 44 = .ok (.ireturn, 1) := td tX6_endItem_0_ok 24 (q := (44, .ireturn, 1)) rfl
def fX6_endItem (kit : (Nat → Int32)) (kr0 : Int32) (kr1 : Int32) (kr2 : Int32) (kr5 : Int32) (x1 : Int32) : Option (Int32 × (Nat → Int32) × Int32 × Int32 × Int32 × Int32) :=
  (if kr5 < 0 then (Option.bind (fX6_begin kr0 kr1 kr2 x1) (fun q2 => (some ((1 : Int32), kit, q2.1, q2.2.1, q2.2.2, kr5)))) else (if (4 : Int32) ≤ kr5 then (Option.bind (fX6_begin kr0 kr1 kr2 x1) (fun q4 => (some ((1 : Int32), kit, q4.1, q4.2.1, q4.2.2, kr5)))) else (Option.bind (aput kit 4 kr5 kr1) (fun c5 => (Option.bind (fX6_begin kr0 kr1 kr2 x1) (fun q6 => (some ((1 : Int32), c5, q6.1, q6.2.1, q6.2.2, kr5 + (1 : Int32)))))))))
set_option maxHeartbeats 4000000 in
set_option maxRecDepth 100000 in
theorem mX6_endItem {l : Launch} {D : va_G} {ad : Nat → Nat} {cI : ClassId} {kc : (Nat → Int32)} {ksv : (Nat → Int32)} {kbc : (Nat → Int32)} {kit : (Nat → Int32)} {kln : (Nat → Int32)} {ken : (Nat → Int32)} {kla : (Nat → Int32)} {kfi : (Nat → Int32)} {kea : (Nat → Int32)} {kns : Int32} {kbl : Int32} {kr0 : Int32} {kr1 : Int32} {kr2 : Int32} {kr3 : Int32} {kr4 : Int32} {kr5 : Int32} {klr : Int32} {kp0 : Int32} {kp1 : Int32} {kp2 : Int32} {kp3 : Int32} {x1 : Int32} {r : Int32} {kit' : (Nat → Int32)} {kr0' : Int32} {kr1' : Int32} {kr2' : Int32} {kr5' : Int32} (hs : fX6_endItem kit kr0 kr1 kr2 kr5 x1 = some (r, kit', kr0', kr1', kr2', kr5')) : nd_C l yX6_endItem cX6_endItem 2 (some .boolean) 1 21 D [(cI, .int)] [.ref (ad 3), .int x1] (CW ad cI kc ksv kbc kit kln ken kla kfi kea kns kbl kr0 kr1 kr2 kr3 kr4 kr5 klr kp0 kp1 kp2 kp3) (CW ad cI kc ksv kbc kit' kln ken kla kfi kea kns kbl kr0' kr1' kr2' kr3 kr4 kr5' klr kp0 kp1 kp2 kp3) (some (.int r)) := by
  refine nd_ofCz (by decide) (Nat.le_of_ble_eq_true rfl) (fun p e s m args below meth c_ ls A Q hx hb hml hown hts hl hP hK hD hS hA hN hret => ?_)
  have hown : s.vm.findClass RX6 = some m.cls := hown
  have hl : lv_has ls 2 [(0, .ref (ad 3)), (1, .int x1)] := hl
  have hret : ∀ (z0 : Int32) (z1 : (Nat → Int32)) (z2 : Int32) (z3 : Int32) (z4 : Int32) (z5 : Int32) {H : Heap} {locs : List Loc} {pc : Nat} {ls : Array Slot}, some (z0, z1, z2, z3, z4, z5) = some (r, kit', kr0', kr1', kr2', kr5') → (z0 = 0 ∨ z0 = 1) → va_P D vwCl (CW ad cI kc ksv kbc z1 kln ken kla kfi kea kns kbl z2 z3 z4 kr3 kr4 z5 klr kp0 kp1 kp2 kp3) H → va_S A s.heap H locs → decode cX6_endItem pc = .ok (.ireturn, 1) → W p l e ⟨1, 0, 0, 21⟩ s m args below meth c_ H locs 0 0 Q (F0 m pc ls [.int z0]) := by
    intro z0 z1 z2 z3 z4 z5 H locs pc ls h hz hP hS hd
    cases h
    exact hret hz hP hS hd
  rw [fX6_endItem] at hs
  refine lv_aload_n hx hb dX6_endItem_0 rfl (lv_at hl 0 rfl) ?_
  refine gf_X6_27 hx hb hts hown hK hP 3 rfl rfl dX6_endItem_1 ?_
  refine lv_if_lt (tgt := 38) hx hb dX6_endItem_4 (by decide) (fun b1 => ?_) (fun b1 => ?_)
  · have hs := ite_t hs b1
    refine lv_aload_n hx hb dX6_endItem_38 rfl (lv_at hl 0 rfl) ?_
    refine lv_iload_n hx hb dX6_endItem_39 rfl (lv_at hl 1 rfl) ?_
    obtain ⟨q2, eq2, hs⟩ := ob hs
    refine nd_callV (As := [.int x1]) (rest := []) (st1 := []) hx hb hml hown hts hl hP hK hD hS hA hN (mX6_begin eq2) iv_X6_begin wd_173 3 rfl rfl rfl rfl ⟨Nat.le_of_ble_eq_true rfl, Nat.le_of_ble_eq_true rfl⟩ (Nat.le_of_ble_eq_true rfl) ⟨Nat.zero_le _, Nat.zero_le _⟩ dX6_endItem_40 rfl rfl (fun H locs hP hD hS => ?_)
    refine lv_iconst (v := (1 : Int32)) hx hb dX6_endItem_43 (by decide) ?_
    exact hret _ _ _ _ _ _ hs (Or.inr rfl) hP hS dX6_endItem_44
  · have hs := ite_f hs b1
    refine lv_aload_n hx hb dX6_endItem_7 rfl (lv_at hl 0 rfl) ?_
    refine gf_X6_27 hx hb hts hown hK hP 3 rfl rfl dX6_endItem_8 ?_
    refine lv_iconst (v := (4 : Int32)) hx hb dX6_endItem_11 (by decide) ?_
    refine lv_icmp_ge (tgt := 38) hx hb dX6_endItem_12 (by decide) (fun b3 => ?_) (fun b3 => ?_)
    · have hs := ite_t hs b3
      refine lv_aload_n hx hb dX6_endItem_38 rfl (lv_at hl 0 rfl) ?_
      refine lv_iload_n hx hb dX6_endItem_39 rfl (lv_at hl 1 rfl) ?_
      obtain ⟨q4, eq4, hs⟩ := ob hs
      refine nd_callV (As := [.int x1]) (rest := []) (st1 := []) hx hb hml hown hts hl hP hK hD hS hA hN (mX6_begin eq4) iv_X6_begin wd_173 3 rfl rfl rfl rfl ⟨Nat.le_of_ble_eq_true rfl, Nat.le_of_ble_eq_true rfl⟩ (Nat.le_of_ble_eq_true rfl) ⟨Nat.zero_le _, Nat.zero_le _⟩ dX6_endItem_40 rfl rfl (fun H locs hP hD hS => ?_)
      refine lv_iconst (v := (1 : Int32)) hx hb dX6_endItem_43 (by decide) ?_
      exact hret _ _ _ _ _ _ hs (Or.inr rfl) hP hS dX6_endItem_44
    · have hs := ite_f hs b3
      refine lv_aload_n hx hb dX6_endItem_15 rfl (lv_at hl 0 rfl) ?_
      refine gf_X6_30 hx hb hts hown hK hP 3 rfl rfl dX6_endItem_16 ?_
      refine lv_aload_n hx hb dX6_endItem_19 rfl (lv_at hl 0 rfl) ?_
      refine gf_X6_27 hx hb hts hown hK hP 3 rfl rfl dX6_endItem_20 ?_
      refine lv_aload_n hx hb dX6_endItem_23 rfl (lv_at hl 0 rfl) ?_
      refine gf_X6_15 hx hb hts hown hK hP 3 rfl rfl dX6_endItem_24 ?_
      obtain ⟨c5, ec5, hs⟩ := ob hs
      refine nd_iast hx hb hK hP hD hS 9 0 rfl rfl ec5 dX6_endItem_27 (fun H locs hP hD hS => ?_)
      have hP : va_P D vwCl (CW ad cI kc ksv kbc c5 kln ken kla kfi kea kns kbl kr0 kr1 kr2 kr3 kr4 kr5 klr kp0 kp1 kp2 kp3) H := hP
      have hD : va_D A (CW ad cI kc ksv kbc c5 kln ken kla kfi kea kns kbl kr0 kr1 kr2 kr3 kr4 kr5 klr kp0 kp1 kp2 kp3) := hD
      refine lv_aload_n hx hb dX6_endItem_28 rfl (lv_at hl 0 rfl) ?_
      refine lv_dup hx hb dX6_endItem_29 rfl ?_
      refine gf_X6_27 hx hb hts hown hK hP 3 rfl rfl dX6_endItem_30 ?_
      refine lv_iconst (v := (1 : Int32)) hx hb dX6_endItem_33 (by decide) ?_
      refine lv_iadd hx hb dX6_endItem_34 ?_
      refine pf_X6_27 hx hb hts hown hK hP hD hS 3 rfl rfl dX6_endItem_35 (fun H locs hP hD hS => ?_)
      have hP : va_P D vwCl (CW ad cI kc ksv kbc c5 kln ken kla kfi kea kns kbl kr0 kr1 kr2 kr3 kr4 (kr5 + (1 : Int32)) klr kp0 kp1 kp2 kp3) H := hP
      have hD : va_D A (CW ad cI kc ksv kbc c5 kln ken kla kfi kea kns kbl kr0 kr1 kr2 kr3 kr4 (kr5 + (1 : Int32)) klr kp0 kp1 kp2 kp3) := hD
      refine lv_aload_n hx hb dX6_endItem_38 rfl (lv_at hl 0 rfl) ?_
      refine lv_iload_n hx hb dX6_endItem_39 rfl (lv_at hl 1 rfl) ?_
      obtain ⟨q6, eq6, hs⟩ := ob hs
      refine nd_callV (As := [.int x1]) (rest := []) (st1 := []) hx hb hml hown hts hl hP hK hD hS hA hN (mX6_begin eq6) iv_X6_begin wd_173 3 rfl rfl rfl rfl ⟨Nat.le_of_ble_eq_true rfl, Nat.le_of_ble_eq_true rfl⟩ (Nat.le_of_ble_eq_true rfl) ⟨Nat.zero_le _, Nat.zero_le _⟩ dX6_endItem_40 rfl rfl (fun H locs hP hD hS => ?_)
      refine lv_iconst (v := (1 : Int32)) hx hb dX6_endItem_43 (by decide) ?_
      exact hret _ _ _ _ _ _ hs (Or.inr rfl) hP hS dX6_endItem_44
def tX6_endShop_0 : List (Nat × Instr × Nat) := [(0, .aload_n 0, 1), (1, .aload_n 0, 1), (2, .getfield 15, 3), (5, .putfield 24, 3), (8, .aload_n 0, 1), (9, .iconst 2, 1), (10, .invokevirtual 34, 3), (13, .iconst 1, 1), (14, .ireturn, 1)]
theorem tX6_endShop_0_ok : tX6_endShop_0.all (fun q => decide (decode cX6_endShop q.1 = .ok q.2)) = true := by decide +kernel
theorem dX6_endShop_0 : decode cX6_endShop 0 = .ok (.aload_n 0, 1) := td tX6_endShop_0_ok 0 (q := (0, .aload_n 0, 1)) rfl
theorem dX6_endShop_1 : decode cX6_endShop 1 = .ok (.aload_n 0, 1) := td tX6_endShop_0_ok 1 (q := (1, .aload_n 0, 1)) rfl
theorem dX6_endShop_2 : decode cX6_endShop 2 = .ok (.getfield 15, 3) := td tX6_endShop_0_ok 2 (q := (2, .getfield 15, 3)) rfl
theorem dX6_endShop_5 : decode cX6_endShop 5 = .ok (.putfield 24, 3) := td tX6_endShop_0_ok 3 (q := (5, .putfield 24, 3)) rfl
theorem dX6_endShop_8 : decode cX6_endShop 8 = .ok (.aload_n 0, 1) := td tX6_endShop_0_ok 4 (q := (8, .aload_n 0, 1)) rfl
theorem dX6_endShop_9 : decode cX6_endShop 9 = .ok (.iconst 2, 1) := td tX6_endShop_0_ok 5 (q := (9, .iconst 2, 1)) rfl
theorem dX6_endShop_10 : decode cX6_endShop 10 = .ok (.invokevirtual 34, 3) := td tX6_endShop_0_ok 6 (q := (10, .invokevirtual 34, 3)) rfl
theorem dX6_endShop_13 : decode cX6_endShop 13 = .ok (.iconst 1, 1) := td tX6_endShop_0_ok 7 (q := (13, .iconst 1, 1)) rfl
theorem dX6_endShop_14 : decode cX6_endShop 14 = .ok (.ireturn, 1) := td tX6_endShop_0_ok 8 (q := (14, .ireturn, 1)) rfl
def fX6_endShop (kr0 : Int32) (kr1 : Int32) (kr2 : Int32) (kr4 : Int32) : Option (Int32 × Int32 × Int32 × Int32 × Int32) :=
  (Option.bind (fX6_begin kr0 kr1 kr2 (2 : Int32)) (fun q1 => (some ((1 : Int32), q1.1, q1.2.1, q1.2.2, kr1))))
set_option maxHeartbeats 4000000 in
set_option maxRecDepth 100000 in
theorem mX6_endShop {l : Launch} {D : va_G} {ad : Nat → Nat} {cI : ClassId} {kc : (Nat → Int32)} {ksv : (Nat → Int32)} {kbc : (Nat → Int32)} {kit : (Nat → Int32)} {kln : (Nat → Int32)} {ken : (Nat → Int32)} {kla : (Nat → Int32)} {kfi : (Nat → Int32)} {kea : (Nat → Int32)} {kns : Int32} {kbl : Int32} {kr0 : Int32} {kr1 : Int32} {kr2 : Int32} {kr3 : Int32} {kr4 : Int32} {kr5 : Int32} {klr : Int32} {kp0 : Int32} {kp1 : Int32} {kp2 : Int32} {kp3 : Int32} {r : Int32} {kr0' : Int32} {kr1' : Int32} {kr2' : Int32} {kr4' : Int32} (hs : fX6_endShop kr0 kr1 kr2 kr4 = some (r, kr0', kr1', kr2', kr4')) : nd_C l yX6_endShop cX6_endShop 1 (some .boolean) 1 21 D [(cI, .int)] [.ref (ad 3)] (CW ad cI kc ksv kbc kit kln ken kla kfi kea kns kbl kr0 kr1 kr2 kr3 kr4 kr5 klr kp0 kp1 kp2 kp3) (CW ad cI kc ksv kbc kit kln ken kla kfi kea kns kbl kr0' kr1' kr2' kr3 kr4' kr5 klr kp0 kp1 kp2 kp3) (some (.int r)) := by
  refine nd_ofCz (by decide) (Nat.le_of_ble_eq_true rfl) (fun p e s m args below meth c_ ls A Q hx hb hml hown hts hl hP hK hD hS hA hN hret => ?_)
  have hown : s.vm.findClass RX6 = some m.cls := hown
  have hl : lv_has ls 1 [(0, .ref (ad 3))] := hl
  have hret : ∀ (z0 : Int32) (z1 : Int32) (z2 : Int32) (z3 : Int32) (z4 : Int32) {H : Heap} {locs : List Loc} {pc : Nat} {ls : Array Slot}, some (z0, z1, z2, z3, z4) = some (r, kr0', kr1', kr2', kr4') → (z0 = 0 ∨ z0 = 1) → va_P D vwCl (CW ad cI kc ksv kbc kit kln ken kla kfi kea kns kbl z1 z2 z3 kr3 z4 kr5 klr kp0 kp1 kp2 kp3) H → va_S A s.heap H locs → decode cX6_endShop pc = .ok (.ireturn, 1) → W p l e ⟨1, 0, 0, 21⟩ s m args below meth c_ H locs 0 0 Q (F0 m pc ls [.int z0]) := by
    intro z0 z1 z2 z3 z4 H locs pc ls h hz hP hS hd
    cases h
    exact hret hz hP hS hd
  rw [fX6_endShop] at hs
  refine lv_aload_n hx hb dX6_endShop_0 rfl (lv_at hl 0 rfl) ?_
  refine lv_aload_n hx hb dX6_endShop_1 rfl (lv_at hl 0 rfl) ?_
  refine gf_X6_15 hx hb hts hown hK hP 3 rfl rfl dX6_endShop_2 ?_
  refine pf_X6_24 hx hb hts hown hK hP hD hS 3 rfl rfl dX6_endShop_5 (fun H locs hP hD hS => ?_)
  have hP : va_P D vwCl (CW ad cI kc ksv kbc kit kln ken kla kfi kea kns kbl kr0 kr1 kr2 kr3 kr1 kr5 klr kp0 kp1 kp2 kp3) H := hP
  have hD : va_D A (CW ad cI kc ksv kbc kit kln ken kla kfi kea kns kbl kr0 kr1 kr2 kr3 kr1 kr5 klr kp0 kp1 kp2 kp3) := hD
  refine lv_aload_n hx hb dX6_endShop_8 rfl (lv_at hl 0 rfl) ?_
  refine lv_iconst (v := (2 : Int32)) hx hb dX6_endShop_9 (by decide) ?_
  obtain ⟨q1, eq1, hs⟩ := ob hs
  refine nd_callV (As := [.int (2 : Int32)]) (rest := []) (st1 := []) hx hb hml hown hts hl hP hK hD hS hA hN (mX6_begin eq1) iv_X6_begin wd_173 3 rfl rfl rfl rfl ⟨Nat.le_of_ble_eq_true rfl, Nat.le_of_ble_eq_true rfl⟩ (Nat.le_of_ble_eq_true rfl) ⟨Nat.zero_le _, Nat.zero_le _⟩ dX6_endShop_10 rfl rfl (fun H locs hP hD hS => ?_)
  refine lv_iconst (v := (1 : Int32)) hx hb dX6_endShop_13 (by decide) ?_
  exact hret _ _ _ _ _ hs (Or.inr rfl) hP hS dX6_endShop_14
def tX6_endTime_0 : List (Nat × Instr × Nat) := [(0, .aload_n 0, 1), (1, .aload_n 0, 1), (2, .getfield 15, 3), (5, .putfield 21, 3), (8, .aload_n 0, 1), (9, .iconst 1, 1), (10, .invokevirtual 34, 3), (13, .iconst 1, 1), (14, .ireturn, 1)]
theorem tX6_endTime_0_ok : tX6_endTime_0.all (fun q => decide (decode cX6_endTime q.1 = .ok q.2)) = true := by decide +kernel
theorem dX6_endTime_0 : decode cX6_endTime 0 = .ok (.aload_n 0, 1) := td tX6_endTime_0_ok 0 (q := (0, .aload_n 0, 1)) rfl
theorem dX6_endTime_1 : decode cX6_endTime 1 = .ok (.aload_n 0, 1) := td tX6_endTime_0_ok 1 (q := (1, .aload_n 0, 1)) rfl
theorem dX6_endTime_2 : decode cX6_endTime 2 = .ok (.getfield 15, 3) := td tX6_endTime_0_ok 2 (q := (2, .getfield 15, 3)) rfl
theorem dX6_endTime_5 : decode cX6_endTime 5 = .ok (.putfield 21, 3) := td tX6_endTime_0_ok 3 (q := (5, .putfield 21, 3)) rfl
theorem dX6_endTime_8 : decode cX6_endTime 8 = .ok (.aload_n 0, 1) := td tX6_endTime_0_ok 4 (q := (8, .aload_n 0, 1)) rfl
theorem dX6_endTime_9 : decode cX6_endTime 9 = .ok (.iconst 1, 1) := td tX6_endTime_0_ok 5 (q := (9, .iconst 1, 1)) rfl
theorem dX6_endTime_10 : decode cX6_endTime 10 = .ok (.invokevirtual 34, 3) := td tX6_endTime_0_ok 6 (q := (10, .invokevirtual 34, 3)) rfl
theorem dX6_endTime_13 : decode cX6_endTime 13 = .ok (.iconst 1, 1) := td tX6_endTime_0_ok 7 (q := (13, .iconst 1, 1)) rfl
theorem dX6_endTime_14 : decode cX6_endTime 14 = .ok (.ireturn, 1) := td tX6_endTime_0_ok 8 (q := (14, .ireturn, 1)) rfl
def fX6_endTime (kr0 : Int32) (kr1 : Int32) (kr2 : Int32) (kr3 : Int32) : Option (Int32 × Int32 × Int32 × Int32 × Int32) :=
  (Option.bind (fX6_begin kr0 kr1 kr2 (1 : Int32)) (fun q1 => (some ((1 : Int32), q1.1, q1.2.1, q1.2.2, kr1))))
set_option maxHeartbeats 4000000 in
set_option maxRecDepth 100000 in
theorem mX6_endTime {l : Launch} {D : va_G} {ad : Nat → Nat} {cI : ClassId} {kc : (Nat → Int32)} {ksv : (Nat → Int32)} {kbc : (Nat → Int32)} {kit : (Nat → Int32)} {kln : (Nat → Int32)} {ken : (Nat → Int32)} {kla : (Nat → Int32)} {kfi : (Nat → Int32)} {kea : (Nat → Int32)} {kns : Int32} {kbl : Int32} {kr0 : Int32} {kr1 : Int32} {kr2 : Int32} {kr3 : Int32} {kr4 : Int32} {kr5 : Int32} {klr : Int32} {kp0 : Int32} {kp1 : Int32} {kp2 : Int32} {kp3 : Int32} {r : Int32} {kr0' : Int32} {kr1' : Int32} {kr2' : Int32} {kr3' : Int32} (hs : fX6_endTime kr0 kr1 kr2 kr3 = some (r, kr0', kr1', kr2', kr3')) : nd_C l yX6_endTime cX6_endTime 1 (some .boolean) 1 21 D [(cI, .int)] [.ref (ad 3)] (CW ad cI kc ksv kbc kit kln ken kla kfi kea kns kbl kr0 kr1 kr2 kr3 kr4 kr5 klr kp0 kp1 kp2 kp3) (CW ad cI kc ksv kbc kit kln ken kla kfi kea kns kbl kr0' kr1' kr2' kr3' kr4 kr5 klr kp0 kp1 kp2 kp3) (some (.int r)) := by
  refine nd_ofCz (by decide) (Nat.le_of_ble_eq_true rfl) (fun p e s m args below meth c_ ls A Q hx hb hml hown hts hl hP hK hD hS hA hN hret => ?_)
  have hown : s.vm.findClass RX6 = some m.cls := hown
  have hl : lv_has ls 1 [(0, .ref (ad 3))] := hl
  have hret : ∀ (z0 : Int32) (z1 : Int32) (z2 : Int32) (z3 : Int32) (z4 : Int32) {H : Heap} {locs : List Loc} {pc : Nat} {ls : Array Slot}, some (z0, z1, z2, z3, z4) = some (r, kr0', kr1', kr2', kr3') → (z0 = 0 ∨ z0 = 1) → va_P D vwCl (CW ad cI kc ksv kbc kit kln ken kla kfi kea kns kbl z1 z2 z3 z4 kr4 kr5 klr kp0 kp1 kp2 kp3) H → va_S A s.heap H locs → decode cX6_endTime pc = .ok (.ireturn, 1) → W p l e ⟨1, 0, 0, 21⟩ s m args below meth c_ H locs 0 0 Q (F0 m pc ls [.int z0]) := by
    intro z0 z1 z2 z3 z4 H locs pc ls h hz hP hS hd
    cases h
    exact hret hz hP hS hd
  rw [fX6_endTime] at hs
  refine lv_aload_n hx hb dX6_endTime_0 rfl (lv_at hl 0 rfl) ?_
  refine lv_aload_n hx hb dX6_endTime_1 rfl (lv_at hl 0 rfl) ?_
  refine gf_X6_15 hx hb hts hown hK hP 3 rfl rfl dX6_endTime_2 ?_
  refine pf_X6_21 hx hb hts hown hK hP hD hS 3 rfl rfl dX6_endTime_5 (fun H locs hP hD hS => ?_)
  have hP : va_P D vwCl (CW ad cI kc ksv kbc kit kln ken kla kfi kea kns kbl kr0 kr1 kr2 kr1 kr4 kr5 klr kp0 kp1 kp2 kp3) H := hP
  have hD : va_D A (CW ad cI kc ksv kbc kit kln ken kla kfi kea kns kbl kr0 kr1 kr2 kr1 kr4 kr5 klr kp0 kp1 kp2 kp3) := hD
  refine lv_aload_n hx hb dX6_endTime_8 rfl (lv_at hl 0 rfl) ?_
  refine lv_iconst (v := (1 : Int32)) hx hb dX6_endTime_9 (by decide) ?_
  obtain ⟨q1, eq1, hs⟩ := ob hs
  refine nd_callV (As := [.int (1 : Int32)]) (rest := []) (st1 := []) hx hb hml hown hts hl hP hK hD hS hA hN (mX6_begin eq1) iv_X6_begin wd_173 3 rfl rfl rfl rfl ⟨Nat.le_of_ble_eq_true rfl, Nat.le_of_ble_eq_true rfl⟩ (Nat.le_of_ble_eq_true rfl) ⟨Nat.zero_le _, Nat.zero_le _⟩ dX6_endTime_10 rfl rfl (fun H locs hP hD hS => ?_)
  refine lv_iconst (v := (1 : Int32)) hx hb dX6_endTime_13 (by decide) ?_
  exact hret _ _ _ _ _ hs (Or.inr rfl) hP hS dX6_endTime_14
def tX6_acceptMark_0 : List (Nat × Instr × Nat) := [(0, .aload_n 0, 1), (1, .getfield 11, 3), (4, .tableswitch 110 0 2 #[28, 47, 66], 28), (32, .iload_n 1, 1), (33, .bipush 64, 2), (35, .if_icmp .ne 14, 3), (38, .aload_n 0, 1), (39, .invokevirtual 49, 3), (42, .ifCond .eq 7, 3), (45, .iconst 1, 1), (46, .goto 4, 3), (49, .iconst 0, 1), (50, .ireturn, 1), (51, .iload_n 1, 1), (52, .bipush 58, 2), (54, .if_icmp .ne 14, 3), (57, .aload_n 0, 1), (58, .invokevirtual 53, 3), (61, .ifCond .eq 7, 3), (64, .iconst 1, 1), (65, .goto 4, 3), (68, .iconst 0, 1), (69, .ireturn, 1), (70, .iload_n 1, 1), (71, .bipush 61, 2), (73, .if_icmp .ne 11, 3), (76, .aload_n 0, 1), (77, .iconst 3, 1), (78, .invokevirtual 56, 3), (81, .ifCond .ne 27, 3), (84, .iload_n 1, 1), (85, .bipush 43, 2), (87, .if_icmp .ne 25, 3), (90, .aload_n 0, 1), (91, .getfield 27, 3), (94, .iconst 1, 1), (95, .iadd, 1), (96, .iconst 4, 1), (97, .if_icmp .ge 15, 3), (100, .aload_n 0, 1), (101, .iconst 2, 1), (102, .invokevirtual 56, 3), (105, .ifCond .eq 7, 3), (108, .iconst 1, 1), (109, .goto 4, 3), (112, .iconst 0, 1), (113, .ireturn, 1), (114, .iload_n 1, 1), (115, .bipush 59, 2), (117, .if_icmp .eq 5, 3), (120, .iconst 0, 1), (121, .ireturn, 1), (122, .aload_n 0, 1), (123, .invokevirtual 59, 3), (126, .iconst 1, 1), (127, .ireturn, 1)]
theorem tX6_acceptMark_0_ok : tX6_acceptMark_0.all (fun q => decide (decode cX6_acceptMark q.1 = .ok q.2)) = true := by decide +kernel
theorem dX6_acceptMark_0 : decode cX6_acceptMark 0 = .ok (.aload_n 0, 1) := td tX6_acceptMark_0_ok 0 (q := (0, .aload_n 0, 1)) rfl
theorem dX6_acceptMark_1 : decode cX6_acceptMark 1 = .ok (.getfield 11, 3) := td tX6_acceptMark_0_ok 1 (q := (1, .getfield 11, 3)) rfl
theorem dX6_acceptMark_4 : decode cX6_acceptMark 4 = .ok (.tableswitch 110 0 2 #[28, 47, 66], 28) := td tX6_acceptMark_0_ok 2 (q := (4, .tableswitch 110 0 2 #[28, 47, 66], 28)) rfl
theorem dX6_acceptMark_32 : decode cX6_acceptMark 32 = .ok (.iload_n 1, 1) := td tX6_acceptMark_0_ok 3 (q := (32, .iload_n 1, 1)) rfl
theorem dX6_acceptMark_33 : decode cX6_acceptMark 33 = .ok (.bipush 64, 2) := td tX6_acceptMark_0_ok 4 (q := (33, .bipush 64, 2)) rfl
theorem dX6_acceptMark_35 : decode cX6_acceptMark 35 = .ok (.if_icmp .ne 14, 3) := td tX6_acceptMark_0_ok 5 (q := (35, .if_icmp .ne 14, 3)) rfl
theorem dX6_acceptMark_38 : decode cX6_acceptMark 38 = .ok (.aload_n 0, 1) := td tX6_acceptMark_0_ok 6 (q := (38, .aload_n 0, 1)) rfl
theorem dX6_acceptMark_39 : decode cX6_acceptMark 39 = .ok (.invokevirtual 49, 3) := td tX6_acceptMark_0_ok 7 (q := (39, .invokevirtual 49, 3)) rfl
theorem dX6_acceptMark_42 : decode cX6_acceptMark 42 = .ok (.ifCond .eq 7, 3) := td tX6_acceptMark_0_ok 8 (q := (42, .ifCond .eq 7, 3)) rfl
theorem dX6_acceptMark_45 : decode cX6_acceptMark 45 = .ok (.iconst 1, 1) := td tX6_acceptMark_0_ok 9 (q := (45, .iconst 1, 1)) rfl
theorem dX6_acceptMark_46 : decode cX6_acceptMark 46 = .ok (.goto 4, 3) := td tX6_acceptMark_0_ok 10 (q := (46, .goto 4, 3)) rfl
theorem dX6_acceptMark_49 : decode cX6_acceptMark 49 = .ok (.iconst 0, 1) := td tX6_acceptMark_0_ok 11 (q := (49, .iconst 0, 1)) rfl
theorem dX6_acceptMark_50 : decode cX6_acceptMark 50 = .ok (.ireturn, 1) := td tX6_acceptMark_0_ok 12 (q := (50, .ireturn, 1)) rfl
theorem dX6_acceptMark_51 : decode cX6_acceptMark 51 = .ok (.iload_n 1, 1) := td tX6_acceptMark_0_ok 13 (q := (51, .iload_n 1, 1)) rfl
theorem dX6_acceptMark_52 : decode cX6_acceptMark 52 = .ok (.bipush 58, 2) := td tX6_acceptMark_0_ok 14 (q := (52, .bipush 58, 2)) rfl
theorem dX6_acceptMark_54 : decode cX6_acceptMark 54 = .ok (.if_icmp .ne 14, 3) := td tX6_acceptMark_0_ok 15 (q := (54, .if_icmp .ne 14, 3)) rfl
theorem dX6_acceptMark_57 : decode cX6_acceptMark 57 = .ok (.aload_n 0, 1) := td tX6_acceptMark_0_ok 16 (q := (57, .aload_n 0, 1)) rfl
theorem dX6_acceptMark_58 : decode cX6_acceptMark 58 = .ok (.invokevirtual 53, 3) := td tX6_acceptMark_0_ok 17 (q := (58, .invokevirtual 53, 3)) rfl
theorem dX6_acceptMark_61 : decode cX6_acceptMark 61 = .ok (.ifCond .eq 7, 3) := td tX6_acceptMark_0_ok 18 (q := (61, .ifCond .eq 7, 3)) rfl
theorem dX6_acceptMark_64 : decode cX6_acceptMark 64 = .ok (.iconst 1, 1) := td tX6_acceptMark_0_ok 19 (q := (64, .iconst 1, 1)) rfl
theorem dX6_acceptMark_65 : decode cX6_acceptMark 65 = .ok (.goto 4, 3) := td tX6_acceptMark_0_ok 20 (q := (65, .goto 4, 3)) rfl
theorem dX6_acceptMark_68 : decode cX6_acceptMark 68 = .ok (.iconst 0, 1) := td tX6_acceptMark_0_ok 21 (q := (68, .iconst 0, 1)) rfl
theorem dX6_acceptMark_69 : decode cX6_acceptMark 69 = .ok (.ireturn, 1) := td tX6_acceptMark_0_ok 22 (q := (69, .ireturn, 1)) rfl
theorem dX6_acceptMark_70 : decode cX6_acceptMark 70 = .ok (.iload_n 1, 1) := td tX6_acceptMark_0_ok 23 (q := (70, .iload_n 1, 1)) rfl
theorem dX6_acceptMark_71 : decode cX6_acceptMark 71 = .ok (.bipush 61, 2) := td tX6_acceptMark_0_ok 24 (q := (71, .bipush 61, 2)) rfl
theorem dX6_acceptMark_73 : decode cX6_acceptMark 73 = .ok (.if_icmp .ne 11, 3) := td tX6_acceptMark_0_ok 25 (q := (73, .if_icmp .ne 11, 3)) rfl
theorem dX6_acceptMark_76 : decode cX6_acceptMark 76 = .ok (.aload_n 0, 1) := td tX6_acceptMark_0_ok 26 (q := (76, .aload_n 0, 1)) rfl
theorem dX6_acceptMark_77 : decode cX6_acceptMark 77 = .ok (.iconst 3, 1) := td tX6_acceptMark_0_ok 27 (q := (77, .iconst 3, 1)) rfl
theorem dX6_acceptMark_78 : decode cX6_acceptMark 78 = .ok (.invokevirtual 56, 3) := td tX6_acceptMark_0_ok 28 (q := (78, .invokevirtual 56, 3)) rfl
theorem dX6_acceptMark_81 : decode cX6_acceptMark 81 = .ok (.ifCond .ne 27, 3) := td tX6_acceptMark_0_ok 29 (q := (81, .ifCond .ne 27, 3)) rfl
theorem dX6_acceptMark_84 : decode cX6_acceptMark 84 = .ok (.iload_n 1, 1) := td tX6_acceptMark_0_ok 30 (q := (84, .iload_n 1, 1)) rfl
theorem dX6_acceptMark_85 : decode cX6_acceptMark 85 = .ok (.bipush 43, 2) := td tX6_acceptMark_0_ok 31 (q := (85, .bipush 43, 2)) rfl
theorem dX6_acceptMark_87 : decode cX6_acceptMark 87 = .ok (.if_icmp .ne 25, 3) := td tX6_acceptMark_0_ok 32 (q := (87, .if_icmp .ne 25, 3)) rfl
theorem dX6_acceptMark_90 : decode cX6_acceptMark 90 = .ok (.aload_n 0, 1) := td tX6_acceptMark_0_ok 33 (q := (90, .aload_n 0, 1)) rfl
theorem dX6_acceptMark_91 : decode cX6_acceptMark 91 = .ok (.getfield 27, 3) := td tX6_acceptMark_0_ok 34 (q := (91, .getfield 27, 3)) rfl
theorem dX6_acceptMark_94 : decode cX6_acceptMark 94 = .ok (.iconst 1, 1) := td tX6_acceptMark_0_ok 35 (q := (94, .iconst 1, 1)) rfl
theorem dX6_acceptMark_95 : decode cX6_acceptMark 95 = .ok (.iadd, 1) := td tX6_acceptMark_0_ok 36 (q := (95, .iadd, 1)) rfl
theorem dX6_acceptMark_96 : decode cX6_acceptMark 96 = .ok (.iconst 4, 1) := td tX6_acceptMark_0_ok 37 (q := (96, .iconst 4, 1)) rfl
theorem dX6_acceptMark_97 : decode cX6_acceptMark 97 = .ok (.if_icmp .ge 15, 3) := td tX6_acceptMark_0_ok 38 (q := (97, .if_icmp .ge 15, 3)) rfl
theorem dX6_acceptMark_100 : decode cX6_acceptMark 100 = .ok (.aload_n 0, 1) := td tX6_acceptMark_0_ok 39 (q := (100, .aload_n 0, 1)) rfl
theorem dX6_acceptMark_101 : decode cX6_acceptMark 101 = .ok (.iconst 2, 1) := td tX6_acceptMark_0_ok 40 (q := (101, .iconst 2, 1)) rfl
theorem dX6_acceptMark_102 : decode cX6_acceptMark 102 = .ok (.invokevirtual 56, 3) := td tX6_acceptMark_0_ok 41 (q := (102, .invokevirtual 56, 3)) rfl
theorem dX6_acceptMark_105 : decode cX6_acceptMark 105 = .ok (.ifCond .eq 7, 3) := td tX6_acceptMark_0_ok 42 (q := (105, .ifCond .eq 7, 3)) rfl
theorem dX6_acceptMark_108 : decode cX6_acceptMark 108 = .ok (.iconst 1, 1) := td tX6_acceptMark_0_ok 43 (q := (108, .iconst 1, 1)) rfl
theorem dX6_acceptMark_109 : decode cX6_acceptMark 109 = .ok (.goto 4, 3) := td tX6_acceptMark_0_ok 44 (q := (109, .goto 4, 3)) rfl
theorem dX6_acceptMark_112 : decode cX6_acceptMark 112 = .ok (.iconst 0, 1) := td tX6_acceptMark_0_ok 45 (q := (112, .iconst 0, 1)) rfl
theorem dX6_acceptMark_113 : decode cX6_acceptMark 113 = .ok (.ireturn, 1) := td tX6_acceptMark_0_ok 46 (q := (113, .ireturn, 1)) rfl
theorem dX6_acceptMark_114 : decode cX6_acceptMark 114 = .ok (.iload_n 1, 1) := td tX6_acceptMark_0_ok 47 (q := (114, .iload_n 1, 1)) rfl
theorem dX6_acceptMark_115 : decode cX6_acceptMark 115 = .ok (.bipush 59, 2) := td tX6_acceptMark_0_ok 48 (q := (115, .bipush 59, 2)) rfl
theorem dX6_acceptMark_117 : decode cX6_acceptMark 117 = .ok (.if_icmp .eq 5, 3) := td tX6_acceptMark_0_ok 49 (q := (117, .if_icmp .eq 5, 3)) rfl
theorem dX6_acceptMark_120 : decode cX6_acceptMark 120 = .ok (.iconst 0, 1) := td tX6_acceptMark_0_ok 50 (q := (120, .iconst 0, 1)) rfl
theorem dX6_acceptMark_121 : decode cX6_acceptMark 121 = .ok (.ireturn, 1) := td tX6_acceptMark_0_ok 51 (q := (121, .ireturn, 1)) rfl
theorem dX6_acceptMark_122 : decode cX6_acceptMark 122 = .ok (.aload_n 0, 1) := td tX6_acceptMark_0_ok 52 (q := (122, .aload_n 0, 1)) rfl
theorem dX6_acceptMark_123 : decode cX6_acceptMark 123 = .ok (.invokevirtual 59, 3) := td tX6_acceptMark_0_ok 53 (q := (123, .invokevirtual 59, 3)) rfl
theorem dX6_acceptMark_126 : decode cX6_acceptMark 126 = .ok (.iconst 1, 1) := td tX6_acceptMark_0_ok 54 (q := (126, .iconst 1, 1)) rfl
theorem dX6_acceptMark_127 : decode cX6_acceptMark 127 = .ok (.ireturn, 1) := td tX6_acceptMark_0_ok 55 (q := (127, .ireturn, 1)) rfl
def fX6_acceptMark (kit : (Nat → Int32)) (kr0 : Int32) (kr1 : Int32) (kr2 : Int32) (kr3 : Int32) (kr4 : Int32) (kr5 : Int32) (x1 : Int32) : Option (Int32 × (Nat → Int32) × Int32 × Int32 × Int32 × Int32 × Int32 × Int32) :=
  (if kr0 = (0 : Int32) then (if x1 = (64 : Int32) then (Option.bind (fX6_endTime kr0 kr1 kr2 kr3) (fun q3 => (if q3.1 = 0 then (some ((0 : Int32), kit, q3.2.1, q3.2.2.1, q3.2.2.2.1, q3.2.2.2.2, kr4, kr5)) else (some ((1 : Int32), kit, q3.2.1, q3.2.2.1, q3.2.2.2.1, q3.2.2.2.2, kr4, kr5))))) else (some ((0 : Int32), kit, kr0, kr1, kr2, kr3, kr4, kr5))) else (if kr0 = (1 : Int32) then (if x1 = (58 : Int32) then (Option.bind (fX6_endShop kr0 kr1 kr2 kr4) (fun q7 => (if q7.1 = 0 then (some ((0 : Int32), kit, q7.2.1, q7.2.2.1, q7.2.2.2.1, kr3, q7.2.2.2.2, kr5)) else (some ((1 : Int32), kit, q7.2.1, q7.2.2.1, q7.2.2.2.1, kr3, q7.2.2.2.2, kr5))))) else (some ((0 : Int32), kit, kr0, kr1, kr2, kr3, kr4, kr5))) else (if kr0 = (2 : Int32) then (if x1 = (61 : Int32) then (Option.bind (fX6_endItem kit kr0 kr1 kr2 kr5 (3 : Int32)) (fun q15 => (if q15.1 = 0 then (if x1 = (43 : Int32) then (if (4 : Int32) ≤ (q15.2.2.2.2.2 + (1 : Int32)) then (some ((0 : Int32), q15.2.1, q15.2.2.1, q15.2.2.2.1, q15.2.2.2.2.1, kr3, kr4, q15.2.2.2.2.2)) else (Option.bind (fX6_endItem q15.2.1 q15.2.2.1 q15.2.2.2.1 q15.2.2.2.2.1 q15.2.2.2.2.2 (2 : Int32)) (fun q19 => (if q19.1 = 0 then (some ((0 : Int32), q19.2.1, q19.2.2.1, q19.2.2.2.1, q19.2.2.2.2.1, kr3, kr4, q19.2.2.2.2.2)) else (some ((1 : Int32), q19.2.1, q19.2.2.1, q19.2.2.2.1, q19.2.2.2.2.1, kr3, kr4, q19.2.2.2.2.2)))))) else (some ((0 : Int32), q15.2.1, q15.2.2.1, q15.2.2.2.1, q15.2.2.2.2.1, kr3, kr4, q15.2.2.2.2.2))) else (some ((1 : Int32), q15.2.1, q15.2.2.1, q15.2.2.2.1, q15.2.2.2.2.1, kr3, kr4, q15.2.2.2.2.2))))) else (if x1 = (43 : Int32) then (if (4 : Int32) ≤ (kr5 + (1 : Int32)) then (some ((0 : Int32), kit, kr0, kr1, kr2, kr3, kr4, kr5)) else (Option.bind (fX6_endItem kit kr0 kr1 kr2 kr5 (2 : Int32)) (fun q13 => (if q13.1 = 0 then (some ((0 : Int32), q13.2.1, q13.2.2.1, q13.2.2.2.1, q13.2.2.2.2.1, kr3, kr4, q13.2.2.2.2.2)) else (some ((1 : Int32), q13.2.1, q13.2.2.1, q13.2.2.2.1, q13.2.2.2.2.1, kr3, kr4, q13.2.2.2.2.2)))))) else (some ((0 : Int32), kit, kr0, kr1, kr2, kr3, kr4, kr5)))) else (if x1 = (59 : Int32) then (Option.bind (fX6_restart kr0 kr1 kr2 kr5) (fun q22 => (some ((1 : Int32), kit, q22.1, q22.2.1, q22.2.2.1, kr3, kr4, q22.2.2.2)))) else (some ((0 : Int32), kit, kr0, kr1, kr2, kr3, kr4, kr5))))))
set_option maxHeartbeats 4000000 in
set_option maxRecDepth 100000 in
theorem mX6_acceptMark {l : Launch} {D : va_G} {ad : Nat → Nat} {cI : ClassId} {kc : (Nat → Int32)} {ksv : (Nat → Int32)} {kbc : (Nat → Int32)} {kit : (Nat → Int32)} {kln : (Nat → Int32)} {ken : (Nat → Int32)} {kla : (Nat → Int32)} {kfi : (Nat → Int32)} {kea : (Nat → Int32)} {kns : Int32} {kbl : Int32} {kr0 : Int32} {kr1 : Int32} {kr2 : Int32} {kr3 : Int32} {kr4 : Int32} {kr5 : Int32} {klr : Int32} {kp0 : Int32} {kp1 : Int32} {kp2 : Int32} {kp3 : Int32} {x1 : Int32} {r : Int32} {kit' : (Nat → Int32)} {kr0' : Int32} {kr1' : Int32} {kr2' : Int32} {kr3' : Int32} {kr4' : Int32} {kr5' : Int32} (hs : fX6_acceptMark kit kr0 kr1 kr2 kr3 kr4 kr5 x1 = some (r, kit', kr0', kr1', kr2', kr3', kr4', kr5')) : nd_C l yX6_acceptMark cX6_acceptMark 2 (some .boolean) 2 42 D [(cI, .int)] [.ref (ad 3), .int x1] (CW ad cI kc ksv kbc kit kln ken kla kfi kea kns kbl kr0 kr1 kr2 kr3 kr4 kr5 klr kp0 kp1 kp2 kp3) (CW ad cI kc ksv kbc kit' kln ken kla kfi kea kns kbl kr0' kr1' kr2' kr3' kr4' kr5' klr kp0 kp1 kp2 kp3) (some (.int r)) := by
  refine nd_ofCz (by decide) (Nat.le_of_ble_eq_true rfl) (fun p e s m args below meth c_ ls A Q hx hb hml hown hts hl hP hK hD hS hA hN hret => ?_)
  have hown : s.vm.findClass RX6 = some m.cls := hown
  have hl : lv_has ls 2 [(0, .ref (ad 3)), (1, .int x1)] := hl
  have hret : ∀ (z0 : Int32) (z1 : (Nat → Int32)) (z2 : Int32) (z3 : Int32) (z4 : Int32) (z5 : Int32) (z6 : Int32) (z7 : Int32) {H : Heap} {locs : List Loc} {pc : Nat} {ls : Array Slot}, some (z0, z1, z2, z3, z4, z5, z6, z7) = some (r, kit', kr0', kr1', kr2', kr3', kr4', kr5') → (z0 = 0 ∨ z0 = 1) → va_P D vwCl (CW ad cI kc ksv kbc z1 kln ken kla kfi kea kns kbl z2 z3 z4 z5 z6 z7 klr kp0 kp1 kp2 kp3) H → va_S A s.heap H locs → decode cX6_acceptMark pc = .ok (.ireturn, 1) → W p l e ⟨2, 0, 0, 42⟩ s m args below meth c_ H locs 0 0 Q (F0 m pc ls [.int z0]) := by
    intro z0 z1 z2 z3 z4 z5 z6 z7 H locs pc ls h hz hP hS hd
    cases h
    exact hret hz hP hS hd
  rw [fX6_acceptMark] at hs
  refine lv_aload_n hx hb dX6_acceptMark_0 rfl (lv_at hl 0 rfl) ?_
  refine gf_X6_11 hx hb hts hown hK hP 3 rfl rfl dX6_acceptMark_1 ?_
  by_cases b1 : kr0 = (0 : Int32)
  · have hs := ite_t hs b1
    rw [b1]
    refine lv_tableIn (off := (28)) (tgt := 32) hx hb dX6_acceptMark_4 (by decide) (by decide) (by decide) (by decide) ?_
    refine lv_iload_n hx hb dX6_acceptMark_32 rfl (lv_at hl 1 rfl) ?_
    refine lv_bipush (v := (64 : Int32)) hx hb dX6_acceptMark_33 (by decide) ?_
    refine lv_icmp_ne (tgt := 49) hx hb dX6_acceptMark_35 (by decide) (fun b2 => ?_) (fun b2 => ?_)
    · have hs := ite_f hs b2
      refine lv_iconst (v := (0 : Int32)) hx hb dX6_acceptMark_49 (by decide) ?_
      exact hret _ _ _ _ _ _ _ _ hs (Or.inl rfl) hP hS dX6_acceptMark_50
    · have hs := ite_t hs b2
      refine lv_aload_n hx hb dX6_acceptMark_38 rfl (lv_at hl 0 rfl) ?_
      obtain ⟨q3, eq3, hs⟩ := ob hs
      refine nd_callV (As := []) (rest := []) (st1 := [.int q3.1]) hx hb hml hown hts hl hP hK hD hS hA hN (mX6_endTime eq3) iv_X6_endTime wd_201 3 rfl rfl rfl rfl ⟨Nat.le_of_ble_eq_true rfl, Nat.le_of_ble_eq_true rfl⟩ (Nat.le_of_ble_eq_true rfl) ⟨Nat.zero_le _, Nat.zero_le _⟩ dX6_acceptMark_39 rfl rfl (fun H locs hP hD hS => ?_)
      refine lv_if_eq (tgt := 49) hx hb dX6_acceptMark_42 (by decide) (fun b4 => ?_) (fun b4 => ?_)
      · have hs := ite_t hs b4
        refine lv_iconst (v := (0 : Int32)) hx hb dX6_acceptMark_49 (by decide) ?_
        exact hret _ _ _ _ _ _ _ _ hs (Or.inl rfl) hP hS dX6_acceptMark_50
      · have hs := ite_f hs b4
        refine lv_iconst (v := (1 : Int32)) hx hb dX6_acceptMark_45 (by decide) ?_
        refine lv_goto (tgt := 50) hx hb dX6_acceptMark_46 (by decide) ?_
        exact hret _ _ _ _ _ _ _ _ hs (Or.inr rfl) hP hS dX6_acceptMark_50
  have hs := ite_f hs b1
  by_cases b5 : kr0 = (1 : Int32)
  · have hs := ite_t hs b5
    rw [b5]
    refine lv_tableIn (off := (47)) (tgt := 51) hx hb dX6_acceptMark_4 (by decide) (by decide) (by decide) (by decide) ?_
    refine lv_iload_n hx hb dX6_acceptMark_51 rfl (lv_at hl 1 rfl) ?_
    refine lv_bipush (v := (58 : Int32)) hx hb dX6_acceptMark_52 (by decide) ?_
    refine lv_icmp_ne (tgt := 68) hx hb dX6_acceptMark_54 (by decide) (fun b6 => ?_) (fun b6 => ?_)
    · have hs := ite_f hs b6
      refine lv_iconst (v := (0 : Int32)) hx hb dX6_acceptMark_68 (by decide) ?_
      exact hret _ _ _ _ _ _ _ _ hs (Or.inl rfl) hP hS dX6_acceptMark_69
    · have hs := ite_t hs b6
      refine lv_aload_n hx hb dX6_acceptMark_57 rfl (lv_at hl 0 rfl) ?_
      obtain ⟨q7, eq7, hs⟩ := ob hs
      refine nd_callV (As := []) (rest := []) (st1 := [.int q7.1]) hx hb hml hown hts hl hP hK hD hS hA hN (mX6_endShop eq7) iv_X6_endShop wd_205 3 rfl rfl rfl rfl ⟨Nat.le_of_ble_eq_true rfl, Nat.le_of_ble_eq_true rfl⟩ (Nat.le_of_ble_eq_true rfl) ⟨Nat.zero_le _, Nat.zero_le _⟩ dX6_acceptMark_58 rfl rfl (fun H locs hP hD hS => ?_)
      refine lv_if_eq (tgt := 68) hx hb dX6_acceptMark_61 (by decide) (fun b8 => ?_) (fun b8 => ?_)
      · have hs := ite_t hs b8
        refine lv_iconst (v := (0 : Int32)) hx hb dX6_acceptMark_68 (by decide) ?_
        exact hret _ _ _ _ _ _ _ _ hs (Or.inl rfl) hP hS dX6_acceptMark_69
      · have hs := ite_f hs b8
        refine lv_iconst (v := (1 : Int32)) hx hb dX6_acceptMark_64 (by decide) ?_
        refine lv_goto (tgt := 69) hx hb dX6_acceptMark_65 (by decide) ?_
        exact hret _ _ _ _ _ _ _ _ hs (Or.inr rfl) hP hS dX6_acceptMark_69
  have hs := ite_f hs b5
  by_cases b9 : kr0 = (2 : Int32)
  · have hs := ite_t hs b9
    rw [b9]
    refine lv_tableIn (off := (66)) (tgt := 70) hx hb dX6_acceptMark_4 (by decide) (by decide) (by decide) (by decide) ?_
    refine lv_iload_n hx hb dX6_acceptMark_70 rfl (lv_at hl 1 rfl) ?_
    refine lv_bipush (v := (61 : Int32)) hx hb dX6_acceptMark_71 (by decide) ?_
    refine lv_icmp_ne (tgt := 84) hx hb dX6_acceptMark_73 (by decide) (fun b10 => ?_) (fun b10 => ?_)
    · have hs := ite_f hs b10
      refine lv_iload_n hx hb dX6_acceptMark_84 rfl (lv_at hl 1 rfl) ?_
      refine lv_bipush (v := (43 : Int32)) hx hb dX6_acceptMark_85 (by decide) ?_
      refine lv_icmp_ne (tgt := 112) hx hb dX6_acceptMark_87 (by decide) (fun b11 => ?_) (fun b11 => ?_)
      · have hs := ite_f hs b11
        refine lv_iconst (v := (0 : Int32)) hx hb dX6_acceptMark_112 (by decide) ?_
        exact hret _ _ _ _ _ _ _ _ hs (Or.inl rfl) hP hS dX6_acceptMark_113
      · have hs := ite_t hs b11
        refine lv_aload_n hx hb dX6_acceptMark_90 rfl (lv_at hl 0 rfl) ?_
        refine gf_X6_27 hx hb hts hown hK hP 3 rfl rfl dX6_acceptMark_91 ?_
        refine lv_iconst (v := (1 : Int32)) hx hb dX6_acceptMark_94 (by decide) ?_
        refine lv_iadd hx hb dX6_acceptMark_95 ?_
        refine lv_iconst (v := (4 : Int32)) hx hb dX6_acceptMark_96 (by decide) ?_
        refine lv_icmp_ge (tgt := 112) hx hb dX6_acceptMark_97 (by decide) (fun b12 => ?_) (fun b12 => ?_)
        · have hs := ite_t hs b12
          refine lv_iconst (v := (0 : Int32)) hx hb dX6_acceptMark_112 (by decide) ?_
          exact hret _ _ _ _ _ _ _ _ hs (Or.inl rfl) hP hS dX6_acceptMark_113
        · have hs := ite_f hs b12
          refine lv_aload_n hx hb dX6_acceptMark_100 rfl (lv_at hl 0 rfl) ?_
          refine lv_iconst (v := (2 : Int32)) hx hb dX6_acceptMark_101 (by decide) ?_
          obtain ⟨q13, eq13, hs⟩ := ob hs
          refine nd_callV (As := [.int (2 : Int32)]) (rest := []) (st1 := [.int q13.1]) hx hb hml hown hts hl hP hK hD hS hA hN (mX6_endItem eq13) iv_X6_endItem wd_209 3 rfl rfl rfl rfl ⟨Nat.le_of_ble_eq_true rfl, Nat.le_of_ble_eq_true rfl⟩ (Nat.le_of_ble_eq_true rfl) ⟨Nat.zero_le _, Nat.zero_le _⟩ dX6_acceptMark_102 rfl rfl (fun H locs hP hD hS => ?_)
          refine lv_if_eq (tgt := 112) hx hb dX6_acceptMark_105 (by decide) (fun b14 => ?_) (fun b14 => ?_)
          · have hs := ite_t hs b14
            refine lv_iconst (v := (0 : Int32)) hx hb dX6_acceptMark_112 (by decide) ?_
            exact hret _ _ _ _ _ _ _ _ hs (Or.inl rfl) hP hS dX6_acceptMark_113
          · have hs := ite_f hs b14
            refine lv_iconst (v := (1 : Int32)) hx hb dX6_acceptMark_108 (by decide) ?_
            refine lv_goto (tgt := 113) hx hb dX6_acceptMark_109 (by decide) ?_
            exact hret _ _ _ _ _ _ _ _ hs (Or.inr rfl) hP hS dX6_acceptMark_113
    · have hs := ite_t hs b10
      refine lv_aload_n hx hb dX6_acceptMark_76 rfl (lv_at hl 0 rfl) ?_
      refine lv_iconst (v := (3 : Int32)) hx hb dX6_acceptMark_77 (by decide) ?_
      obtain ⟨q15, eq15, hs⟩ := ob hs
      refine nd_callV (As := [.int (3 : Int32)]) (rest := []) (st1 := [.int q15.1]) hx hb hml hown hts hl hP hK hD hS hA hN (mX6_endItem eq15) iv_X6_endItem wd_209 3 rfl rfl rfl rfl ⟨Nat.le_of_ble_eq_true rfl, Nat.le_of_ble_eq_true rfl⟩ (Nat.le_of_ble_eq_true rfl) ⟨Nat.zero_le _, Nat.zero_le _⟩ dX6_acceptMark_78 rfl rfl (fun H locs hP hD hS => ?_)
      refine lv_if_ne (tgt := 108) hx hb dX6_acceptMark_81 (by decide) (fun b16 => ?_) (fun b16 => ?_)
      · have hs := ite_f hs b16
        refine lv_iconst (v := (1 : Int32)) hx hb dX6_acceptMark_108 (by decide) ?_
        refine lv_goto (tgt := 113) hx hb dX6_acceptMark_109 (by decide) ?_
        exact hret _ _ _ _ _ _ _ _ hs (Or.inr rfl) hP hS dX6_acceptMark_113
      · have hs := ite_t hs b16
        refine lv_iload_n hx hb dX6_acceptMark_84 rfl (lv_at hl 1 rfl) ?_
        refine lv_bipush (v := (43 : Int32)) hx hb dX6_acceptMark_85 (by decide) ?_
        refine lv_icmp_ne (tgt := 112) hx hb dX6_acceptMark_87 (by decide) (fun b17 => ?_) (fun b17 => ?_)
        · have hs := ite_f hs b17
          refine lv_iconst (v := (0 : Int32)) hx hb dX6_acceptMark_112 (by decide) ?_
          exact hret _ _ _ _ _ _ _ _ hs (Or.inl rfl) hP hS dX6_acceptMark_113
        · have hs := ite_t hs b17
          refine lv_aload_n hx hb dX6_acceptMark_90 rfl (lv_at hl 0 rfl) ?_
          refine gf_X6_27 hx hb hts hown hK hP 3 rfl rfl dX6_acceptMark_91 ?_
          refine lv_iconst (v := (1 : Int32)) hx hb dX6_acceptMark_94 (by decide) ?_
          refine lv_iadd hx hb dX6_acceptMark_95 ?_
          refine lv_iconst (v := (4 : Int32)) hx hb dX6_acceptMark_96 (by decide) ?_
          refine lv_icmp_ge (tgt := 112) hx hb dX6_acceptMark_97 (by decide) (fun b18 => ?_) (fun b18 => ?_)
          · have hs := ite_t hs b18
            refine lv_iconst (v := (0 : Int32)) hx hb dX6_acceptMark_112 (by decide) ?_
            exact hret _ _ _ _ _ _ _ _ hs (Or.inl rfl) hP hS dX6_acceptMark_113
          · have hs := ite_f hs b18
            refine lv_aload_n hx hb dX6_acceptMark_100 rfl (lv_at hl 0 rfl) ?_
            refine lv_iconst (v := (2 : Int32)) hx hb dX6_acceptMark_101 (by decide) ?_
            obtain ⟨q19, eq19, hs⟩ := ob hs
            refine nd_callV (As := [.int (2 : Int32)]) (rest := []) (st1 := [.int q19.1]) hx hb hml hown hts hl hP hK hD hS hA hN (mX6_endItem eq19) iv_X6_endItem wd_209 3 rfl rfl rfl rfl ⟨Nat.le_of_ble_eq_true rfl, Nat.le_of_ble_eq_true rfl⟩ (Nat.le_of_ble_eq_true rfl) ⟨Nat.zero_le _, Nat.zero_le _⟩ dX6_acceptMark_102 rfl rfl (fun H locs hP hD hS => ?_)
            refine lv_if_eq (tgt := 112) hx hb dX6_acceptMark_105 (by decide) (fun b20 => ?_) (fun b20 => ?_)
            · have hs := ite_t hs b20
              refine lv_iconst (v := (0 : Int32)) hx hb dX6_acceptMark_112 (by decide) ?_
              exact hret _ _ _ _ _ _ _ _ hs (Or.inl rfl) hP hS dX6_acceptMark_113
            · have hs := ite_f hs b20
              refine lv_iconst (v := (1 : Int32)) hx hb dX6_acceptMark_108 (by decide) ?_
              refine lv_goto (tgt := 113) hx hb dX6_acceptMark_109 (by decide) ?_
              exact hret _ _ _ _ _ _ _ _ hs (Or.inr rfl) hP hS dX6_acceptMark_113
  have hs := ite_f hs b9
  have zb1 : kr0.toInt ≠ (0) := sw_ne b1
  have zb5 : kr0.toInt ≠ (1) := sw_ne b5
  have zb9 : kr0.toInt ≠ (2) := sw_ne b9
  refine lv_tableOut (tgt := 114) hx hb dX6_acceptMark_4 (by omega) (by decide) ?_
  refine lv_iload_n hx hb dX6_acceptMark_114 rfl (lv_at hl 1 rfl) ?_
  refine lv_bipush (v := (59 : Int32)) hx hb dX6_acceptMark_115 (by decide) ?_
  refine lv_icmp_eq (tgt := 122) hx hb dX6_acceptMark_117 (by decide) (fun b21 => ?_) (fun b21 => ?_)
  · have hs := ite_t hs b21
    refine lv_aload_n hx hb dX6_acceptMark_122 rfl (lv_at hl 0 rfl) ?_
    obtain ⟨q22, eq22, hs⟩ := ob hs
    refine nd_callV (As := []) (rest := []) (st1 := []) hx hb hml hown hts hl hP hK hD hS hA hN (mX6_restart eq22) iv_X6_restart wd_213 3 rfl rfl rfl rfl ⟨Nat.le_of_ble_eq_true rfl, Nat.le_of_ble_eq_true rfl⟩ (Nat.le_of_ble_eq_true rfl) ⟨Nat.zero_le _, Nat.zero_le _⟩ dX6_acceptMark_123 rfl rfl (fun H locs hP hD hS => ?_)
    refine lv_iconst (v := (1 : Int32)) hx hb dX6_acceptMark_126 (by decide) ?_
    exact hret _ _ _ _ _ _ _ _ hs (Or.inr rfl) hP hS dX6_acceptMark_127
  · have hs := ite_f hs b21
    refine lv_iconst (v := (0 : Int32)) hx hb dX6_acceptMark_120 (by decide) ?_
    exact hret _ _ _ _ _ _ _ _ hs (Or.inl rfl) hP hS dX6_acceptMark_121
def tX6_accept_0 : List (Nat × Instr × Nat) := [(0, .iload_n 1, 1), (1, .bipush 48, 2), (3, .if_icmp .lt 18, 3), (6, .iload_n 1, 1), (7, .bipush 57, 2), (9, .if_icmp .gt 12, 3), (12, .aload_n 0, 1), (13, .iload_n 1, 1), (14, .bipush 48, 2), (16, .isub, 1), (17, .invokevirtual 38, 3), (20, .ireturn, 1), (21, .aload_n 0, 1), (22, .getfield 18, 3), (25, .ifCond .le 15, 3), (28, .aload_n 0, 1), (29, .iload_n 1, 1), (30, .invokevirtual 42, 3), (33, .ifCond .eq 7, 3), (36, .iconst 1, 1), (37, .goto 4, 3), (40, .iconst 0, 1), (41, .ireturn, 1)]
theorem tX6_accept_0_ok : tX6_accept_0.all (fun q => decide (decode cX6_accept q.1 = .ok q.2)) = true := by decide +kernel
theorem dX6_accept_0 : decode cX6_accept 0 = .ok (.iload_n 1, 1) := td tX6_accept_0_ok 0 (q := (0, .iload_n 1, 1)) rfl
theorem dX6_accept_1 : decode cX6_accept 1 = .ok (.bipush 48, 2) := td tX6_accept_0_ok 1 (q := (1, .bipush 48, 2)) rfl
theorem dX6_accept_3 : decode cX6_accept 3 = .ok (.if_icmp .lt 18, 3) := td tX6_accept_0_ok 2 (q := (3, .if_icmp .lt 18, 3)) rfl
theorem dX6_accept_6 : decode cX6_accept 6 = .ok (.iload_n 1, 1) := td tX6_accept_0_ok 3 (q := (6, .iload_n 1, 1)) rfl
theorem dX6_accept_7 : decode cX6_accept 7 = .ok (.bipush 57, 2) := td tX6_accept_0_ok 4 (q := (7, .bipush 57, 2)) rfl
theorem dX6_accept_9 : decode cX6_accept 9 = .ok (.if_icmp .gt 12, 3) := td tX6_accept_0_ok 5 (q := (9, .if_icmp .gt 12, 3)) rfl
theorem dX6_accept_12 : decode cX6_accept 12 = .ok (.aload_n 0, 1) := td tX6_accept_0_ok 6 (q := (12, .aload_n 0, 1)) rfl
theorem dX6_accept_13 : decode cX6_accept 13 = .ok (.iload_n 1, 1) := td tX6_accept_0_ok 7 (q := (13, .iload_n 1, 1)) rfl
theorem dX6_accept_14 : decode cX6_accept 14 = .ok (.bipush 48, 2) := td tX6_accept_0_ok 8 (q := (14, .bipush 48, 2)) rfl
theorem dX6_accept_16 : decode cX6_accept 16 = .ok (.isub, 1) := td tX6_accept_0_ok 9 (q := (16, .isub, 1)) rfl
theorem dX6_accept_17 : decode cX6_accept 17 = .ok (.invokevirtual 38, 3) := td tX6_accept_0_ok 10 (q := (17, .invokevirtual 38, 3)) rfl
theorem dX6_accept_20 : decode cX6_accept 20 = .ok (.ireturn, 1) := td tX6_accept_0_ok 11 (q := (20, .ireturn, 1)) rfl
theorem dX6_accept_21 : decode cX6_accept 21 = .ok (.aload_n 0, 1) := td tX6_accept_0_ok 12 (q := (21, .aload_n 0, 1)) rfl
theorem dX6_accept_22 : decode cX6_accept 22 = .ok (.getfield 18, 3) := td tX6_accept_0_ok 13 (q := (22, .getfield 18, 3)) rfl
theorem dX6_accept_25 : decode cX6_accept 25 = .ok (.ifCond .le 15, 3) := td tX6_accept_0_ok 14 (q := (25, .ifCond .le 15, 3)) rfl
theorem dX6_accept_28 : decode cX6_accept 28 = .ok (.aload_n 0, 1) := td tX6_accept_0_ok 15 (q := (28, .aload_n 0, 1)) rfl
theorem dX6_accept_29 : decode cX6_accept 29 = .ok (.iload_n 1, 1) := td tX6_accept_0_ok 16 (q := (29, .iload_n 1, 1)) rfl
theorem dX6_accept_30 : decode cX6_accept 30 = .ok (.invokevirtual 42, 3) := td tX6_accept_0_ok 17 (q := (30, .invokevirtual 42, 3)) rfl
theorem dX6_accept_33 : decode cX6_accept 33 = .ok (.ifCond .eq 7, 3) := td tX6_accept_0_ok 18 (q := (33, .ifCond .eq 7, 3)) rfl
theorem dX6_accept_36 : decode cX6_accept 36 = .ok (.iconst 1, 1) := td tX6_accept_0_ok 19 (q := (36, .iconst 1, 1)) rfl
theorem dX6_accept_37 : decode cX6_accept 37 = .ok (.goto 4, 3) := td tX6_accept_0_ok 20 (q := (37, .goto 4, 3)) rfl
theorem dX6_accept_40 : decode cX6_accept 40 = .ok (.iconst 0, 1) := td tX6_accept_0_ok 21 (q := (40, .iconst 0, 1)) rfl
theorem dX6_accept_41 : decode cX6_accept 41 = .ok (.ireturn, 1) := td tX6_accept_0_ok 22 (q := (41, .ireturn, 1)) rfl
def fX6_accept (kit : (Nat → Int32)) (kr0 : Int32) (kr1 : Int32) (kr2 : Int32) (kr3 : Int32) (kr4 : Int32) (kr5 : Int32) (x1 : Int32) : Option (Int32 × (Nat → Int32) × Int32 × Int32 × Int32 × Int32 × Int32 × Int32) :=
  (if x1 < (48 : Int32) then (if kr2 ≤ 0 then (some ((0 : Int32), kit, kr0, kr1, kr2, kr3, kr4, kr5)) else (Option.bind (fX6_acceptMark kit kr0 kr1 kr2 kr3 kr4 kr5 x1) (fun q3 => (if q3.1 = 0 then (some ((0 : Int32), q3.2.1, q3.2.2.1, q3.2.2.2.1, q3.2.2.2.2.1, q3.2.2.2.2.2.1, q3.2.2.2.2.2.2.1, q3.2.2.2.2.2.2.2)) else (some ((1 : Int32), q3.2.1, q3.2.2.1, q3.2.2.2.1, q3.2.2.2.2.1, q3.2.2.2.2.2.1, q3.2.2.2.2.2.2.1, q3.2.2.2.2.2.2.2)))))) else (if (57 : Int32) < x1 then (if kr2 ≤ 0 then (some ((0 : Int32), kit, kr0, kr1, kr2, kr3, kr4, kr5)) else (Option.bind (fX6_acceptMark kit kr0 kr1 kr2 kr3 kr4 kr5 x1) (fun q7 => (if q7.1 = 0 then (some ((0 : Int32), q7.2.1, q7.2.2.1, q7.2.2.2.1, q7.2.2.2.2.1, q7.2.2.2.2.2.1, q7.2.2.2.2.2.2.1, q7.2.2.2.2.2.2.2)) else (some ((1 : Int32), q7.2.1, q7.2.2.1, q7.2.2.2.1, q7.2.2.2.2.1, q7.2.2.2.2.2.1, q7.2.2.2.2.2.2.1, q7.2.2.2.2.2.2.2)))))) else (Option.bind (fX6_acceptDigit kr0 kr1 kr2 (x1 - (48 : Int32))) (fun q9 => (Option.bind (bz q9.1) (fun t10 => (some (q9.1, kit, kr0, q9.2.1, q9.2.2, kr3, kr4, kr5))))))))
set_option maxHeartbeats 4000000 in
set_option maxRecDepth 100000 in
theorem mX6_accept {l : Launch} {D : va_G} {ad : Nat → Nat} {cI : ClassId} {kc : (Nat → Int32)} {ksv : (Nat → Int32)} {kbc : (Nat → Int32)} {kit : (Nat → Int32)} {kln : (Nat → Int32)} {ken : (Nat → Int32)} {kla : (Nat → Int32)} {kfi : (Nat → Int32)} {kea : (Nat → Int32)} {kns : Int32} {kbl : Int32} {kr0 : Int32} {kr1 : Int32} {kr2 : Int32} {kr3 : Int32} {kr4 : Int32} {kr5 : Int32} {klr : Int32} {kp0 : Int32} {kp1 : Int32} {kp2 : Int32} {kp3 : Int32} {x1 : Int32} {r : Int32} {kit' : (Nat → Int32)} {kr0' : Int32} {kr1' : Int32} {kr2' : Int32} {kr3' : Int32} {kr4' : Int32} {kr5' : Int32} (hs : fX6_accept kit kr0 kr1 kr2 kr3 kr4 kr5 x1 = some (r, kit', kr0', kr1', kr2', kr3', kr4', kr5')) : nd_C l yX6_accept cX6_accept 2 (some .boolean) 3 63 D [(cI, .int)] [.ref (ad 3), .int x1] (CW ad cI kc ksv kbc kit kln ken kla kfi kea kns kbl kr0 kr1 kr2 kr3 kr4 kr5 klr kp0 kp1 kp2 kp3) (CW ad cI kc ksv kbc kit' kln ken kla kfi kea kns kbl kr0' kr1' kr2' kr3' kr4' kr5' klr kp0 kp1 kp2 kp3) (some (.int r)) := by
  refine nd_ofCz (by decide) (Nat.le_of_ble_eq_true rfl) (fun p e s m args below meth c_ ls A Q hx hb hml hown hts hl hP hK hD hS hA hN hret => ?_)
  have hown : s.vm.findClass RX6 = some m.cls := hown
  have hl : lv_has ls 2 [(0, .ref (ad 3)), (1, .int x1)] := hl
  have hret : ∀ (z0 : Int32) (z1 : (Nat → Int32)) (z2 : Int32) (z3 : Int32) (z4 : Int32) (z5 : Int32) (z6 : Int32) (z7 : Int32) {H : Heap} {locs : List Loc} {pc : Nat} {ls : Array Slot}, some (z0, z1, z2, z3, z4, z5, z6, z7) = some (r, kit', kr0', kr1', kr2', kr3', kr4', kr5') → (z0 = 0 ∨ z0 = 1) → va_P D vwCl (CW ad cI kc ksv kbc z1 kln ken kla kfi kea kns kbl z2 z3 z4 z5 z6 z7 klr kp0 kp1 kp2 kp3) H → va_S A s.heap H locs → decode cX6_accept pc = .ok (.ireturn, 1) → W p l e ⟨3, 0, 0, 63⟩ s m args below meth c_ H locs 0 0 Q (F0 m pc ls [.int z0]) := by
    intro z0 z1 z2 z3 z4 z5 z6 z7 H locs pc ls h hz hP hS hd
    cases h
    exact hret hz hP hS hd
  rw [fX6_accept] at hs
  refine lv_iload_n hx hb dX6_accept_0 rfl (lv_at hl 1 rfl) ?_
  refine lv_bipush (v := (48 : Int32)) hx hb dX6_accept_1 (by decide) ?_
  refine lv_icmp_lt (tgt := 21) hx hb dX6_accept_3 (by decide) (fun b1 => ?_) (fun b1 => ?_)
  · have hs := ite_t hs b1
    refine lv_aload_n hx hb dX6_accept_21 rfl (lv_at hl 0 rfl) ?_
    refine gf_X6_18 hx hb hts hown hK hP 3 rfl rfl dX6_accept_22 ?_
    refine lv_if_le (tgt := 40) hx hb dX6_accept_25 (by decide) (fun b2 => ?_) (fun b2 => ?_)
    · have hs := ite_t hs b2
      refine lv_iconst (v := (0 : Int32)) hx hb dX6_accept_40 (by decide) ?_
      exact hret _ _ _ _ _ _ _ _ hs (Or.inl rfl) hP hS dX6_accept_41
    · have hs := ite_f hs b2
      refine lv_aload_n hx hb dX6_accept_28 rfl (lv_at hl 0 rfl) ?_
      refine lv_iload_n hx hb dX6_accept_29 rfl (lv_at hl 1 rfl) ?_
      obtain ⟨q3, eq3, hs⟩ := ob hs
      refine nd_callV (As := [.int x1]) (rest := []) (st1 := [.int q3.1]) hx hb hml hown hts hl hP hK hD hS hA hN (mX6_acceptMark eq3) iv_X6_acceptMark wd_197 3 rfl rfl rfl rfl ⟨Nat.le_of_ble_eq_true rfl, Nat.le_of_ble_eq_true rfl⟩ (Nat.le_of_ble_eq_true rfl) ⟨Nat.zero_le _, Nat.zero_le _⟩ dX6_accept_30 rfl rfl (fun H locs hP hD hS => ?_)
      refine lv_if_eq (tgt := 40) hx hb dX6_accept_33 (by decide) (fun b4 => ?_) (fun b4 => ?_)
      · have hs := ite_t hs b4
        refine lv_iconst (v := (0 : Int32)) hx hb dX6_accept_40 (by decide) ?_
        exact hret _ _ _ _ _ _ _ _ hs (Or.inl rfl) hP hS dX6_accept_41
      · have hs := ite_f hs b4
        refine lv_iconst (v := (1 : Int32)) hx hb dX6_accept_36 (by decide) ?_
        refine lv_goto (tgt := 41) hx hb dX6_accept_37 (by decide) ?_
        exact hret _ _ _ _ _ _ _ _ hs (Or.inr rfl) hP hS dX6_accept_41
  · have hs := ite_f hs b1
    refine lv_iload_n hx hb dX6_accept_6 rfl (lv_at hl 1 rfl) ?_
    refine lv_bipush (v := (57 : Int32)) hx hb dX6_accept_7 (by decide) ?_
    refine lv_icmp_gt (tgt := 21) hx hb dX6_accept_9 (by decide) (fun b5 => ?_) (fun b5 => ?_)
    · have hs := ite_t hs b5
      refine lv_aload_n hx hb dX6_accept_21 rfl (lv_at hl 0 rfl) ?_
      refine gf_X6_18 hx hb hts hown hK hP 3 rfl rfl dX6_accept_22 ?_
      refine lv_if_le (tgt := 40) hx hb dX6_accept_25 (by decide) (fun b6 => ?_) (fun b6 => ?_)
      · have hs := ite_t hs b6
        refine lv_iconst (v := (0 : Int32)) hx hb dX6_accept_40 (by decide) ?_
        exact hret _ _ _ _ _ _ _ _ hs (Or.inl rfl) hP hS dX6_accept_41
      · have hs := ite_f hs b6
        refine lv_aload_n hx hb dX6_accept_28 rfl (lv_at hl 0 rfl) ?_
        refine lv_iload_n hx hb dX6_accept_29 rfl (lv_at hl 1 rfl) ?_
        obtain ⟨q7, eq7, hs⟩ := ob hs
        refine nd_callV (As := [.int x1]) (rest := []) (st1 := [.int q7.1]) hx hb hml hown hts hl hP hK hD hS hA hN (mX6_acceptMark eq7) iv_X6_acceptMark wd_197 3 rfl rfl rfl rfl ⟨Nat.le_of_ble_eq_true rfl, Nat.le_of_ble_eq_true rfl⟩ (Nat.le_of_ble_eq_true rfl) ⟨Nat.zero_le _, Nat.zero_le _⟩ dX6_accept_30 rfl rfl (fun H locs hP hD hS => ?_)
        refine lv_if_eq (tgt := 40) hx hb dX6_accept_33 (by decide) (fun b8 => ?_) (fun b8 => ?_)
        · have hs := ite_t hs b8
          refine lv_iconst (v := (0 : Int32)) hx hb dX6_accept_40 (by decide) ?_
          exact hret _ _ _ _ _ _ _ _ hs (Or.inl rfl) hP hS dX6_accept_41
        · have hs := ite_f hs b8
          refine lv_iconst (v := (1 : Int32)) hx hb dX6_accept_36 (by decide) ?_
          refine lv_goto (tgt := 41) hx hb dX6_accept_37 (by decide) ?_
          exact hret _ _ _ _ _ _ _ _ hs (Or.inr rfl) hP hS dX6_accept_41
    · have hs := ite_f hs b5
      refine lv_aload_n hx hb dX6_accept_12 rfl (lv_at hl 0 rfl) ?_
      refine lv_iload_n hx hb dX6_accept_13 rfl (lv_at hl 1 rfl) ?_
      refine lv_bipush (v := (48 : Int32)) hx hb dX6_accept_14 (by decide) ?_
      refine lv_isub hx hb dX6_accept_16 ?_
      obtain ⟨q9, eq9, hs⟩ := ob hs
      refine nd_callV (As := [.int (x1 - (48 : Int32))]) (rest := []) (st1 := [.int q9.1]) hx hb hml hown hts hl hP hK hD hS hA hN (mX6_acceptDigit eq9) iv_X6_acceptDigit wd_189 3 rfl rfl rfl rfl ⟨Nat.le_of_ble_eq_true rfl, Nat.le_of_ble_eq_true rfl⟩ (Nat.le_of_ble_eq_true rfl) ⟨Nat.zero_le _, Nat.zero_le _⟩ dX6_accept_17 rfl rfl (fun H locs hP hD hS => ?_)
      obtain ⟨t10, et10, hs⟩ := ob hs
      exact hret _ _ _ _ _ _ _ _ hs (bz_e et10) hP hS dX6_accept_20
def tX7_receiptsOf_0 : List (Nat × Instr × Nat) := [(0, .iconst 0, 1), (1, .istore_n 1, 1), (2, .iconst 0, 1), (3, .istore_n 2, 1), (4, .iload_n 2, 1), (5, .aload_n 0, 1), (6, .invokevirtual 9, 3), (9, .if_icmp .ge 17, 3), (12, .iload_n 1, 1), (13, .aload_n 0, 1), (14, .iload_n 2, 1), (15, .invokevirtual 15, 3), (18, .iadd, 1), (19, .istore_n 1, 1), (20, .iinc 2 1, 3), (23, .goto (-19), 3), (26, .iload_n 1, 1), (27, .ireturn, 1)]
theorem tX7_receiptsOf_0_ok : tX7_receiptsOf_0.all (fun q => decide (decode cX7_receiptsOf q.1 = .ok q.2)) = true := by decide +kernel
theorem dX7_receiptsOf_0 : decode cX7_receiptsOf 0 = .ok (.iconst 0, 1) := td tX7_receiptsOf_0_ok 0 (q := (0, .iconst 0, 1)) rfl
theorem dX7_receiptsOf_1 : decode cX7_receiptsOf 1 = .ok (.istore_n 1, 1) := td tX7_receiptsOf_0_ok 1 (q := (1, .istore_n 1, 1)) rfl
theorem dX7_receiptsOf_2 : decode cX7_receiptsOf 2 = .ok (.iconst 0, 1) := td tX7_receiptsOf_0_ok 2 (q := (2, .iconst 0, 1)) rfl
theorem dX7_receiptsOf_3 : decode cX7_receiptsOf 3 = .ok (.istore_n 2, 1) := td tX7_receiptsOf_0_ok 3 (q := (3, .istore_n 2, 1)) rfl
theorem dX7_receiptsOf_4 : decode cX7_receiptsOf 4 = .ok (.iload_n 2, 1) := td tX7_receiptsOf_0_ok 4 (q := (4, .iload_n 2, 1)) rfl
theorem dX7_receiptsOf_5 : decode cX7_receiptsOf 5 = .ok (.aload_n 0, 1) := td tX7_receiptsOf_0_ok 5 (q := (5, .aload_n 0, 1)) rfl
theorem dX7_receiptsOf_6 : decode cX7_receiptsOf 6 = .ok (.invokevirtual 9, 3) := td tX7_receiptsOf_0_ok 6 (q := (6, .invokevirtual 9, 3)) rfl
theorem dX7_receiptsOf_9 : decode cX7_receiptsOf 9 = .ok (.if_icmp .ge 17, 3) := td tX7_receiptsOf_0_ok 7 (q := (9, .if_icmp .ge 17, 3)) rfl
theorem dX7_receiptsOf_12 : decode cX7_receiptsOf 12 = .ok (.iload_n 1, 1) := td tX7_receiptsOf_0_ok 8 (q := (12, .iload_n 1, 1)) rfl
theorem dX7_receiptsOf_13 : decode cX7_receiptsOf 13 = .ok (.aload_n 0, 1) := td tX7_receiptsOf_0_ok 9 (q := (13, .aload_n 0, 1)) rfl
theorem dX7_receiptsOf_14 : decode cX7_receiptsOf 14 = .ok (.iload_n 2, 1) := td tX7_receiptsOf_0_ok 10 (q := (14, .iload_n 2, 1)) rfl
theorem dX7_receiptsOf_15 : decode cX7_receiptsOf 15 = .ok (.invokevirtual 15, 3) := td tX7_receiptsOf_0_ok 11 (q := (15, .invokevirtual 15, 3)) rfl
theorem dX7_receiptsOf_18 : decode cX7_receiptsOf 18 = .ok (.iadd, 1) := td tX7_receiptsOf_0_ok 12 (q := (18, .iadd, 1)) rfl
theorem dX7_receiptsOf_19 : decode cX7_receiptsOf 19 = .ok (.istore_n 1, 1) := td tX7_receiptsOf_0_ok 13 (q := (19, .istore_n 1, 1)) rfl
theorem dX7_receiptsOf_20 : decode cX7_receiptsOf 20 = .ok (.iinc 2 1, 3) := td tX7_receiptsOf_0_ok 14 (q := (20, .iinc 2 1, 3)) rfl
theorem dX7_receiptsOf_23 : decode cX7_receiptsOf 23 = .ok (.goto (-19), 3) := td tX7_receiptsOf_0_ok 15 (q := (23, .goto (-19), 3)) rfl
theorem dX7_receiptsOf_26 : decode cX7_receiptsOf 26 = .ok (.iload_n 1, 1) := td tX7_receiptsOf_0_ok 16 (q := (26, .iload_n 1, 1)) rfl
theorem dX7_receiptsOf_27 : decode cX7_receiptsOf 27 = .ok (.ireturn, 1) := td tX7_receiptsOf_0_ok 17 (q := (27, .ireturn, 1)) rfl
def fX7_receiptsOf_4 (k4 : Int32 → Option (Int32)) (kc : (Nat → Int32)) : Nat → Int32 → Int32 → Option (Int32)
  | 0, _, _ => none
  | n4 + 1, x1, x2 => (Option.bind (fX0_pieces kc) (fun q1 => (if q1 ≤ x2 then (k4 x1) else (Option.bind (fX0_receiptsOf kc x2) (fun q3 => (fX7_receiptsOf_4 k4 kc n4 (x1 + q3) (x2 + (1 : Int32))))))))
def fX7_receiptsOf (kc : (Nat → Int32)) : Option (Int32) :=
  (fX7_receiptsOf_4 (fun (u1_4 : Int32) => (some u1_4)) kc LF (0 : Int32) (0 : Int32))
set_option maxHeartbeats 4000000 in
set_option maxRecDepth 100000 in
theorem mX7_receiptsOf {l : Launch} {D : va_G} {ad : Nat → Nat} {cI : ClassId} {kc : (Nat → Int32)} {ksv : (Nat → Int32)} {kbc : (Nat → Int32)} {kit : (Nat → Int32)} {kln : (Nat → Int32)} {ken : (Nat → Int32)} {kla : (Nat → Int32)} {kfi : (Nat → Int32)} {kea : (Nat → Int32)} {kns : Int32} {kbl : Int32} {kr0 : Int32} {kr1 : Int32} {kr2 : Int32} {kr3 : Int32} {kr4 : Int32} {kr5 : Int32} {klr : Int32} {kp0 : Int32} {kp1 : Int32} {kp2 : Int32} {kp3 : Int32} {r : Int32} (hs : fX7_receiptsOf kc = some r) : nd_C l yX7_receiptsOf cX7_receiptsOf 3 (some .int) 2 42 D [(cI, .int)] [.ref (ad 1)] (CW ad cI kc ksv kbc kit kln ken kla kfi kea kns kbl kr0 kr1 kr2 kr3 kr4 kr5 klr kp0 kp1 kp2 kp3) (CW ad cI kc ksv kbc kit kln ken kla kfi kea kns kbl kr0 kr1 kr2 kr3 kr4 kr5 klr kp0 kp1 kp2 kp3) (some (.int r)) := by
  refine nd_ofCi (by decide) (Nat.le_of_ble_eq_true rfl) (fun p e s m args below meth c_ ls A Q hx hb hml hown hts hl hP hK hD hS hA hN hret => ?_)
  have hown : s.vm.findClass RX7 = some m.cls := hown
  have hl : lv_has ls 3 [(0, .ref (ad 1))] := hl
  have hret : ∀ (z0 : Int32) {H : Heap} {locs : List Loc} {pc : Nat} {ls : Array Slot}, some z0 = some r → va_P D vwCl (CW ad cI kc ksv kbc kit kln ken kla kfi kea kns kbl kr0 kr1 kr2 kr3 kr4 kr5 klr kp0 kp1 kp2 kp3) H → va_S A s.heap H locs → decode cX7_receiptsOf pc = .ok (.ireturn, 1) → W p l e ⟨2, 0, 0, 42⟩ s m args below meth c_ H locs 0 0 Q (F0 m pc ls [.int z0]) := by
    intro z0 H locs pc ls h hP hS hd
    cases h
    exact hret hP hS hd
  rw [fX7_receiptsOf] at hs
  refine lv_iconst (v := (0 : Int32)) hx hb dX7_receiptsOf_0 (by decide) ?_
  refine lv_istore_n (lv' := [(1, .int (0 : Int32)), (0, .ref (ad 1))]) hx hb dX7_receiptsOf_1 rfl hl (by decide) rfl (fun ls hl => ?_)
  refine lv_iconst (v := (0 : Int32)) hx hb dX7_receiptsOf_2 (by decide) ?_
  refine lv_istore_n (lv' := [(2, .int (0 : Int32)), (1, .int (0 : Int32)), (0, .ref (ad 1))]) hx hb dX7_receiptsOf_3 rfl hl (by decide) rfl (fun ls hl => ?_)
  have L4 : ∀ (n4 : Nat) (k4 : Int32 → Option (Int32)) (v1_4 : Int32) (v2_4 : Int32) (H : Heap) (locs : List Loc) (ls : Array Slot), lv_has ls 3 [(0, .ref (ad 1)), (1, .int v1_4), (2, .int v2_4)] → va_P D vwCl (CW ad cI kc ksv kbc kit kln ken kla kfi kea kns kbl kr0 kr1 kr2 kr3 kr4 kr5 klr kp0 kp1 kp2 kp3) H → va_S A s.heap H locs → fX7_receiptsOf_4 k4 kc n4 v1_4 v2_4 = some r → (∀ (u1_4 : Int32) (H : Heap) (locs : List Loc) (ls : Array Slot), lv_has ls 3 [(1, .int u1_4)] → va_P D vwCl (CW ad cI kc ksv kbc kit kln ken kla kfi kea kns kbl kr0 kr1 kr2 kr3 kr4 kr5 klr kp0 kp1 kp2 kp3) H → va_S A s.heap H locs → k4 u1_4 = some r → W p l e ⟨2, 0, 0, 42⟩ s m args below meth c_ H locs 0 0 Q (F0 m 26 ls [])) → W p l e ⟨2, 0, 0, 42⟩ s m args below meth c_ H locs 0 0 Q (F0 m 4 ls []) := by
    intro n4
    induction n4 with
    | zero =>
      intro k4 v1_4 v2_4 H locs ls hl hP hS hs hk4
      rw [fX7_receiptsOf_4] at hs
      cases hs
    | succ n4 ih4 =>
      intro k4 v1_4 v2_4 H locs ls hl hP hS hs hk4
      rw [fX7_receiptsOf_4] at hs
      refine lv_iload_n hx hb dX7_receiptsOf_4 rfl (lv_at hl 2 rfl) ?_
      refine lv_aload_n hx hb dX7_receiptsOf_5 rfl (lv_at hl 0 rfl) ?_
      obtain ⟨q5, eq5, hs⟩ := ob hs
      refine nd_callV (As := []) (rest := [.int v2_4]) (st1 := [.int q5, .int v2_4]) hx hb hml hown hts hl hP hK hD hS hA hN (mX0_pieces eq5) iv_X0_pieces wd_758 1 rfl rfl rfl rfl ⟨Nat.le_of_ble_eq_true rfl, Nat.le_of_ble_eq_true rfl⟩ (Nat.le_of_ble_eq_true rfl) ⟨Nat.zero_le _, Nat.zero_le _⟩ dX7_receiptsOf_6 rfl rfl (fun H locs hP hD hS => ?_)
      refine lv_icmp_ge (tgt := 26) hx hb dX7_receiptsOf_9 (by decide) (fun b6 => ?_) (fun b6 => ?_)
      · have hs := ite_t hs b6
        exact hk4 v1_4 _ _ _ (lv_sub hl [1] rfl) hP hS hs
      · have hs := ite_f hs b6
        refine lv_iload_n hx hb dX7_receiptsOf_12 rfl (lv_at hl 1 rfl) ?_
        refine lv_aload_n hx hb dX7_receiptsOf_13 rfl (lv_at hl 0 rfl) ?_
        refine lv_iload_n hx hb dX7_receiptsOf_14 rfl (lv_at hl 2 rfl) ?_
        obtain ⟨q7, eq7, hs⟩ := ob hs
        refine nd_callV (As := [.int v2_4]) (rest := [.int v1_4]) (st1 := [.int q7, .int v1_4]) hx hb hml hown hts hl hP hK hD hS hA hN (mX0_receiptsOf eq7) iv_X0_receiptsOf wd_555 1 rfl rfl rfl rfl ⟨Nat.le_of_ble_eq_true rfl, Nat.le_of_ble_eq_true rfl⟩ (Nat.le_of_ble_eq_true rfl) ⟨Nat.zero_le _, Nat.zero_le _⟩ dX7_receiptsOf_15 rfl rfl (fun H locs hP hD hS => ?_)
        refine lv_iadd hx hb dX7_receiptsOf_18 ?_
        refine lv_istore_n (lv' := [(1, .int (v1_4 + q7)), (0, .ref (ad 1)), (2, .int v2_4)]) hx hb dX7_receiptsOf_19 rfl hl (by decide) rfl (fun ls hl => ?_)
        refine lv_iinc (v := v2_4 + (1 : Int32)) (lv' := [(2, .int (v2_4 + (1 : Int32))), (1, .int (v1_4 + q7)), (0, .ref (ad 1))]) hx hb dX7_receiptsOf_20 hl (k := 2) rfl rfl (by decide) rfl (fun ls hl => ?_)
        refine lv_goto (tgt := 4) hx hb dX7_receiptsOf_23 (by decide) ?_
        exact ih4 k4 (v1_4 + q7) (v2_4 + (1 : Int32)) _ _ _ (lv_sub hl [2, 1, 0] rfl) hP hS hs hk4
  refine L4 LF _ (0 : Int32) (0 : Int32) _ _ _ (lv_sub hl [2, 1, 0] rfl) hP hS hs (fun u1_4 H locs ls hl hP hS hs => ?_)
  refine lv_iload_n hx hb dX7_receiptsOf_26 rfl (lv_at hl 0 rfl) ?_
  exact hret _ hs hP hS dX7_receiptsOf_27
def tX7_receiptsOfKind_0 : List (Nat × Instr × Nat) := [(0, .iconst 0, 1), (1, .istore_n 2, 1), (2, .iconst 0, 1), (3, .istore_n 3, 1), (4, .iload_n 3, 1), (5, .bipush 60, 2), (7, .if_icmp .ge 29, 3), (10, .aload_n 0, 1), (11, .iload_n 3, 1), (12, .invokevirtual 19, 3), (15, .ifCond .eq 15, 3), (18, .aload_n 0, 1), (19, .iload_n 3, 1), (20, .invokestatic 23, 3), (23, .iload_n 1, 1), (24, .if_icmp .ne 6, 3), (27, .iinc 2 1, 3), (30, .iinc 3 1, 3), (33, .goto (-29), 3), (36, .iload_n 2, 1), (37, .ireturn, 1)]
theorem tX7_receiptsOfKind_0_ok : tX7_receiptsOfKind_0.all (fun q => decide (decode cX7_receiptsOfKind q.1 = .ok q.2)) = true := by decide +kernel
theorem dX7_receiptsOfKind_0 : decode cX7_receiptsOfKind 0 = .ok (.iconst 0, 1) := td tX7_receiptsOfKind_0_ok 0 (q := (0, .iconst 0, 1)) rfl
theorem dX7_receiptsOfKind_1 : decode cX7_receiptsOfKind 1 = .ok (.istore_n 2, 1) := td tX7_receiptsOfKind_0_ok 1 (q := (1, .istore_n 2, 1)) rfl
theorem dX7_receiptsOfKind_2 : decode cX7_receiptsOfKind 2 = .ok (.iconst 0, 1) := td tX7_receiptsOfKind_0_ok 2 (q := (2, .iconst 0, 1)) rfl
theorem dX7_receiptsOfKind_3 : decode cX7_receiptsOfKind 3 = .ok (.istore_n 3, 1) := td tX7_receiptsOfKind_0_ok 3 (q := (3, .istore_n 3, 1)) rfl
theorem dX7_receiptsOfKind_4 : decode cX7_receiptsOfKind 4 = .ok (.iload_n 3, 1) := td tX7_receiptsOfKind_0_ok 4 (q := (4, .iload_n 3, 1)) rfl
theorem dX7_receiptsOfKind_5 : decode cX7_receiptsOfKind 5 = .ok (.bipush 60, 2) := td tX7_receiptsOfKind_0_ok 5 (q := (5, .bipush 60, 2)) rfl
theorem dX7_receiptsOfKind_7 : decode cX7_receiptsOfKind 7 = .ok (.if_icmp .ge 29, 3) := td tX7_receiptsOfKind_0_ok 6 (q := (7, .if_icmp .ge 29, 3)) rfl
theorem dX7_receiptsOfKind_10 : decode cX7_receiptsOfKind 10 = .ok (.aload_n 0, 1) := td tX7_receiptsOfKind_0_ok 7 (q := (10, .aload_n 0, 1)) rfl
theorem dX7_receiptsOfKind_11 : decode cX7_receiptsOfKind 11 = .ok (.iload_n 3, 1) := td tX7_receiptsOfKind_0_ok 8 (q := (11, .iload_n 3, 1)) rfl
theorem dX7_receiptsOfKind_12 : decode cX7_receiptsOfKind 12 = .ok (.invokevirtual 19, 3) := td tX7_receiptsOfKind_0_ok 9 (q := (12, .invokevirtual 19, 3)) rfl
theorem dX7_receiptsOfKind_15 : decode cX7_receiptsOfKind 15 = .ok (.ifCond .eq 15, 3) := td tX7_receiptsOfKind_0_ok 10 (q := (15, .ifCond .eq 15, 3)) rfl
theorem dX7_receiptsOfKind_18 : decode cX7_receiptsOfKind 18 = .ok (.aload_n 0, 1) := td tX7_receiptsOfKind_0_ok 11 (q := (18, .aload_n 0, 1)) rfl
theorem dX7_receiptsOfKind_19 : decode cX7_receiptsOfKind 19 = .ok (.iload_n 3, 1) := td tX7_receiptsOfKind_0_ok 12 (q := (19, .iload_n 3, 1)) rfl
theorem dX7_receiptsOfKind_20 : decode cX7_receiptsOfKind 20 = .ok (.invokestatic 23, 3) := td tX7_receiptsOfKind_0_ok 13 (q := (20, .invokestatic 23, 3)) rfl
theorem dX7_receiptsOfKind_23 : decode cX7_receiptsOfKind 23 = .ok (.iload_n 1, 1) := td tX7_receiptsOfKind_0_ok 14 (q := (23, .iload_n 1, 1)) rfl
theorem dX7_receiptsOfKind_24 : decode cX7_receiptsOfKind 24 = .ok (.if_icmp .ne 6, 3) := td tX7_receiptsOfKind_0_ok 15 (q := (24, .if_icmp .ne 6, 3)) rfl
theorem dX7_receiptsOfKind_27 : decode cX7_receiptsOfKind 27 = .ok (.iinc 2 1, 3) := td tX7_receiptsOfKind_0_ok 16 (q := (27, .iinc 2 1, 3)) rfl
theorem dX7_receiptsOfKind_30 : decode cX7_receiptsOfKind 30 = .ok (.iinc 3 1, 3) := td tX7_receiptsOfKind_0_ok 17 (q := (30, .iinc 3 1, 3)) rfl
theorem dX7_receiptsOfKind_33 : decode cX7_receiptsOfKind 33 = .ok (.goto (-29), 3) := td tX7_receiptsOfKind_0_ok 18 (q := (33, .goto (-29), 3)) rfl
theorem dX7_receiptsOfKind_36 : decode cX7_receiptsOfKind 36 = .ok (.iload_n 2, 1) := td tX7_receiptsOfKind_0_ok 19 (q := (36, .iload_n 2, 1)) rfl
theorem dX7_receiptsOfKind_37 : decode cX7_receiptsOfKind 37 = .ok (.ireturn, 1) := td tX7_receiptsOfKind_0_ok 20 (q := (37, .ireturn, 1)) rfl
def fX7_receiptsOfKind_4 (k4 : Int32 → Option (Int32)) (kc : (Nat → Int32)) (x1 : Int32) : Nat → Int32 → Int32 → Option (Int32)
  | 0, _, _ => none
  | n4 + 1, x2, x3 => (if (60 : Int32) ≤ x3 then (k4 x2) else (Option.bind (fX0_isUsed kc x3) (fun q2 => (if q2 = 0 then (fX7_receiptsOfKind_4 k4 kc x1 n4 x2 (x3 + (1 : Int32))) else (Option.bind (fX2_kindOf kc x3) (fun q4 => (if q4 = x1 then (fX7_receiptsOfKind_4 k4 kc x1 n4 (x2 + (1 : Int32)) (x3 + (1 : Int32))) else (fX7_receiptsOfKind_4 k4 kc x1 n4 x2 (x3 + (1 : Int32))))))))))
def fX7_receiptsOfKind (kc : (Nat → Int32)) (x1 : Int32) : Option (Int32) :=
  (fX7_receiptsOfKind_4 (fun (u2_6 : Int32) => (some u2_6)) kc x1 LF (0 : Int32) (0 : Int32))
set_option maxHeartbeats 4000000 in
set_option maxRecDepth 100000 in
theorem mX7_receiptsOfKind {l : Launch} {D : va_G} {ad : Nat → Nat} {cI : ClassId} {kc : (Nat → Int32)} {ksv : (Nat → Int32)} {kbc : (Nat → Int32)} {kit : (Nat → Int32)} {kln : (Nat → Int32)} {ken : (Nat → Int32)} {kla : (Nat → Int32)} {kfi : (Nat → Int32)} {kea : (Nat → Int32)} {kns : Int32} {kbl : Int32} {kr0 : Int32} {kr1 : Int32} {kr2 : Int32} {kr3 : Int32} {kr4 : Int32} {kr5 : Int32} {klr : Int32} {kp0 : Int32} {kp1 : Int32} {kp2 : Int32} {kp3 : Int32} {x1 : Int32} {r : Int32} (hs : fX7_receiptsOfKind kc x1 = some r) : nd_C l yX7_receiptsOfKind cX7_receiptsOfKind 4 (some .int) 3 69 D [(cI, .int)] [.ref (ad 1), .int x1] (CW ad cI kc ksv kbc kit kln ken kla kfi kea kns kbl kr0 kr1 kr2 kr3 kr4 kr5 klr kp0 kp1 kp2 kp3) (CW ad cI kc ksv kbc kit kln ken kla kfi kea kns kbl kr0 kr1 kr2 kr3 kr4 kr5 klr kp0 kp1 kp2 kp3) (some (.int r)) := by
  refine nd_ofCi (by decide) (Nat.le_of_ble_eq_true rfl) (fun p e s m args below meth c_ ls A Q hx hb hml hown hts hl hP hK hD hS hA hN hret => ?_)
  have hown : s.vm.findClass RX7 = some m.cls := hown
  have hl : lv_has ls 4 [(0, .ref (ad 1)), (1, .int x1)] := hl
  have hret : ∀ (z0 : Int32) {H : Heap} {locs : List Loc} {pc : Nat} {ls : Array Slot}, some z0 = some r → va_P D vwCl (CW ad cI kc ksv kbc kit kln ken kla kfi kea kns kbl kr0 kr1 kr2 kr3 kr4 kr5 klr kp0 kp1 kp2 kp3) H → va_S A s.heap H locs → decode cX7_receiptsOfKind pc = .ok (.ireturn, 1) → W p l e ⟨3, 0, 0, 69⟩ s m args below meth c_ H locs 0 0 Q (F0 m pc ls [.int z0]) := by
    intro z0 H locs pc ls h hP hS hd
    cases h
    exact hret hP hS hd
  rw [fX7_receiptsOfKind] at hs
  refine lv_iconst (v := (0 : Int32)) hx hb dX7_receiptsOfKind_0 (by decide) ?_
  refine lv_istore_n (lv' := [(2, .int (0 : Int32)), (0, .ref (ad 1)), (1, .int x1)]) hx hb dX7_receiptsOfKind_1 rfl hl (by decide) rfl (fun ls hl => ?_)
  refine lv_iconst (v := (0 : Int32)) hx hb dX7_receiptsOfKind_2 (by decide) ?_
  refine lv_istore_n (lv' := [(3, .int (0 : Int32)), (2, .int (0 : Int32)), (0, .ref (ad 1)), (1, .int x1)]) hx hb dX7_receiptsOfKind_3 rfl hl (by decide) rfl (fun ls hl => ?_)
  have L4 : ∀ (n4 : Nat) (k4 : Int32 → Option (Int32)) (v2_6 : Int32) (v3_6 : Int32) (H : Heap) (locs : List Loc) (ls : Array Slot), lv_has ls 4 [(0, .ref (ad 1)), (1, .int x1), (2, .int v2_6), (3, .int v3_6)] → va_P D vwCl (CW ad cI kc ksv kbc kit kln ken kla kfi kea kns kbl kr0 kr1 kr2 kr3 kr4 kr5 klr kp0 kp1 kp2 kp3) H → va_S A s.heap H locs → fX7_receiptsOfKind_4 k4 kc x1 n4 v2_6 v3_6 = some r → (∀ (u2_6 : Int32) (H : Heap) (locs : List Loc) (ls : Array Slot), lv_has ls 4 [(2, .int u2_6)] → va_P D vwCl (CW ad cI kc ksv kbc kit kln ken kla kfi kea kns kbl kr0 kr1 kr2 kr3 kr4 kr5 klr kp0 kp1 kp2 kp3) H → va_S A s.heap H locs → k4 u2_6 = some r → W p l e ⟨3, 0, 0, 69⟩ s m args below meth c_ H locs 0 0 Q (F0 m 36 ls [])) → W p l e ⟨3, 0, 0, 69⟩ s m args below meth c_ H locs 0 0 Q (F0 m 4 ls []) := by
    intro n4
    induction n4 with
    | zero =>
      intro k4 v2_6 v3_6 H locs ls hl hP hS hs hk4
      rw [fX7_receiptsOfKind_4] at hs
      cases hs
    | succ n4 ih4 =>
      intro k4 v2_6 v3_6 H locs ls hl hP hS hs hk4
      rw [fX7_receiptsOfKind_4] at hs
      refine lv_iload_n hx hb dX7_receiptsOfKind_4 rfl (lv_at hl 3 rfl) ?_
      refine lv_bipush (v := (60 : Int32)) hx hb dX7_receiptsOfKind_5 (by decide) ?_
      refine lv_icmp_ge (tgt := 36) hx hb dX7_receiptsOfKind_7 (by decide) (fun b7 => ?_) (fun b7 => ?_)
      · have hs := ite_t hs b7
        exact hk4 v2_6 _ _ _ (lv_sub hl [2] rfl) hP hS hs
      · have hs := ite_f hs b7
        refine lv_aload_n hx hb dX7_receiptsOfKind_10 rfl (lv_at hl 0 rfl) ?_
        refine lv_iload_n hx hb dX7_receiptsOfKind_11 rfl (lv_at hl 3 rfl) ?_
        obtain ⟨q8, eq8, hs⟩ := ob hs
        refine nd_callV (As := [.int v3_6]) (rest := []) (st1 := [.int q8]) hx hb hml hown hts hl hP hK hD hS hA hN (mX0_isUsed eq8) iv_X0_isUsed wd_608 1 rfl rfl rfl rfl ⟨Nat.le_of_ble_eq_true rfl, Nat.le_of_ble_eq_true rfl⟩ (Nat.le_of_ble_eq_true rfl) ⟨Nat.zero_le _, Nat.zero_le _⟩ dX7_receiptsOfKind_12 rfl rfl (fun H locs hP hD hS => ?_)
        refine lv_if_eq (tgt := 30) hx hb dX7_receiptsOfKind_15 (by decide) (fun b9 => ?_) (fun b9 => ?_)
        · have hs := ite_t hs b9
          refine lv_iinc (v := v3_6 + (1 : Int32)) (lv' := [(3, .int (v3_6 + (1 : Int32))), (0, .ref (ad 1)), (1, .int x1), (2, .int v2_6)]) hx hb dX7_receiptsOfKind_30 hl (k := 3) rfl rfl (by decide) rfl (fun ls hl => ?_)
          refine lv_goto (tgt := 4) hx hb dX7_receiptsOfKind_33 (by decide) ?_
          exact ih4 k4 v2_6 (v3_6 + (1 : Int32)) _ _ _ (lv_sub hl [1, 2, 3, 0] rfl) hP hS hs hk4
        · have hs := ite_f hs b9
          refine lv_aload_n hx hb dX7_receiptsOfKind_18 rfl (lv_at hl 0 rfl) ?_
          refine lv_iload_n hx hb dX7_receiptsOfKind_19 rfl (lv_at hl 3 rfl) ?_
          obtain ⟨q10, eq10, hs⟩ := ob hs
          refine nd_callS (As := [.ref (ad 1), .int v3_6]) (rest := []) (st1 := [.int q10]) hx hb hml hown hts hl hP hK hD hS hA hN (mX2_kindOf eq10) is_X2_kindOf wd_770 rfl rfl ⟨Nat.le_of_ble_eq_true rfl, Nat.le_of_ble_eq_true rfl⟩ (Nat.le_of_ble_eq_true rfl) ⟨Nat.zero_le _, Nat.zero_le _⟩ dX7_receiptsOfKind_20 rfl rfl (fun H locs hP hD hS => ?_)
          refine lv_iload_n hx hb dX7_receiptsOfKind_23 rfl (lv_at hl 1 rfl) ?_
          refine lv_icmp_ne (tgt := 30) hx hb dX7_receiptsOfKind_24 (by decide) (fun b11 => ?_) (fun b11 => ?_)
          · have hs := ite_f hs b11
            refine lv_iinc (v := v3_6 + (1 : Int32)) (lv' := [(3, .int (v3_6 + (1 : Int32))), (0, .ref (ad 1)), (1, .int x1), (2, .int v2_6)]) hx hb dX7_receiptsOfKind_30 hl (k := 3) rfl rfl (by decide) rfl (fun ls hl => ?_)
            refine lv_goto (tgt := 4) hx hb dX7_receiptsOfKind_33 (by decide) ?_
            exact ih4 k4 v2_6 (v3_6 + (1 : Int32)) _ _ _ (lv_sub hl [1, 2, 3, 0] rfl) hP hS hs hk4
          · have hs := ite_t hs b11
            refine lv_iinc (v := v2_6 + (1 : Int32)) (lv' := [(2, .int (v2_6 + (1 : Int32))), (0, .ref (ad 1)), (1, .int x1), (3, .int v3_6)]) hx hb dX7_receiptsOfKind_27 hl (k := 2) rfl rfl (by decide) rfl (fun ls hl => ?_)
            refine lv_iinc (v := v3_6 + (1 : Int32)) (lv' := [(3, .int (v3_6 + (1 : Int32))), (2, .int (v2_6 + (1 : Int32))), (0, .ref (ad 1)), (1, .int x1)]) hx hb dX7_receiptsOfKind_30 hl (k := 3) rfl rfl (by decide) rfl (fun ls hl => ?_)
            refine lv_goto (tgt := 4) hx hb dX7_receiptsOfKind_33 (by decide) ?_
            exact ih4 k4 (v2_6 + (1 : Int32)) (v3_6 + (1 : Int32)) _ _ _ (lv_sub hl [2, 3, 1, 0] rfl) hP hS hs hk4
  refine L4 LF _ (0 : Int32) (0 : Int32) _ _ _ (lv_sub hl [2, 3, 1, 0] rfl) hP hS hs (fun u2_6 H locs ls hl hP hS hs => ?_)
  refine lv_iload_n hx hb dX7_receiptsOfKind_36 rfl (lv_at hl 0 rfl) ?_
  exact hret _ hs hP hS dX7_receiptsOfKind_37
def tX7_sumOfPiece_0 : List (Nat × Instr × Nat) := [(0, .iconst 0, 1), (1, .istore_n 2, 1), (2, .iconst 0, 1), (3, .istore_n 3, 1), (4, .iload_n 3, 1), (5, .aload_n 0, 1), (6, .iload_n 1, 1), (7, .invokevirtual 15, 3), (10, .if_icmp .ge 21, 3), (13, .iload_n 2, 1), (14, .aload_n 0, 1), (15, .iload_n 1, 1), (16, .iload_n 3, 1), (17, .invokestatic 29, 3), (20, .invokevirtual 33, 3), (23, .iadd, 1), (24, .istore_n 2, 1), (25, .iinc 3 1, 3), (28, .goto (-24), 3), (31, .iload_n 2, 1), (32, .ireturn, 1)]
theorem tX7_sumOfPiece_0_ok : tX7_sumOfPiece_0.all (fun q => decide (decode cX7_sumOfPiece q.1 = .ok q.2)) = true := by decide +kernel
theorem dX7_sumOfPiece_0 : decode cX7_sumOfPiece 0 = .ok (.iconst 0, 1) := td tX7_sumOfPiece_0_ok 0 (q := (0, .iconst 0, 1)) rfl
theorem dX7_sumOfPiece_1 : decode cX7_sumOfPiece 1 = .ok (.istore_n 2, 1) := td tX7_sumOfPiece_0_ok 1 (q := (1, .istore_n 2, 1)) rfl
theorem dX7_sumOfPiece_2 : decode cX7_sumOfPiece 2 = .ok (.iconst 0, 1) := td tX7_sumOfPiece_0_ok 2 (q := (2, .iconst 0, 1)) rfl
theorem dX7_sumOfPiece_3 : decode cX7_sumOfPiece 3 = .ok (.istore_n 3, 1) := td tX7_sumOfPiece_0_ok 3 (q := (3, .istore_n 3, 1)) rfl
theorem dX7_sumOfPiece_4 : decode cX7_sumOfPiece 4 = .ok (.iload_n 3, 1) := td tX7_sumOfPiece_0_ok 4 (q := (4, .iload_n 3, 1)) rfl
theorem dX7_sumOfPiece_5 : decode cX7_sumOfPiece 5 = .ok (.aload_n 0, 1) := td tX7_sumOfPiece_0_ok 5 (q := (5, .aload_n 0, 1)) rfl
theorem dX7_sumOfPiece_6 : decode cX7_sumOfPiece 6 = .ok (.iload_n 1, 1) := td tX7_sumOfPiece_0_ok 6 (q := (6, .iload_n 1, 1)) rfl
theorem dX7_sumOfPiece_7 : decode cX7_sumOfPiece 7 = .ok (.invokevirtual 15, 3) := td tX7_sumOfPiece_0_ok 7 (q := (7, .invokevirtual 15, 3)) rfl
theorem dX7_sumOfPiece_10 : decode cX7_sumOfPiece 10 = .ok (.if_icmp .ge 21, 3) := td tX7_sumOfPiece_0_ok 8 (q := (10, .if_icmp .ge 21, 3)) rfl
theorem dX7_sumOfPiece_13 : decode cX7_sumOfPiece 13 = .ok (.iload_n 2, 1) := td tX7_sumOfPiece_0_ok 9 (q := (13, .iload_n 2, 1)) rfl
theorem dX7_sumOfPiece_14 : decode cX7_sumOfPiece 14 = .ok (.aload_n 0, 1) := td tX7_sumOfPiece_0_ok 10 (q := (14, .aload_n 0, 1)) rfl
theorem dX7_sumOfPiece_15 : decode cX7_sumOfPiece 15 = .ok (.iload_n 1, 1) := td tX7_sumOfPiece_0_ok 11 (q := (15, .iload_n 1, 1)) rfl
theorem dX7_sumOfPiece_16 : decode cX7_sumOfPiece 16 = .ok (.iload_n 3, 1) := td tX7_sumOfPiece_0_ok 12 (q := (16, .iload_n 3, 1)) rfl
theorem dX7_sumOfPiece_17 : decode cX7_sumOfPiece 17 = .ok (.invokestatic 29, 3) := td tX7_sumOfPiece_0_ok 13 (q := (17, .invokestatic 29, 3)) rfl
theorem dX7_sumOfPiece_20 : decode cX7_sumOfPiece 20 = .ok (.invokevirtual 33, 3) := td tX7_sumOfPiece_0_ok 14 (q := (20, .invokevirtual 33, 3)) rfl
theorem dX7_sumOfPiece_23 : decode cX7_sumOfPiece 23 = .ok (.iadd, 1) := td tX7_sumOfPiece_0_ok 15 (q := (23, .iadd, 1)) rfl
theorem dX7_sumOfPiece_24 : decode cX7_sumOfPiece 24 = .ok (.istore_n 2, 1) := td tX7_sumOfPiece_0_ok 16 (q := (24, .istore_n 2, 1)) rfl
theorem dX7_sumOfPiece_25 : decode cX7_sumOfPiece 25 = .ok (.iinc 3 1, 3) := td tX7_sumOfPiece_0_ok 17 (q := (25, .iinc 3 1, 3)) rfl
theorem dX7_sumOfPiece_28 : decode cX7_sumOfPiece 28 = .ok (.goto (-24), 3) := td tX7_sumOfPiece_0_ok 18 (q := (28, .goto (-24), 3)) rfl
theorem dX7_sumOfPiece_31 : decode cX7_sumOfPiece 31 = .ok (.iload_n 2, 1) := td tX7_sumOfPiece_0_ok 19 (q := (31, .iload_n 2, 1)) rfl
theorem dX7_sumOfPiece_32 : decode cX7_sumOfPiece 32 = .ok (.ireturn, 1) := td tX7_sumOfPiece_0_ok 20 (q := (32, .ireturn, 1)) rfl
def fX7_sumOfPiece_4 (k4 : Int32 → Option (Int32)) (kc : (Nat → Int32)) (x1 : Int32) : Nat → Int32 → Int32 → Option (Int32)
  | 0, _, _ => none
  | n4 + 1, x2, x3 => (Option.bind (fX0_receiptsOf kc x1) (fun q1 => (if q1 ≤ x3 then (k4 x2) else (Option.bind (fX0_slotOf x1 x3) (fun q3 => (Option.bind (fX0_sumOf kc q3) (fun q4 => (fX7_sumOfPiece_4 k4 kc x1 n4 (x2 + q4) (x3 + (1 : Int32))))))))))
def fX7_sumOfPiece (kc : (Nat → Int32)) (x1 : Int32) : Option (Int32) :=
  (fX7_sumOfPiece_4 (fun (u2_5 : Int32) => (some u2_5)) kc x1 LF (0 : Int32) (0 : Int32))
set_option maxHeartbeats 4000000 in
set_option maxRecDepth 100000 in
theorem mX7_sumOfPiece {l : Launch} {D : va_G} {ad : Nat → Nat} {cI : ClassId} {kc : (Nat → Int32)} {ksv : (Nat → Int32)} {kbc : (Nat → Int32)} {kit : (Nat → Int32)} {kln : (Nat → Int32)} {ken : (Nat → Int32)} {kla : (Nat → Int32)} {kfi : (Nat → Int32)} {kea : (Nat → Int32)} {kns : Int32} {kbl : Int32} {kr0 : Int32} {kr1 : Int32} {kr2 : Int32} {kr3 : Int32} {kr4 : Int32} {kr5 : Int32} {klr : Int32} {kp0 : Int32} {kp1 : Int32} {kp2 : Int32} {kp3 : Int32} {x1 : Int32} {r : Int32} (hs : fX7_sumOfPiece kc x1 = some r) : nd_C l yX7_sumOfPiece cX7_sumOfPiece 4 (some .int) 2 45 D [(cI, .int)] [.ref (ad 1), .int x1] (CW ad cI kc ksv kbc kit kln ken kla kfi kea kns kbl kr0 kr1 kr2 kr3 kr4 kr5 klr kp0 kp1 kp2 kp3) (CW ad cI kc ksv kbc kit kln ken kla kfi kea kns kbl kr0 kr1 kr2 kr3 kr4 kr5 klr kp0 kp1 kp2 kp3) (some (.int r)) := by
  refine nd_ofCi (by decide) (Nat.le_of_ble_eq_true rfl) (fun p e s m args below meth c_ ls A Q hx hb hml hown hts hl hP hK hD hS hA hN hret => ?_)
  have hown : s.vm.findClass RX7 = some m.cls := hown
  have hl : lv_has ls 4 [(0, .ref (ad 1)), (1, .int x1)] := hl
  have hret : ∀ (z0 : Int32) {H : Heap} {locs : List Loc} {pc : Nat} {ls : Array Slot}, some z0 = some r → va_P D vwCl (CW ad cI kc ksv kbc kit kln ken kla kfi kea kns kbl kr0 kr1 kr2 kr3 kr4 kr5 klr kp0 kp1 kp2 kp3) H → va_S A s.heap H locs → decode cX7_sumOfPiece pc = .ok (.ireturn, 1) → W p l e ⟨2, 0, 0, 45⟩ s m args below meth c_ H locs 0 0 Q (F0 m pc ls [.int z0]) := by
    intro z0 H locs pc ls h hP hS hd
    cases h
    exact hret hP hS hd
  rw [fX7_sumOfPiece] at hs
  refine lv_iconst (v := (0 : Int32)) hx hb dX7_sumOfPiece_0 (by decide) ?_
  refine lv_istore_n (lv' := [(2, .int (0 : Int32)), (0, .ref (ad 1)), (1, .int x1)]) hx hb dX7_sumOfPiece_1 rfl hl (by decide) rfl (fun ls hl => ?_)
  refine lv_iconst (v := (0 : Int32)) hx hb dX7_sumOfPiece_2 (by decide) ?_
  refine lv_istore_n (lv' := [(3, .int (0 : Int32)), (2, .int (0 : Int32)), (0, .ref (ad 1)), (1, .int x1)]) hx hb dX7_sumOfPiece_3 rfl hl (by decide) rfl (fun ls hl => ?_)
  have L4 : ∀ (n4 : Nat) (k4 : Int32 → Option (Int32)) (v2_5 : Int32) (v3_5 : Int32) (H : Heap) (locs : List Loc) (ls : Array Slot), lv_has ls 4 [(0, .ref (ad 1)), (1, .int x1), (2, .int v2_5), (3, .int v3_5)] → va_P D vwCl (CW ad cI kc ksv kbc kit kln ken kla kfi kea kns kbl kr0 kr1 kr2 kr3 kr4 kr5 klr kp0 kp1 kp2 kp3) H → va_S A s.heap H locs → fX7_sumOfPiece_4 k4 kc x1 n4 v2_5 v3_5 = some r → (∀ (u2_5 : Int32) (H : Heap) (locs : List Loc) (ls : Array Slot), lv_has ls 4 [(2, .int u2_5)] → va_P D vwCl (CW ad cI kc ksv kbc kit kln ken kla kfi kea kns kbl kr0 kr1 kr2 kr3 kr4 kr5 klr kp0 kp1 kp2 kp3) H → va_S A s.heap H locs → k4 u2_5 = some r → W p l e ⟨2, 0, 0, 45⟩ s m args below meth c_ H locs 0 0 Q (F0 m 31 ls [])) → W p l e ⟨2, 0, 0, 45⟩ s m args below meth c_ H locs 0 0 Q (F0 m 4 ls []) := by
    intro n4
    induction n4 with
    | zero =>
      intro k4 v2_5 v3_5 H locs ls hl hP hS hs hk4
      rw [fX7_sumOfPiece_4] at hs
      cases hs
    | succ n4 ih4 =>
      intro k4 v2_5 v3_5 H locs ls hl hP hS hs hk4
      rw [fX7_sumOfPiece_4] at hs
      refine lv_iload_n hx hb dX7_sumOfPiece_4 rfl (lv_at hl 3 rfl) ?_
      refine lv_aload_n hx hb dX7_sumOfPiece_5 rfl (lv_at hl 0 rfl) ?_
      refine lv_iload_n hx hb dX7_sumOfPiece_6 rfl (lv_at hl 1 rfl) ?_
      obtain ⟨q6, eq6, hs⟩ := ob hs
      refine nd_callV (As := [.int x1]) (rest := [.int v3_5]) (st1 := [.int q6, .int v3_5]) hx hb hml hown hts hl hP hK hD hS hA hN (mX0_receiptsOf eq6) iv_X0_receiptsOf wd_555 1 rfl rfl rfl rfl ⟨Nat.le_of_ble_eq_true rfl, Nat.le_of_ble_eq_true rfl⟩ (Nat.le_of_ble_eq_true rfl) ⟨Nat.zero_le _, Nat.zero_le _⟩ dX7_sumOfPiece_7 rfl rfl (fun H locs hP hD hS => ?_)
      refine lv_icmp_ge (tgt := 31) hx hb dX7_sumOfPiece_10 (by decide) (fun b7 => ?_) (fun b7 => ?_)
      · have hs := ite_t hs b7
        exact hk4 v2_5 _ _ _ (lv_sub hl [2] rfl) hP hS hs
      · have hs := ite_f hs b7
        refine lv_iload_n hx hb dX7_sumOfPiece_13 rfl (lv_at hl 2 rfl) ?_
        refine lv_aload_n hx hb dX7_sumOfPiece_14 rfl (lv_at hl 0 rfl) ?_
        refine lv_iload_n hx hb dX7_sumOfPiece_15 rfl (lv_at hl 1 rfl) ?_
        refine lv_iload_n hx hb dX7_sumOfPiece_16 rfl (lv_at hl 3 rfl) ?_
        obtain ⟨q8, eq8, hs⟩ := ob hs
        refine nd_callS (As := [.int x1, .int v3_5]) (rest := [.ref (ad 1), .int v2_5]) (st1 := [.int q8, .ref (ad 1), .int v2_5]) hx hb hml hown hts hl hP hK hD hS hA hN (mX0_slotOf eq8) is_X0_slotOf wd_556 rfl rfl ⟨Nat.le_of_ble_eq_true rfl, Nat.le_of_ble_eq_true rfl⟩ (Nat.le_of_ble_eq_true rfl) ⟨Nat.zero_le _, Nat.zero_le _⟩ dX7_sumOfPiece_17 rfl rfl (fun H locs hP hD hS => ?_)
        obtain ⟨q9, eq9, hs⟩ := ob hs
        refine nd_callV (As := [.int q8]) (rest := [.int v2_5]) (st1 := [.int q9, .int v2_5]) hx hb hml hown hts hl hP hK hD hS hA hN (mX0_sumOf eq9) iv_X0_sumOf wd_557 1 rfl rfl rfl rfl ⟨Nat.le_of_ble_eq_true rfl, Nat.le_of_ble_eq_true rfl⟩ (Nat.le_of_ble_eq_true rfl) ⟨Nat.zero_le _, Nat.zero_le _⟩ dX7_sumOfPiece_20 rfl rfl (fun H locs hP hD hS => ?_)
        refine lv_iadd hx hb dX7_sumOfPiece_23 ?_
        refine lv_istore_n (lv' := [(2, .int (v2_5 + q9)), (0, .ref (ad 1)), (1, .int x1), (3, .int v3_5)]) hx hb dX7_sumOfPiece_24 rfl hl (by decide) rfl (fun ls hl => ?_)
        refine lv_iinc (v := v3_5 + (1 : Int32)) (lv' := [(3, .int (v3_5 + (1 : Int32))), (2, .int (v2_5 + q9)), (0, .ref (ad 1)), (1, .int x1)]) hx hb dX7_sumOfPiece_25 hl (k := 3) rfl rfl (by decide) rfl (fun ls hl => ?_)
        refine lv_goto (tgt := 4) hx hb dX7_sumOfPiece_28 (by decide) ?_
        exact ih4 k4 (v2_5 + q9) (v3_5 + (1 : Int32)) _ _ _ (lv_sub hl [2, 3, 1, 0] rfl) hP hS hs hk4
  refine L4 LF _ (0 : Int32) (0 : Int32) _ _ _ (lv_sub hl [2, 3, 1, 0] rfl) hP hS hs (fun u2_5 H locs ls hl hP hS hs => ?_)
  refine lv_iload_n hx hb dX7_sumOfPiece_31 rfl (lv_at hl 0 rfl) ?_
  exact hret _ hs hP hS dX7_sumOfPiece_32
def tX7_alikeTo_0 : List (Nat × Instr × Nat) := [(0, .iconst 0, 1), (1, .istore_n 2, 1), (2, .aload_n 0, 1), (3, .bipush 51, 2), (5, .iload_n 1, 1), (6, .iadd, 1), (7, .invokevirtual 36, 3), (10, .istore_n 3, 1), (11, .aload_n 0, 1), (12, .bipush 111, 2), (14, .iload_n 1, 1), (15, .iadd, 1), (16, .invokevirtual 36, 3), (19, .istore 4, 2), (21, .aload_n 0, 1), (22, .iload_n 1, 1), (23, .invokevirtual 33, 3), (26, .istore 5, 2), (28, .iconst 0, 1), (29, .istore 6, 2), (31, .iload 6, 2), (33, .bipush 60, 2), (35, .if_icmp .ge 71, 3), (38, .aload_n 0, 1), (39, .bipush 51, 2), (41, .iload 6, 2), (43, .iadd, 1), (44, .invokevirtual 36, 3), (47, .iload_n 3, 1), (48, .if_icmp .ne 52, 3), (51, .aload_n 0, 1), (52, .bipush 111, 2), (54, .iload 6, 2), (56, .iadd, 1), (57, .invokevirtual 36, 3), (60, .iload 4, 2), (62, .if_icmp .ne 38, 3), (65, .aload_n 0, 1), (66, .iload 6, 2), (68, .invokevirtual 19, 3), (71, .ifCond .eq 29, 3), (74, .iload 6, 2), (76, .invokestatic 39, 3), (79, .iload_n 1, 1), (80, .invokestatic 39, 3), (83, .if_icmp .eq 17, 3), (86, .aload_n 0, 1), (87, .iload 6, 2), (89, .invokevirtual 33, 3), (92, .iload 5, 2), (94, .if_icmp .ne 6, 3), (97, .iinc 2 1, 3), (100, .iinc 6 1, 3), (103, .goto (-72), 3), (106, .iload_n 2, 1), (107, .ireturn, 1)]
theorem tX7_alikeTo_0_ok : tX7_alikeTo_0.all (fun q => decide (decode cX7_alikeTo q.1 = .ok q.2)) = true := by decide +kernel
theorem dX7_alikeTo_0 : decode cX7_alikeTo 0 = .ok (.iconst 0, 1) := td tX7_alikeTo_0_ok 0 (q := (0, .iconst 0, 1)) rfl
theorem dX7_alikeTo_1 : decode cX7_alikeTo 1 = .ok (.istore_n 2, 1) := td tX7_alikeTo_0_ok 1 (q := (1, .istore_n 2, 1)) rfl
theorem dX7_alikeTo_2 : decode cX7_alikeTo 2 = .ok (.aload_n 0, 1) := td tX7_alikeTo_0_ok 2 (q := (2, .aload_n 0, 1)) rfl
theorem dX7_alikeTo_3 : decode cX7_alikeTo 3 = .ok (.bipush 51, 2) := td tX7_alikeTo_0_ok 3 (q := (3, .bipush 51, 2)) rfl
theorem dX7_alikeTo_5 : decode cX7_alikeTo 5 = .ok (.iload_n 1, 1) := td tX7_alikeTo_0_ok 4 (q := (5, .iload_n 1, 1)) rfl
theorem dX7_alikeTo_6 : decode cX7_alikeTo 6 = .ok (.iadd, 1) := td tX7_alikeTo_0_ok 5 (q := (6, .iadd, 1)) rfl
theorem dX7_alikeTo_7 : decode cX7_alikeTo 7 = .ok (.invokevirtual 36, 3) := td tX7_alikeTo_0_ok 6 (q := (7, .invokevirtual 36, 3)) rfl
theorem dX7_alikeTo_10 : decode cX7_alikeTo 10 = .ok (.istore_n 3, 1) := td tX7_alikeTo_0_ok 7 (q := (10, .istore_n 3, 1)) rfl
theorem dX7_alikeTo_11 : decode cX7_alikeTo 11 = .ok (.aload_n 0, 1) := td tX7_alikeTo_0_ok 8 (q := (11, .aload_n 0, 1)) rfl
theorem dX7_alikeTo_12 : decode cX7_alikeTo 12 = .ok (.bipush 111, 2) := td tX7_alikeTo_0_ok 9 (q := (12, .bipush 111, 2)) rfl
theorem dX7_alikeTo_14 : decode cX7_alikeTo 14 = .ok (.iload_n 1, 1) := td tX7_alikeTo_0_ok 10 (q := (14, .iload_n 1, 1)) rfl
theorem dX7_alikeTo_15 : decode cX7_alikeTo 15 = .ok (.iadd, 1) := td tX7_alikeTo_0_ok 11 (q := (15, .iadd, 1)) rfl
theorem dX7_alikeTo_16 : decode cX7_alikeTo 16 = .ok (.invokevirtual 36, 3) := td tX7_alikeTo_0_ok 12 (q := (16, .invokevirtual 36, 3)) rfl
theorem dX7_alikeTo_19 : decode cX7_alikeTo 19 = .ok (.istore 4, 2) := td tX7_alikeTo_0_ok 13 (q := (19, .istore 4, 2)) rfl
theorem dX7_alikeTo_21 : decode cX7_alikeTo 21 = .ok (.aload_n 0, 1) := td tX7_alikeTo_0_ok 14 (q := (21, .aload_n 0, 1)) rfl
theorem dX7_alikeTo_22 : decode cX7_alikeTo 22 = .ok (.iload_n 1, 1) := td tX7_alikeTo_0_ok 15 (q := (22, .iload_n 1, 1)) rfl
theorem dX7_alikeTo_23 : decode cX7_alikeTo 23 = .ok (.invokevirtual 33, 3) := td tX7_alikeTo_0_ok 16 (q := (23, .invokevirtual 33, 3)) rfl
theorem dX7_alikeTo_26 : decode cX7_alikeTo 26 = .ok (.istore 5, 2) := td tX7_alikeTo_0_ok 17 (q := (26, .istore 5, 2)) rfl
theorem dX7_alikeTo_28 : decode cX7_alikeTo 28 = .ok (.iconst 0, 1) := td tX7_alikeTo_0_ok 18 (q := (28, .iconst 0, 1)) rfl
theorem dX7_alikeTo_29 : decode cX7_alikeTo 29 = .ok (.istore 6, 2) := td tX7_alikeTo_0_ok 19 (q := (29, .istore 6, 2)) rfl
theorem dX7_alikeTo_31 : decode cX7_alikeTo 31 = .ok (.iload 6, 2) := td tX7_alikeTo_0_ok 20 (q := (31, .iload 6, 2)) rfl
theorem dX7_alikeTo_33 : decode cX7_alikeTo 33 = .ok (.bipush 60, 2) := td tX7_alikeTo_0_ok 21 (q := (33, .bipush 60, 2)) rfl
theorem dX7_alikeTo_35 : decode cX7_alikeTo 35 = .ok (.if_icmp .ge 71, 3) := td tX7_alikeTo_0_ok 22 (q := (35, .if_icmp .ge 71, 3)) rfl
theorem dX7_alikeTo_38 : decode cX7_alikeTo 38 = .ok (.aload_n 0, 1) := td tX7_alikeTo_0_ok 23 (q := (38, .aload_n 0, 1)) rfl
theorem dX7_alikeTo_39 : decode cX7_alikeTo 39 = .ok (.bipush 51, 2) := td tX7_alikeTo_0_ok 24 (q := (39, .bipush 51, 2)) rfl
theorem dX7_alikeTo_41 : decode cX7_alikeTo 41 = .ok (.iload 6, 2) := td tX7_alikeTo_0_ok 25 (q := (41, .iload 6, 2)) rfl
theorem dX7_alikeTo_43 : decode cX7_alikeTo 43 = .ok (.iadd, 1) := td tX7_alikeTo_0_ok 26 (q := (43, .iadd, 1)) rfl
theorem dX7_alikeTo_44 : decode cX7_alikeTo 44 = .ok (.invokevirtual 36, 3) := td tX7_alikeTo_0_ok 27 (q := (44, .invokevirtual 36, 3)) rfl
theorem dX7_alikeTo_47 : decode cX7_alikeTo 47 = .ok (.iload_n 3, 1) := td tX7_alikeTo_0_ok 28 (q := (47, .iload_n 3, 1)) rfl
theorem dX7_alikeTo_48 : decode cX7_alikeTo 48 = .ok (.if_icmp .ne 52, 3) := td tX7_alikeTo_0_ok 29 (q := (48, .if_icmp .ne 52, 3)) rfl
theorem dX7_alikeTo_51 : decode cX7_alikeTo 51 = .ok (.aload_n 0, 1) := td tX7_alikeTo_0_ok 30 (q := (51, .aload_n 0, 1)) rfl
theorem dX7_alikeTo_52 : decode cX7_alikeTo 52 = .ok (.bipush 111, 2) := td tX7_alikeTo_0_ok 31 (q := (52, .bipush 111, 2)) rfl
theorem dX7_alikeTo_54 : decode cX7_alikeTo 54 = .ok (.iload 6, 2) := td tX7_alikeTo_0_ok 32 (q := (54, .iload 6, 2)) rfl
theorem dX7_alikeTo_56 : decode cX7_alikeTo 56 = .ok (.iadd, 1) := td tX7_alikeTo_0_ok 33 (q := (56, .iadd, 1)) rfl
theorem dX7_alikeTo_57 : decode cX7_alikeTo 57 = .ok (.invokevirtual 36, 3) := td tX7_alikeTo_0_ok 34 (q := (57, .invokevirtual 36, 3)) rfl
theorem dX7_alikeTo_60 : decode cX7_alikeTo 60 = .ok (.iload 4, 2) := td tX7_alikeTo_0_ok 35 (q := (60, .iload 4, 2)) rfl
theorem dX7_alikeTo_62 : decode cX7_alikeTo 62 = .ok (.if_icmp .ne 38, 3) := td tX7_alikeTo_0_ok 36 (q := (62, .if_icmp .ne 38, 3)) rfl
theorem dX7_alikeTo_65 : decode cX7_alikeTo 65 = .ok (.aload_n 0, 1) := td tX7_alikeTo_0_ok 37 (q := (65, .aload_n 0, 1)) rfl
theorem dX7_alikeTo_66 : decode cX7_alikeTo 66 = .ok (.iload 6, 2) := td tX7_alikeTo_0_ok 38 (q := (66, .iload 6, 2)) rfl
theorem dX7_alikeTo_68 : decode cX7_alikeTo 68 = .ok (.invokevirtual 19, 3) := td tX7_alikeTo_0_ok 39 (q := (68, .invokevirtual 19, 3)) rfl
theorem dX7_alikeTo_71 : decode cX7_alikeTo 71 = .ok (.ifCond .eq 29, 3) := td tX7_alikeTo_0_ok 40 (q := (71, .ifCond .eq 29, 3)) rfl
theorem dX7_alikeTo_74 : decode cX7_alikeTo 74 = .ok (.iload 6, 2) := td tX7_alikeTo_0_ok 41 (q := (74, .iload 6, 2)) rfl
theorem dX7_alikeTo_76 : decode cX7_alikeTo 76 = .ok (.invokestatic 39, 3) := td tX7_alikeTo_0_ok 42 (q := (76, .invokestatic 39, 3)) rfl
theorem dX7_alikeTo_79 : decode cX7_alikeTo 79 = .ok (.iload_n 1, 1) := td tX7_alikeTo_0_ok 43 (q := (79, .iload_n 1, 1)) rfl
theorem dX7_alikeTo_80 : decode cX7_alikeTo 80 = .ok (.invokestatic 39, 3) := td tX7_alikeTo_0_ok 44 (q := (80, .invokestatic 39, 3)) rfl
theorem dX7_alikeTo_83 : decode cX7_alikeTo 83 = .ok (.if_icmp .eq 17, 3) := td tX7_alikeTo_0_ok 45 (q := (83, .if_icmp .eq 17, 3)) rfl
theorem dX7_alikeTo_86 : decode cX7_alikeTo 86 = .ok (.aload_n 0, 1) := td tX7_alikeTo_0_ok 46 (q := (86, .aload_n 0, 1)) rfl
theorem dX7_alikeTo_87 : decode cX7_alikeTo 87 = .ok (.iload 6, 2) := td tX7_alikeTo_0_ok 47 (q := (87, .iload 6, 2)) rfl
theorem dX7_alikeTo_89 : decode cX7_alikeTo 89 = .ok (.invokevirtual 33, 3) := td tX7_alikeTo_0_ok 48 (q := (89, .invokevirtual 33, 3)) rfl
theorem dX7_alikeTo_92 : decode cX7_alikeTo 92 = .ok (.iload 5, 2) := td tX7_alikeTo_0_ok 49 (q := (92, .iload 5, 2)) rfl
theorem dX7_alikeTo_94 : decode cX7_alikeTo 94 = .ok (.if_icmp .ne 6, 3) := td tX7_alikeTo_0_ok 50 (q := (94, .if_icmp .ne 6, 3)) rfl
theorem dX7_alikeTo_97 : decode cX7_alikeTo 97 = .ok (.iinc 2 1, 3) := td tX7_alikeTo_0_ok 51 (q := (97, .iinc 2 1, 3)) rfl
theorem dX7_alikeTo_100 : decode cX7_alikeTo 100 = .ok (.iinc 6 1, 3) := td tX7_alikeTo_0_ok 52 (q := (100, .iinc 6 1, 3)) rfl
theorem dX7_alikeTo_103 : decode cX7_alikeTo 103 = .ok (.goto (-72), 3) := td tX7_alikeTo_0_ok 53 (q := (103, .goto (-72), 3)) rfl
theorem dX7_alikeTo_106 : decode cX7_alikeTo 106 = .ok (.iload_n 2, 1) := td tX7_alikeTo_0_ok 54 (q := (106, .iload_n 2, 1)) rfl
theorem dX7_alikeTo_107 : decode cX7_alikeTo 107 = .ok (.ireturn, 1) := td tX7_alikeTo_0_ok 55 (q := (107, .ireturn, 1)) rfl
def fX7_alikeTo_31 (k31 : Int32 → Option (Int32)) (kc : (Nat → Int32)) (x1 : Int32) (x3 : Int32) (x4 : Int32) (x5 : Int32) : Nat → Int32 → Int32 → Option (Int32)
  | 0, _, _ => none
  | n31 + 1, x2, x6 => (if (60 : Int32) ≤ x6 then (k31 x2) else (Option.bind (fX0_get kc ((51 : Int32) + x6)) (fun q5 => (if q5 = x3 then (Option.bind (fX0_get kc ((111 : Int32) + x6)) (fun q7 => (if q7 = x4 then (Option.bind (fX0_isUsed kc x6) (fun q9 => (if q9 = 0 then (fX7_alikeTo_31 k31 kc x1 x3 x4 x5 n31 x2 (x6 + (1 : Int32))) else (Option.bind (fX0_pieceOfSlot x6) (fun q11 => (Option.bind (fX0_pieceOfSlot x1) (fun q12 => (if q11 = q12 then (fX7_alikeTo_31 k31 kc x1 x3 x4 x5 n31 x2 (x6 + (1 : Int32))) else (Option.bind (fX0_sumOf kc x6) (fun q14 => (if q14 = x5 then (fX7_alikeTo_31 k31 kc x1 x3 x4 x5 n31 (x2 + (1 : Int32)) (x6 + (1 : Int32))) else (fX7_alikeTo_31 k31 kc x1 x3 x4 x5 n31 x2 (x6 + (1 : Int32)))))))))))))) else (fX7_alikeTo_31 k31 kc x1 x3 x4 x5 n31 x2 (x6 + (1 : Int32)))))) else (fX7_alikeTo_31 k31 kc x1 x3 x4 x5 n31 x2 (x6 + (1 : Int32)))))))
def fX7_alikeTo (kc : (Nat → Int32)) (x1 : Int32) : Option (Int32) :=
  (Option.bind (fX0_get kc ((51 : Int32) + x1)) (fun q1 => (Option.bind (fX0_get kc ((111 : Int32) + x1)) (fun q2 => (Option.bind (fX0_sumOf kc x1) (fun q3 => (fX7_alikeTo_31 (fun (u2_16 : Int32) => (some u2_16)) kc x1 q1 q2 q3 LF (0 : Int32) (0 : Int32))))))))
set_option maxHeartbeats 4000000 in
set_option maxRecDepth 100000 in
theorem mX7_alikeTo {l : Launch} {D : va_G} {ad : Nat → Nat} {cI : ClassId} {kc : (Nat → Int32)} {ksv : (Nat → Int32)} {kbc : (Nat → Int32)} {kit : (Nat → Int32)} {kln : (Nat → Int32)} {ken : (Nat → Int32)} {kla : (Nat → Int32)} {kfi : (Nat → Int32)} {kea : (Nat → Int32)} {kns : Int32} {kbl : Int32} {kr0 : Int32} {kr1 : Int32} {kr2 : Int32} {kr3 : Int32} {kr4 : Int32} {kr5 : Int32} {klr : Int32} {kp0 : Int32} {kp1 : Int32} {kp2 : Int32} {kp3 : Int32} {x1 : Int32} {r : Int32} (hs : fX7_alikeTo kc x1 = some r) : nd_C l yX7_alikeTo cX7_alikeTo 7 (some .int) 2 45 D [(cI, .int)] [.ref (ad 1), .int x1] (CW ad cI kc ksv kbc kit kln ken kla kfi kea kns kbl kr0 kr1 kr2 kr3 kr4 kr5 klr kp0 kp1 kp2 kp3) (CW ad cI kc ksv kbc kit kln ken kla kfi kea kns kbl kr0 kr1 kr2 kr3 kr4 kr5 klr kp0 kp1 kp2 kp3) (some (.int r)) := by
  refine nd_ofCi (by decide) (Nat.le_of_ble_eq_true rfl) (fun p e s m args below meth c_ ls A Q hx hb hml hown hts hl hP hK hD hS hA hN hret => ?_)
  have hown : s.vm.findClass RX7 = some m.cls := hown
  have hl : lv_has ls 7 [(0, .ref (ad 1)), (1, .int x1)] := hl
  have hret : ∀ (z0 : Int32) {H : Heap} {locs : List Loc} {pc : Nat} {ls : Array Slot}, some z0 = some r → va_P D vwCl (CW ad cI kc ksv kbc kit kln ken kla kfi kea kns kbl kr0 kr1 kr2 kr3 kr4 kr5 klr kp0 kp1 kp2 kp3) H → va_S A s.heap H locs → decode cX7_alikeTo pc = .ok (.ireturn, 1) → W p l e ⟨2, 0, 0, 45⟩ s m args below meth c_ H locs 0 0 Q (F0 m pc ls [.int z0]) := by
    intro z0 H locs pc ls h hP hS hd
    cases h
    exact hret hP hS hd
  rw [fX7_alikeTo] at hs
  refine lv_iconst (v := (0 : Int32)) hx hb dX7_alikeTo_0 (by decide) ?_
  refine lv_istore_n (lv' := [(2, .int (0 : Int32)), (0, .ref (ad 1)), (1, .int x1)]) hx hb dX7_alikeTo_1 rfl hl (by decide) rfl (fun ls hl => ?_)
  refine lv_aload_n hx hb dX7_alikeTo_2 rfl (lv_at hl 1 rfl) ?_
  refine lv_bipush (v := (51 : Int32)) hx hb dX7_alikeTo_3 (by decide) ?_
  refine lv_iload_n hx hb dX7_alikeTo_5 rfl (lv_at hl 2 rfl) ?_
  refine lv_iadd hx hb dX7_alikeTo_6 ?_
  obtain ⟨q1, eq1, hs⟩ := ob hs
  refine nd_callV (As := [.int ((51 : Int32) + x1)]) (rest := []) (st1 := [.int q1]) hx hb hml hown hts hl hP hK hD hS hA hN (mX0_get eq1) iv_X0_get wd_607 1 rfl rfl rfl rfl ⟨Nat.le_of_ble_eq_true rfl, Nat.le_of_ble_eq_true rfl⟩ (Nat.le_of_ble_eq_true rfl) ⟨Nat.zero_le _, Nat.zero_le _⟩ dX7_alikeTo_7 rfl rfl (fun H locs hP hD hS => ?_)
  refine lv_istore_n (lv' := [(3, .int q1), (2, .int (0 : Int32)), (0, .ref (ad 1)), (1, .int x1)]) hx hb dX7_alikeTo_10 rfl hl (by decide) rfl (fun ls hl => ?_)
  refine lv_aload_n hx hb dX7_alikeTo_11 rfl (lv_at hl 2 rfl) ?_
  refine lv_bipush (v := (111 : Int32)) hx hb dX7_alikeTo_12 (by decide) ?_
  refine lv_iload_n hx hb dX7_alikeTo_14 rfl (lv_at hl 3 rfl) ?_
  refine lv_iadd hx hb dX7_alikeTo_15 ?_
  obtain ⟨q2, eq2, hs⟩ := ob hs
  refine nd_callV (As := [.int ((111 : Int32) + x1)]) (rest := []) (st1 := [.int q2]) hx hb hml hown hts hl hP hK hD hS hA hN (mX0_get eq2) iv_X0_get wd_607 1 rfl rfl rfl rfl ⟨Nat.le_of_ble_eq_true rfl, Nat.le_of_ble_eq_true rfl⟩ (Nat.le_of_ble_eq_true rfl) ⟨Nat.zero_le _, Nat.zero_le _⟩ dX7_alikeTo_16 rfl rfl (fun H locs hP hD hS => ?_)
  refine lv_istore (lv' := [(4, .int q2), (3, .int q1), (2, .int (0 : Int32)), (0, .ref (ad 1)), (1, .int x1)]) hx hb dX7_alikeTo_19 hl (by decide) rfl (fun ls hl => ?_)
  refine lv_aload_n hx hb dX7_alikeTo_21 rfl (lv_at hl 3 rfl) ?_
  refine lv_iload_n hx hb dX7_alikeTo_22 rfl (lv_at hl 4 rfl) ?_
  obtain ⟨q3, eq3, hs⟩ := ob hs
  refine nd_callV (As := [.int x1]) (rest := []) (st1 := [.int q3]) hx hb hml hown hts hl hP hK hD hS hA hN (mX0_sumOf eq3) iv_X0_sumOf wd_557 1 rfl rfl rfl rfl ⟨Nat.le_of_ble_eq_true rfl, Nat.le_of_ble_eq_true rfl⟩ (Nat.le_of_ble_eq_true rfl) ⟨Nat.zero_le _, Nat.zero_le _⟩ dX7_alikeTo_23 rfl rfl (fun H locs hP hD hS => ?_)
  refine lv_istore (lv' := [(5, .int q3), (4, .int q2), (3, .int q1), (2, .int (0 : Int32)), (0, .ref (ad 1)), (1, .int x1)]) hx hb dX7_alikeTo_26 hl (by decide) rfl (fun ls hl => ?_)
  refine lv_iconst (v := (0 : Int32)) hx hb dX7_alikeTo_28 (by decide) ?_
  refine lv_istore (lv' := [(6, .int (0 : Int32)), (5, .int q3), (4, .int q2), (3, .int q1), (2, .int (0 : Int32)), (0, .ref (ad 1)), (1, .int x1)]) hx hb dX7_alikeTo_29 hl (by decide) rfl (fun ls hl => ?_)
  have L31 : ∀ (n31 : Nat) (k31 : Int32 → Option (Int32)) (v2_16 : Int32) (v6_16 : Int32) (H : Heap) (locs : List Loc) (ls : Array Slot), lv_has ls 7 [(0, .ref (ad 1)), (1, .int x1), (2, .int v2_16), (3, .int q1), (4, .int q2), (5, .int q3), (6, .int v6_16)] → va_P D vwCl (CW ad cI kc ksv kbc kit kln ken kla kfi kea kns kbl kr0 kr1 kr2 kr3 kr4 kr5 klr kp0 kp1 kp2 kp3) H → va_S A s.heap H locs → fX7_alikeTo_31 k31 kc x1 q1 q2 q3 n31 v2_16 v6_16 = some r → (∀ (u2_16 : Int32) (H : Heap) (locs : List Loc) (ls : Array Slot), lv_has ls 7 [(2, .int u2_16)] → va_P D vwCl (CW ad cI kc ksv kbc kit kln ken kla kfi kea kns kbl kr0 kr1 kr2 kr3 kr4 kr5 klr kp0 kp1 kp2 kp3) H → va_S A s.heap H locs → k31 u2_16 = some r → W p l e ⟨2, 0, 0, 45⟩ s m args below meth c_ H locs 0 0 Q (F0 m 106 ls [])) → W p l e ⟨2, 0, 0, 45⟩ s m args below meth c_ H locs 0 0 Q (F0 m 31 ls []) := by
    intro n31
    induction n31 with
    | zero =>
      intro k31 v2_16 v6_16 H locs ls hl hP hS hs hk31
      rw [fX7_alikeTo_31] at hs
      cases hs
    | succ n31 ih31 =>
      intro k31 v2_16 v6_16 H locs ls hl hP hS hs hk31
      rw [fX7_alikeTo_31] at hs
      refine lv_iload hx hb dX7_alikeTo_31 (lv_at hl 6 rfl) ?_
      refine lv_bipush (v := (60 : Int32)) hx hb dX7_alikeTo_33 (by decide) ?_
      refine lv_icmp_ge (tgt := 106) hx hb dX7_alikeTo_35 (by decide) (fun b17 => ?_) (fun b17 => ?_)
      · have hs := ite_t hs b17
        exact hk31 v2_16 _ _ _ (lv_sub hl [2] rfl) hP hS hs
      · have hs := ite_f hs b17
        refine lv_aload_n hx hb dX7_alikeTo_38 rfl (lv_at hl 0 rfl) ?_
        refine lv_bipush (v := (51 : Int32)) hx hb dX7_alikeTo_39 (by decide) ?_
        refine lv_iload hx hb dX7_alikeTo_41 (lv_at hl 6 rfl) ?_
        refine lv_iadd hx hb dX7_alikeTo_43 ?_
        obtain ⟨q18, eq18, hs⟩ := ob hs
        refine nd_callV (As := [.int ((51 : Int32) + v6_16)]) (rest := []) (st1 := [.int q18]) hx hb hml hown hts hl hP hK hD hS hA hN (mX0_get eq18) iv_X0_get wd_607 1 rfl rfl rfl rfl ⟨Nat.le_of_ble_eq_true rfl, Nat.le_of_ble_eq_true rfl⟩ (Nat.le_of_ble_eq_true rfl) ⟨Nat.zero_le _, Nat.zero_le _⟩ dX7_alikeTo_44 rfl rfl (fun H locs hP hD hS => ?_)
        refine lv_iload_n hx hb dX7_alikeTo_47 rfl (lv_at hl 3 rfl) ?_
        refine lv_icmp_ne (tgt := 100) hx hb dX7_alikeTo_48 (by decide) (fun b19 => ?_) (fun b19 => ?_)
        · have hs := ite_f hs b19
          refine lv_iinc (v := v6_16 + (1 : Int32)) (lv' := [(6, .int (v6_16 + (1 : Int32))), (0, .ref (ad 1)), (1, .int x1), (2, .int v2_16), (3, .int q1), (4, .int q2), (5, .int q3)]) hx hb dX7_alikeTo_100 hl (k := 6) rfl rfl (by decide) rfl (fun ls hl => ?_)
          refine lv_goto (tgt := 31) hx hb dX7_alikeTo_103 (by decide) ?_
          exact ih31 k31 v2_16 (v6_16 + (1 : Int32)) _ _ _ (lv_sub hl [1, 2, 3, 4, 5, 6, 0] rfl) hP hS hs hk31
        · have hs := ite_t hs b19
          refine lv_aload_n hx hb dX7_alikeTo_51 rfl (lv_at hl 0 rfl) ?_
          refine lv_bipush (v := (111 : Int32)) hx hb dX7_alikeTo_52 (by decide) ?_
          refine lv_iload hx hb dX7_alikeTo_54 (lv_at hl 6 rfl) ?_
          refine lv_iadd hx hb dX7_alikeTo_56 ?_
          obtain ⟨q20, eq20, hs⟩ := ob hs
          refine nd_callV (As := [.int ((111 : Int32) + v6_16)]) (rest := []) (st1 := [.int q20]) hx hb hml hown hts hl hP hK hD hS hA hN (mX0_get eq20) iv_X0_get wd_607 1 rfl rfl rfl rfl ⟨Nat.le_of_ble_eq_true rfl, Nat.le_of_ble_eq_true rfl⟩ (Nat.le_of_ble_eq_true rfl) ⟨Nat.zero_le _, Nat.zero_le _⟩ dX7_alikeTo_57 rfl rfl (fun H locs hP hD hS => ?_)
          refine lv_iload hx hb dX7_alikeTo_60 (lv_at hl 4 rfl) ?_
          refine lv_icmp_ne (tgt := 100) hx hb dX7_alikeTo_62 (by decide) (fun b21 => ?_) (fun b21 => ?_)
          · have hs := ite_f hs b21
            refine lv_iinc (v := v6_16 + (1 : Int32)) (lv' := [(6, .int (v6_16 + (1 : Int32))), (0, .ref (ad 1)), (1, .int x1), (2, .int v2_16), (3, .int q1), (4, .int q2), (5, .int q3)]) hx hb dX7_alikeTo_100 hl (k := 6) rfl rfl (by decide) rfl (fun ls hl => ?_)
            refine lv_goto (tgt := 31) hx hb dX7_alikeTo_103 (by decide) ?_
            exact ih31 k31 v2_16 (v6_16 + (1 : Int32)) _ _ _ (lv_sub hl [1, 2, 3, 4, 5, 6, 0] rfl) hP hS hs hk31
          · have hs := ite_t hs b21
            refine lv_aload_n hx hb dX7_alikeTo_65 rfl (lv_at hl 0 rfl) ?_
            refine lv_iload hx hb dX7_alikeTo_66 (lv_at hl 6 rfl) ?_
            obtain ⟨q22, eq22, hs⟩ := ob hs
            refine nd_callV (As := [.int v6_16]) (rest := []) (st1 := [.int q22]) hx hb hml hown hts hl hP hK hD hS hA hN (mX0_isUsed eq22) iv_X0_isUsed wd_608 1 rfl rfl rfl rfl ⟨Nat.le_of_ble_eq_true rfl, Nat.le_of_ble_eq_true rfl⟩ (Nat.le_of_ble_eq_true rfl) ⟨Nat.zero_le _, Nat.zero_le _⟩ dX7_alikeTo_68 rfl rfl (fun H locs hP hD hS => ?_)
            refine lv_if_eq (tgt := 100) hx hb dX7_alikeTo_71 (by decide) (fun b23 => ?_) (fun b23 => ?_)
            · have hs := ite_t hs b23
              refine lv_iinc (v := v6_16 + (1 : Int32)) (lv' := [(6, .int (v6_16 + (1 : Int32))), (0, .ref (ad 1)), (1, .int x1), (2, .int v2_16), (3, .int q1), (4, .int q2), (5, .int q3)]) hx hb dX7_alikeTo_100 hl (k := 6) rfl rfl (by decide) rfl (fun ls hl => ?_)
              refine lv_goto (tgt := 31) hx hb dX7_alikeTo_103 (by decide) ?_
              exact ih31 k31 v2_16 (v6_16 + (1 : Int32)) _ _ _ (lv_sub hl [1, 2, 3, 4, 5, 6, 0] rfl) hP hS hs hk31
            · have hs := ite_f hs b23
              refine lv_iload hx hb dX7_alikeTo_74 (lv_at hl 6 rfl) ?_
              obtain ⟨q24, eq24, hs⟩ := ob hs
              refine nd_callS (As := [.int v6_16]) (rest := []) (st1 := [.int q24]) hx hb hml hown hts hl hP hK hD hS hA hN (mX0_pieceOfSlot eq24) is_X0_pieceOfSlot wd_612 rfl rfl ⟨Nat.le_of_ble_eq_true rfl, Nat.le_of_ble_eq_true rfl⟩ (Nat.le_of_ble_eq_true rfl) ⟨Nat.zero_le _, Nat.zero_le _⟩ dX7_alikeTo_76 rfl rfl (fun H locs hP hD hS => ?_)
              refine lv_iload_n hx hb dX7_alikeTo_79 rfl (lv_at hl 1 rfl) ?_
              obtain ⟨q25, eq25, hs⟩ := ob hs
              refine nd_callS (As := [.int x1]) (rest := [.int q24]) (st1 := [.int q25, .int q24]) hx hb hml hown hts hl hP hK hD hS hA hN (mX0_pieceOfSlot eq25) is_X0_pieceOfSlot wd_612 rfl rfl ⟨Nat.le_of_ble_eq_true rfl, Nat.le_of_ble_eq_true rfl⟩ (Nat.le_of_ble_eq_true rfl) ⟨Nat.zero_le _, Nat.zero_le _⟩ dX7_alikeTo_80 rfl rfl (fun H locs hP hD hS => ?_)
              refine lv_icmp_eq (tgt := 100) hx hb dX7_alikeTo_83 (by decide) (fun b26 => ?_) (fun b26 => ?_)
              · have hs := ite_t hs b26
                refine lv_iinc (v := v6_16 + (1 : Int32)) (lv' := [(6, .int (v6_16 + (1 : Int32))), (0, .ref (ad 1)), (1, .int x1), (2, .int v2_16), (3, .int q1), (4, .int q2), (5, .int q3)]) hx hb dX7_alikeTo_100 hl (k := 6) rfl rfl (by decide) rfl (fun ls hl => ?_)
                refine lv_goto (tgt := 31) hx hb dX7_alikeTo_103 (by decide) ?_
                exact ih31 k31 v2_16 (v6_16 + (1 : Int32)) _ _ _ (lv_sub hl [1, 2, 3, 4, 5, 6, 0] rfl) hP hS hs hk31
              · have hs := ite_f hs b26
                refine lv_aload_n hx hb dX7_alikeTo_86 rfl (lv_at hl 0 rfl) ?_
                refine lv_iload hx hb dX7_alikeTo_87 (lv_at hl 6 rfl) ?_
                obtain ⟨q27, eq27, hs⟩ := ob hs
                refine nd_callV (As := [.int v6_16]) (rest := []) (st1 := [.int q27]) hx hb hml hown hts hl hP hK hD hS hA hN (mX0_sumOf eq27) iv_X0_sumOf wd_557 1 rfl rfl rfl rfl ⟨Nat.le_of_ble_eq_true rfl, Nat.le_of_ble_eq_true rfl⟩ (Nat.le_of_ble_eq_true rfl) ⟨Nat.zero_le _, Nat.zero_le _⟩ dX7_alikeTo_89 rfl rfl (fun H locs hP hD hS => ?_)
                refine lv_iload hx hb dX7_alikeTo_92 (lv_at hl 5 rfl) ?_
                refine lv_icmp_ne (tgt := 100) hx hb dX7_alikeTo_94 (by decide) (fun b28 => ?_) (fun b28 => ?_)
                · have hs := ite_f hs b28
                  refine lv_iinc (v := v6_16 + (1 : Int32)) (lv' := [(6, .int (v6_16 + (1 : Int32))), (0, .ref (ad 1)), (1, .int x1), (2, .int v2_16), (3, .int q1), (4, .int q2), (5, .int q3)]) hx hb dX7_alikeTo_100 hl (k := 6) rfl rfl (by decide) rfl (fun ls hl => ?_)
                  refine lv_goto (tgt := 31) hx hb dX7_alikeTo_103 (by decide) ?_
                  exact ih31 k31 v2_16 (v6_16 + (1 : Int32)) _ _ _ (lv_sub hl [1, 2, 3, 4, 5, 6, 0] rfl) hP hS hs hk31
                · have hs := ite_t hs b28
                  refine lv_iinc (v := v2_16 + (1 : Int32)) (lv' := [(2, .int (v2_16 + (1 : Int32))), (0, .ref (ad 1)), (1, .int x1), (3, .int q1), (4, .int q2), (5, .int q3), (6, .int v6_16)]) hx hb dX7_alikeTo_97 hl (k := 2) rfl rfl (by decide) rfl (fun ls hl => ?_)
                  refine lv_iinc (v := v6_16 + (1 : Int32)) (lv' := [(6, .int (v6_16 + (1 : Int32))), (2, .int (v2_16 + (1 : Int32))), (0, .ref (ad 1)), (1, .int x1), (3, .int q1), (4, .int q2), (5, .int q3)]) hx hb dX7_alikeTo_100 hl (k := 6) rfl rfl (by decide) rfl (fun ls hl => ?_)
                  refine lv_goto (tgt := 31) hx hb dX7_alikeTo_103 (by decide) ?_
                  exact ih31 k31 (v2_16 + (1 : Int32)) (v6_16 + (1 : Int32)) _ _ _ (lv_sub hl [2, 3, 1, 4, 5, 6, 0] rfl) hP hS hs hk31
  refine L31 LF _ (0 : Int32) (0 : Int32) _ _ _ (lv_sub hl [5, 6, 4, 3, 2, 1, 0] rfl) hP hS hs (fun u2_16 H locs ls hl hP hS hs => ?_)
  refine lv_iload_n hx hb dX7_alikeTo_106 rfl (lv_at hl 0 rfl) ?_
  exact hret _ hs hP hS dX7_alikeTo_107
def tX7_alikePairs_0 : List (Nat × Instr × Nat) := [(0, .iconst 0, 1), (1, .istore_n 1, 1), (2, .iconst 0, 1), (3, .istore_n 2, 1), (4, .iload_n 2, 1), (5, .bipush 60, 2), (7, .if_icmp .ge 25, 3), (10, .aload_n 0, 1), (11, .iload_n 2, 1), (12, .invokevirtual 19, 3), (15, .ifCond .eq 11, 3), (18, .iload_n 1, 1), (19, .aload_n 0, 1), (20, .iload_n 2, 1), (21, .invokestatic 42, 3), (24, .iadd, 1), (25, .istore_n 1, 1), (26, .iinc 2 1, 3), (29, .goto (-25), 3), (32, .iload_n 1, 1), (33, .iconst 2, 1), (34, .idiv, 1), (35, .ireturn, 1)]
theorem tX7_alikePairs_0_ok : tX7_alikePairs_0.all (fun q => decide (decode cX7_alikePairs q.1 = .ok q.2)) = true := by decide +kernel
theorem dX7_alikePairs_0 : decode cX7_alikePairs 0 = .ok (.iconst 0, 1) := td tX7_alikePairs_0_ok 0 (q := (0, .iconst 0, 1)) rfl
theorem dX7_alikePairs_1 : decode cX7_alikePairs 1 = .ok (.istore_n 1, 1) := td tX7_alikePairs_0_ok 1 (q := (1, .istore_n 1, 1)) rfl
theorem dX7_alikePairs_2 : decode cX7_alikePairs 2 = .ok (.iconst 0, 1) := td tX7_alikePairs_0_ok 2 (q := (2, .iconst 0, 1)) rfl
theorem dX7_alikePairs_3 : decode cX7_alikePairs 3 = .ok (.istore_n 2, 1) := td tX7_alikePairs_0_ok 3 (q := (3, .istore_n 2, 1)) rfl
theorem dX7_alikePairs_4 : decode cX7_alikePairs 4 = .ok (.iload_n 2, 1) := td tX7_alikePairs_0_ok 4 (q := (4, .iload_n 2, 1)) rfl
theorem dX7_alikePairs_5 : decode cX7_alikePairs 5 = .ok (.bipush 60, 2) := td tX7_alikePairs_0_ok 5 (q := (5, .bipush 60, 2)) rfl
theorem dX7_alikePairs_7 : decode cX7_alikePairs 7 = .ok (.if_icmp .ge 25, 3) := td tX7_alikePairs_0_ok 6 (q := (7, .if_icmp .ge 25, 3)) rfl
theorem dX7_alikePairs_10 : decode cX7_alikePairs 10 = .ok (.aload_n 0, 1) := td tX7_alikePairs_0_ok 7 (q := (10, .aload_n 0, 1)) rfl
theorem dX7_alikePairs_11 : decode cX7_alikePairs 11 = .ok (.iload_n 2, 1) := td tX7_alikePairs_0_ok 8 (q := (11, .iload_n 2, 1)) rfl
theorem dX7_alikePairs_12 : decode cX7_alikePairs 12 = .ok (.invokevirtual 19, 3) := td tX7_alikePairs_0_ok 9 (q := (12, .invokevirtual 19, 3)) rfl
theorem dX7_alikePairs_15 : decode cX7_alikePairs 15 = .ok (.ifCond .eq 11, 3) := td tX7_alikePairs_0_ok 10 (q := (15, .ifCond .eq 11, 3)) rfl
theorem dX7_alikePairs_18 : decode cX7_alikePairs 18 = .ok (.iload_n 1, 1) := td tX7_alikePairs_0_ok 11 (q := (18, .iload_n 1, 1)) rfl
theorem dX7_alikePairs_19 : decode cX7_alikePairs 19 = .ok (.aload_n 0, 1) := td tX7_alikePairs_0_ok 12 (q := (19, .aload_n 0, 1)) rfl
theorem dX7_alikePairs_20 : decode cX7_alikePairs 20 = .ok (.iload_n 2, 1) := td tX7_alikePairs_0_ok 13 (q := (20, .iload_n 2, 1)) rfl
theorem dX7_alikePairs_21 : decode cX7_alikePairs 21 = .ok (.invokestatic 42, 3) := td tX7_alikePairs_0_ok 14 (q := (21, .invokestatic 42, 3)) rfl
theorem dX7_alikePairs_24 : decode cX7_alikePairs 24 = .ok (.iadd, 1) := td tX7_alikePairs_0_ok 15 (q := (24, .iadd, 1)) rfl
theorem dX7_alikePairs_25 : decode cX7_alikePairs 25 = .ok (.istore_n 1, 1) := td tX7_alikePairs_0_ok 16 (q := (25, .istore_n 1, 1)) rfl
theorem dX7_alikePairs_26 : decode cX7_alikePairs 26 = .ok (.iinc 2 1, 3) := td tX7_alikePairs_0_ok 17 (q := (26, .iinc 2 1, 3)) rfl
theorem dX7_alikePairs_29 : decode cX7_alikePairs 29 = .ok (.goto (-25), 3) := td tX7_alikePairs_0_ok 18 (q := (29, .goto (-25), 3)) rfl
theorem dX7_alikePairs_32 : decode cX7_alikePairs 32 = .ok (.iload_n 1, 1) := td tX7_alikePairs_0_ok 19 (q := (32, .iload_n 1, 1)) rfl
theorem dX7_alikePairs_33 : decode cX7_alikePairs 33 = .ok (.iconst 2, 1) := td tX7_alikePairs_0_ok 20 (q := (33, .iconst 2, 1)) rfl
theorem dX7_alikePairs_34 : decode cX7_alikePairs 34 = .ok (.idiv, 1) := td tX7_alikePairs_0_ok 21 (q := (34, .idiv, 1)) rfl
theorem dX7_alikePairs_35 : decode cX7_alikePairs 35 = .ok (.ireturn, 1) := td tX7_alikePairs_0_ok 22 (q := (35, .ireturn, 1)) rfl
def fX7_alikePairs_4 (k4 : Int32 → Option (Int32)) (kc : (Nat → Int32)) : Nat → Int32 → Int32 → Option (Int32)
  | 0, _, _ => none
  | n4 + 1, x1, x2 => (if (60 : Int32) ≤ x2 then (k4 x1) else (Option.bind (fX0_isUsed kc x2) (fun q2 => (if q2 = 0 then (fX7_alikePairs_4 k4 kc n4 x1 (x2 + (1 : Int32))) else (Option.bind (fX7_alikeTo kc x2) (fun q4 => (fX7_alikePairs_4 k4 kc n4 (x1 + q4) (x2 + (1 : Int32)))))))))
def fX7_alikePairs (kc : (Nat → Int32)) : Option (Int32) :=
  (fX7_alikePairs_4 (fun (u1_5 : Int32) => (some (u1_5 / (2 : Int32)))) kc LF (0 : Int32) (0 : Int32))
set_option maxHeartbeats 4000000 in
set_option maxRecDepth 100000 in
theorem mX7_alikePairs {l : Launch} {D : va_G} {ad : Nat → Nat} {cI : ClassId} {kc : (Nat → Int32)} {ksv : (Nat → Int32)} {kbc : (Nat → Int32)} {kit : (Nat → Int32)} {kln : (Nat → Int32)} {ken : (Nat → Int32)} {kla : (Nat → Int32)} {kfi : (Nat → Int32)} {kea : (Nat → Int32)} {kns : Int32} {kbl : Int32} {kr0 : Int32} {kr1 : Int32} {kr2 : Int32} {kr3 : Int32} {kr4 : Int32} {kr5 : Int32} {klr : Int32} {kp0 : Int32} {kp1 : Int32} {kp2 : Int32} {kp3 : Int32} {r : Int32} (hs : fX7_alikePairs kc = some r) : nd_C l yX7_alikePairs cX7_alikePairs 3 (some .int) 3 71 D [(cI, .int)] [.ref (ad 1)] (CW ad cI kc ksv kbc kit kln ken kla kfi kea kns kbl kr0 kr1 kr2 kr3 kr4 kr5 klr kp0 kp1 kp2 kp3) (CW ad cI kc ksv kbc kit kln ken kla kfi kea kns kbl kr0 kr1 kr2 kr3 kr4 kr5 klr kp0 kp1 kp2 kp3) (some (.int r)) := by
  refine nd_ofCi (by decide) (Nat.le_of_ble_eq_true rfl) (fun p e s m args below meth c_ ls A Q hx hb hml hown hts hl hP hK hD hS hA hN hret => ?_)
  have hown : s.vm.findClass RX7 = some m.cls := hown
  have hl : lv_has ls 3 [(0, .ref (ad 1))] := hl
  have hret : ∀ (z0 : Int32) {H : Heap} {locs : List Loc} {pc : Nat} {ls : Array Slot}, some z0 = some r → va_P D vwCl (CW ad cI kc ksv kbc kit kln ken kla kfi kea kns kbl kr0 kr1 kr2 kr3 kr4 kr5 klr kp0 kp1 kp2 kp3) H → va_S A s.heap H locs → decode cX7_alikePairs pc = .ok (.ireturn, 1) → W p l e ⟨3, 0, 0, 71⟩ s m args below meth c_ H locs 0 0 Q (F0 m pc ls [.int z0]) := by
    intro z0 H locs pc ls h hP hS hd
    cases h
    exact hret hP hS hd
  rw [fX7_alikePairs] at hs
  refine lv_iconst (v := (0 : Int32)) hx hb dX7_alikePairs_0 (by decide) ?_
  refine lv_istore_n (lv' := [(1, .int (0 : Int32)), (0, .ref (ad 1))]) hx hb dX7_alikePairs_1 rfl hl (by decide) rfl (fun ls hl => ?_)
  refine lv_iconst (v := (0 : Int32)) hx hb dX7_alikePairs_2 (by decide) ?_
  refine lv_istore_n (lv' := [(2, .int (0 : Int32)), (1, .int (0 : Int32)), (0, .ref (ad 1))]) hx hb dX7_alikePairs_3 rfl hl (by decide) rfl (fun ls hl => ?_)
  have L4 : ∀ (n4 : Nat) (k4 : Int32 → Option (Int32)) (v1_5 : Int32) (v2_5 : Int32) (H : Heap) (locs : List Loc) (ls : Array Slot), lv_has ls 3 [(0, .ref (ad 1)), (1, .int v1_5), (2, .int v2_5)] → va_P D vwCl (CW ad cI kc ksv kbc kit kln ken kla kfi kea kns kbl kr0 kr1 kr2 kr3 kr4 kr5 klr kp0 kp1 kp2 kp3) H → va_S A s.heap H locs → fX7_alikePairs_4 k4 kc n4 v1_5 v2_5 = some r → (∀ (u1_5 : Int32) (H : Heap) (locs : List Loc) (ls : Array Slot), lv_has ls 3 [(1, .int u1_5)] → va_P D vwCl (CW ad cI kc ksv kbc kit kln ken kla kfi kea kns kbl kr0 kr1 kr2 kr3 kr4 kr5 klr kp0 kp1 kp2 kp3) H → va_S A s.heap H locs → k4 u1_5 = some r → W p l e ⟨3, 0, 0, 71⟩ s m args below meth c_ H locs 0 0 Q (F0 m 32 ls [])) → W p l e ⟨3, 0, 0, 71⟩ s m args below meth c_ H locs 0 0 Q (F0 m 4 ls []) := by
    intro n4
    induction n4 with
    | zero =>
      intro k4 v1_5 v2_5 H locs ls hl hP hS hs hk4
      rw [fX7_alikePairs_4] at hs
      cases hs
    | succ n4 ih4 =>
      intro k4 v1_5 v2_5 H locs ls hl hP hS hs hk4
      rw [fX7_alikePairs_4] at hs
      refine lv_iload_n hx hb dX7_alikePairs_4 rfl (lv_at hl 2 rfl) ?_
      refine lv_bipush (v := (60 : Int32)) hx hb dX7_alikePairs_5 (by decide) ?_
      refine lv_icmp_ge (tgt := 32) hx hb dX7_alikePairs_7 (by decide) (fun b6 => ?_) (fun b6 => ?_)
      · have hs := ite_t hs b6
        exact hk4 v1_5 _ _ _ (lv_sub hl [1] rfl) hP hS hs
      · have hs := ite_f hs b6
        refine lv_aload_n hx hb dX7_alikePairs_10 rfl (lv_at hl 0 rfl) ?_
        refine lv_iload_n hx hb dX7_alikePairs_11 rfl (lv_at hl 2 rfl) ?_
        obtain ⟨q7, eq7, hs⟩ := ob hs
        refine nd_callV (As := [.int v2_5]) (rest := []) (st1 := [.int q7]) hx hb hml hown hts hl hP hK hD hS hA hN (mX0_isUsed eq7) iv_X0_isUsed wd_608 1 rfl rfl rfl rfl ⟨Nat.le_of_ble_eq_true rfl, Nat.le_of_ble_eq_true rfl⟩ (Nat.le_of_ble_eq_true rfl) ⟨Nat.zero_le _, Nat.zero_le _⟩ dX7_alikePairs_12 rfl rfl (fun H locs hP hD hS => ?_)
        refine lv_if_eq (tgt := 26) hx hb dX7_alikePairs_15 (by decide) (fun b8 => ?_) (fun b8 => ?_)
        · have hs := ite_t hs b8
          refine lv_iinc (v := v2_5 + (1 : Int32)) (lv' := [(2, .int (v2_5 + (1 : Int32))), (0, .ref (ad 1)), (1, .int v1_5)]) hx hb dX7_alikePairs_26 hl (k := 2) rfl rfl (by decide) rfl (fun ls hl => ?_)
          refine lv_goto (tgt := 4) hx hb dX7_alikePairs_29 (by decide) ?_
          exact ih4 k4 v1_5 (v2_5 + (1 : Int32)) _ _ _ (lv_sub hl [1, 2, 0] rfl) hP hS hs hk4
        · have hs := ite_f hs b8
          refine lv_iload_n hx hb dX7_alikePairs_18 rfl (lv_at hl 1 rfl) ?_
          refine lv_aload_n hx hb dX7_alikePairs_19 rfl (lv_at hl 0 rfl) ?_
          refine lv_iload_n hx hb dX7_alikePairs_20 rfl (lv_at hl 2 rfl) ?_
          obtain ⟨q9, eq9, hs⟩ := ob hs
          refine nd_callS (As := [.ref (ad 1), .int v2_5]) (rest := [.int v1_5]) (st1 := [.int q9, .int v1_5]) hx hb hml hown hts hl hP hK hD hS hA hN (mX7_alikeTo eq9) is_X7_alikeTo wd_762 rfl rfl ⟨Nat.le_of_ble_eq_true rfl, Nat.le_of_ble_eq_true rfl⟩ (Nat.le_of_ble_eq_true rfl) ⟨Nat.zero_le _, Nat.zero_le _⟩ dX7_alikePairs_21 rfl rfl (fun H locs hP hD hS => ?_)
          refine lv_iadd hx hb dX7_alikePairs_24 ?_
          refine lv_istore_n (lv' := [(1, .int (v1_5 + q9)), (0, .ref (ad 1)), (2, .int v2_5)]) hx hb dX7_alikePairs_25 rfl hl (by decide) rfl (fun ls hl => ?_)
          refine lv_iinc (v := v2_5 + (1 : Int32)) (lv' := [(2, .int (v2_5 + (1 : Int32))), (1, .int (v1_5 + q9)), (0, .ref (ad 1))]) hx hb dX7_alikePairs_26 hl (k := 2) rfl rfl (by decide) rfl (fun ls hl => ?_)
          refine lv_goto (tgt := 4) hx hb dX7_alikePairs_29 (by decide) ?_
          exact ih4 k4 (v1_5 + q9) (v2_5 + (1 : Int32)) _ _ _ (lv_sub hl [2, 1, 0] rfl) hP hS hs hk4
  refine L4 LF _ (0 : Int32) (0 : Int32) _ _ _ (lv_sub hl [2, 1, 0] rfl) hP hS hs (fun u1_5 H locs ls hl hP hS hs => ?_)
  refine lv_iload_n hx hb dX7_alikePairs_32 rfl (lv_at hl 0 rfl) ?_
  refine lv_iconst (v := (2 : Int32)) hx hb dX7_alikePairs_33 (by decide) ?_
  refine lv_idiv hx hb dX7_alikePairs_34 (by decide) ?_
  exact hret _ hs hP hS dX7_alikePairs_35
def tX7_pagesUsed_0 : List (Nat × Instr × Nat) := [(0, .iconst 0, 1), (1, .istore_n 1, 1), (2, .iconst 0, 1), (3, .istore_n 2, 1), (4, .iload_n 2, 1), (5, .bipush 60, 2), (7, .if_icmp .ge 27, 3), (10, .aload_n 0, 1), (11, .iload_n 2, 1), (12, .invokevirtual 19, 3), (15, .ifCond .eq 13, 3), (18, .iload_n 1, 1), (19, .iconst 1, 1), (20, .aload_n 0, 1), (21, .iload_n 2, 1), (22, .invokevirtual 47, 3), (25, .ishl, 1), (26, .ior, 1), (27, .istore_n 1, 1), (28, .iinc 2 1, 3), (31, .goto (-27), 3), (34, .iload_n 1, 1), (35, .invokestatic 50, 3), (38, .ireturn, 1)]
theorem tX7_pagesUsed_0_ok : tX7_pagesUsed_0.all (fun q => decide (decode cX7_pagesUsed q.1 = .ok q.2)) = true := by decide +kernel
theorem dX7_pagesUsed_0 : decode cX7_pagesUsed 0 = .ok (.iconst 0, 1) := td tX7_pagesUsed_0_ok 0 (q := (0, .iconst 0, 1)) rfl
theorem dX7_pagesUsed_1 : decode cX7_pagesUsed 1 = .ok (.istore_n 1, 1) := td tX7_pagesUsed_0_ok 1 (q := (1, .istore_n 1, 1)) rfl
theorem dX7_pagesUsed_2 : decode cX7_pagesUsed 2 = .ok (.iconst 0, 1) := td tX7_pagesUsed_0_ok 2 (q := (2, .iconst 0, 1)) rfl
theorem dX7_pagesUsed_3 : decode cX7_pagesUsed 3 = .ok (.istore_n 2, 1) := td tX7_pagesUsed_0_ok 3 (q := (3, .istore_n 2, 1)) rfl
theorem dX7_pagesUsed_4 : decode cX7_pagesUsed 4 = .ok (.iload_n 2, 1) := td tX7_pagesUsed_0_ok 4 (q := (4, .iload_n 2, 1)) rfl
theorem dX7_pagesUsed_5 : decode cX7_pagesUsed 5 = .ok (.bipush 60, 2) := td tX7_pagesUsed_0_ok 5 (q := (5, .bipush 60, 2)) rfl
theorem dX7_pagesUsed_7 : decode cX7_pagesUsed 7 = .ok (.if_icmp .ge 27, 3) := td tX7_pagesUsed_0_ok 6 (q := (7, .if_icmp .ge 27, 3)) rfl
theorem dX7_pagesUsed_10 : decode cX7_pagesUsed 10 = .ok (.aload_n 0, 1) := td tX7_pagesUsed_0_ok 7 (q := (10, .aload_n 0, 1)) rfl
theorem dX7_pagesUsed_11 : decode cX7_pagesUsed 11 = .ok (.iload_n 2, 1) := td tX7_pagesUsed_0_ok 8 (q := (11, .iload_n 2, 1)) rfl
theorem dX7_pagesUsed_12 : decode cX7_pagesUsed 12 = .ok (.invokevirtual 19, 3) := td tX7_pagesUsed_0_ok 9 (q := (12, .invokevirtual 19, 3)) rfl
theorem dX7_pagesUsed_15 : decode cX7_pagesUsed 15 = .ok (.ifCond .eq 13, 3) := td tX7_pagesUsed_0_ok 10 (q := (15, .ifCond .eq 13, 3)) rfl
theorem dX7_pagesUsed_18 : decode cX7_pagesUsed 18 = .ok (.iload_n 1, 1) := td tX7_pagesUsed_0_ok 11 (q := (18, .iload_n 1, 1)) rfl
theorem dX7_pagesUsed_19 : decode cX7_pagesUsed 19 = .ok (.iconst 1, 1) := td tX7_pagesUsed_0_ok 12 (q := (19, .iconst 1, 1)) rfl
theorem dX7_pagesUsed_20 : decode cX7_pagesUsed 20 = .ok (.aload_n 0, 1) := td tX7_pagesUsed_0_ok 13 (q := (20, .aload_n 0, 1)) rfl
theorem dX7_pagesUsed_21 : decode cX7_pagesUsed 21 = .ok (.iload_n 2, 1) := td tX7_pagesUsed_0_ok 14 (q := (21, .iload_n 2, 1)) rfl
theorem dX7_pagesUsed_22 : decode cX7_pagesUsed 22 = .ok (.invokevirtual 47, 3) := td tX7_pagesUsed_0_ok 15 (q := (22, .invokevirtual 47, 3)) rfl
theorem dX7_pagesUsed_25 : decode cX7_pagesUsed 25 = .ok (.ishl, 1) := td tX7_pagesUsed_0_ok 16 (q := (25, .ishl, 1)) rfl
theorem dX7_pagesUsed_26 : decode cX7_pagesUsed 26 = .ok (.ior, 1) := td tX7_pagesUsed_0_ok 17 (q := (26, .ior, 1)) rfl
theorem dX7_pagesUsed_27 : decode cX7_pagesUsed 27 = .ok (.istore_n 1, 1) := td tX7_pagesUsed_0_ok 18 (q := (27, .istore_n 1, 1)) rfl
theorem dX7_pagesUsed_28 : decode cX7_pagesUsed 28 = .ok (.iinc 2 1, 3) := td tX7_pagesUsed_0_ok 19 (q := (28, .iinc 2 1, 3)) rfl
theorem dX7_pagesUsed_31 : decode cX7_pagesUsed 31 = .ok (.goto (-27), 3) := td tX7_pagesUsed_0_ok 20 (q := (31, .goto (-27), 3)) rfl
theorem dX7_pagesUsed_34 : decode cX7_pagesUsed 34 = .ok (.iload_n 1, 1) := td tX7_pagesUsed_0_ok 21 (q := (34, .iload_n 1, 1)) rfl
theorem dX7_pagesUsed_35 : decode cX7_pagesUsed 35 = .ok (.invokestatic 50, 3) := td tX7_pagesUsed_0_ok 22 (q := (35, .invokestatic 50, 3)) rfl
theorem dX7_pagesUsed_38 : decode cX7_pagesUsed 38 = .ok (.ireturn, 1) := td tX7_pagesUsed_0_ok 23 (q := (38, .ireturn, 1)) rfl
def fX7_pagesUsed_4 (k4 : Int32 → Option (Int32)) (kc : (Nat → Int32)) : Nat → Int32 → Int32 → Option (Int32)
  | 0, _, _ => none
  | n4 + 1, x1, x2 => (if (60 : Int32) ≤ x2 then (k4 x1) else (Option.bind (fX0_isUsed kc x2) (fun q2 => (if q2 = 0 then (fX7_pagesUsed_4 k4 kc n4 x1 (x2 + (1 : Int32))) else (Option.bind (fX0_pageOfSlot kc x2) (fun q4 => (fX7_pagesUsed_4 k4 kc n4 (x1 ||| ((1 : Int32) <<< (q4 &&& 31))) (x2 + (1 : Int32)))))))))
def fX7_pagesUsed (kc : (Nat → Int32)) : Option (Int32) :=
  (fX7_pagesUsed_4 (fun (u1_5 : Int32) => (Option.bind (fJ6_bitCount_0f7a4 u1_5) (fun q10 => (some q10)))) kc LF (0 : Int32) (0 : Int32))
set_option maxHeartbeats 4000000 in
set_option maxRecDepth 100000 in
theorem mX7_pagesUsed {l : Launch} {D : va_G} {ad : Nat → Nat} {cI : ClassId} {kc : (Nat → Int32)} {ksv : (Nat → Int32)} {kbc : (Nat → Int32)} {kit : (Nat → Int32)} {kln : (Nat → Int32)} {ken : (Nat → Int32)} {kla : (Nat → Int32)} {kfi : (Nat → Int32)} {kea : (Nat → Int32)} {kns : Int32} {kbl : Int32} {kr0 : Int32} {kr1 : Int32} {kr2 : Int32} {kr3 : Int32} {kr4 : Int32} {kr5 : Int32} {klr : Int32} {kp0 : Int32} {kp1 : Int32} {kp2 : Int32} {kp3 : Int32} {r : Int32} (hs : fX7_pagesUsed kc = some r) : nd_C l yX7_pagesUsed cX7_pagesUsed 3 (some .int) 2 42 D [(cI, .int)] [.ref (ad 1)] (CW ad cI kc ksv kbc kit kln ken kla kfi kea kns kbl kr0 kr1 kr2 kr3 kr4 kr5 klr kp0 kp1 kp2 kp3) (CW ad cI kc ksv kbc kit kln ken kla kfi kea kns kbl kr0 kr1 kr2 kr3 kr4 kr5 klr kp0 kp1 kp2 kp3) (some (.int r)) := by
  refine nd_ofCi (by decide) (Nat.le_of_ble_eq_true rfl) (fun p e s m args below meth c_ ls A Q hx hb hml hown hts hl hP hK hD hS hA hN hret => ?_)
  have hown : s.vm.findClass RX7 = some m.cls := hown
  have hl : lv_has ls 3 [(0, .ref (ad 1))] := hl
  have hret : ∀ (z0 : Int32) {H : Heap} {locs : List Loc} {pc : Nat} {ls : Array Slot}, some z0 = some r → va_P D vwCl (CW ad cI kc ksv kbc kit kln ken kla kfi kea kns kbl kr0 kr1 kr2 kr3 kr4 kr5 klr kp0 kp1 kp2 kp3) H → va_S A s.heap H locs → decode cX7_pagesUsed pc = .ok (.ireturn, 1) → W p l e ⟨2, 0, 0, 42⟩ s m args below meth c_ H locs 0 0 Q (F0 m pc ls [.int z0]) := by
    intro z0 H locs pc ls h hP hS hd
    cases h
    exact hret hP hS hd
  rw [fX7_pagesUsed] at hs
  refine lv_iconst (v := (0 : Int32)) hx hb dX7_pagesUsed_0 (by decide) ?_
  refine lv_istore_n (lv' := [(1, .int (0 : Int32)), (0, .ref (ad 1))]) hx hb dX7_pagesUsed_1 rfl hl (by decide) rfl (fun ls hl => ?_)
  refine lv_iconst (v := (0 : Int32)) hx hb dX7_pagesUsed_2 (by decide) ?_
  refine lv_istore_n (lv' := [(2, .int (0 : Int32)), (1, .int (0 : Int32)), (0, .ref (ad 1))]) hx hb dX7_pagesUsed_3 rfl hl (by decide) rfl (fun ls hl => ?_)
  have L4 : ∀ (n4 : Nat) (k4 : Int32 → Option (Int32)) (v1_5 : Int32) (v2_5 : Int32) (H : Heap) (locs : List Loc) (ls : Array Slot), lv_has ls 3 [(0, .ref (ad 1)), (1, .int v1_5), (2, .int v2_5)] → va_P D vwCl (CW ad cI kc ksv kbc kit kln ken kla kfi kea kns kbl kr0 kr1 kr2 kr3 kr4 kr5 klr kp0 kp1 kp2 kp3) H → va_S A s.heap H locs → fX7_pagesUsed_4 k4 kc n4 v1_5 v2_5 = some r → (∀ (u1_5 : Int32) (H : Heap) (locs : List Loc) (ls : Array Slot), lv_has ls 3 [(1, .int u1_5)] → va_P D vwCl (CW ad cI kc ksv kbc kit kln ken kla kfi kea kns kbl kr0 kr1 kr2 kr3 kr4 kr5 klr kp0 kp1 kp2 kp3) H → va_S A s.heap H locs → k4 u1_5 = some r → W p l e ⟨2, 0, 0, 42⟩ s m args below meth c_ H locs 0 0 Q (F0 m 34 ls [])) → W p l e ⟨2, 0, 0, 42⟩ s m args below meth c_ H locs 0 0 Q (F0 m 4 ls []) := by
    intro n4
    induction n4 with
    | zero =>
      intro k4 v1_5 v2_5 H locs ls hl hP hS hs hk4
      rw [fX7_pagesUsed_4] at hs
      cases hs
    | succ n4 ih4 =>
      intro k4 v1_5 v2_5 H locs ls hl hP hS hs hk4
      rw [fX7_pagesUsed_4] at hs
      refine lv_iload_n hx hb dX7_pagesUsed_4 rfl (lv_at hl 2 rfl) ?_
      refine lv_bipush (v := (60 : Int32)) hx hb dX7_pagesUsed_5 (by decide) ?_
      refine lv_icmp_ge (tgt := 34) hx hb dX7_pagesUsed_7 (by decide) (fun b6 => ?_) (fun b6 => ?_)
      · have hs := ite_t hs b6
        exact hk4 v1_5 _ _ _ (lv_sub hl [1] rfl) hP hS hs
      · have hs := ite_f hs b6
        refine lv_aload_n hx hb dX7_pagesUsed_10 rfl (lv_at hl 0 rfl) ?_
        refine lv_iload_n hx hb dX7_pagesUsed_11 rfl (lv_at hl 2 rfl) ?_
        obtain ⟨q7, eq7, hs⟩ := ob hs
        refine nd_callV (As := [.int v2_5]) (rest := []) (st1 := [.int q7]) hx hb hml hown hts hl hP hK hD hS hA hN (mX0_isUsed eq7) iv_X0_isUsed wd_608 1 rfl rfl rfl rfl ⟨Nat.le_of_ble_eq_true rfl, Nat.le_of_ble_eq_true rfl⟩ (Nat.le_of_ble_eq_true rfl) ⟨Nat.zero_le _, Nat.zero_le _⟩ dX7_pagesUsed_12 rfl rfl (fun H locs hP hD hS => ?_)
        refine lv_if_eq (tgt := 28) hx hb dX7_pagesUsed_15 (by decide) (fun b8 => ?_) (fun b8 => ?_)
        · have hs := ite_t hs b8
          refine lv_iinc (v := v2_5 + (1 : Int32)) (lv' := [(2, .int (v2_5 + (1 : Int32))), (0, .ref (ad 1)), (1, .int v1_5)]) hx hb dX7_pagesUsed_28 hl (k := 2) rfl rfl (by decide) rfl (fun ls hl => ?_)
          refine lv_goto (tgt := 4) hx hb dX7_pagesUsed_31 (by decide) ?_
          exact ih4 k4 v1_5 (v2_5 + (1 : Int32)) _ _ _ (lv_sub hl [1, 2, 0] rfl) hP hS hs hk4
        · have hs := ite_f hs b8
          refine lv_iload_n hx hb dX7_pagesUsed_18 rfl (lv_at hl 1 rfl) ?_
          refine lv_iconst (v := (1 : Int32)) hx hb dX7_pagesUsed_19 (by decide) ?_
          refine lv_aload_n hx hb dX7_pagesUsed_20 rfl (lv_at hl 0 rfl) ?_
          refine lv_iload_n hx hb dX7_pagesUsed_21 rfl (lv_at hl 2 rfl) ?_
          obtain ⟨q9, eq9, hs⟩ := ob hs
          refine nd_callV (As := [.int v2_5]) (rest := [.int (1 : Int32), .int v1_5]) (st1 := [.int q9, .int (1 : Int32), .int v1_5]) hx hb hml hown hts hl hP hK hD hS hA hN (mX0_pageOfSlot eq9) iv_X0_pageOfSlot wd_659 1 rfl rfl rfl rfl ⟨Nat.le_of_ble_eq_true rfl, Nat.le_of_ble_eq_true rfl⟩ (Nat.le_of_ble_eq_true rfl) ⟨Nat.zero_le _, Nat.zero_le _⟩ dX7_pagesUsed_22 rfl rfl (fun H locs hP hD hS => ?_)
          refine lv_ishl hx hb dX7_pagesUsed_25 ?_
          refine lv_ior hx hb dX7_pagesUsed_26 ?_
          refine lv_istore_n (lv' := [(1, .int (v1_5 ||| ((1 : Int32) <<< (q9 &&& 31)))), (0, .ref (ad 1)), (2, .int v2_5)]) hx hb dX7_pagesUsed_27 rfl hl (by decide) rfl (fun ls hl => ?_)
          refine lv_iinc (v := v2_5 + (1 : Int32)) (lv' := [(2, .int (v2_5 + (1 : Int32))), (1, .int (v1_5 ||| ((1 : Int32) <<< (q9 &&& 31)))), (0, .ref (ad 1))]) hx hb dX7_pagesUsed_28 hl (k := 2) rfl rfl (by decide) rfl (fun ls hl => ?_)
          refine lv_goto (tgt := 4) hx hb dX7_pagesUsed_31 (by decide) ?_
          exact ih4 k4 (v1_5 ||| ((1 : Int32) <<< (q9 &&& 31))) (v2_5 + (1 : Int32)) _ _ _ (lv_sub hl [2, 1, 0] rfl) hP hS hs hk4
  refine L4 LF _ (0 : Int32) (0 : Int32) _ _ _ (lv_sub hl [2, 1, 0] rfl) hP hS hs (fun u1_5 H locs ls hl hP hS hs => ?_)
  refine lv_iload_n hx hb dX7_pagesUsed_34 rfl (lv_at hl 0 rfl) ?_
  obtain ⟨q10, eq10, hs⟩ := ob hs
  refine nd_callS (As := [.int u1_5]) (rest := []) (st1 := [.int q10]) hx hb hml hown hts hl hP hK hD hS hA hN (mJ6_bitCount_0f7a4 eq10) is_J6_bitCount_0f7a4 wd_766 rfl rfl ⟨Nat.le_of_ble_eq_true rfl, Nat.le_of_ble_eq_true rfl⟩ (Nat.le_of_ble_eq_true rfl) ⟨Nat.zero_le _, Nat.zero_le _⟩ dX7_pagesUsed_35 rfl rfl (fun H locs hP hD hS => ?_)
  exact hret _ hs hP hS dX7_pagesUsed_38
def tX7_sizeHidden_0 : List (Nat × Instr × Nat) := [(0, .aload_n 0, 1), (1, .iload_n 1, 1), (2, .invokevirtual 33, 3), (5, .aload_n 0, 1), (6, .sipush 171, 3), (9, .iload_n 1, 1), (10, .iadd, 1), (11, .invokevirtual 36, 3), (14, .isub, 1), (15, .invokestatic 61, 3), (18, .ireturn, 1)]
theorem tX7_sizeHidden_0_ok : tX7_sizeHidden_0.all (fun q => decide (decode cX7_sizeHidden q.1 = .ok q.2)) = true := by decide +kernel
theorem dX7_sizeHidden_0 : decode cX7_sizeHidden 0 = .ok (.aload_n 0, 1) := td tX7_sizeHidden_0_ok 0 (q := (0, .aload_n 0, 1)) rfl
theorem dX7_sizeHidden_1 : decode cX7_sizeHidden 1 = .ok (.iload_n 1, 1) := td tX7_sizeHidden_0_ok 1 (q := (1, .iload_n 1, 1)) rfl
theorem dX7_sizeHidden_2 : decode cX7_sizeHidden 2 = .ok (.invokevirtual 33, 3) := td tX7_sizeHidden_0_ok 2 (q := (2, .invokevirtual 33, 3)) rfl
theorem dX7_sizeHidden_5 : decode cX7_sizeHidden 5 = .ok (.aload_n 0, 1) := td tX7_sizeHidden_0_ok 3 (q := (5, .aload_n 0, 1)) rfl
theorem dX7_sizeHidden_6 : decode cX7_sizeHidden 6 = .ok (.sipush 171, 3) := td tX7_sizeHidden_0_ok 4 (q := (6, .sipush 171, 3)) rfl
theorem dX7_sizeHidden_9 : decode cX7_sizeHidden 9 = .ok (.iload_n 1, 1) := td tX7_sizeHidden_0_ok 5 (q := (9, .iload_n 1, 1)) rfl
theorem dX7_sizeHidden_10 : decode cX7_sizeHidden 10 = .ok (.iadd, 1) := td tX7_sizeHidden_0_ok 6 (q := (10, .iadd, 1)) rfl
theorem dX7_sizeHidden_11 : decode cX7_sizeHidden 11 = .ok (.invokevirtual 36, 3) := td tX7_sizeHidden_0_ok 7 (q := (11, .invokevirtual 36, 3)) rfl
theorem dX7_sizeHidden_14 : decode cX7_sizeHidden 14 = .ok (.isub, 1) := td tX7_sizeHidden_0_ok 8 (q := (14, .isub, 1)) rfl
theorem dX7_sizeHidden_15 : decode cX7_sizeHidden 15 = .ok (.invokestatic 61, 3) := td tX7_sizeHidden_0_ok 9 (q := (15, .invokestatic 61, 3)) rfl
theorem dX7_sizeHidden_18 : decode cX7_sizeHidden 18 = .ok (.ireturn, 1) := td tX7_sizeHidden_0_ok 10 (q := (18, .ireturn, 1)) rfl
def fX7_sizeHidden (kc : (Nat → Int32)) (x1 : Int32) : Option (Int32) :=
  (Option.bind (fX0_sumOf kc x1) (fun q1 => (Option.bind (fX0_get kc ((171 : Int32) + x1)) (fun q2 => (some (if 0 ≤ (q1 - q2) then (q1 - q2) else 0 - (q1 - q2)))))))
set_option maxHeartbeats 4000000 in
set_option maxRecDepth 100000 in
theorem mX7_sizeHidden {l : Launch} {D : va_G} {ad : Nat → Nat} {cI : ClassId} {kc : (Nat → Int32)} {ksv : (Nat → Int32)} {kbc : (Nat → Int32)} {kit : (Nat → Int32)} {kln : (Nat → Int32)} {ken : (Nat → Int32)} {kla : (Nat → Int32)} {kfi : (Nat → Int32)} {kea : (Nat → Int32)} {kns : Int32} {kbl : Int32} {kr0 : Int32} {kr1 : Int32} {kr2 : Int32} {kr3 : Int32} {kr4 : Int32} {kr5 : Int32} {klr : Int32} {kp0 : Int32} {kp1 : Int32} {kp2 : Int32} {kp3 : Int32} {x1 : Int32} {r : Int32} (hs : fX7_sizeHidden kc x1 = some r) : nd_C l yX7_sizeHidden cX7_sizeHidden 2 (some .int) 2 45 D [(cI, .int)] [.ref (ad 1), .int x1] (CW ad cI kc ksv kbc kit kln ken kla kfi kea kns kbl kr0 kr1 kr2 kr3 kr4 kr5 klr kp0 kp1 kp2 kp3) (CW ad cI kc ksv kbc kit kln ken kla kfi kea kns kbl kr0 kr1 kr2 kr3 kr4 kr5 klr kp0 kp1 kp2 kp3) (some (.int r)) := by
  refine nd_ofCi (by decide) (Nat.le_of_ble_eq_true rfl) (fun p e s m args below meth c_ ls A Q hx hb hml hown hts hl hP hK hD hS hA hN hret => ?_)
  have hown : s.vm.findClass RX7 = some m.cls := hown
  have hl : lv_has ls 2 [(0, .ref (ad 1)), (1, .int x1)] := hl
  have hret : ∀ (z0 : Int32) {H : Heap} {locs : List Loc} {pc : Nat} {ls : Array Slot}, some z0 = some r → va_P D vwCl (CW ad cI kc ksv kbc kit kln ken kla kfi kea kns kbl kr0 kr1 kr2 kr3 kr4 kr5 klr kp0 kp1 kp2 kp3) H → va_S A s.heap H locs → decode cX7_sizeHidden pc = .ok (.ireturn, 1) → W p l e ⟨2, 0, 0, 45⟩ s m args below meth c_ H locs 0 0 Q (F0 m pc ls [.int z0]) := by
    intro z0 H locs pc ls h hP hS hd
    cases h
    exact hret hP hS hd
  rw [fX7_sizeHidden] at hs
  refine lv_aload_n hx hb dX7_sizeHidden_0 rfl (lv_at hl 0 rfl) ?_
  refine lv_iload_n hx hb dX7_sizeHidden_1 rfl (lv_at hl 1 rfl) ?_
  obtain ⟨q1, eq1, hs⟩ := ob hs
  refine nd_callV (As := [.int x1]) (rest := []) (st1 := [.int q1]) hx hb hml hown hts hl hP hK hD hS hA hN (mX0_sumOf eq1) iv_X0_sumOf wd_557 1 rfl rfl rfl rfl ⟨Nat.le_of_ble_eq_true rfl, Nat.le_of_ble_eq_true rfl⟩ (Nat.le_of_ble_eq_true rfl) ⟨Nat.zero_le _, Nat.zero_le _⟩ dX7_sizeHidden_2 rfl rfl (fun H locs hP hD hS => ?_)
  refine lv_aload_n hx hb dX7_sizeHidden_5 rfl (lv_at hl 0 rfl) ?_
  refine lv_sipush (v := (171 : Int32)) hx hb dX7_sizeHidden_6 (by decide) ?_
  refine lv_iload_n hx hb dX7_sizeHidden_9 rfl (lv_at hl 1 rfl) ?_
  refine lv_iadd hx hb dX7_sizeHidden_10 ?_
  obtain ⟨q2, eq2, hs⟩ := ob hs
  refine nd_callV (As := [.int ((171 : Int32) + x1)]) (rest := [.int q1]) (st1 := [.int q2, .int q1]) hx hb hml hown hts hl hP hK hD hS hA hN (mX0_get eq2) iv_X0_get wd_607 1 rfl rfl rfl rfl ⟨Nat.le_of_ble_eq_true rfl, Nat.le_of_ble_eq_true rfl⟩ (Nat.le_of_ble_eq_true rfl) ⟨Nat.zero_le _, Nat.zero_le _⟩ dX7_sizeHidden_11 rfl rfl (fun H locs hP hD hS => ?_)
  refine lv_isub hx hb dX7_sizeHidden_14 ?_
  refine va_mabs hx hb (hml.trans hl.1.symm) hown (hts _ wd_663) (hts _ wd_664) (hts _ wd_665) (hts _ wd_666) (Nat.le_of_ble_eq_true rfl) (Nat.le_of_ble_eq_true rfl) (Nat.zero_le _) (Nat.zero_le _) dX7_sizeHidden_15 ?_
  exact hret _ hs hP hS dX7_sizeHidden_18
def tX7_numberOfPage_0 : List (Nat × Instr × Nat) := [(0, .iconst 0, 1), (1, .istore_n 3, 1), (2, .iconst 0, 1), (3, .istore 4, 2), (5, .iload 4, 2), (7, .bipush 60, 2), (9, .if_icmp .ge 129, 3), (12, .aload_n 0, 1), (13, .iload 4, 2), (15, .invokevirtual 19, 3), (18, .ifCond .eq 114, 3), (21, .aload_n 0, 1), (22, .iload 4, 2), (24, .invokevirtual 47, 3), (27, .iload_n 1, 1), (28, .if_icmp .eq 6, 3), (31, .goto 101, 3), (34, .iload_n 2, 1), (35, .tableswitch 83 0 3 #[29, 35, 47, 63], 29), (64, .iinc 3 1, 3), (67, .goto 65, 3), (70, .iload_n 3, 1), (71, .aload_n 0, 1), (72, .iload 4, 2), (74, .invokevirtual 33, 3), (77, .iadd, 1), (78, .istore_n 3, 1), (79, .goto 53, 3), (82, .iload_n 3, 1), (83, .aload_n 0, 1), (84, .sipush 171, 3), (87, .iload 4, 2), (89, .iadd, 1), (90, .invokevirtual 36, 3), (93, .iadd, 1), (94, .istore_n 3, 1), (95, .goto 37, 3), (98, .iload_n 3, 1), (99, .aload_n 0, 1), (100, .iload 4, 2), (102, .invokestatic 55, 3), (105, .ifCond .le 7, 3), (108, .iconst 1, 1), (109, .goto 4, 3), (112, .iconst 0, 1), (113, .iadd, 1), (114, .istore_n 3, 1), (115, .goto 17, 3), (118, .iload_n 3, 1), (119, .iconst 1, 1), (120, .aload_n 0, 1), (121, .bipush 111, 2), (123, .iload 4, 2), (125, .iadd, 1), (126, .invokevirtual 36, 3), (129, .ishl, 1), (130, .ior, 1), (131, .istore_n 3, 1), (132, .iinc 4 1, 3), (135, .goto (-130), 3)]
theorem tX7_numberOfPage_0_ok : tX7_numberOfPage_0.all (fun q => decide (decode cX7_numberOfPage q.1 = .ok q.2)) = true := by decide +kernel
theorem dX7_numberOfPage_0 : decode cX7_numberOfPage 0 = .ok (.iconst 0, 1) := td tX7_numberOfPage_0_ok 0 (q := (0, .iconst 0, 1)) rfl
theorem dX7_numberOfPage_1 : decode cX7_numberOfPage 1 = .ok (.istore_n 3, 1) := td tX7_numberOfPage_0_ok 1 (q := (1, .istore_n 3, 1)) rfl
theorem dX7_numberOfPage_2 : decode cX7_numberOfPage 2 = .ok (.iconst 0, 1) := td tX7_numberOfPage_0_ok 2 (q := (2, .iconst 0, 1)) rfl
theorem dX7_numberOfPage_3 : decode cX7_numberOfPage 3 = .ok (.istore 4, 2) := td tX7_numberOfPage_0_ok 3 (q := (3, .istore 4, 2)) rfl
theorem dX7_numberOfPage_5 : decode cX7_numberOfPage 5 = .ok (.iload 4, 2) := td tX7_numberOfPage_0_ok 4 (q := (5, .iload 4, 2)) rfl
theorem dX7_numberOfPage_7 : decode cX7_numberOfPage 7 = .ok (.bipush 60, 2) := td tX7_numberOfPage_0_ok 5 (q := (7, .bipush 60, 2)) rfl
theorem dX7_numberOfPage_9 : decode cX7_numberOfPage 9 = .ok (.if_icmp .ge 129, 3) := td tX7_numberOfPage_0_ok 6 (q := (9, .if_icmp .ge 129, 3)) rfl
theorem dX7_numberOfPage_12 : decode cX7_numberOfPage 12 = .ok (.aload_n 0, 1) := td tX7_numberOfPage_0_ok 7 (q := (12, .aload_n 0, 1)) rfl
theorem dX7_numberOfPage_13 : decode cX7_numberOfPage 13 = .ok (.iload 4, 2) := td tX7_numberOfPage_0_ok 8 (q := (13, .iload 4, 2)) rfl
theorem dX7_numberOfPage_15 : decode cX7_numberOfPage 15 = .ok (.invokevirtual 19, 3) := td tX7_numberOfPage_0_ok 9 (q := (15, .invokevirtual 19, 3)) rfl
theorem dX7_numberOfPage_18 : decode cX7_numberOfPage 18 = .ok (.ifCond .eq 114, 3) := td tX7_numberOfPage_0_ok 10 (q := (18, .ifCond .eq 114, 3)) rfl
theorem dX7_numberOfPage_21 : decode cX7_numberOfPage 21 = .ok (.aload_n 0, 1) := td tX7_numberOfPage_0_ok 11 (q := (21, .aload_n 0, 1)) rfl
theorem dX7_numberOfPage_22 : decode cX7_numberOfPage 22 = .ok (.iload 4, 2) := td tX7_numberOfPage_0_ok 12 (q := (22, .iload 4, 2)) rfl
theorem dX7_numberOfPage_24 : decode cX7_numberOfPage 24 = .ok (.invokevirtual 47, 3) := td tX7_numberOfPage_0_ok 13 (q := (24, .invokevirtual 47, 3)) rfl
theorem dX7_numberOfPage_27 : decode cX7_numberOfPage 27 = .ok (.iload_n 1, 1) := td tX7_numberOfPage_0_ok 14 (q := (27, .iload_n 1, 1)) rfl
theorem dX7_numberOfPage_28 : decode cX7_numberOfPage 28 = .ok (.if_icmp .eq 6, 3) := td tX7_numberOfPage_0_ok 15 (q := (28, .if_icmp .eq 6, 3)) rfl
theorem dX7_numberOfPage_31 : decode cX7_numberOfPage 31 = .ok (.goto 101, 3) := td tX7_numberOfPage_0_ok 16 (q := (31, .goto 101, 3)) rfl
theorem dX7_numberOfPage_34 : decode cX7_numberOfPage 34 = .ok (.iload_n 2, 1) := td tX7_numberOfPage_0_ok 17 (q := (34, .iload_n 2, 1)) rfl
theorem dX7_numberOfPage_35 : decode cX7_numberOfPage 35 = .ok (.tableswitch 83 0 3 #[29, 35, 47, 63], 29) := td tX7_numberOfPage_0_ok 18 (q := (35, .tableswitch 83 0 3 #[29, 35, 47, 63], 29)) rfl
theorem dX7_numberOfPage_64 : decode cX7_numberOfPage 64 = .ok (.iinc 3 1, 3) := td tX7_numberOfPage_0_ok 19 (q := (64, .iinc 3 1, 3)) rfl
theorem dX7_numberOfPage_67 : decode cX7_numberOfPage 67 = .ok (.goto 65, 3) := td tX7_numberOfPage_0_ok 20 (q := (67, .goto 65, 3)) rfl
theorem dX7_numberOfPage_70 : decode cX7_numberOfPage 70 = .ok (.iload_n 3, 1) := td tX7_numberOfPage_0_ok 21 (q := (70, .iload_n 3, 1)) rfl
theorem dX7_numberOfPage_71 : decode cX7_numberOfPage 71 = .ok (.aload_n 0, 1) := td tX7_numberOfPage_0_ok 22 (q := (71, .aload_n 0, 1)) rfl
theorem dX7_numberOfPage_72 : decode cX7_numberOfPage 72 = .ok (.iload 4, 2) := td tX7_numberOfPage_0_ok 23 (q := (72, .iload 4, 2)) rfl
theorem dX7_numberOfPage_74 : decode cX7_numberOfPage 74 = .ok (.invokevirtual 33, 3) := td tX7_numberOfPage_0_ok 24 (q := (74, .invokevirtual 33, 3)) rfl
theorem dX7_numberOfPage_77 : decode cX7_numberOfPage 77 = .ok (.iadd, 1) := td tX7_numberOfPage_0_ok 25 (q := (77, .iadd, 1)) rfl
theorem dX7_numberOfPage_78 : decode cX7_numberOfPage 78 = .ok (.istore_n 3, 1) := td tX7_numberOfPage_0_ok 26 (q := (78, .istore_n 3, 1)) rfl
theorem dX7_numberOfPage_79 : decode cX7_numberOfPage 79 = .ok (.goto 53, 3) := td tX7_numberOfPage_0_ok 27 (q := (79, .goto 53, 3)) rfl
theorem dX7_numberOfPage_82 : decode cX7_numberOfPage 82 = .ok (.iload_n 3, 1) := td tX7_numberOfPage_0_ok 28 (q := (82, .iload_n 3, 1)) rfl
theorem dX7_numberOfPage_83 : decode cX7_numberOfPage 83 = .ok (.aload_n 0, 1) := td tX7_numberOfPage_0_ok 29 (q := (83, .aload_n 0, 1)) rfl
theorem dX7_numberOfPage_84 : decode cX7_numberOfPage 84 = .ok (.sipush 171, 3) := td tX7_numberOfPage_0_ok 30 (q := (84, .sipush 171, 3)) rfl
theorem dX7_numberOfPage_87 : decode cX7_numberOfPage 87 = .ok (.iload 4, 2) := td tX7_numberOfPage_0_ok 31 (q := (87, .iload 4, 2)) rfl
theorem dX7_numberOfPage_89 : decode cX7_numberOfPage 89 = .ok (.iadd, 1) := td tX7_numberOfPage_0_ok 32 (q := (89, .iadd, 1)) rfl
theorem dX7_numberOfPage_90 : decode cX7_numberOfPage 90 = .ok (.invokevirtual 36, 3) := td tX7_numberOfPage_0_ok 33 (q := (90, .invokevirtual 36, 3)) rfl
theorem dX7_numberOfPage_93 : decode cX7_numberOfPage 93 = .ok (.iadd, 1) := td tX7_numberOfPage_0_ok 34 (q := (93, .iadd, 1)) rfl
theorem dX7_numberOfPage_94 : decode cX7_numberOfPage 94 = .ok (.istore_n 3, 1) := td tX7_numberOfPage_0_ok 35 (q := (94, .istore_n 3, 1)) rfl
theorem dX7_numberOfPage_95 : decode cX7_numberOfPage 95 = .ok (.goto 37, 3) := td tX7_numberOfPage_0_ok 36 (q := (95, .goto 37, 3)) rfl
theorem dX7_numberOfPage_98 : decode cX7_numberOfPage 98 = .ok (.iload_n 3, 1) := td tX7_numberOfPage_0_ok 37 (q := (98, .iload_n 3, 1)) rfl
theorem dX7_numberOfPage_99 : decode cX7_numberOfPage 99 = .ok (.aload_n 0, 1) := td tX7_numberOfPage_0_ok 38 (q := (99, .aload_n 0, 1)) rfl
theorem dX7_numberOfPage_100 : decode cX7_numberOfPage 100 = .ok (.iload 4, 2) := td tX7_numberOfPage_0_ok 39 (q := (100, .iload 4, 2)) rfl
theorem dX7_numberOfPage_102 : decode cX7_numberOfPage 102 = .ok (.invokestatic 55, 3) := td tX7_numberOfPage_0_ok 40 (q := (102, .invokestatic 55, 3)) rfl
theorem dX7_numberOfPage_105 : decode cX7_numberOfPage 105 = .ok (.ifCond .le 7, 3) := td tX7_numberOfPage_0_ok 41 (q := (105, .ifCond .le 7, 3)) rfl
theorem dX7_numberOfPage_108 : decode cX7_numberOfPage 108 = .ok (.iconst 1, 1) := td tX7_numberOfPage_0_ok 42 (q := (108, .iconst 1, 1)) rfl
theorem dX7_numberOfPage_109 : decode cX7_numberOfPage 109 = .ok (.goto 4, 3) := td tX7_numberOfPage_0_ok 43 (q := (109, .goto 4, 3)) rfl
theorem dX7_numberOfPage_112 : decode cX7_numberOfPage 112 = .ok (.iconst 0, 1) := td tX7_numberOfPage_0_ok 44 (q := (112, .iconst 0, 1)) rfl
theorem dX7_numberOfPage_113 : decode cX7_numberOfPage 113 = .ok (.iadd, 1) := td tX7_numberOfPage_0_ok 45 (q := (113, .iadd, 1)) rfl
theorem dX7_numberOfPage_114 : decode cX7_numberOfPage 114 = .ok (.istore_n 3, 1) := td tX7_numberOfPage_0_ok 46 (q := (114, .istore_n 3, 1)) rfl
theorem dX7_numberOfPage_115 : decode cX7_numberOfPage 115 = .ok (.goto 17, 3) := td tX7_numberOfPage_0_ok 47 (q := (115, .goto 17, 3)) rfl
theorem dX7_numberOfPage_118 : decode cX7_numberOfPage 118 = .ok (.iload_n 3, 1) := td tX7_numberOfPage_0_ok 48 (q := (118, .iload_n 3, 1)) rfl
theorem dX7_numberOfPage_119 : decode cX7_numberOfPage 119 = .ok (.iconst 1, 1) := td tX7_numberOfPage_0_ok 49 (q := (119, .iconst 1, 1)) rfl
theorem dX7_numberOfPage_120 : decode cX7_numberOfPage 120 = .ok (.aload_n 0, 1) := td tX7_numberOfPage_0_ok 50 (q := (120, .aload_n 0, 1)) rfl
theorem dX7_numberOfPage_121 : decode cX7_numberOfPage 121 = .ok (.bipush 111, 2) := td tX7_numberOfPage_0_ok 51 (q := (121, .bipush 111, 2)) rfl
theorem dX7_numberOfPage_123 : decode cX7_numberOfPage 123 = .ok (.iload 4, 2) := td tX7_numberOfPage_0_ok 52 (q := (123, .iload 4, 2)) rfl
theorem dX7_numberOfPage_125 : decode cX7_numberOfPage 125 = .ok (.iadd, 1) := td tX7_numberOfPage_0_ok 53 (q := (125, .iadd, 1)) rfl
theorem dX7_numberOfPage_126 : decode cX7_numberOfPage 126 = .ok (.invokevirtual 36, 3) := td tX7_numberOfPage_0_ok 54 (q := (126, .invokevirtual 36, 3)) rfl
theorem dX7_numberOfPage_129 : decode cX7_numberOfPage 129 = .ok (.ishl, 1) := td tX7_numberOfPage_0_ok 55 (q := (129, .ishl, 1)) rfl
theorem dX7_numberOfPage_130 : decode cX7_numberOfPage 130 = .ok (.ior, 1) := td tX7_numberOfPage_0_ok 56 (q := (130, .ior, 1)) rfl
theorem dX7_numberOfPage_131 : decode cX7_numberOfPage 131 = .ok (.istore_n 3, 1) := td tX7_numberOfPage_0_ok 57 (q := (131, .istore_n 3, 1)) rfl
theorem dX7_numberOfPage_132 : decode cX7_numberOfPage 132 = .ok (.iinc 4 1, 3) := td tX7_numberOfPage_0_ok 58 (q := (132, .iinc 4 1, 3)) rfl
theorem dX7_numberOfPage_135 : decode cX7_numberOfPage 135 = .ok (.goto (-130), 3) := td tX7_numberOfPage_0_ok 59 (q := (135, .goto (-130), 3)) rfl
def tX7_numberOfPage_1 : List (Nat × Instr × Nat) := [(138, .iload_n 3, 1), (139, .ireturn, 1)]
theorem tX7_numberOfPage_1_ok : tX7_numberOfPage_1.all (fun q => decide (decode cX7_numberOfPage q.1 = .ok q.2)) = true := by decide +kernel
theorem dX7_numberOfPage_138 : decode cX7_numberOfPage 138 = .ok (.iload_n 3, 1) := td tX7_numberOfPage_1_ok 0 (q := (138, .iload_n 3, 1)) rfl
theorem dX7_numberOfPage_139 : decode cX7_numberOfPage 139 = .ok (.ireturn, 1) := td tX7_numberOfPage_1_ok 1 (q := (139, .ireturn, 1)) rfl
def fX7_numberOfPage_5 (k5 : Int32 → Option (Int32)) (kc : (Nat → Int32)) (x1 : Int32) (x2 : Int32) : Nat → Int32 → Int32 → Option (Int32)
  | 0, _, _ => none
  | n5 + 1, x3, x4 => (if (60 : Int32) ≤ x4 then (k5 x3) else (Option.bind (fX0_isUsed kc x4) (fun q2 => (if q2 = 0 then (fX7_numberOfPage_5 k5 kc x1 x2 n5 x3 (x4 + (1 : Int32))) else (Option.bind (fX0_pageOfSlot kc x4) (fun q4 => (if q4 = x1 then (if x2 = (0 : Int32) then (fX7_numberOfPage_5 k5 kc x1 x2 n5 (x3 + (1 : Int32)) (x4 + (1 : Int32))) else (if x2 = (1 : Int32) then (Option.bind (fX0_sumOf kc x4) (fun q8 => (fX7_numberOfPage_5 k5 kc x1 x2 n5 (x3 + q8) (x4 + (1 : Int32))))) else (if x2 = (2 : Int32) then (Option.bind (fX0_get kc ((171 : Int32) + x4)) (fun q10 => (fX7_numberOfPage_5 k5 kc x1 x2 n5 (x3 + q10) (x4 + (1 : Int32))))) else (if x2 = (3 : Int32) then (Option.bind (fX7_sizeHidden kc x4) (fun q12 => (if q12 ≤ 0 then (fX7_numberOfPage_5 k5 kc x1 x2 n5 (x3 + (0 : Int32)) (x4 + (1 : Int32))) else (fX7_numberOfPage_5 k5 kc x1 x2 n5 (x3 + (1 : Int32)) (x4 + (1 : Int32)))))) else (Option.bind (fX0_get kc ((111 : Int32) + x4)) (fun q14 => (fX7_numberOfPage_5 k5 kc x1 x2 n5 (x3 ||| ((1 : Int32) <<< (q14 &&& 31))) (x4 + (1 : Int32))))))))) else (fX7_numberOfPage_5 k5 kc x1 x2 n5 x3 (x4 + (1 : Int32))))))))))
def fX7_numberOfPage (kc : (Nat → Int32)) (x1 : Int32) (x2 : Int32) : Option (Int32) :=
  (fX7_numberOfPage_5 (fun (u3_15 : Int32) => (some u3_15)) kc x1 x2 LF (0 : Int32) (0 : Int32))
set_option maxHeartbeats 4000000 in
set_option maxRecDepth 100000 in
theorem mX7_numberOfPage {l : Launch} {D : va_G} {ad : Nat → Nat} {cI : ClassId} {kc : (Nat → Int32)} {ksv : (Nat → Int32)} {kbc : (Nat → Int32)} {kit : (Nat → Int32)} {kln : (Nat → Int32)} {ken : (Nat → Int32)} {kla : (Nat → Int32)} {kfi : (Nat → Int32)} {kea : (Nat → Int32)} {kns : Int32} {kbl : Int32} {kr0 : Int32} {kr1 : Int32} {kr2 : Int32} {kr3 : Int32} {kr4 : Int32} {kr5 : Int32} {klr : Int32} {kp0 : Int32} {kp1 : Int32} {kp2 : Int32} {kp3 : Int32} {x1 : Int32} {x2 : Int32} {r : Int32} (hs : fX7_numberOfPage kc x1 x2 = some r) : nd_C l yX7_numberOfPage cX7_numberOfPage 5 (some .int) 3 66 D [(cI, .int)] [.ref (ad 1), .int x1, .int x2] (CW ad cI kc ksv kbc kit kln ken kla kfi kea kns kbl kr0 kr1 kr2 kr3 kr4 kr5 klr kp0 kp1 kp2 kp3) (CW ad cI kc ksv kbc kit kln ken kla kfi kea kns kbl kr0 kr1 kr2 kr3 kr4 kr5 klr kp0 kp1 kp2 kp3) (some (.int r)) := by
  refine nd_ofCi (by decide) (Nat.le_of_ble_eq_true rfl) (fun p e s m args below meth c_ ls A Q hx hb hml hown hts hl hP hK hD hS hA hN hret => ?_)
  have hown : s.vm.findClass RX7 = some m.cls := hown
  have hl : lv_has ls 5 [(0, .ref (ad 1)), (1, .int x1), (2, .int x2)] := hl
  have hret : ∀ (z0 : Int32) {H : Heap} {locs : List Loc} {pc : Nat} {ls : Array Slot}, some z0 = some r → va_P D vwCl (CW ad cI kc ksv kbc kit kln ken kla kfi kea kns kbl kr0 kr1 kr2 kr3 kr4 kr5 klr kp0 kp1 kp2 kp3) H → va_S A s.heap H locs → decode cX7_numberOfPage pc = .ok (.ireturn, 1) → W p l e ⟨3, 0, 0, 66⟩ s m args below meth c_ H locs 0 0 Q (F0 m pc ls [.int z0]) := by
    intro z0 H locs pc ls h hP hS hd
    cases h
    exact hret hP hS hd
  rw [fX7_numberOfPage] at hs
  refine lv_iconst (v := (0 : Int32)) hx hb dX7_numberOfPage_0 (by decide) ?_
  refine lv_istore_n (lv' := [(3, .int (0 : Int32)), (0, .ref (ad 1)), (1, .int x1), (2, .int x2)]) hx hb dX7_numberOfPage_1 rfl hl (by decide) rfl (fun ls hl => ?_)
  refine lv_iconst (v := (0 : Int32)) hx hb dX7_numberOfPage_2 (by decide) ?_
  refine lv_istore (lv' := [(4, .int (0 : Int32)), (3, .int (0 : Int32)), (0, .ref (ad 1)), (1, .int x1), (2, .int x2)]) hx hb dX7_numberOfPage_3 hl (by decide) rfl (fun ls hl => ?_)
  have L5 : ∀ (n5 : Nat) (k5 : Int32 → Option (Int32)) (v3_15 : Int32) (v4_15 : Int32) (H : Heap) (locs : List Loc) (ls : Array Slot), lv_has ls 5 [(0, .ref (ad 1)), (1, .int x1), (2, .int x2), (3, .int v3_15), (4, .int v4_15)] → va_P D vwCl (CW ad cI kc ksv kbc kit kln ken kla kfi kea kns kbl kr0 kr1 kr2 kr3 kr4 kr5 klr kp0 kp1 kp2 kp3) H → va_S A s.heap H locs → fX7_numberOfPage_5 k5 kc x1 x2 n5 v3_15 v4_15 = some r → (∀ (u3_15 : Int32) (H : Heap) (locs : List Loc) (ls : Array Slot), lv_has ls 5 [(3, .int u3_15)] → va_P D vwCl (CW ad cI kc ksv kbc kit kln ken kla kfi kea kns kbl kr0 kr1 kr2 kr3 kr4 kr5 klr kp0 kp1 kp2 kp3) H → va_S A s.heap H locs → k5 u3_15 = some r → W p l e ⟨3, 0, 0, 66⟩ s m args below meth c_ H locs 0 0 Q (F0 m 138 ls [])) → W p l e ⟨3, 0, 0, 66⟩ s m args below meth c_ H locs 0 0 Q (F0 m 5 ls []) := by
    intro n5
    induction n5 with
    | zero =>
      intro k5 v3_15 v4_15 H locs ls hl hP hS hs hk5
      rw [fX7_numberOfPage_5] at hs
      cases hs
    | succ n5 ih5 =>
      intro k5 v3_15 v4_15 H locs ls hl hP hS hs hk5
      rw [fX7_numberOfPage_5] at hs
      refine lv_iload hx hb dX7_numberOfPage_5 (lv_at hl 4 rfl) ?_
      refine lv_bipush (v := (60 : Int32)) hx hb dX7_numberOfPage_7 (by decide) ?_
      refine lv_icmp_ge (tgt := 138) hx hb dX7_numberOfPage_9 (by decide) (fun b16 => ?_) (fun b16 => ?_)
      · have hs := ite_t hs b16
        exact hk5 v3_15 _ _ _ (lv_sub hl [3] rfl) hP hS hs
      · have hs := ite_f hs b16
        refine lv_aload_n hx hb dX7_numberOfPage_12 rfl (lv_at hl 0 rfl) ?_
        refine lv_iload hx hb dX7_numberOfPage_13 (lv_at hl 4 rfl) ?_
        obtain ⟨q17, eq17, hs⟩ := ob hs
        refine nd_callV (As := [.int v4_15]) (rest := []) (st1 := [.int q17]) hx hb hml hown hts hl hP hK hD hS hA hN (mX0_isUsed eq17) iv_X0_isUsed wd_608 1 rfl rfl rfl rfl ⟨Nat.le_of_ble_eq_true rfl, Nat.le_of_ble_eq_true rfl⟩ (Nat.le_of_ble_eq_true rfl) ⟨Nat.zero_le _, Nat.zero_le _⟩ dX7_numberOfPage_15 rfl rfl (fun H locs hP hD hS => ?_)
        refine lv_if_eq (tgt := 132) hx hb dX7_numberOfPage_18 (by decide) (fun b18 => ?_) (fun b18 => ?_)
        · have hs := ite_t hs b18
          refine lv_iinc (v := v4_15 + (1 : Int32)) (lv' := [(4, .int (v4_15 + (1 : Int32))), (0, .ref (ad 1)), (1, .int x1), (2, .int x2), (3, .int v3_15)]) hx hb dX7_numberOfPage_132 hl (k := 4) rfl rfl (by decide) rfl (fun ls hl => ?_)
          refine lv_goto (tgt := 5) hx hb dX7_numberOfPage_135 (by decide) ?_
          exact ih5 k5 v3_15 (v4_15 + (1 : Int32)) _ _ _ (lv_sub hl [1, 2, 3, 4, 0] rfl) hP hS hs hk5
        · have hs := ite_f hs b18
          refine lv_aload_n hx hb dX7_numberOfPage_21 rfl (lv_at hl 0 rfl) ?_
          refine lv_iload hx hb dX7_numberOfPage_22 (lv_at hl 4 rfl) ?_
          obtain ⟨q19, eq19, hs⟩ := ob hs
          refine nd_callV (As := [.int v4_15]) (rest := []) (st1 := [.int q19]) hx hb hml hown hts hl hP hK hD hS hA hN (mX0_pageOfSlot eq19) iv_X0_pageOfSlot wd_659 1 rfl rfl rfl rfl ⟨Nat.le_of_ble_eq_true rfl, Nat.le_of_ble_eq_true rfl⟩ (Nat.le_of_ble_eq_true rfl) ⟨Nat.zero_le _, Nat.zero_le _⟩ dX7_numberOfPage_24 rfl rfl (fun H locs hP hD hS => ?_)
          refine lv_iload_n hx hb dX7_numberOfPage_27 rfl (lv_at hl 1 rfl) ?_
          refine lv_icmp_eq (tgt := 34) hx hb dX7_numberOfPage_28 (by decide) (fun b20 => ?_) (fun b20 => ?_)
          · have hs := ite_t hs b20
            refine lv_iload_n hx hb dX7_numberOfPage_34 rfl (lv_at hl 2 rfl) ?_
            by_cases b21 : x2 = (0 : Int32)
            · have hs := ite_t hs b21
              rw [b21]
              refine lv_tableIn (off := (29)) (tgt := 64) hx hb dX7_numberOfPage_35 (by decide) (by decide) (by decide) (by decide) ?_
              refine lv_iinc (v := v3_15 + (1 : Int32)) (lv' := [(3, .int (v3_15 + (1 : Int32))), (0, .ref (ad 1)), (1, .int x1), (2, .int x2), (4, .int v4_15)]) hx hb dX7_numberOfPage_64 hl (k := 3) rfl rfl (by decide) rfl (fun ls hl => ?_)
              refine lv_goto (tgt := 132) hx hb dX7_numberOfPage_67 (by decide) ?_
              refine lv_iinc (v := v4_15 + (1 : Int32)) (lv' := [(4, .int (v4_15 + (1 : Int32))), (3, .int (v3_15 + (1 : Int32))), (0, .ref (ad 1)), (1, .int x1), (2, .int x2)]) hx hb dX7_numberOfPage_132 hl (k := 4) rfl rfl (by decide) rfl (fun ls hl => ?_)
              refine lv_goto (tgt := 5) hx hb dX7_numberOfPage_135 (by decide) ?_
              exact ih5 k5 (v3_15 + (1 : Int32)) (v4_15 + (1 : Int32)) _ _ _ (lv_sub hl [2, 3, 4, 1, 0] rfl) hP hS hs hk5
            have hs := ite_f hs b21
            by_cases b22 : x2 = (1 : Int32)
            · have hs := ite_t hs b22
              rw [b22]
              refine lv_tableIn (off := (35)) (tgt := 70) hx hb dX7_numberOfPage_35 (by decide) (by decide) (by decide) (by decide) ?_
              refine lv_iload_n hx hb dX7_numberOfPage_70 rfl (lv_at hl 3 rfl) ?_
              refine lv_aload_n hx hb dX7_numberOfPage_71 rfl (lv_at hl 0 rfl) ?_
              refine lv_iload hx hb dX7_numberOfPage_72 (lv_at hl 4 rfl) ?_
              obtain ⟨q23, eq23, hs⟩ := ob hs
              refine nd_callV (As := [.int v4_15]) (rest := [.int v3_15]) (st1 := [.int q23, .int v3_15]) hx hb hml hown hts hl hP hK hD hS hA hN (mX0_sumOf eq23) iv_X0_sumOf wd_557 1 rfl rfl rfl rfl ⟨Nat.le_of_ble_eq_true rfl, Nat.le_of_ble_eq_true rfl⟩ (Nat.le_of_ble_eq_true rfl) ⟨Nat.zero_le _, Nat.zero_le _⟩ dX7_numberOfPage_74 rfl rfl (fun H locs hP hD hS => ?_)
              refine lv_iadd hx hb dX7_numberOfPage_77 ?_
              refine lv_istore_n (lv' := [(3, .int (v3_15 + q23)), (0, .ref (ad 1)), (1, .int x1), (2, .int x2), (4, .int v4_15)]) hx hb dX7_numberOfPage_78 rfl hl (by decide) rfl (fun ls hl => ?_)
              refine lv_goto (tgt := 132) hx hb dX7_numberOfPage_79 (by decide) ?_
              refine lv_iinc (v := v4_15 + (1 : Int32)) (lv' := [(4, .int (v4_15 + (1 : Int32))), (3, .int (v3_15 + q23)), (0, .ref (ad 1)), (1, .int x1), (2, .int x2)]) hx hb dX7_numberOfPage_132 hl (k := 4) rfl rfl (by decide) rfl (fun ls hl => ?_)
              refine lv_goto (tgt := 5) hx hb dX7_numberOfPage_135 (by decide) ?_
              exact ih5 k5 (v3_15 + q23) (v4_15 + (1 : Int32)) _ _ _ (lv_sub hl [2, 3, 4, 1, 0] rfl) hP hS hs hk5
            have hs := ite_f hs b22
            by_cases b24 : x2 = (2 : Int32)
            · have hs := ite_t hs b24
              rw [b24]
              refine lv_tableIn (off := (47)) (tgt := 82) hx hb dX7_numberOfPage_35 (by decide) (by decide) (by decide) (by decide) ?_
              refine lv_iload_n hx hb dX7_numberOfPage_82 rfl (lv_at hl 3 rfl) ?_
              refine lv_aload_n hx hb dX7_numberOfPage_83 rfl (lv_at hl 0 rfl) ?_
              refine lv_sipush (v := (171 : Int32)) hx hb dX7_numberOfPage_84 (by decide) ?_
              refine lv_iload hx hb dX7_numberOfPage_87 (lv_at hl 4 rfl) ?_
              refine lv_iadd hx hb dX7_numberOfPage_89 ?_
              obtain ⟨q25, eq25, hs⟩ := ob hs
              refine nd_callV (As := [.int ((171 : Int32) + v4_15)]) (rest := [.int v3_15]) (st1 := [.int q25, .int v3_15]) hx hb hml hown hts hl hP hK hD hS hA hN (mX0_get eq25) iv_X0_get wd_607 1 rfl rfl rfl rfl ⟨Nat.le_of_ble_eq_true rfl, Nat.le_of_ble_eq_true rfl⟩ (Nat.le_of_ble_eq_true rfl) ⟨Nat.zero_le _, Nat.zero_le _⟩ dX7_numberOfPage_90 rfl rfl (fun H locs hP hD hS => ?_)
              refine lv_iadd hx hb dX7_numberOfPage_93 ?_
              refine lv_istore_n (lv' := [(3, .int (v3_15 + q25)), (0, .ref (ad 1)), (1, .int x1), (2, .int x2), (4, .int v4_15)]) hx hb dX7_numberOfPage_94 rfl hl (by decide) rfl (fun ls hl => ?_)
              refine lv_goto (tgt := 132) hx hb dX7_numberOfPage_95 (by decide) ?_
              refine lv_iinc (v := v4_15 + (1 : Int32)) (lv' := [(4, .int (v4_15 + (1 : Int32))), (3, .int (v3_15 + q25)), (0, .ref (ad 1)), (1, .int x1), (2, .int x2)]) hx hb dX7_numberOfPage_132 hl (k := 4) rfl rfl (by decide) rfl (fun ls hl => ?_)
              refine lv_goto (tgt := 5) hx hb dX7_numberOfPage_135 (by decide) ?_
              exact ih5 k5 (v3_15 + q25) (v4_15 + (1 : Int32)) _ _ _ (lv_sub hl [2, 3, 4, 1, 0] rfl) hP hS hs hk5
            have hs := ite_f hs b24
            by_cases b26 : x2 = (3 : Int32)
            · have hs := ite_t hs b26
              rw [b26]
              refine lv_tableIn (off := (63)) (tgt := 98) hx hb dX7_numberOfPage_35 (by decide) (by decide) (by decide) (by decide) ?_
              refine lv_iload_n hx hb dX7_numberOfPage_98 rfl (lv_at hl 3 rfl) ?_
              refine lv_aload_n hx hb dX7_numberOfPage_99 rfl (lv_at hl 0 rfl) ?_
              refine lv_iload hx hb dX7_numberOfPage_100 (lv_at hl 4 rfl) ?_
              obtain ⟨q27, eq27, hs⟩ := ob hs
              refine nd_callS (As := [.ref (ad 1), .int v4_15]) (rest := [.int v3_15]) (st1 := [.int q27, .int v3_15]) hx hb hml hown hts hl hP hK hD hS hA hN (mX7_sizeHidden eq27) is_X7_sizeHidden wd_660 rfl rfl ⟨Nat.le_of_ble_eq_true rfl, Nat.le_of_ble_eq_true rfl⟩ (Nat.le_of_ble_eq_true rfl) ⟨Nat.zero_le _, Nat.zero_le _⟩ dX7_numberOfPage_102 rfl rfl (fun H locs hP hD hS => ?_)
              refine lv_if_le (tgt := 112) hx hb dX7_numberOfPage_105 (by decide) (fun b28 => ?_) (fun b28 => ?_)
              · have hs := ite_t hs b28
                refine lv_iconst (v := (0 : Int32)) hx hb dX7_numberOfPage_112 (by decide) ?_
                refine lv_iadd hx hb dX7_numberOfPage_113 ?_
                refine lv_istore_n (lv' := [(3, .int (v3_15 + (0 : Int32))), (0, .ref (ad 1)), (1, .int x1), (2, .int x2), (4, .int v4_15)]) hx hb dX7_numberOfPage_114 rfl hl (by decide) rfl (fun ls hl => ?_)
                refine lv_goto (tgt := 132) hx hb dX7_numberOfPage_115 (by decide) ?_
                refine lv_iinc (v := v4_15 + (1 : Int32)) (lv' := [(4, .int (v4_15 + (1 : Int32))), (3, .int (v3_15 + (0 : Int32))), (0, .ref (ad 1)), (1, .int x1), (2, .int x2)]) hx hb dX7_numberOfPage_132 hl (k := 4) rfl rfl (by decide) rfl (fun ls hl => ?_)
                refine lv_goto (tgt := 5) hx hb dX7_numberOfPage_135 (by decide) ?_
                exact ih5 k5 (v3_15 + (0 : Int32)) (v4_15 + (1 : Int32)) _ _ _ (lv_sub hl [2, 3, 4, 1, 0] rfl) hP hS hs hk5
              · have hs := ite_f hs b28
                refine lv_iconst (v := (1 : Int32)) hx hb dX7_numberOfPage_108 (by decide) ?_
                refine lv_goto (tgt := 113) hx hb dX7_numberOfPage_109 (by decide) ?_
                refine lv_iadd hx hb dX7_numberOfPage_113 ?_
                refine lv_istore_n (lv' := [(3, .int (v3_15 + (1 : Int32))), (0, .ref (ad 1)), (1, .int x1), (2, .int x2), (4, .int v4_15)]) hx hb dX7_numberOfPage_114 rfl hl (by decide) rfl (fun ls hl => ?_)
                refine lv_goto (tgt := 132) hx hb dX7_numberOfPage_115 (by decide) ?_
                refine lv_iinc (v := v4_15 + (1 : Int32)) (lv' := [(4, .int (v4_15 + (1 : Int32))), (3, .int (v3_15 + (1 : Int32))), (0, .ref (ad 1)), (1, .int x1), (2, .int x2)]) hx hb dX7_numberOfPage_132 hl (k := 4) rfl rfl (by decide) rfl (fun ls hl => ?_)
                refine lv_goto (tgt := 5) hx hb dX7_numberOfPage_135 (by decide) ?_
                exact ih5 k5 (v3_15 + (1 : Int32)) (v4_15 + (1 : Int32)) _ _ _ (lv_sub hl [2, 3, 4, 1, 0] rfl) hP hS hs hk5
            have hs := ite_f hs b26
            have zb21 : x2.toInt ≠ (0) := sw_ne b21
            have zb22 : x2.toInt ≠ (1) := sw_ne b22
            have zb24 : x2.toInt ≠ (2) := sw_ne b24
            have zb26 : x2.toInt ≠ (3) := sw_ne b26
            refine lv_tableOut (tgt := 118) hx hb dX7_numberOfPage_35 (by omega) (by decide) ?_
            refine lv_iload_n hx hb dX7_numberOfPage_118 rfl (lv_at hl 3 rfl) ?_
            refine lv_iconst (v := (1 : Int32)) hx hb dX7_numberOfPage_119 (by decide) ?_
            refine lv_aload_n hx hb dX7_numberOfPage_120 rfl (lv_at hl 0 rfl) ?_
            refine lv_bipush (v := (111 : Int32)) hx hb dX7_numberOfPage_121 (by decide) ?_
            refine lv_iload hx hb dX7_numberOfPage_123 (lv_at hl 4 rfl) ?_
            refine lv_iadd hx hb dX7_numberOfPage_125 ?_
            obtain ⟨q29, eq29, hs⟩ := ob hs
            refine nd_callV (As := [.int ((111 : Int32) + v4_15)]) (rest := [.int (1 : Int32), .int v3_15]) (st1 := [.int q29, .int (1 : Int32), .int v3_15]) hx hb hml hown hts hl hP hK hD hS hA hN (mX0_get eq29) iv_X0_get wd_607 1 rfl rfl rfl rfl ⟨Nat.le_of_ble_eq_true rfl, Nat.le_of_ble_eq_true rfl⟩ (Nat.le_of_ble_eq_true rfl) ⟨Nat.zero_le _, Nat.zero_le _⟩ dX7_numberOfPage_126 rfl rfl (fun H locs hP hD hS => ?_)
            refine lv_ishl hx hb dX7_numberOfPage_129 ?_
            refine lv_ior hx hb dX7_numberOfPage_130 ?_
            refine lv_istore_n (lv' := [(3, .int (v3_15 ||| ((1 : Int32) <<< (q29 &&& 31)))), (0, .ref (ad 1)), (1, .int x1), (2, .int x2), (4, .int v4_15)]) hx hb dX7_numberOfPage_131 rfl hl (by decide) rfl (fun ls hl => ?_)
            refine lv_iinc (v := v4_15 + (1 : Int32)) (lv' := [(4, .int (v4_15 + (1 : Int32))), (3, .int (v3_15 ||| ((1 : Int32) <<< (q29 &&& 31)))), (0, .ref (ad 1)), (1, .int x1), (2, .int x2)]) hx hb dX7_numberOfPage_132 hl (k := 4) rfl rfl (by decide) rfl (fun ls hl => ?_)
            refine lv_goto (tgt := 5) hx hb dX7_numberOfPage_135 (by decide) ?_
            exact ih5 k5 (v3_15 ||| ((1 : Int32) <<< (q29 &&& 31))) (v4_15 + (1 : Int32)) _ _ _ (lv_sub hl [2, 3, 4, 1, 0] rfl) hP hS hs hk5
          · have hs := ite_f hs b20
            refine lv_goto (tgt := 132) hx hb dX7_numberOfPage_31 (by decide) ?_
            refine lv_iinc (v := v4_15 + (1 : Int32)) (lv' := [(4, .int (v4_15 + (1 : Int32))), (0, .ref (ad 1)), (1, .int x1), (2, .int x2), (3, .int v3_15)]) hx hb dX7_numberOfPage_132 hl (k := 4) rfl rfl (by decide) rfl (fun ls hl => ?_)
            refine lv_goto (tgt := 5) hx hb dX7_numberOfPage_135 (by decide) ?_
            exact ih5 k5 v3_15 (v4_15 + (1 : Int32)) _ _ _ (lv_sub hl [1, 2, 3, 4, 0] rfl) hP hS hs hk5
  refine L5 LF _ (0 : Int32) (0 : Int32) _ _ _ (lv_sub hl [2, 3, 4, 1, 0] rfl) hP hS hs (fun u3_15 H locs ls hl hP hS hs => ?_)
  refine lv_iload_n hx hb dX7_numberOfPage_138 rfl (lv_at hl 0 rfl) ?_
  exact hret _ hs hP hS dX7_numberOfPage_139
def tX7_shopHourSum_0 : List (Nat × Instr × Nat) := [(0, .iconst 0, 1), (1, .istore_n 3, 1), (2, .iconst 0, 1), (3, .istore 4, 2), (5, .iload 4, 2), (7, .bipush 60, 2), (9, .if_icmp .ge 60, 3), (12, .aload_n 0, 1), (13, .iload 4, 2), (15, .invokevirtual 19, 3), (18, .ifCond .eq 45, 3), (21, .iload_n 1, 1), (22, .iconst (-1), 1), (23, .if_icmp .eq 16, 3), (26, .aload_n 0, 1), (27, .bipush 111, 2), (29, .iload 4, 2), (31, .iadd, 1), (32, .invokevirtual 36, 3), (35, .iload_n 1, 1), (36, .if_icmp .ne 27, 3), (39, .iload_n 2, 1), (40, .iconst (-1), 1), (41, .if_icmp .eq 13, 3), (44, .aload_n 0, 1), (45, .iload 4, 2), (47, .invokevirtual 58, 3), (50, .iload_n 2, 1), (51, .if_icmp .ne 12, 3), (54, .iload_n 3, 1), (55, .aload_n 0, 1), (56, .iload 4, 2), (58, .invokevirtual 33, 3), (61, .iadd, 1), (62, .istore_n 3, 1), (63, .iinc 4 1, 3), (66, .goto (-61), 3), (69, .iload_n 3, 1), (70, .ireturn, 1)]
theorem tX7_shopHourSum_0_ok : tX7_shopHourSum_0.all (fun q => decide (decode cX7_shopHourSum q.1 = .ok q.2)) = true := by decide +kernel
theorem dX7_shopHourSum_0 : decode cX7_shopHourSum 0 = .ok (.iconst 0, 1) := td tX7_shopHourSum_0_ok 0 (q := (0, .iconst 0, 1)) rfl
theorem dX7_shopHourSum_1 : decode cX7_shopHourSum 1 = .ok (.istore_n 3, 1) := td tX7_shopHourSum_0_ok 1 (q := (1, .istore_n 3, 1)) rfl
theorem dX7_shopHourSum_2 : decode cX7_shopHourSum 2 = .ok (.iconst 0, 1) := td tX7_shopHourSum_0_ok 2 (q := (2, .iconst 0, 1)) rfl
theorem dX7_shopHourSum_3 : decode cX7_shopHourSum 3 = .ok (.istore 4, 2) := td tX7_shopHourSum_0_ok 3 (q := (3, .istore 4, 2)) rfl
theorem dX7_shopHourSum_5 : decode cX7_shopHourSum 5 = .ok (.iload 4, 2) := td tX7_shopHourSum_0_ok 4 (q := (5, .iload 4, 2)) rfl
theorem dX7_shopHourSum_7 : decode cX7_shopHourSum 7 = .ok (.bipush 60, 2) := td tX7_shopHourSum_0_ok 5 (q := (7, .bipush 60, 2)) rfl
theorem dX7_shopHourSum_9 : decode cX7_shopHourSum 9 = .ok (.if_icmp .ge 60, 3) := td tX7_shopHourSum_0_ok 6 (q := (9, .if_icmp .ge 60, 3)) rfl
theorem dX7_shopHourSum_12 : decode cX7_shopHourSum 12 = .ok (.aload_n 0, 1) := td tX7_shopHourSum_0_ok 7 (q := (12, .aload_n 0, 1)) rfl
theorem dX7_shopHourSum_13 : decode cX7_shopHourSum 13 = .ok (.iload 4, 2) := td tX7_shopHourSum_0_ok 8 (q := (13, .iload 4, 2)) rfl
theorem dX7_shopHourSum_15 : decode cX7_shopHourSum 15 = .ok (.invokevirtual 19, 3) := td tX7_shopHourSum_0_ok 9 (q := (15, .invokevirtual 19, 3)) rfl
theorem dX7_shopHourSum_18 : decode cX7_shopHourSum 18 = .ok (.ifCond .eq 45, 3) := td tX7_shopHourSum_0_ok 10 (q := (18, .ifCond .eq 45, 3)) rfl
theorem dX7_shopHourSum_21 : decode cX7_shopHourSum 21 = .ok (.iload_n 1, 1) := td tX7_shopHourSum_0_ok 11 (q := (21, .iload_n 1, 1)) rfl
theorem dX7_shopHourSum_22 : decode cX7_shopHourSum 22 = .ok (.iconst (-1), 1) := td tX7_shopHourSum_0_ok 12 (q := (22, .iconst (-1), 1)) rfl
theorem dX7_shopHourSum_23 : decode cX7_shopHourSum 23 = .ok (.if_icmp .eq 16, 3) := td tX7_shopHourSum_0_ok 13 (q := (23, .if_icmp .eq 16, 3)) rfl
theorem dX7_shopHourSum_26 : decode cX7_shopHourSum 26 = .ok (.aload_n 0, 1) := td tX7_shopHourSum_0_ok 14 (q := (26, .aload_n 0, 1)) rfl
theorem dX7_shopHourSum_27 : decode cX7_shopHourSum 27 = .ok (.bipush 111, 2) := td tX7_shopHourSum_0_ok 15 (q := (27, .bipush 111, 2)) rfl
theorem dX7_shopHourSum_29 : decode cX7_shopHourSum 29 = .ok (.iload 4, 2) := td tX7_shopHourSum_0_ok 16 (q := (29, .iload 4, 2)) rfl
theorem dX7_shopHourSum_31 : decode cX7_shopHourSum 31 = .ok (.iadd, 1) := td tX7_shopHourSum_0_ok 17 (q := (31, .iadd, 1)) rfl
theorem dX7_shopHourSum_32 : decode cX7_shopHourSum 32 = .ok (.invokevirtual 36, 3) := td tX7_shopHourSum_0_ok 18 (q := (32, .invokevirtual 36, 3)) rfl
theorem dX7_shopHourSum_35 : decode cX7_shopHourSum 35 = .ok (.iload_n 1, 1) := td tX7_shopHourSum_0_ok 19 (q := (35, .iload_n 1, 1)) rfl
theorem dX7_shopHourSum_36 : decode cX7_shopHourSum 36 = .ok (.if_icmp .ne 27, 3) := td tX7_shopHourSum_0_ok 20 (q := (36, .if_icmp .ne 27, 3)) rfl
theorem dX7_shopHourSum_39 : decode cX7_shopHourSum 39 = .ok (.iload_n 2, 1) := td tX7_shopHourSum_0_ok 21 (q := (39, .iload_n 2, 1)) rfl
theorem dX7_shopHourSum_40 : decode cX7_shopHourSum 40 = .ok (.iconst (-1), 1) := td tX7_shopHourSum_0_ok 22 (q := (40, .iconst (-1), 1)) rfl
theorem dX7_shopHourSum_41 : decode cX7_shopHourSum 41 = .ok (.if_icmp .eq 13, 3) := td tX7_shopHourSum_0_ok 23 (q := (41, .if_icmp .eq 13, 3)) rfl
theorem dX7_shopHourSum_44 : decode cX7_shopHourSum 44 = .ok (.aload_n 0, 1) := td tX7_shopHourSum_0_ok 24 (q := (44, .aload_n 0, 1)) rfl
theorem dX7_shopHourSum_45 : decode cX7_shopHourSum 45 = .ok (.iload 4, 2) := td tX7_shopHourSum_0_ok 25 (q := (45, .iload 4, 2)) rfl
theorem dX7_shopHourSum_47 : decode cX7_shopHourSum 47 = .ok (.invokevirtual 58, 3) := td tX7_shopHourSum_0_ok 26 (q := (47, .invokevirtual 58, 3)) rfl
theorem dX7_shopHourSum_50 : decode cX7_shopHourSum 50 = .ok (.iload_n 2, 1) := td tX7_shopHourSum_0_ok 27 (q := (50, .iload_n 2, 1)) rfl
theorem dX7_shopHourSum_51 : decode cX7_shopHourSum 51 = .ok (.if_icmp .ne 12, 3) := td tX7_shopHourSum_0_ok 28 (q := (51, .if_icmp .ne 12, 3)) rfl
theorem dX7_shopHourSum_54 : decode cX7_shopHourSum 54 = .ok (.iload_n 3, 1) := td tX7_shopHourSum_0_ok 29 (q := (54, .iload_n 3, 1)) rfl
theorem dX7_shopHourSum_55 : decode cX7_shopHourSum 55 = .ok (.aload_n 0, 1) := td tX7_shopHourSum_0_ok 30 (q := (55, .aload_n 0, 1)) rfl
theorem dX7_shopHourSum_56 : decode cX7_shopHourSum 56 = .ok (.iload 4, 2) := td tX7_shopHourSum_0_ok 31 (q := (56, .iload 4, 2)) rfl
theorem dX7_shopHourSum_58 : decode cX7_shopHourSum 58 = .ok (.invokevirtual 33, 3) := td tX7_shopHourSum_0_ok 32 (q := (58, .invokevirtual 33, 3)) rfl
theorem dX7_shopHourSum_61 : decode cX7_shopHourSum 61 = .ok (.iadd, 1) := td tX7_shopHourSum_0_ok 33 (q := (61, .iadd, 1)) rfl
theorem dX7_shopHourSum_62 : decode cX7_shopHourSum 62 = .ok (.istore_n 3, 1) := td tX7_shopHourSum_0_ok 34 (q := (62, .istore_n 3, 1)) rfl
theorem dX7_shopHourSum_63 : decode cX7_shopHourSum 63 = .ok (.iinc 4 1, 3) := td tX7_shopHourSum_0_ok 35 (q := (63, .iinc 4 1, 3)) rfl
theorem dX7_shopHourSum_66 : decode cX7_shopHourSum 66 = .ok (.goto (-61), 3) := td tX7_shopHourSum_0_ok 36 (q := (66, .goto (-61), 3)) rfl
theorem dX7_shopHourSum_69 : decode cX7_shopHourSum 69 = .ok (.iload_n 3, 1) := td tX7_shopHourSum_0_ok 37 (q := (69, .iload_n 3, 1)) rfl
theorem dX7_shopHourSum_70 : decode cX7_shopHourSum 70 = .ok (.ireturn, 1) := td tX7_shopHourSum_0_ok 38 (q := (70, .ireturn, 1)) rfl
def fX7_shopHourSum_5 (k5 : Int32 → Option (Int32)) (kc : (Nat → Int32)) (x1 : Int32) (x2 : Int32) : Nat → Int32 → Int32 → Option (Int32)
  | 0, _, _ => none
  | n5 + 1, x3, x4 => (if (60 : Int32) ≤ x4 then (k5 x3) else (Option.bind (fX0_isUsed kc x4) (fun q2 => (if q2 = 0 then (fX7_shopHourSum_5 k5 kc x1 x2 n5 x3 (x4 + (1 : Int32))) else (if x1 = (-1 : Int32) then (if x2 = (-1 : Int32) then (Option.bind (fX0_sumOf kc x4) (fun q6 => (fX7_shopHourSum_5 k5 kc x1 x2 n5 (x3 + q6) (x4 + (1 : Int32))))) else (Option.bind (fX0_hourOfSlot kc x4) (fun q7 => (if q7 = x2 then (Option.bind (fX0_sumOf kc x4) (fun q9 => (fX7_shopHourSum_5 k5 kc x1 x2 n5 (x3 + q9) (x4 + (1 : Int32))))) else (fX7_shopHourSum_5 k5 kc x1 x2 n5 x3 (x4 + (1 : Int32))))))) else (Option.bind (fX0_get kc ((111 : Int32) + x4)) (fun q10 => (if q10 = x1 then (if x2 = (-1 : Int32) then (Option.bind (fX0_sumOf kc x4) (fun q13 => (fX7_shopHourSum_5 k5 kc x1 x2 n5 (x3 + q13) (x4 + (1 : Int32))))) else (Option.bind (fX0_hourOfSlot kc x4) (fun q14 => (if q14 = x2 then (Option.bind (fX0_sumOf kc x4) (fun q16 => (fX7_shopHourSum_5 k5 kc x1 x2 n5 (x3 + q16) (x4 + (1 : Int32))))) else (fX7_shopHourSum_5 k5 kc x1 x2 n5 x3 (x4 + (1 : Int32))))))) else (fX7_shopHourSum_5 k5 kc x1 x2 n5 x3 (x4 + (1 : Int32)))))))))))
def fX7_shopHourSum (kc : (Nat → Int32)) (x1 : Int32) (x2 : Int32) : Option (Int32) :=
  (fX7_shopHourSum_5 (fun (u3_17 : Int32) => (some u3_17)) kc x1 x2 LF (0 : Int32) (0 : Int32))
set_option maxHeartbeats 4000000 in
set_option maxRecDepth 100000 in
theorem mX7_shopHourSum {l : Launch} {D : va_G} {ad : Nat → Nat} {cI : ClassId} {kc : (Nat → Int32)} {ksv : (Nat → Int32)} {kbc : (Nat → Int32)} {kit : (Nat → Int32)} {kln : (Nat → Int32)} {ken : (Nat → Int32)} {kla : (Nat → Int32)} {kfi : (Nat → Int32)} {kea : (Nat → Int32)} {kns : Int32} {kbl : Int32} {kr0 : Int32} {kr1 : Int32} {kr2 : Int32} {kr3 : Int32} {kr4 : Int32} {kr5 : Int32} {klr : Int32} {kp0 : Int32} {kp1 : Int32} {kp2 : Int32} {kp3 : Int32} {x1 : Int32} {x2 : Int32} {r : Int32} (hs : fX7_shopHourSum kc x1 x2 = some r) : nd_C l yX7_shopHourSum cX7_shopHourSum 5 (some .int) 2 45 D [(cI, .int)] [.ref (ad 1), .int x1, .int x2] (CW ad cI kc ksv kbc kit kln ken kla kfi kea kns kbl kr0 kr1 kr2 kr3 kr4 kr5 klr kp0 kp1 kp2 kp3) (CW ad cI kc ksv kbc kit kln ken kla kfi kea kns kbl kr0 kr1 kr2 kr3 kr4 kr5 klr kp0 kp1 kp2 kp3) (some (.int r)) := by
  refine nd_ofCi (by decide) (Nat.le_of_ble_eq_true rfl) (fun p e s m args below meth c_ ls A Q hx hb hml hown hts hl hP hK hD hS hA hN hret => ?_)
  have hown : s.vm.findClass RX7 = some m.cls := hown
  have hl : lv_has ls 5 [(0, .ref (ad 1)), (1, .int x1), (2, .int x2)] := hl
  have hret : ∀ (z0 : Int32) {H : Heap} {locs : List Loc} {pc : Nat} {ls : Array Slot}, some z0 = some r → va_P D vwCl (CW ad cI kc ksv kbc kit kln ken kla kfi kea kns kbl kr0 kr1 kr2 kr3 kr4 kr5 klr kp0 kp1 kp2 kp3) H → va_S A s.heap H locs → decode cX7_shopHourSum pc = .ok (.ireturn, 1) → W p l e ⟨2, 0, 0, 45⟩ s m args below meth c_ H locs 0 0 Q (F0 m pc ls [.int z0]) := by
    intro z0 H locs pc ls h hP hS hd
    cases h
    exact hret hP hS hd
  rw [fX7_shopHourSum] at hs
  refine lv_iconst (v := (0 : Int32)) hx hb dX7_shopHourSum_0 (by decide) ?_
  refine lv_istore_n (lv' := [(3, .int (0 : Int32)), (0, .ref (ad 1)), (1, .int x1), (2, .int x2)]) hx hb dX7_shopHourSum_1 rfl hl (by decide) rfl (fun ls hl => ?_)
  refine lv_iconst (v := (0 : Int32)) hx hb dX7_shopHourSum_2 (by decide) ?_
  refine lv_istore (lv' := [(4, .int (0 : Int32)), (3, .int (0 : Int32)), (0, .ref (ad 1)), (1, .int x1), (2, .int x2)]) hx hb dX7_shopHourSum_3 hl (by decide) rfl (fun ls hl => ?_)
  have L5 : ∀ (n5 : Nat) (k5 : Int32 → Option (Int32)) (v3_17 : Int32) (v4_17 : Int32) (H : Heap) (locs : List Loc) (ls : Array Slot), lv_has ls 5 [(0, .ref (ad 1)), (1, .int x1), (2, .int x2), (3, .int v3_17), (4, .int v4_17)] → va_P D vwCl (CW ad cI kc ksv kbc kit kln ken kla kfi kea kns kbl kr0 kr1 kr2 kr3 kr4 kr5 klr kp0 kp1 kp2 kp3) H → va_S A s.heap H locs → fX7_shopHourSum_5 k5 kc x1 x2 n5 v3_17 v4_17 = some r → (∀ (u3_17 : Int32) (H : Heap) (locs : List Loc) (ls : Array Slot), lv_has ls 5 [(3, .int u3_17)] → va_P D vwCl (CW ad cI kc ksv kbc kit kln ken kla kfi kea kns kbl kr0 kr1 kr2 kr3 kr4 kr5 klr kp0 kp1 kp2 kp3) H → va_S A s.heap H locs → k5 u3_17 = some r → W p l e ⟨2, 0, 0, 45⟩ s m args below meth c_ H locs 0 0 Q (F0 m 69 ls [])) → W p l e ⟨2, 0, 0, 45⟩ s m args below meth c_ H locs 0 0 Q (F0 m 5 ls []) := by
    intro n5
    induction n5 with
    | zero =>
      intro k5 v3_17 v4_17 H locs ls hl hP hS hs hk5
      rw [fX7_shopHourSum_5] at hs
      cases hs
    | succ n5 ih5 =>
      intro k5 v3_17 v4_17 H locs ls hl hP hS hs hk5
      rw [fX7_shopHourSum_5] at hs
      refine lv_iload hx hb dX7_shopHourSum_5 (lv_at hl 4 rfl) ?_
      refine lv_bipush (v := (60 : Int32)) hx hb dX7_shopHourSum_7 (by decide) ?_
      refine lv_icmp_ge (tgt := 69) hx hb dX7_shopHourSum_9 (by decide) (fun b18 => ?_) (fun b18 => ?_)
      · have hs := ite_t hs b18
        exact hk5 v3_17 _ _ _ (lv_sub hl [3] rfl) hP hS hs
      · have hs := ite_f hs b18
        refine lv_aload_n hx hb dX7_shopHourSum_12 rfl (lv_at hl 0 rfl) ?_
        refine lv_iload hx hb dX7_shopHourSum_13 (lv_at hl 4 rfl) ?_
        obtain ⟨q19, eq19, hs⟩ := ob hs
        refine nd_callV (As := [.int v4_17]) (rest := []) (st1 := [.int q19]) hx hb hml hown hts hl hP hK hD hS hA hN (mX0_isUsed eq19) iv_X0_isUsed wd_608 1 rfl rfl rfl rfl ⟨Nat.le_of_ble_eq_true rfl, Nat.le_of_ble_eq_true rfl⟩ (Nat.le_of_ble_eq_true rfl) ⟨Nat.zero_le _, Nat.zero_le _⟩ dX7_shopHourSum_15 rfl rfl (fun H locs hP hD hS => ?_)
        refine lv_if_eq (tgt := 63) hx hb dX7_shopHourSum_18 (by decide) (fun b20 => ?_) (fun b20 => ?_)
        · have hs := ite_t hs b20
          refine lv_iinc (v := v4_17 + (1 : Int32)) (lv' := [(4, .int (v4_17 + (1 : Int32))), (0, .ref (ad 1)), (1, .int x1), (2, .int x2), (3, .int v3_17)]) hx hb dX7_shopHourSum_63 hl (k := 4) rfl rfl (by decide) rfl (fun ls hl => ?_)
          refine lv_goto (tgt := 5) hx hb dX7_shopHourSum_66 (by decide) ?_
          exact ih5 k5 v3_17 (v4_17 + (1 : Int32)) _ _ _ (lv_sub hl [1, 2, 3, 4, 0] rfl) hP hS hs hk5
        · have hs := ite_f hs b20
          refine lv_iload_n hx hb dX7_shopHourSum_21 rfl (lv_at hl 1 rfl) ?_
          refine lv_iconst (v := (-1 : Int32)) hx hb dX7_shopHourSum_22 (by decide) ?_
          refine lv_icmp_eq (tgt := 39) hx hb dX7_shopHourSum_23 (by decide) (fun b21 => ?_) (fun b21 => ?_)
          · have hs := ite_t hs b21
            refine lv_iload_n hx hb dX7_shopHourSum_39 rfl (lv_at hl 2 rfl) ?_
            refine lv_iconst (v := (-1 : Int32)) hx hb dX7_shopHourSum_40 (by decide) ?_
            refine lv_icmp_eq (tgt := 54) hx hb dX7_shopHourSum_41 (by decide) (fun b22 => ?_) (fun b22 => ?_)
            · have hs := ite_t hs b22
              refine lv_iload_n hx hb dX7_shopHourSum_54 rfl (lv_at hl 3 rfl) ?_
              refine lv_aload_n hx hb dX7_shopHourSum_55 rfl (lv_at hl 0 rfl) ?_
              refine lv_iload hx hb dX7_shopHourSum_56 (lv_at hl 4 rfl) ?_
              obtain ⟨q23, eq23, hs⟩ := ob hs
              refine nd_callV (As := [.int v4_17]) (rest := [.int v3_17]) (st1 := [.int q23, .int v3_17]) hx hb hml hown hts hl hP hK hD hS hA hN (mX0_sumOf eq23) iv_X0_sumOf wd_557 1 rfl rfl rfl rfl ⟨Nat.le_of_ble_eq_true rfl, Nat.le_of_ble_eq_true rfl⟩ (Nat.le_of_ble_eq_true rfl) ⟨Nat.zero_le _, Nat.zero_le _⟩ dX7_shopHourSum_58 rfl rfl (fun H locs hP hD hS => ?_)
              refine lv_iadd hx hb dX7_shopHourSum_61 ?_
              refine lv_istore_n (lv' := [(3, .int (v3_17 + q23)), (0, .ref (ad 1)), (1, .int x1), (2, .int x2), (4, .int v4_17)]) hx hb dX7_shopHourSum_62 rfl hl (by decide) rfl (fun ls hl => ?_)
              refine lv_iinc (v := v4_17 + (1 : Int32)) (lv' := [(4, .int (v4_17 + (1 : Int32))), (3, .int (v3_17 + q23)), (0, .ref (ad 1)), (1, .int x1), (2, .int x2)]) hx hb dX7_shopHourSum_63 hl (k := 4) rfl rfl (by decide) rfl (fun ls hl => ?_)
              refine lv_goto (tgt := 5) hx hb dX7_shopHourSum_66 (by decide) ?_
              exact ih5 k5 (v3_17 + q23) (v4_17 + (1 : Int32)) _ _ _ (lv_sub hl [2, 3, 4, 1, 0] rfl) hP hS hs hk5
            · have hs := ite_f hs b22
              refine lv_aload_n hx hb dX7_shopHourSum_44 rfl (lv_at hl 0 rfl) ?_
              refine lv_iload hx hb dX7_shopHourSum_45 (lv_at hl 4 rfl) ?_
              obtain ⟨q24, eq24, hs⟩ := ob hs
              refine nd_callV (As := [.int v4_17]) (rest := []) (st1 := [.int q24]) hx hb hml hown hts hl hP hK hD hS hA hN (mX0_hourOfSlot eq24) iv_X0_hourOfSlot wd_731 1 rfl rfl rfl rfl ⟨Nat.le_of_ble_eq_true rfl, Nat.le_of_ble_eq_true rfl⟩ (Nat.le_of_ble_eq_true rfl) ⟨Nat.zero_le _, Nat.zero_le _⟩ dX7_shopHourSum_47 rfl rfl (fun H locs hP hD hS => ?_)
              refine lv_iload_n hx hb dX7_shopHourSum_50 rfl (lv_at hl 2 rfl) ?_
              refine lv_icmp_ne (tgt := 63) hx hb dX7_shopHourSum_51 (by decide) (fun b25 => ?_) (fun b25 => ?_)
              · have hs := ite_f hs b25
                refine lv_iinc (v := v4_17 + (1 : Int32)) (lv' := [(4, .int (v4_17 + (1 : Int32))), (0, .ref (ad 1)), (1, .int x1), (2, .int x2), (3, .int v3_17)]) hx hb dX7_shopHourSum_63 hl (k := 4) rfl rfl (by decide) rfl (fun ls hl => ?_)
                refine lv_goto (tgt := 5) hx hb dX7_shopHourSum_66 (by decide) ?_
                exact ih5 k5 v3_17 (v4_17 + (1 : Int32)) _ _ _ (lv_sub hl [1, 2, 3, 4, 0] rfl) hP hS hs hk5
              · have hs := ite_t hs b25
                refine lv_iload_n hx hb dX7_shopHourSum_54 rfl (lv_at hl 3 rfl) ?_
                refine lv_aload_n hx hb dX7_shopHourSum_55 rfl (lv_at hl 0 rfl) ?_
                refine lv_iload hx hb dX7_shopHourSum_56 (lv_at hl 4 rfl) ?_
                obtain ⟨q26, eq26, hs⟩ := ob hs
                refine nd_callV (As := [.int v4_17]) (rest := [.int v3_17]) (st1 := [.int q26, .int v3_17]) hx hb hml hown hts hl hP hK hD hS hA hN (mX0_sumOf eq26) iv_X0_sumOf wd_557 1 rfl rfl rfl rfl ⟨Nat.le_of_ble_eq_true rfl, Nat.le_of_ble_eq_true rfl⟩ (Nat.le_of_ble_eq_true rfl) ⟨Nat.zero_le _, Nat.zero_le _⟩ dX7_shopHourSum_58 rfl rfl (fun H locs hP hD hS => ?_)
                refine lv_iadd hx hb dX7_shopHourSum_61 ?_
                refine lv_istore_n (lv' := [(3, .int (v3_17 + q26)), (0, .ref (ad 1)), (1, .int x1), (2, .int x2), (4, .int v4_17)]) hx hb dX7_shopHourSum_62 rfl hl (by decide) rfl (fun ls hl => ?_)
                refine lv_iinc (v := v4_17 + (1 : Int32)) (lv' := [(4, .int (v4_17 + (1 : Int32))), (3, .int (v3_17 + q26)), (0, .ref (ad 1)), (1, .int x1), (2, .int x2)]) hx hb dX7_shopHourSum_63 hl (k := 4) rfl rfl (by decide) rfl (fun ls hl => ?_)
                refine lv_goto (tgt := 5) hx hb dX7_shopHourSum_66 (by decide) ?_
                exact ih5 k5 (v3_17 + q26) (v4_17 + (1 : Int32)) _ _ _ (lv_sub hl [2, 3, 4, 1, 0] rfl) hP hS hs hk5
          · have hs := ite_f hs b21
            refine lv_aload_n hx hb dX7_shopHourSum_26 rfl (lv_at hl 0 rfl) ?_
            refine lv_bipush (v := (111 : Int32)) hx hb dX7_shopHourSum_27 (by decide) ?_
            refine lv_iload hx hb dX7_shopHourSum_29 (lv_at hl 4 rfl) ?_
            refine lv_iadd hx hb dX7_shopHourSum_31 ?_
            obtain ⟨q27, eq27, hs⟩ := ob hs
            refine nd_callV (As := [.int ((111 : Int32) + v4_17)]) (rest := []) (st1 := [.int q27]) hx hb hml hown hts hl hP hK hD hS hA hN (mX0_get eq27) iv_X0_get wd_607 1 rfl rfl rfl rfl ⟨Nat.le_of_ble_eq_true rfl, Nat.le_of_ble_eq_true rfl⟩ (Nat.le_of_ble_eq_true rfl) ⟨Nat.zero_le _, Nat.zero_le _⟩ dX7_shopHourSum_32 rfl rfl (fun H locs hP hD hS => ?_)
            refine lv_iload_n hx hb dX7_shopHourSum_35 rfl (lv_at hl 1 rfl) ?_
            refine lv_icmp_ne (tgt := 63) hx hb dX7_shopHourSum_36 (by decide) (fun b28 => ?_) (fun b28 => ?_)
            · have hs := ite_f hs b28
              refine lv_iinc (v := v4_17 + (1 : Int32)) (lv' := [(4, .int (v4_17 + (1 : Int32))), (0, .ref (ad 1)), (1, .int x1), (2, .int x2), (3, .int v3_17)]) hx hb dX7_shopHourSum_63 hl (k := 4) rfl rfl (by decide) rfl (fun ls hl => ?_)
              refine lv_goto (tgt := 5) hx hb dX7_shopHourSum_66 (by decide) ?_
              exact ih5 k5 v3_17 (v4_17 + (1 : Int32)) _ _ _ (lv_sub hl [1, 2, 3, 4, 0] rfl) hP hS hs hk5
            · have hs := ite_t hs b28
              refine lv_iload_n hx hb dX7_shopHourSum_39 rfl (lv_at hl 2 rfl) ?_
              refine lv_iconst (v := (-1 : Int32)) hx hb dX7_shopHourSum_40 (by decide) ?_
              refine lv_icmp_eq (tgt := 54) hx hb dX7_shopHourSum_41 (by decide) (fun b29 => ?_) (fun b29 => ?_)
              · have hs := ite_t hs b29
                refine lv_iload_n hx hb dX7_shopHourSum_54 rfl (lv_at hl 3 rfl) ?_
                refine lv_aload_n hx hb dX7_shopHourSum_55 rfl (lv_at hl 0 rfl) ?_
                refine lv_iload hx hb dX7_shopHourSum_56 (lv_at hl 4 rfl) ?_
                obtain ⟨q30, eq30, hs⟩ := ob hs
                refine nd_callV (As := [.int v4_17]) (rest := [.int v3_17]) (st1 := [.int q30, .int v3_17]) hx hb hml hown hts hl hP hK hD hS hA hN (mX0_sumOf eq30) iv_X0_sumOf wd_557 1 rfl rfl rfl rfl ⟨Nat.le_of_ble_eq_true rfl, Nat.le_of_ble_eq_true rfl⟩ (Nat.le_of_ble_eq_true rfl) ⟨Nat.zero_le _, Nat.zero_le _⟩ dX7_shopHourSum_58 rfl rfl (fun H locs hP hD hS => ?_)
                refine lv_iadd hx hb dX7_shopHourSum_61 ?_
                refine lv_istore_n (lv' := [(3, .int (v3_17 + q30)), (0, .ref (ad 1)), (1, .int x1), (2, .int x2), (4, .int v4_17)]) hx hb dX7_shopHourSum_62 rfl hl (by decide) rfl (fun ls hl => ?_)
                refine lv_iinc (v := v4_17 + (1 : Int32)) (lv' := [(4, .int (v4_17 + (1 : Int32))), (3, .int (v3_17 + q30)), (0, .ref (ad 1)), (1, .int x1), (2, .int x2)]) hx hb dX7_shopHourSum_63 hl (k := 4) rfl rfl (by decide) rfl (fun ls hl => ?_)
                refine lv_goto (tgt := 5) hx hb dX7_shopHourSum_66 (by decide) ?_
                exact ih5 k5 (v3_17 + q30) (v4_17 + (1 : Int32)) _ _ _ (lv_sub hl [2, 3, 4, 1, 0] rfl) hP hS hs hk5
              · have hs := ite_f hs b29
                refine lv_aload_n hx hb dX7_shopHourSum_44 rfl (lv_at hl 0 rfl) ?_
                refine lv_iload hx hb dX7_shopHourSum_45 (lv_at hl 4 rfl) ?_
                obtain ⟨q31, eq31, hs⟩ := ob hs
                refine nd_callV (As := [.int v4_17]) (rest := []) (st1 := [.int q31]) hx hb hml hown hts hl hP hK hD hS hA hN (mX0_hourOfSlot eq31) iv_X0_hourOfSlot wd_731 1 rfl rfl rfl rfl ⟨Nat.le_of_ble_eq_true rfl, Nat.le_of_ble_eq_true rfl⟩ (Nat.le_of_ble_eq_true rfl) ⟨Nat.zero_le _, Nat.zero_le _⟩ dX7_shopHourSum_47 rfl rfl (fun H locs hP hD hS => ?_)
                refine lv_iload_n hx hb dX7_shopHourSum_50 rfl (lv_at hl 2 rfl) ?_
                refine lv_icmp_ne (tgt := 63) hx hb dX7_shopHourSum_51 (by decide) (fun b32 => ?_) (fun b32 => ?_)
                · have hs := ite_f hs b32
                  refine lv_iinc (v := v4_17 + (1 : Int32)) (lv' := [(4, .int (v4_17 + (1 : Int32))), (0, .ref (ad 1)), (1, .int x1), (2, .int x2), (3, .int v3_17)]) hx hb dX7_shopHourSum_63 hl (k := 4) rfl rfl (by decide) rfl (fun ls hl => ?_)
                  refine lv_goto (tgt := 5) hx hb dX7_shopHourSum_66 (by decide) ?_
                  exact ih5 k5 v3_17 (v4_17 + (1 : Int32)) _ _ _ (lv_sub hl [1, 2, 3, 4, 0] rfl) hP hS hs hk5
                · have hs := ite_t hs b32
                  refine lv_iload_n hx hb dX7_shopHourSum_54 rfl (lv_at hl 3 rfl) ?_
                  refine lv_aload_n hx hb dX7_shopHourSum_55 rfl (lv_at hl 0 rfl) ?_
                  refine lv_iload hx hb dX7_shopHourSum_56 (lv_at hl 4 rfl) ?_
                  obtain ⟨q33, eq33, hs⟩ := ob hs
                  refine nd_callV (As := [.int v4_17]) (rest := [.int v3_17]) (st1 := [.int q33, .int v3_17]) hx hb hml hown hts hl hP hK hD hS hA hN (mX0_sumOf eq33) iv_X0_sumOf wd_557 1 rfl rfl rfl rfl ⟨Nat.le_of_ble_eq_true rfl, Nat.le_of_ble_eq_true rfl⟩ (Nat.le_of_ble_eq_true rfl) ⟨Nat.zero_le _, Nat.zero_le _⟩ dX7_shopHourSum_58 rfl rfl (fun H locs hP hD hS => ?_)
                  refine lv_iadd hx hb dX7_shopHourSum_61 ?_
                  refine lv_istore_n (lv' := [(3, .int (v3_17 + q33)), (0, .ref (ad 1)), (1, .int x1), (2, .int x2), (4, .int v4_17)]) hx hb dX7_shopHourSum_62 rfl hl (by decide) rfl (fun ls hl => ?_)
                  refine lv_iinc (v := v4_17 + (1 : Int32)) (lv' := [(4, .int (v4_17 + (1 : Int32))), (3, .int (v3_17 + q33)), (0, .ref (ad 1)), (1, .int x1), (2, .int x2)]) hx hb dX7_shopHourSum_63 hl (k := 4) rfl rfl (by decide) rfl (fun ls hl => ?_)
                  refine lv_goto (tgt := 5) hx hb dX7_shopHourSum_66 (by decide) ?_
                  exact ih5 k5 (v3_17 + q33) (v4_17 + (1 : Int32)) _ _ _ (lv_sub hl [2, 3, 4, 1, 0] rfl) hP hS hs hk5
  refine L5 LF _ (0 : Int32) (0 : Int32) _ _ _ (lv_sub hl [2, 3, 4, 1, 0] rfl) hP hS hs (fun u3_17 H locs ls hl hP hS hs => ?_)
  refine lv_iload_n hx hb dX7_shopHourSum_69 rfl (lv_at hl 0 rfl) ?_
  exact hret _ hs hP hS dX7_shopHourSum_70
