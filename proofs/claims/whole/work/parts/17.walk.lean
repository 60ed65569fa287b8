def tX9_paste_0 : List (Nat × Instr × Nat) := [(0, .aload_n 0, 1), (1, .iconst 0, 1), (2, .putfield 25, 3), (5, .aload_n 0, 1), (6, .iload_n 1, 1), (7, .invokevirtual 85, 3), (10, .ifCond .ne 9, 3), (13, .aload_n 0, 1), (14, .iconst 1, 1), (15, .invokevirtual 79, 3), (18, .ireturn, 1), (19, .aload_n 0, 1), (20, .invokevirtual 89, 3), (23, .aload_n 0, 1), (24, .getfield 92, 3), (27, .ifCond .ne 9, 3), (30, .aload_n 0, 1), (31, .iconst 2, 1), (32, .invokevirtual 79, 3), (35, .ireturn, 1), (36, .aload_n 0, 1), (37, .invokevirtual 82, 3), (40, .aload_n 0, 1), (41, .iconst 0, 1), (42, .putfield 96, 3), (45, .iconst 0, 1), (46, .istore_n 2, 1), (47, .iload_n 2, 1), (48, .aload_n 0, 1), (49, .getfield 99, 3), (52, .if_icmp .ge 90, 3), (55, .aload_n 0, 1), (56, .iload_n 1, 1), (57, .aload_n 0, 1), (58, .getfield 22, 3), (61, .bipush 8, 2), (63, .iload_n 2, 1), (64, .imul, 1), (65, .iconst 0, 1), (66, .iadd, 1), (67, .iaload, 1), (68, .invokevirtual 102, 3), (71, .ifCond .eq 71, 3), (74, .iload_n 1, 1), (75, .aload_n 0, 1), (76, .iload_n 1, 1), (77, .iconst 2, 1), (78, .invokevirtual 33, 3), (81, .invokestatic 37, 3), (84, .istore_n 3, 1), (85, .iconst 0, 1), (86, .istore 4, 2), (88, .iload 4, 2), (90, .bipush 8, 2), (92, .if_icmp .ge 30, 3), (95, .aload_n 0, 1), (96, .getfield 7, 3), (99, .iload_n 3, 1), (100, .iload 4, 2), (102, .iadd, 1)]
theorem tX9_paste_0_ok : tX9_paste_0.all (fun q => decide (decode cX9_paste q.1 = .ok q.2)) = true := by decide +kernel
theorem dX9_paste_0 : decode cX9_paste 0 = .ok (.aload_n 0, 1) := td tX9_paste_0_ok 0 (q := (0, .aload_n 0, 1)) rfl
theorem dX9_paste_1 : decode cX9_paste 1 = .ok (.iconst 0, 1) := td tX9_paste_0_ok 1 (q := (1, .iconst 0, 1)) rfl
theorem dX9_paste_2 : decode cX9_paste 2 = .ok (.putfield 25, 3) := td tX9_paste_0_ok 2 (q := (2, .putfield 25, 3)) rfl
theorem dX9_paste_5 : decode cX9_paste 5 = .ok (.aload_n 0, 1) := td tX9_paste_0_ok 3 (q := (5, .aload_n 0, 1)) rfl
theorem dX9_paste_6 : decode cX9_paste 6 = .ok (.iload_n 1, 1) := td tX9_paste_0_ok 4 (q := (6, .iload_n 1, 1)) rfl
theorem dX9_paste_7 : decode cX9_paste 7 = .ok (.invokevirtual 85, 3) := td tX9_paste_0_ok 5 (q := (7, .invokevirtual 85, 3)) rfl
theorem dX9_paste_10 : decode cX9_paste 10 = .ok (.ifCond .ne 9, 3) := td tX9_paste_0_ok 6 (q := (10, .ifCond .ne 9, 3)) rfl
theorem dX9_paste_13 : decode cX9_paste 13 = .ok (.aload_n 0, 1) := td tX9_paste_0_ok 7 (q := (13, .aload_n 0, 1)) rfl
theorem dX9_paste_14 : decode cX9_paste 14 = .ok (.iconst 1, 1) := td tX9_paste_0_ok 8 (q := (14, .iconst 1, 1)) rfl
theorem dX9_paste_15 : decode cX9_paste 15 = .ok (.invokevirtual 79, 3) := td tX9_paste_0_ok 9 (q := (15, .invokevirtual 79, 3)) rfl
theorem dX9_paste_18 : decode cX9_paste 18 = .ok (.ireturn, 1) := td tX9_paste_0_ok 10 (q := (18, .ireturn, 1)) rfl
theorem dX9_paste_19 : decode cX9_paste 19 = .ok (.aload_n 0, 1) := td tX9_paste_0_ok 11 (q := (19, .aload_n 0, 1)) rfl
theorem dX9_paste_20 : decode cX9_paste 20 = .ok (.invokevirtual 89, 3) := td tX9_paste_0_ok 12 (q := (20, .invokevirtual 89, 3)) rfl
theorem dX9_paste_23 : decode cX9_paste 23 = .ok (.aload_n 0, 1) := td tX9_paste_0_ok 13 (q := (23, .aload_n 0, 1)) rfl
theorem dX9_paste_24 : decode cX9_paste 24 = .ok (.getfield 92, 3) := td tX9_paste_0_ok 14 (q := (24, .getfield 92, 3)) rfl
theorem dX9_paste_27 : decode cX9_paste 27 = .ok (.ifCond .ne 9, 3) := td tX9_paste_0_ok 15 (q := (27, .ifCond .ne 9, 3)) rfl
theorem dX9_paste_30 : decode cX9_paste 30 = .ok (.aload_n 0, 1) := td tX9_paste_0_ok 16 (q := (30, .aload_n 0, 1)) rfl
theorem dX9_paste_31 : decode cX9_paste 31 = .ok (.iconst 2, 1) := td tX9_paste_0_ok 17 (q := (31, .iconst 2, 1)) rfl
theorem dX9_paste_32 : decode cX9_paste 32 = .ok (.invokevirtual 79, 3) := td tX9_paste_0_ok 18 (q := (32, .invokevirtual 79, 3)) rfl
theorem dX9_paste_35 : decode cX9_paste 35 = .ok (.ireturn, 1) := td tX9_paste_0_ok 19 (q := (35, .ireturn, 1)) rfl
theorem dX9_paste_36 : decode cX9_paste 36 = .ok (.aload_n 0, 1) := td tX9_paste_0_ok 20 (q := (36, .aload_n 0, 1)) rfl
theorem dX9_paste_37 : decode cX9_paste 37 = .ok (.invokevirtual 82, 3) := td tX9_paste_0_ok 21 (q := (37, .invokevirtual 82, 3)) rfl
theorem dX9_paste_40 : decode cX9_paste 40 = .ok (.aload_n 0, 1) := td tX9_paste_0_ok 22 (q := (40, .aload_n 0, 1)) rfl
theorem dX9_paste_41 : decode cX9_paste 41 = .ok (.iconst 0, 1) := td tX9_paste_0_ok 23 (q := (41, .iconst 0, 1)) rfl
theorem dX9_paste_42 : decode cX9_paste 42 = .ok (.putfield 96, 3) := td tX9_paste_0_ok 24 (q := (42, .putfield 96, 3)) rfl
theorem dX9_paste_45 : decode cX9_paste 45 = .ok (.iconst 0, 1) := td tX9_paste_0_ok 25 (q := (45, .iconst 0, 1)) rfl
theorem dX9_paste_46 : decode cX9_paste 46 = .ok (.istore_n 2, 1) := td tX9_paste_0_ok 26 (q := (46, .istore_n 2, 1)) rfl
theorem dX9_paste_47 : decode cX9_paste 47 = .ok (.iload_n 2, 1) := td tX9_paste_0_ok 27 (q := (47, .iload_n 2, 1)) rfl
theorem dX9_paste_48 : decode cX9_paste 48 = .ok (.aload_n 0, 1) := td tX9_paste_0_ok 28 (q := (48, .aload_n 0, 1)) rfl
theorem dX9_paste_49 : decode cX9_paste 49 = .ok (.getfield 99, 3) := td tX9_paste_0_ok 29 (q := (49, .getfield 99, 3)) rfl
theorem dX9_paste_52 : decode cX9_paste 52 = .ok (.if_icmp .ge 90, 3) := td tX9_paste_0_ok 30 (q := (52, .if_icmp .ge 90, 3)) rfl
theorem dX9_paste_55 : decode cX9_paste 55 = .ok (.aload_n 0, 1) := td tX9_paste_0_ok 31 (q := (55, .aload_n 0, 1)) rfl
theorem dX9_paste_56 : decode cX9_paste 56 = .ok (.iload_n 1, 1) := td tX9_paste_0_ok 32 (q := (56, .iload_n 1, 1)) rfl
theorem dX9_paste_57 : decode cX9_paste 57 = .ok (.aload_n 0, 1) := td tX9_paste_0_ok 33 (q := (57, .aload_n 0, 1)) rfl
theorem dX9_paste_58 : decode cX9_paste 58 = .ok (.getfield 22, 3) := td tX9_paste_0_ok 34 (q := (58, .getfield 22, 3)) rfl
theorem dX9_paste_61 : decode cX9_paste 61 = .ok (.bipush 8, 2) := td tX9_paste_0_ok 35 (q := (61, .bipush 8, 2)) rfl
theorem dX9_paste_63 : decode cX9_paste 63 = .ok (.iload_n 2, 1) := td tX9_paste_0_ok 36 (q := (63, .iload_n 2, 1)) rfl
theorem dX9_paste_64 : decode cX9_paste 64 = .ok (.imul, 1) := td tX9_paste_0_ok 37 (q := (64, .imul, 1)) rfl
theorem dX9_paste_65 : decode cX9_paste 65 = .ok (.iconst 0, 1) := td tX9_paste_0_ok 38 (q := (65, .iconst 0, 1)) rfl
theorem dX9_paste_66 : decode cX9_paste 66 = .ok (.iadd, 1) := td tX9_paste_0_ok 39 (q := (66, .iadd, 1)) rfl
theorem dX9_paste_67 : decode cX9_paste 67 = .ok (.iaload, 1) := td tX9_paste_0_ok 40 (q := (67, .iaload, 1)) rfl
theorem dX9_paste_68 : decode cX9_paste 68 = .ok (.invokevirtual 102, 3) := td tX9_paste_0_ok 41 (q := (68, .invokevirtual 102, 3)) rfl
theorem dX9_paste_71 : decode cX9_paste 71 = .ok (.ifCond .eq 71, 3) := td tX9_paste_0_ok 42 (q := (71, .ifCond .eq 71, 3)) rfl
theorem dX9_paste_74 : decode cX9_paste 74 = .ok (.iload_n 1, 1) := td tX9_paste_0_ok 43 (q := (74, .iload_n 1, 1)) rfl
theorem dX9_paste_75 : decode cX9_paste 75 = .ok (.aload_n 0, 1) := td tX9_paste_0_ok 44 (q := (75, .aload_n 0, 1)) rfl
theorem dX9_paste_76 : decode cX9_paste 76 = .ok (.iload_n 1, 1) := td tX9_paste_0_ok 45 (q := (76, .iload_n 1, 1)) rfl
theorem dX9_paste_77 : decode cX9_paste 77 = .ok (.iconst 2, 1) := td tX9_paste_0_ok 46 (q := (77, .iconst 2, 1)) rfl
theorem dX9_paste_78 : decode cX9_paste 78 = .ok (.invokevirtual 33, 3) := td tX9_paste_0_ok 47 (q := (78, .invokevirtual 33, 3)) rfl
theorem dX9_paste_81 : decode cX9_paste 81 = .ok (.invokestatic 37, 3) := td tX9_paste_0_ok 48 (q := (81, .invokestatic 37, 3)) rfl
theorem dX9_paste_84 : decode cX9_paste 84 = .ok (.istore_n 3, 1) := td tX9_paste_0_ok 49 (q := (84, .istore_n 3, 1)) rfl
theorem dX9_paste_85 : decode cX9_paste 85 = .ok (.iconst 0, 1) := td tX9_paste_0_ok 50 (q := (85, .iconst 0, 1)) rfl
theorem dX9_paste_86 : decode cX9_paste 86 = .ok (.istore 4, 2) := td tX9_paste_0_ok 51 (q := (86, .istore 4, 2)) rfl
theorem dX9_paste_88 : decode cX9_paste 88 = .ok (.iload 4, 2) := td tX9_paste_0_ok 52 (q := (88, .iload 4, 2)) rfl
theorem dX9_paste_90 : decode cX9_paste 90 = .ok (.bipush 8, 2) := td tX9_paste_0_ok 53 (q := (90, .bipush 8, 2)) rfl
theorem dX9_paste_92 : decode cX9_paste 92 = .ok (.if_icmp .ge 30, 3) := td tX9_paste_0_ok 54 (q := (92, .if_icmp .ge 30, 3)) rfl
theorem dX9_paste_95 : decode cX9_paste 95 = .ok (.aload_n 0, 1) := td tX9_paste_0_ok 55 (q := (95, .aload_n 0, 1)) rfl
theorem dX9_paste_96 : decode cX9_paste 96 = .ok (.getfield 7, 3) := td tX9_paste_0_ok 56 (q := (96, .getfield 7, 3)) rfl
theorem dX9_paste_99 : decode cX9_paste 99 = .ok (.iload_n 3, 1) := td tX9_paste_0_ok 57 (q := (99, .iload_n 3, 1)) rfl
theorem dX9_paste_100 : decode cX9_paste 100 = .ok (.iload 4, 2) := td tX9_paste_0_ok 58 (q := (100, .iload 4, 2)) rfl
theorem dX9_paste_102 : decode cX9_paste 102 = .ok (.iadd, 1) := td tX9_paste_0_ok 59 (q := (102, .iadd, 1)) rfl
def tX9_paste_1 : List (Nat × Instr × Nat) := [(103, .aload_n 0, 1), (104, .getfield 22, 3), (107, .bipush 8, 2), (109, .iload_n 2, 1), (110, .imul, 1), (111, .iload 4, 2), (113, .iadd, 1), (114, .iaload, 1), (115, .iastore, 1), (116, .iinc 4 1, 3), (119, .goto (-31), 3), (122, .aload_n 0, 1), (123, .iload_n 1, 1), (124, .iconst 2, 1), (125, .aload_n 0, 1), (126, .iload_n 1, 1), (127, .iconst 2, 1), (128, .invokevirtual 33, 3), (131, .iconst 1, 1), (132, .iadd, 1), (133, .invokevirtual 75, 3), (136, .iinc 2 1, 3), (139, .goto (-92), 3), (142, .iload_n 2, 1), (143, .ireturn, 1)]
theorem tX9_paste_1_ok : tX9_paste_1.all (fun q => decide (decode cX9_paste q.1 = .ok q.2)) = true := by decide +kernel
theorem dX9_paste_103 : decode cX9_paste 103 = .ok (.aload_n 0, 1) := td tX9_paste_1_ok 0 (q := (103, .aload_n 0, 1)) rfl
theorem dX9_paste_104 : decode cX9_paste 104 = .ok (.getfield 22, 3) := td tX9_paste_1_ok 1 (q := (104, .getfield 22, 3)) rfl
theorem dX9_paste_107 : decode cX9_paste 107 = .ok (.bipush 8, 2) := td tX9_paste_1_ok 2 (q := (107, .bipush 8, 2)) rfl
theorem dX9_paste_109 : decode cX9_paste 109 = .ok (.iload_n 2, 1) := td tX9_paste_1_ok 3 (q := (109, .iload_n 2, 1)) rfl
theorem dX9_paste_110 : decode cX9_paste 110 = .ok (.imul, 1) := td tX9_paste_1_ok 4 (q := (110, .imul, 1)) rfl
theorem dX9_paste_111 : decode cX9_paste 111 = .ok (.iload 4, 2) := td tX9_paste_1_ok 5 (q := (111, .iload 4, 2)) rfl
theorem dX9_paste_113 : decode cX9_paste 113 = .ok (.iadd, 1) := td tX9_paste_1_ok 6 (q := (113, .iadd, 1)) rfl
theorem dX9_paste_114 : decode cX9_paste 114 = .ok (.iaload, 1) := td tX9_paste_1_ok 7 (q := (114, .iaload, 1)) rfl
theorem dX9_paste_115 : decode cX9_paste 115 = .ok (.iastore, 1) := td tX9_paste_1_ok 8 (q := (115, .iastore, 1)) rfl
theorem dX9_paste_116 : decode cX9_paste 116 = .ok (.iinc 4 1, 3) := td tX9_paste_1_ok 9 (q := (116, .iinc 4 1, 3)) rfl
theorem dX9_paste_119 : decode cX9_paste 119 = .ok (.goto (-31), 3) := td tX9_paste_1_ok 10 (q := (119, .goto (-31), 3)) rfl
theorem dX9_paste_122 : decode cX9_paste 122 = .ok (.aload_n 0, 1) := td tX9_paste_1_ok 11 (q := (122, .aload_n 0, 1)) rfl
theorem dX9_paste_123 : decode cX9_paste 123 = .ok (.iload_n 1, 1) := td tX9_paste_1_ok 12 (q := (123, .iload_n 1, 1)) rfl
theorem dX9_paste_124 : decode cX9_paste 124 = .ok (.iconst 2, 1) := td tX9_paste_1_ok 13 (q := (124, .iconst 2, 1)) rfl
theorem dX9_paste_125 : decode cX9_paste 125 = .ok (.aload_n 0, 1) := td tX9_paste_1_ok 14 (q := (125, .aload_n 0, 1)) rfl
theorem dX9_paste_126 : decode cX9_paste 126 = .ok (.iload_n 1, 1) := td tX9_paste_1_ok 15 (q := (126, .iload_n 1, 1)) rfl
theorem dX9_paste_127 : decode cX9_paste 127 = .ok (.iconst 2, 1) := td tX9_paste_1_ok 16 (q := (127, .iconst 2, 1)) rfl
theorem dX9_paste_128 : decode cX9_paste 128 = .ok (.invokevirtual 33, 3) := td tX9_paste_1_ok 17 (q := (128, .invokevirtual 33, 3)) rfl
theorem dX9_paste_131 : decode cX9_paste 131 = .ok (.iconst 1, 1) := td tX9_paste_1_ok 18 (q := (131, .iconst 1, 1)) rfl
theorem dX9_paste_132 : decode cX9_paste 132 = .ok (.iadd, 1) := td tX9_paste_1_ok 19 (q := (132, .iadd, 1)) rfl
theorem dX9_paste_133 : decode cX9_paste 133 = .ok (.invokevirtual 75, 3) := td tX9_paste_1_ok 20 (q := (133, .invokevirtual 75, 3)) rfl
theorem dX9_paste_136 : decode cX9_paste 136 = .ok (.iinc 2 1, 3) := td tX9_paste_1_ok 21 (q := (136, .iinc 2 1, 3)) rfl
theorem dX9_paste_139 : decode cX9_paste 139 = .ok (.goto (-92), 3) := td tX9_paste_1_ok 22 (q := (139, .goto (-92), 3)) rfl
theorem dX9_paste_142 : decode cX9_paste 142 = .ok (.iload_n 2, 1) := td tX9_paste_1_ok 23 (q := (142, .iload_n 2, 1)) rfl
theorem dX9_paste_143 : decode cX9_paste 143 = .ok (.ireturn, 1) := td tX9_paste_1_ok 24 (q := (143, .ireturn, 1)) rfl
def fX9_paste_88 (k88 : (Nat → Int32) → Option (Int32 × (Nat → Int32) × (Nat → Int32) × (Nat → Int32) × Int32 × Int32 × Int32 × Int32 × Int32 × Int32)) (mr : (Nat → Int32)) (x1 : Int32) (x2 : Int32) (x3 : Int32) : Nat → Int32 → (Nat → Int32) → Option (Int32 × (Nat → Int32) × (Nat → Int32) × (Nat → Int32) × Int32 × Int32 × Int32 × Int32 × Int32 × Int32)
  | 0, _, _ => none
  | n88 + 1, x4, ms => (if (8 : Int32) ≤ x4 then (k88 ms) else (Option.bind (aget mr 96 (((8 : Int32) * x2) + x4)) (fun t13 => (Option.bind (aput ms 531 (x3 + x4) t13) (fun c14 => (fX9_paste_88 k88 mr x1 x2 x3 n88 (x4 + (1 : Int32)) c14))))))
def fX9_paste_47 (k47 : Int32 → (Nat → Int32) → Option (Int32 × (Nat → Int32) × (Nat → Int32) × (Nat → Int32) × Int32 × Int32 × Int32 × Int32 × Int32 × Int32)) (mr : (Nat → Int32)) (mm : Int32) (x1 : Int32) : Nat → Int32 → (Nat → Int32) → Option (Int32 × (Nat → Int32) × (Nat → Int32) × (Nat → Int32) × Int32 × Int32 × Int32 × Int32 × Int32 × Int32)
  | 0, _, _ => none
  | n47 + 1, x2, ms => (if mm ≤ x2 then (k47 x2 ms) else (Option.bind (aget mr 96 (((8 : Int32) * x2) + (0 : Int32))) (fun t7 => (Option.bind (fX9_canAdd ms x1 t7) (fun q8 => (if q8 = 0 then (k47 x2 ms) else (Option.bind (fX9_of ms x1 (2 : Int32)) (fun q10 => (Option.bind (fX9_placeOf x1 q10) (fun q11 => (fX9_paste_88 (fun (ms_u15 : (Nat → Int32)) => (Option.bind (fX9_of ms_u15 x1 (2 : Int32)) (fun q19 => (Option.bind (fX9_lay ms_u15 x1 (2 : Int32) (q19 + (1 : Int32))) (fun q20 => (fX9_paste_47 k47 mr mm x1 n47 (x2 + (1 : Int32)) q20)))))) mr x1 x2 q11 LF (0 : Int32) ms)))))))))))
def fX9_paste (ms : (Nat → Int32)) (msv : (Nat → Int32)) (mb : (Nat → Int32)) (mr : (Nat → Int32)) (mt : Int32) (mn : Int32) (ml : Int32) (mat : Int32) (mw : Int32) (mm : Int32) (x1 : Int32) : Option (Int32 × (Nat → Int32) × (Nat → Int32) × (Nat → Int32) × Int32 × Int32 × Int32 × Int32 × Int32 × Int32) :=
  (Option.bind (fX9_isPiece ms x1) (fun q1 => (if q1 = 0 then (Option.bind (fX9_fails (0 : Int32) (1 : Int32)) (fun q38 => (some (q38.1, ms, msv, mr, q38.2, mn, ml, mat, mw, mm)))) else (Option.bind (fX9_readsAll mb mr ml mat mw mm) (fun q3 => (if q3.2.2.1 = 0 then (Option.bind (fX9_fails (0 : Int32) (2 : Int32)) (fun q37 => (some (q37.1, ms, msv, q3.1, q37.2, mn, ml, q3.2.1, q3.2.2.1, q3.2.2.2)))) else (Option.bind (fX9_saves ms msv mn) (fun q5 => (fX9_paste_47 (fun (u2_21 : Int32) (ms_u21 : (Nat → Int32)) => (some (u2_21, ms_u21, q5.1, q3.1, (0 : Int32), q5.2, (0 : Int32), q3.2.1, q3.2.2.1, q3.2.2.2))) q3.1 q3.2.2.2 x1 LF (0 : Int32) ms)))))))))
set_option maxHeartbeats 4000000 in
set_option maxRecDepth 100000 in
theorem mX9_paste {l : Launch} {D : va_G} {bd : Nat → Nat} {cI : ClassId} {ms : (Nat → Int32)} {msv : (Nat → Int32)} {mb : (Nat → Int32)} {mf : (Nat → Int32)} {mr : (Nat → Int32)} {mt : Int32} {mn : Int32} {ml : Int32} {mat : Int32} {mw : Int32} {mm : Int32} {mh : Int64} {x1 : Int32} {r : Int32} {ms' : (Nat → Int32)} {msv' : (Nat → Int32)} {mr' : (Nat → Int32)} {mt' : Int32} {mn' : Int32} {ml' : Int32} {mat' : Int32} {mw' : Int32} {mm' : Int32} (hs : fX9_paste ms msv mb mr mt mn ml mat mw mm x1 = some (r, ms', msv', mr', mt', mn', ml', mat', mw', mm')) : nd_C l yX9_paste cX9_paste 5 (some .int) 4 88 D [(cI, .int)] [.ref (bd 0), .int x1] (MW bd cI ms msv mb mf mr mt mn ml mat mw mm mh) (MW bd cI ms' msv' mb mf mr' mt' mn' ml' mat' mw' mm' mh) (some (.int r)) := by
  refine nd_ofCi (by decide) (Nat.le_of_ble_eq_true rfl) (fun p e s m args below meth c_ ls A Q hx hb hml hown hts hl hP hK hD hS hA hN hret => ?_)
  have hown : s.vm.findClass RX9 = some m.cls := hown
  have hl : lv_has ls 5 [(0, .ref (bd 0)), (1, .int x1)] := hl
  have hret : ∀ (z0 : Int32) (z1 : (Nat → Int32)) (z2 : (Nat → Int32)) (z3 : (Nat → Int32)) (z4 : Int32) (z5 : Int32) (z6 : Int32) (z7 : Int32) (z8 : Int32) (z9 : Int32) {H : Heap} {locs : List Loc} {pc : Nat} {ls : Array Slot}, some (z0, z1, z2, z3, z4, z5, z6, z7, z8, z9) = some (r, ms', msv', mr', mt', mn', ml', mat', mw', mm') → va_P D vwCl (MW bd cI z1 z2 mb mf z3 z4 z5 z6 z7 z8 z9 mh) H → va_S A s.heap H locs → decode cX9_paste pc = .ok (.ireturn, 1) → W p l e ⟨4, 0, 0, 88⟩ s m args below meth c_ H locs 0 0 Q (F0 m pc ls [.int z0]) := by
    intro z0 z1 z2 z3 z4 z5 z6 z7 z8 z9 H locs pc ls h hP hS hd
    cases h
    exact hret hP hS hd
  rw [fX9_paste] at hs
  refine lv_aload_n hx hb dX9_paste_0 rfl (lv_at hl 0 rfl) ?_
  refine lv_iconst (v := (0 : Int32)) hx hb dX9_paste_1 (by decide) ?_
  refine pf_X9_25 hx hb hts hown hK hP hD hS 0 rfl rfl dX9_paste_2 (fun H locs hP hD hS => ?_)
  have hP : va_P D vwCl (MW bd cI ms msv mb mf mr (0 : Int32) mn ml mat mw mm mh) H := hP
  have hD : va_D A (MW bd cI ms msv mb mf mr (0 : Int32) mn ml mat mw mm mh) := hD
  refine lv_aload_n hx hb dX9_paste_5 rfl (lv_at hl 0 rfl) ?_
  refine lv_iload_n hx hb dX9_paste_6 rfl (lv_at hl 1 rfl) ?_
  obtain ⟨q1, eq1, hs⟩ := ob hs
  refine nd_callV (As := [.int x1]) (rest := []) (st1 := [.int q1]) hx hb hml hown hts hl hP hK hD hS hA hN (mX9_isPiece eq1) iv_X9_isPiece wd_274 0 rfl rfl rfl rfl ⟨Nat.le_of_ble_eq_true rfl, Nat.le_of_ble_eq_true rfl⟩ (Nat.le_of_ble_eq_true rfl) ⟨Nat.zero_le _, Nat.zero_le _⟩ dX9_paste_7 rfl rfl (fun H locs hP hD hS => ?_)
  refine lv_if_ne (tgt := 19) hx hb dX9_paste_10 (by decide) (fun b2 => ?_) (fun b2 => ?_)
  · have hs := ite_f hs b2
    refine lv_aload_n hx hb dX9_paste_19 rfl (lv_at hl 0 rfl) ?_
    obtain ⟨q3, eq3, hs⟩ := ob hs
    refine nd_callV (As := []) (rest := []) (st1 := []) hx hb hml hown hts hl hP hK hD hS hA hN (mX9_readsAll eq3) iv_X9_readsAll wd_278 0 rfl rfl rfl rfl ⟨Nat.le_of_ble_eq_true rfl, Nat.le_of_ble_eq_true rfl⟩ (Nat.le_of_ble_eq_true rfl) ⟨Nat.zero_le _, Nat.zero_le _⟩ dX9_paste_20 rfl rfl (fun H locs hP hD hS => ?_)
    refine lv_aload_n hx hb dX9_paste_23 rfl (lv_at hl 0 rfl) ?_
    refine gf_X9_92 hx hb hts hown hK hP 0 rfl rfl dX9_paste_24 ?_
    refine lv_if_ne (tgt := 36) hx hb dX9_paste_27 (by decide) (fun b4 => ?_) (fun b4 => ?_)
    · have hs := ite_f hs b4
      refine lv_aload_n hx hb dX9_paste_36 rfl (lv_at hl 0 rfl) ?_
      obtain ⟨q5, eq5, hs⟩ := ob hs
      refine nd_callV (As := []) (rest := []) (st1 := []) hx hb hml hown hts hl hP hK hD hS hA hN (mX9_saves eq5) iv_X9_saves wd_134 0 rfl rfl rfl rfl ⟨Nat.le_of_ble_eq_true rfl, Nat.le_of_ble_eq_true rfl⟩ (Nat.le_of_ble_eq_true rfl) ⟨Nat.zero_le _, Nat.zero_le _⟩ dX9_paste_37 rfl rfl (fun H locs hP hD hS => ?_)
      refine lv_aload_n hx hb dX9_paste_40 rfl (lv_at hl 0 rfl) ?_
      refine lv_iconst (v := (0 : Int32)) hx hb dX9_paste_41 (by decide) ?_
      refine pf_X9_96 hx hb hts hown hK hP hD hS 0 rfl rfl dX9_paste_42 (fun H locs hP hD hS => ?_)
      have hP : va_P D vwCl (MW bd cI ms q5.1 mb mf q3.1 (0 : Int32) q5.2 (0 : Int32) q3.2.1 q3.2.2.1 q3.2.2.2 mh) H := hP
      have hD : va_D A (MW bd cI ms q5.1 mb mf q3.1 (0 : Int32) q5.2 (0 : Int32) q3.2.1 q3.2.2.1 q3.2.2.2 mh) := hD
      refine lv_iconst (v := (0 : Int32)) hx hb dX9_paste_45 (by decide) ?_
      refine lv_istore_n (lv' := [(2, .int (0 : Int32)), (0, .ref (bd 0)), (1, .int x1)]) hx hb dX9_paste_46 rfl hl (by decide) rfl (fun ls hl => ?_)
      have L47 : ∀ (n47 : Nat) (k47 : Int32 → (Nat → Int32) → Option (Int32 × (Nat → Int32) × (Nat → Int32) × (Nat → Int32) × Int32 × Int32 × Int32 × Int32 × Int32 × Int32)) (v2_21 : Int32) (ms_21 : (Nat → Int32)) (H : Heap) (locs : List Loc) (ls : Array Slot), lv_has ls 5 [(0, .ref (bd 0)), (1, .int x1), (2, .int v2_21)] → va_P D vwCl (MW bd cI ms_21 q5.1 mb mf q3.1 (0 : Int32) q5.2 (0 : Int32) q3.2.1 q3.2.2.1 q3.2.2.2 mh) H → va_S A s.heap H locs → fX9_paste_47 k47 q3.1 q3.2.2.2 x1 n47 v2_21 ms_21 = some (r, ms', msv', mr', mt', mn', ml', mat', mw', mm') → (∀ (u2_21 : Int32) (ms_u21 : (Nat → Int32)) (H : Heap) (locs : List Loc) (ls : Array Slot), lv_has ls 5 [(2, .int u2_21)] → va_P D vwCl (MW bd cI ms_u21 q5.1 mb mf q3.1 (0 : Int32) q5.2 (0 : Int32) q3.2.1 q3.2.2.1 q3.2.2.2 mh) H → va_S A s.heap H locs → k47 u2_21 ms_u21 = some (r, ms', msv', mr', mt', mn', ml', mat', mw', mm') → W p l e ⟨4, 0, 0, 88⟩ s m args below meth c_ H locs 0 0 Q (F0 m 142 ls [])) → W p l e ⟨4, 0, 0, 88⟩ s m args below meth c_ H locs 0 0 Q (F0 m 47 ls []) := by
        intro n47
        induction n47 with
        | zero =>
          intro k47 v2_21 ms_21 H locs ls hl hP hS hs hk47
          rw [fX9_paste_47] at hs
          cases hs
        | succ n47 ih47 =>
          intro k47 v2_21 ms_21 H locs ls hl hP hS hs hk47
          rw [fX9_paste_47] at hs
          have hD : va_D A (MW bd cI ms_21 q5.1 mb mf q3.1 (0 : Int32) q5.2 (0 : Int32) q3.2.1 q3.2.2.1 q3.2.2.2 mh) := nd_DD hD rfl
          refine lv_iload_n hx hb dX9_paste_47 rfl (lv_at hl 2 rfl) ?_
          refine lv_aload_n hx hb dX9_paste_48 rfl (lv_at hl 0 rfl) ?_
          refine gf_X9_99 hx hb hts hown hK hP 0 rfl rfl dX9_paste_49 ?_
          refine lv_icmp_ge (tgt := 142) hx hb dX9_paste_52 (by decide) (fun b22 => ?_) (fun b22 => ?_)
          · have hs := ite_t hs b22
            exact hk47 v2_21 ms_21 _ _ _ (lv_sub hl [2] rfl) hP hS hs
          · have hs := ite_f hs b22
            refine lv_aload_n hx hb dX9_paste_55 rfl (lv_at hl 0 rfl) ?_
            refine lv_iload_n hx hb dX9_paste_56 rfl (lv_at hl 1 rfl) ?_
            refine lv_aload_n hx hb dX9_paste_57 rfl (lv_at hl 0 rfl) ?_
            refine gf_X9_22 hx hb hts hown hK hP 0 rfl rfl dX9_paste_58 ?_
            refine lv_bipush (v := (8 : Int32)) hx hb dX9_paste_61 (by decide) ?_
            refine lv_iload_n hx hb dX9_paste_63 rfl (lv_at hl 2 rfl) ?_
            refine lv_imul hx hb dX9_paste_64 ?_
            refine lv_iconst (v := (0 : Int32)) hx hb dX9_paste_65 (by decide) ?_
            refine lv_iadd hx hb dX9_paste_66 ?_
            obtain ⟨t23, et23, hs⟩ := ob hs
            refine nd_iald hx hb hK hP 5 0 rfl rfl et23 dX9_paste_67 ?_
            obtain ⟨q24, eq24, hs⟩ := ob hs
            refine nd_callV (As := [.int x1, .int t23]) (rest := []) (st1 := [.int q24]) hx hb hml hown hts hl hP hK hD hS hA hN (mX9_canAdd eq24) iv_X9_canAdd wd_299 0 rfl rfl rfl rfl ⟨Nat.le_of_ble_eq_true rfl, Nat.le_of_ble_eq_true rfl⟩ (Nat.le_of_ble_eq_true rfl) ⟨Nat.zero_le _, Nat.zero_le _⟩ dX9_paste_68 rfl rfl (fun H locs hP hD hS => ?_)
            refine lv_if_eq (tgt := 142) hx hb dX9_paste_71 (by decide) (fun b25 => ?_) (fun b25 => ?_)
            · have hs := ite_t hs b25
              exact hk47 v2_21 ms_21 _ _ _ (lv_sub hl [2] rfl) hP hS hs
            · have hs := ite_f hs b25
              refine lv_iload_n hx hb dX9_paste_74 rfl (lv_at hl 1 rfl) ?_
              refine lv_aload_n hx hb dX9_paste_75 rfl (lv_at hl 0 rfl) ?_
              refine lv_iload_n hx hb dX9_paste_76 rfl (lv_at hl 1 rfl) ?_
              refine lv_iconst (v := (2 : Int32)) hx hb dX9_paste_77 (by decide) ?_
              obtain ⟨q26, eq26, hs⟩ := ob hs
              refine nd_callV (As := [.int x1, .int (2 : Int32)]) (rest := [.int x1]) (st1 := [.int q26, .int x1]) hx hb hml hown hts hl hP hK hD hS hA hN (mX9_of eq26) iv_X9_of wd_307 0 rfl rfl rfl rfl ⟨Nat.le_of_ble_eq_true rfl, Nat.le_of_ble_eq_true rfl⟩ (Nat.le_of_ble_eq_true rfl) ⟨Nat.zero_le _, Nat.zero_le _⟩ dX9_paste_78 rfl rfl (fun H locs hP hD hS => ?_)
              obtain ⟨q27, eq27, hs⟩ := ob hs
              refine nd_callS (As := [.int x1, .int q26]) (rest := []) (st1 := [.int q27]) hx hb hml hown hts hl hP hK hD hS hA hN (mX9_placeOf eq27) is_X9_placeOf wd_319 rfl rfl ⟨Nat.le_of_ble_eq_true rfl, Nat.le_of_ble_eq_true rfl⟩ (Nat.le_of_ble_eq_true rfl) ⟨Nat.zero_le _, Nat.zero_le _⟩ dX9_paste_81 rfl rfl (fun H locs hP hD hS => ?_)
              refine lv_istore_n (lv' := [(3, .int q27), (0, .ref (bd 0)), (1, .int x1), (2, .int v2_21)]) hx hb dX9_paste_84 rfl hl (by decide) rfl (fun ls hl => ?_)
              refine lv_iconst (v := (0 : Int32)) hx hb dX9_paste_85 (by decide) ?_
              refine lv_istore (lv' := [(4, .int (0 : Int32)), (3, .int q27), (0, .ref (bd 0)), (1, .int x1), (2, .int v2_21)]) hx hb dX9_paste_86 hl (by decide) rfl (fun ls hl => ?_)
              have L88 : ∀ (n88 : Nat) (k88 : (Nat → Int32) → Option (Int32 × (Nat → Int32) × (Nat → Int32) × (Nat → Int32) × Int32 × Int32 × Int32 × Int32 × Int32 × Int32)) (v4_31 : Int32) (ms_31 : (Nat → Int32)) (H : Heap) (locs : List Loc) (ls : Array Slot), lv_has ls 5 [(0, .ref (bd 0)), (1, .int x1), (2, .int v2_21), (3, .int q27), (4, .int v4_31)] → va_P D vwCl (MW bd cI ms_31 q5.1 mb mf q3.1 (0 : Int32) q5.2 (0 : Int32) q3.2.1 q3.2.2.1 q3.2.2.2 mh) H → va_S A s.heap H locs → fX9_paste_88 k88 q3.1 x1 v2_21 q27 n88 v4_31 ms_31 = some (r, ms', msv', mr', mt', mn', ml', mat', mw', mm') → (∀ (ms_u31 : (Nat → Int32)) (H : Heap) (locs : List Loc) (ls : Array Slot), lv_has ls 5 [(0, .ref (bd 0)), (1, .int x1), (2, .int v2_21)] → va_P D vwCl (MW bd cI ms_u31 q5.1 mb mf q3.1 (0 : Int32) q5.2 (0 : Int32) q3.2.1 q3.2.2.1 q3.2.2.2 mh) H → va_S A s.heap H locs → k88 ms_u31 = some (r, ms', msv', mr', mt', mn', ml', mat', mw', mm') → W p l e ⟨4, 0, 0, 88⟩ s m args below meth c_ H locs 0 0 Q (F0 m 122 ls [])) → W p l e ⟨4, 0, 0, 88⟩ s m args below meth c_ H locs 0 0 Q (F0 m 88 ls []) := by
                intro n88
                induction n88 with
                | zero =>
                  intro k88 v4_31 ms_31 H locs ls hl hP hS hs hk88
                  rw [fX9_paste_88] at hs
                  cases hs
                | succ n88 ih88 =>
                  intro k88 v4_31 ms_31 H locs ls hl hP hS hs hk88
                  rw [fX9_paste_88] at hs
                  have hD : va_D A (MW bd cI ms_31 q5.1 mb mf q3.1 (0 : Int32) q5.2 (0 : Int32) q3.2.1 q3.2.2.1 q3.2.2.2 mh) := nd_DD hD rfl
                  refine lv_iload hx hb dX9_paste_88 (lv_at hl 4 rfl) ?_
                  refine lv_bipush (v := (8 : Int32)) hx hb dX9_paste_90 (by decide) ?_
                  refine lv_icmp_ge (tgt := 122) hx hb dX9_paste_92 (by decide) (fun b32 => ?_) (fun b32 => ?_)
                  · have hs := ite_t hs b32
                    exact hk88 ms_31 _ _ _ (lv_sub hl [0, 1, 2] rfl) hP hS hs
                  · have hs := ite_f hs b32
                    refine lv_aload_n hx hb dX9_paste_95 rfl (lv_at hl 0 rfl) ?_
                    refine gf_X9_7 hx hb hts hown hK hP 0 rfl rfl dX9_paste_96 ?_
                    refine lv_iload_n hx hb dX9_paste_99 rfl (lv_at hl 3 rfl) ?_
                    refine lv_iload hx hb dX9_paste_100 (lv_at hl 4 rfl) ?_
                    refine lv_iadd hx hb dX9_paste_102 ?_
                    refine lv_aload_n hx hb dX9_paste_103 rfl (lv_at hl 0 rfl) ?_
                    refine gf_X9_22 hx hb hts hown hK hP 0 rfl rfl dX9_paste_104 ?_
                    refine lv_bipush (v := (8 : Int32)) hx hb dX9_paste_107 (by decide) ?_
                    refine lv_iload_n hx hb dX9_paste_109 rfl (lv_at hl 2 rfl) ?_
                    refine lv_imul hx hb dX9_paste_110 ?_
                    refine lv_iload hx hb dX9_paste_111 (lv_at hl 4 rfl) ?_
                    refine lv_iadd hx hb dX9_paste_113 ?_
                    obtain ⟨t33, et33, hs⟩ := ob hs
                    refine nd_iald hx hb hK hP 5 0 rfl rfl et33 dX9_paste_114 ?_
                    obtain ⟨c34, ec34, hs⟩ := ob hs
                    refine nd_iast hx hb hK hP hD hS 1 0 rfl rfl ec34 dX9_paste_115 (fun H locs hP hD hS => ?_)
                    have hP : va_P D vwCl (MW bd cI c34 q5.1 mb mf q3.1 (0 : Int32) q5.2 (0 : Int32) q3.2.1 q3.2.2.1 q3.2.2.2 mh) H := hP
                    have hD : va_D A (MW bd cI c34 q5.1 mb mf q3.1 (0 : Int32) q5.2 (0 : Int32) q3.2.1 q3.2.2.1 q3.2.2.2 mh) := hD
                    refine lv_iinc (v := v4_31 + (1 : Int32)) (lv' := [(4, .int (v4_31 + (1 : Int32))), (0, .ref (bd 0)), (1, .int x1), (2, .int v2_21), (3, .int q27)]) hx hb dX9_paste_116 hl (k := 4) rfl rfl (by decide) rfl (fun ls hl => ?_)
                    refine lv_goto (tgt := 88) hx hb dX9_paste_119 (by decide) ?_
                    exact ih88 k88 (v4_31 + (1 : Int32)) c34 _ _ _ (lv_sub hl [1, 2, 3, 4, 0] rfl) hP hS hs hk88
              refine L88 LF _ (0 : Int32) ms_21 _ _ _ (lv_sub hl [2, 3, 4, 1, 0] rfl) hP hS hs (fun ms_u31 H locs ls hl hP hS hs => ?_)
              have hD : va_D A (MW bd cI ms_u31 q5.1 mb mf q3.1 (0 : Int32) q5.2 (0 : Int32) q3.2.1 q3.2.2.1 q3.2.2.2 mh) := nd_DD hD rfl
              refine lv_aload_n hx hb dX9_paste_122 rfl (lv_at hl 0 rfl) ?_
              refine lv_iload_n hx hb dX9_paste_123 rfl (lv_at hl 1 rfl) ?_
              refine lv_iconst (v := (2 : Int32)) hx hb dX9_paste_124 (by decide) ?_
              refine lv_aload_n hx hb dX9_paste_125 rfl (lv_at hl 0 rfl) ?_
              refine lv_iload_n hx hb dX9_paste_126 rfl (lv_at hl 1 rfl) ?_
              refine lv_iconst (v := (2 : Int32)) hx hb dX9_paste_127 (by decide) ?_
              obtain ⟨q35, eq35, hs⟩ := ob hs
              refine nd_callV (As := [.int x1, .int (2 : Int32)]) (rest := [.int (2 : Int32), .int x1, .ref (bd 0)]) (st1 := [.int q35, .int (2 : Int32), .int x1, .ref (bd 0)]) hx hb hml hown hts hl hP hK hD hS hA hN (mX9_of eq35) iv_X9_of wd_307 0 rfl rfl rfl rfl ⟨Nat.le_of_ble_eq_true rfl, Nat.le_of_ble_eq_true rfl⟩ (Nat.le_of_ble_eq_true rfl) ⟨Nat.zero_le _, Nat.zero_le _⟩ dX9_paste_128 rfl rfl (fun H locs hP hD hS => ?_)
              refine lv_iconst (v := (1 : Int32)) hx hb dX9_paste_131 (by decide) ?_
              refine lv_iadd hx hb dX9_paste_132 ?_
              obtain ⟨q36, eq36, hs⟩ := ob hs
              refine nd_callV (As := [.int x1, .int (2 : Int32), .int (q35 + (1 : Int32))]) (rest := []) (st1 := []) hx hb hml hown hts hl hP hK hD hS hA hN (mX9_lay eq36) iv_X9_lay wd_139 0 rfl rfl rfl rfl ⟨Nat.le_of_ble_eq_true rfl, Nat.le_of_ble_eq_true rfl⟩ (Nat.le_of_ble_eq_true rfl) ⟨Nat.zero_le _, Nat.zero_le _⟩ dX9_paste_133 rfl rfl (fun H locs hP hD hS => ?_)
              refine lv_iinc (v := v2_21 + (1 : Int32)) (lv' := [(2, .int (v2_21 + (1 : Int32))), (0, .ref (bd 0)), (1, .int x1)]) hx hb dX9_paste_136 hl (k := 2) rfl rfl (by decide) rfl (fun ls hl => ?_)
              refine lv_goto (tgt := 47) hx hb dX9_paste_139 (by decide) ?_
              exact ih47 k47 (v2_21 + (1 : Int32)) q36 _ _ _ (lv_sub hl [1, 2, 0] rfl) hP hS hs hk47
      refine L47 LF _ (0 : Int32) ms _ _ _ (lv_sub hl [1, 2, 0] rfl) hP hS hs (fun u2_21 ms_u21 H locs ls hl hP hS hs => ?_)
      have hD : va_D A (MW bd cI ms_u21 q5.1 mb mf q3.1 (0 : Int32) q5.2 (0 : Int32) q3.2.1 q3.2.2.1 q3.2.2.2 mh) := nd_DD hD rfl
      refine lv_iload_n hx hb dX9_paste_142 rfl (lv_at hl 0 rfl) ?_
      exact hret _ _ _ _ _ _ _ _ _ _ hs hP hS dX9_paste_143
    · have hs := ite_t hs b4
      refine lv_aload_n hx hb dX9_paste_30 rfl (lv_at hl 0 rfl) ?_
      refine lv_iconst (v := (2 : Int32)) hx hb dX9_paste_31 (by decide) ?_
      obtain ⟨q37, eq37, hs⟩ := ob hs
      refine nd_callV (As := [.int (2 : Int32)]) (rest := []) (st1 := [.int q37.1]) hx hb hml hown hts hl hP hK hD hS hA hN (mX9_fails eq37) iv_X9_fails wd_130 0 rfl rfl rfl rfl ⟨Nat.le_of_ble_eq_true rfl, Nat.le_of_ble_eq_true rfl⟩ (Nat.le_of_ble_eq_true rfl) ⟨Nat.zero_le _, Nat.zero_le _⟩ dX9_paste_32 rfl rfl (fun H locs hP hD hS => ?_)
      exact hret _ _ _ _ _ _ _ _ _ _ hs hP hS dX9_paste_35
  · have hs := ite_t hs b2
    refine lv_aload_n hx hb dX9_paste_13 rfl (lv_at hl 0 rfl) ?_
    refine lv_iconst (v := (1 : Int32)) hx hb dX9_paste_14 (by decide) ?_
    obtain ⟨q38, eq38, hs⟩ := ob hs
    refine nd_callV (As := [.int (1 : Int32)]) (rest := []) (st1 := [.int q38.1]) hx hb hml hown hts hl hP hK hD hS hA hN (mX9_fails eq38) iv_X9_fails wd_130 0 rfl rfl rfl rfl ⟨Nat.le_of_ble_eq_true rfl, Nat.le_of_ble_eq_true rfl⟩ (Nat.le_of_ble_eq_true rfl) ⟨Nat.zero_le _, Nat.zero_le _⟩ dX9_paste_15 rfl rfl (fun H locs hP hD hS => ?_)
    exact hret _ _ _ _ _ _ _ _ _ _ hs hP hS dX9_paste_18
def tX9_cut_0 : List (Nat × Instr × Nat) := [(0, .aload_n 0, 1), (1, .iconst 0, 1), (2, .putfield 25, 3), (5, .aload_n 0, 1), (6, .iload_n 1, 1), (7, .invokevirtual 85, 3), (10, .ifCond .ne 9, 3), (13, .aload_n 0, 1), (14, .iconst 1, 1), (15, .invokevirtual 79, 3), (18, .ireturn, 1), (19, .aload_n 0, 1), (20, .iload_n 1, 1), (21, .iconst 2, 1), (22, .invokevirtual 33, 3), (25, .ifCond .ne 9, 3), (28, .aload_n 0, 1), (29, .iconst 2, 1), (30, .invokevirtual 79, 3), (33, .ireturn, 1), (34, .aload_n 0, 1), (35, .invokevirtual 82, 3), (38, .aload_n 0, 1), (39, .iload_n 1, 1), (40, .iconst 2, 1), (41, .invokevirtual 33, 3), (44, .iconst 1, 1), (45, .isub, 1), (46, .istore_n 2, 1), (47, .aload_n 0, 1), (48, .iload_n 1, 1), (49, .iload_n 2, 1), (50, .invokevirtual 47, 3), (53, .istore_n 3, 1), (54, .iconst 0, 1), (55, .istore 4, 2), (57, .iload 4, 2), (59, .bipush 8, 2), (61, .if_icmp .ge 23, 3), (64, .aload_n 0, 1), (65, .getfield 7, 3), (68, .iload_n 1, 1), (69, .iload_n 2, 1), (70, .invokestatic 37, 3), (73, .iload 4, 2), (75, .iadd, 1), (76, .iconst 0, 1), (77, .iastore, 1), (78, .iinc 4 1, 3), (81, .goto (-24), 3), (84, .aload_n 0, 1), (85, .iload_n 1, 1), (86, .iconst 2, 1), (87, .iload_n 2, 1), (88, .invokevirtual 75, 3), (91, .iload_n 3, 1), (92, .ireturn, 1)]
theorem tX9_cut_0_ok : tX9_cut_0.all (fun q => decide (decode cX9_cut q.1 = .ok q.2)) = true := by decide +kernel
theorem dX9_cut_0 : decode cX9_cut 0 = .ok (.aload_n 0, 1) := td tX9_cut_0_ok 0 (q := (0, .aload_n 0, 1)) rfl
theorem dX9_cut_1 : decode cX9_cut 1 = .ok (.iconst 0, 1) := td tX9_cut_0_ok 1 (q := (1, .iconst 0, 1)) rfl
theorem dX9_cut_2 : decode cX9_cut 2 = .ok (.putfield 25, 3) := td tX9_cut_0_ok 2 (q := (2, .putfield 25, 3)) rfl
theorem dX9_cut_5 : decode cX9_cut 5 = .ok (.aload_n 0, 1) := td tX9_cut_0_ok 3 (q := (5, .aload_n 0, 1)) rfl
theorem dX9_cut_6 : decode cX9_cut 6 = .ok (.iload_n 1, 1) := td tX9_cut_0_ok 4 (q := (6, .iload_n 1, 1)) rfl
theorem dX9_cut_7 : decode cX9_cut 7 = .ok (.invokevirtual 85, 3) := td tX9_cut_0_ok 5 (q := (7, .invokevirtual 85, 3)) rfl
theorem dX9_cut_10 : decode cX9_cut 10 = .ok (.ifCond .ne 9, 3) := td tX9_cut_0_ok 6 (q := (10, .ifCond .ne 9, 3)) rfl
theorem dX9_cut_13 : decode cX9_cut 13 = .ok (.aload_n 0, 1) := td tX9_cut_0_ok 7 (q := (13, .aload_n 0, 1)) rfl
theorem dX9_cut_14 : decode cX9_cut 14 = .ok (.iconst 1, 1) := td tX9_cut_0_ok 8 (q := (14, .iconst 1, 1)) rfl
theorem dX9_cut_15 : decode cX9_cut 15 = .ok (.invokevirtual 79, 3) := td tX9_cut_0_ok 9 (q := (15, .invokevirtual 79, 3)) rfl
theorem dX9_cut_18 : decode cX9_cut 18 = .ok (.ireturn, 1) := td tX9_cut_0_ok 10 (q := (18, .ireturn, 1)) rfl
theorem dX9_cut_19 : decode cX9_cut 19 = .ok (.aload_n 0, 1) := td tX9_cut_0_ok 11 (q := (19, .aload_n 0, 1)) rfl
theorem dX9_cut_20 : decode cX9_cut 20 = .ok (.iload_n 1, 1) := td tX9_cut_0_ok 12 (q := (20, .iload_n 1, 1)) rfl
theorem dX9_cut_21 : decode cX9_cut 21 = .ok (.iconst 2, 1) := td tX9_cut_0_ok 13 (q := (21, .iconst 2, 1)) rfl
theorem dX9_cut_22 : decode cX9_cut 22 = .ok (.invokevirtual 33, 3) := td tX9_cut_0_ok 14 (q := (22, .invokevirtual 33, 3)) rfl
theorem dX9_cut_25 : decode cX9_cut 25 = .ok (.ifCond .ne 9, 3) := td tX9_cut_0_ok 15 (q := (25, .ifCond .ne 9, 3)) rfl
theorem dX9_cut_28 : decode cX9_cut 28 = .ok (.aload_n 0, 1) := td tX9_cut_0_ok 16 (q := (28, .aload_n 0, 1)) rfl
theorem dX9_cut_29 : decode cX9_cut 29 = .ok (.iconst 2, 1) := td tX9_cut_0_ok 17 (q := (29, .iconst 2, 1)) rfl
theorem dX9_cut_30 : decode cX9_cut 30 = .ok (.invokevirtual 79, 3) := td tX9_cut_0_ok 18 (q := (30, .invokevirtual 79, 3)) rfl
theorem dX9_cut_33 : decode cX9_cut 33 = .ok (.ireturn, 1) := td tX9_cut_0_ok 19 (q := (33, .ireturn, 1)) rfl
theorem dX9_cut_34 : decode cX9_cut 34 = .ok (.aload_n 0, 1) := td tX9_cut_0_ok 20 (q := (34, .aload_n 0, 1)) rfl
theorem dX9_cut_35 : decode cX9_cut 35 = .ok (.invokevirtual 82, 3) := td tX9_cut_0_ok 21 (q := (35, .invokevirtual 82, 3)) rfl
theorem dX9_cut_38 : decode cX9_cut 38 = .ok (.aload_n 0, 1) := td tX9_cut_0_ok 22 (q := (38, .aload_n 0, 1)) rfl
theorem dX9_cut_39 : decode cX9_cut 39 = .ok (.iload_n 1, 1) := td tX9_cut_0_ok 23 (q := (39, .iload_n 1, 1)) rfl
theorem dX9_cut_40 : decode cX9_cut 40 = .ok (.iconst 2, 1) := td tX9_cut_0_ok 24 (q := (40, .iconst 2, 1)) rfl
theorem dX9_cut_41 : decode cX9_cut 41 = .ok (.invokevirtual 33, 3) := td tX9_cut_0_ok 25 (q := (41, .invokevirtual 33, 3)) rfl
theorem dX9_cut_44 : decode cX9_cut 44 = .ok (.iconst 1, 1) := td tX9_cut_0_ok 26 (q := (44, .iconst 1, 1)) rfl
theorem dX9_cut_45 : decode cX9_cut 45 = .ok (.isub, 1) := td tX9_cut_0_ok 27 (q := (45, .isub, 1)) rfl
theorem dX9_cut_46 : decode cX9_cut 46 = .ok (.istore_n 2, 1) := td tX9_cut_0_ok 28 (q := (46, .istore_n 2, 1)) rfl
theorem dX9_cut_47 : decode cX9_cut 47 = .ok (.aload_n 0, 1) := td tX9_cut_0_ok 29 (q := (47, .aload_n 0, 1)) rfl
theorem dX9_cut_48 : decode cX9_cut 48 = .ok (.iload_n 1, 1) := td tX9_cut_0_ok 30 (q := (48, .iload_n 1, 1)) rfl
theorem dX9_cut_49 : decode cX9_cut 49 = .ok (.iload_n 2, 1) := td tX9_cut_0_ok 31 (q := (49, .iload_n 2, 1)) rfl
theorem dX9_cut_50 : decode cX9_cut 50 = .ok (.invokevirtual 47, 3) := td tX9_cut_0_ok 32 (q := (50, .invokevirtual 47, 3)) rfl
theorem dX9_cut_53 : decode cX9_cut 53 = .ok (.istore_n 3, 1) := td tX9_cut_0_ok 33 (q := (53, .istore_n 3, 1)) rfl
theorem dX9_cut_54 : decode cX9_cut 54 = .ok (.iconst 0, 1) := td tX9_cut_0_ok 34 (q := (54, .iconst 0, 1)) rfl
theorem dX9_cut_55 : decode cX9_cut 55 = .ok (.istore 4, 2) := td tX9_cut_0_ok 35 (q := (55, .istore 4, 2)) rfl
theorem dX9_cut_57 : decode cX9_cut 57 = .ok (.iload 4, 2) := td tX9_cut_0_ok 36 (q := (57, .iload 4, 2)) rfl
theorem dX9_cut_59 : decode cX9_cut 59 = .ok (.bipush 8, 2) := td tX9_cut_0_ok 37 (q := (59, .bipush 8, 2)) rfl
theorem dX9_cut_61 : decode cX9_cut 61 = .ok (.if_icmp .ge 23, 3) := td tX9_cut_0_ok 38 (q := (61, .if_icmp .ge 23, 3)) rfl
theorem dX9_cut_64 : decode cX9_cut 64 = .ok (.aload_n 0, 1) := td tX9_cut_0_ok 39 (q := (64, .aload_n 0, 1)) rfl
theorem dX9_cut_65 : decode cX9_cut 65 = .ok (.getfield 7, 3) := td tX9_cut_0_ok 40 (q := (65, .getfield 7, 3)) rfl
theorem dX9_cut_68 : decode cX9_cut 68 = .ok (.iload_n 1, 1) := td tX9_cut_0_ok 41 (q := (68, .iload_n 1, 1)) rfl
theorem dX9_cut_69 : decode cX9_cut 69 = .ok (.iload_n 2, 1) := td tX9_cut_0_ok 42 (q := (69, .iload_n 2, 1)) rfl
theorem dX9_cut_70 : decode cX9_cut 70 = .ok (.invokestatic 37, 3) := td tX9_cut_0_ok 43 (q := (70, .invokestatic 37, 3)) rfl
theorem dX9_cut_73 : decode cX9_cut 73 = .ok (.iload 4, 2) := td tX9_cut_0_ok 44 (q := (73, .iload 4, 2)) rfl
theorem dX9_cut_75 : decode cX9_cut 75 = .ok (.iadd, 1) := td tX9_cut_0_ok 45 (q := (75, .iadd, 1)) rfl
theorem dX9_cut_76 : decode cX9_cut 76 = .ok (.iconst 0, 1) := td tX9_cut_0_ok 46 (q := (76, .iconst 0, 1)) rfl
theorem dX9_cut_77 : decode cX9_cut 77 = .ok (.iastore, 1) := td tX9_cut_0_ok 47 (q := (77, .iastore, 1)) rfl
theorem dX9_cut_78 : decode cX9_cut 78 = .ok (.iinc 4 1, 3) := td tX9_cut_0_ok 48 (q := (78, .iinc 4 1, 3)) rfl
theorem dX9_cut_81 : decode cX9_cut 81 = .ok (.goto (-24), 3) := td tX9_cut_0_ok 49 (q := (81, .goto (-24), 3)) rfl
theorem dX9_cut_84 : decode cX9_cut 84 = .ok (.aload_n 0, 1) := td tX9_cut_0_ok 50 (q := (84, .aload_n 0, 1)) rfl
theorem dX9_cut_85 : decode cX9_cut 85 = .ok (.iload_n 1, 1) := td tX9_cut_0_ok 51 (q := (85, .iload_n 1, 1)) rfl
theorem dX9_cut_86 : decode cX9_cut 86 = .ok (.iconst 2, 1) := td tX9_cut_0_ok 52 (q := (86, .iconst 2, 1)) rfl
theorem dX9_cut_87 : decode cX9_cut 87 = .ok (.iload_n 2, 1) := td tX9_cut_0_ok 53 (q := (87, .iload_n 2, 1)) rfl
theorem dX9_cut_88 : decode cX9_cut 88 = .ok (.invokevirtual 75, 3) := td tX9_cut_0_ok 54 (q := (88, .invokevirtual 75, 3)) rfl
theorem dX9_cut_91 : decode cX9_cut 91 = .ok (.iload_n 3, 1) := td tX9_cut_0_ok 55 (q := (91, .iload_n 3, 1)) rfl
theorem dX9_cut_92 : decode cX9_cut 92 = .ok (.ireturn, 1) := td tX9_cut_0_ok 56 (q := (92, .ireturn, 1)) rfl
def fX9_cut_57 (k57 : (Nat → Int32) → Option (Int32 × (Nat → Int32) × (Nat → Int32) × Int32 × Int32)) (x1 : Int32) (x2 : Int32) (x3 : Int32) : Nat → Int32 → (Nat → Int32) → Option (Int32 × (Nat → Int32) × (Nat → Int32) × Int32 × Int32)
  | 0, _, _ => none
  | n57 + 1, x4, ms => (if (8 : Int32) ≤ x4 then (k57 ms) else (Option.bind (fX9_placeOf x1 x2) (fun q9 => (Option.bind (aput ms 531 (q9 + x4) (0 : Int32)) (fun c10 => (fX9_cut_57 k57 x1 x2 x3 n57 (x4 + (1 : Int32)) c10))))))
def fX9_cut (ms : (Nat → Int32)) (msv : (Nat → Int32)) (mt : Int32) (mn : Int32) (x1 : Int32) : Option (Int32 × (Nat → Int32) × (Nat → Int32) × Int32 × Int32) :=
  (Option.bind (fX9_isPiece ms x1) (fun q1 => (if q1 = 0 then (Option.bind (fX9_fails (0 : Int32) (1 : Int32)) (fun q17 => (some (q17.1, ms, msv, q17.2, mn)))) else (Option.bind (fX9_of ms x1 (2 : Int32)) (fun q3 => (if q3 = 0 then (Option.bind (fX9_fails (0 : Int32) (2 : Int32)) (fun q16 => (some (q16.1, ms, msv, q16.2, mn)))) else (Option.bind (fX9_saves ms msv mn) (fun q5 => (Option.bind (fX9_of ms x1 (2 : Int32)) (fun q6 => (Option.bind (fX9_sumOf ms x1 (q6 - (1 : Int32))) (fun q7 => (fX9_cut_57 (fun (ms_u11 : (Nat → Int32)) => (Option.bind (fX9_lay ms_u11 x1 (2 : Int32) (q6 - (1 : Int32))) (fun q15 => (some (q7, q15, q5.1, (0 : Int32), q5.2))))) x1 (q6 - (1 : Int32)) q7 LF (0 : Int32) ms)))))))))))))
set_option maxHeartbeats 4000000 in
set_option maxRecDepth 100000 in
theorem mX9_cut {l : Launch} {D : va_G} {bd : Nat → Nat} {cI : ClassId} {ms : (Nat → Int32)} {msv : (Nat → Int32)} {mb : (Nat → Int32)} {mf : (Nat → Int32)} {mr : (Nat → Int32)} {mt : Int32} {mn : Int32} {ml : Int32} {mat : Int32} {mw : Int32} {mm : Int32} {mh : Int64} {x1 : Int32} {r : Int32} {ms' : (Nat → Int32)} {msv' : (Nat → Int32)} {mt' : Int32} {mn' : Int32} (hs : fX9_cut ms msv mt mn x1 = some (r, ms', msv', mt', mn')) : nd_C l yX9_cut cX9_cut 5 (some .int) 2 46 D [(cI, .int)] [.ref (bd 0), .int x1] (MW bd cI ms msv mb mf mr mt mn ml mat mw mm mh) (MW bd cI ms' msv' mb mf mr mt' mn' ml mat mw mm mh) (some (.int r)) := by
  refine nd_ofCi (by decide) (Nat.le_of_ble_eq_true rfl) (fun p e s m args below meth c_ ls A Q hx hb hml hown hts hl hP hK hD hS hA hN hret => ?_)
  have hown : s.vm.findClass RX9 = some m.cls := hown
  have hl : lv_has ls 5 [(0, .ref (bd 0)), (1, .int x1)] := hl
  have hret : ∀ (z0 : Int32) (z1 : (Nat → Int32)) (z2 : (Nat → Int32)) (z3 : Int32) (z4 : Int32) {H : Heap} {locs : List Loc} {pc : Nat} {ls : Array Slot}, some (z0, z1, z2, z3, z4) = some (r, ms', msv', mt', mn') → va_P D vwCl (MW bd cI z1 z2 mb mf mr z3 z4 ml mat mw mm mh) H → va_S A s.heap H locs → decode cX9_cut pc = .ok (.ireturn, 1) → W p l e ⟨2, 0, 0, 46⟩ s m args below meth c_ H locs 0 0 Q (F0 m pc ls [.int z0]) := by
    intro z0 z1 z2 z3 z4 H locs pc ls h hP hS hd
    cases h
    exact hret hP hS hd
  rw [fX9_cut] at hs
  refine lv_aload_n hx hb dX9_cut_0 rfl (lv_at hl 0 rfl) ?_
  refine lv_iconst (v := (0 : Int32)) hx hb dX9_cut_1 (by decide) ?_
  refine pf_X9_25 hx hb hts hown hK hP hD hS 0 rfl rfl dX9_cut_2 (fun H locs hP hD hS => ?_)
  have hP : va_P D vwCl (MW bd cI ms msv mb mf mr (0 : Int32) mn ml mat mw mm mh) H := hP
  have hD : va_D A (MW bd cI ms msv mb mf mr (0 : Int32) mn ml mat mw mm mh) := hD
  refine lv_aload_n hx hb dX9_cut_5 rfl (lv_at hl 0 rfl) ?_
  refine lv_iload_n hx hb dX9_cut_6 rfl (lv_at hl 1 rfl) ?_
  obtain ⟨q1, eq1, hs⟩ := ob hs
  refine nd_callV (As := [.int x1]) (rest := []) (st1 := [.int q1]) hx hb hml hown hts hl hP hK hD hS hA hN (mX9_isPiece eq1) iv_X9_isPiece wd_274 0 rfl rfl rfl rfl ⟨Nat.le_of_ble_eq_true rfl, Nat.le_of_ble_eq_true rfl⟩ (Nat.le_of_ble_eq_true rfl) ⟨Nat.zero_le _, Nat.zero_le _⟩ dX9_cut_7 rfl rfl (fun H locs hP hD hS => ?_)
  refine lv_if_ne (tgt := 19) hx hb dX9_cut_10 (by decide) (fun b2 => ?_) (fun b2 => ?_)
  · have hs := ite_f hs b2
    refine lv_aload_n hx hb dX9_cut_19 rfl (lv_at hl 0 rfl) ?_
    refine lv_iload_n hx hb dX9_cut_20 rfl (lv_at hl 1 rfl) ?_
    refine lv_iconst (v := (2 : Int32)) hx hb dX9_cut_21 (by decide) ?_
    obtain ⟨q3, eq3, hs⟩ := ob hs
    refine nd_callV (As := [.int x1, .int (2 : Int32)]) (rest := []) (st1 := [.int q3]) hx hb hml hown hts hl hP hK hD hS hA hN (mX9_of eq3) iv_X9_of wd_307 0 rfl rfl rfl rfl ⟨Nat.le_of_ble_eq_true rfl, Nat.le_of_ble_eq_true rfl⟩ (Nat.le_of_ble_eq_true rfl) ⟨Nat.zero_le _, Nat.zero_le _⟩ dX9_cut_22 rfl rfl (fun H locs hP hD hS => ?_)
    refine lv_if_ne (tgt := 34) hx hb dX9_cut_25 (by decide) (fun b4 => ?_) (fun b4 => ?_)
    · have hs := ite_f hs b4
      refine lv_aload_n hx hb dX9_cut_34 rfl (lv_at hl 0 rfl) ?_
      obtain ⟨q5, eq5, hs⟩ := ob hs
      refine nd_callV (As := []) (rest := []) (st1 := []) hx hb hml hown hts hl hP hK hD hS hA hN (mX9_saves eq5) iv_X9_saves wd_134 0 rfl rfl rfl rfl ⟨Nat.le_of_ble_eq_true rfl, Nat.le_of_ble_eq_true rfl⟩ (Nat.le_of_ble_eq_true rfl) ⟨Nat.zero_le _, Nat.zero_le _⟩ dX9_cut_35 rfl rfl (fun H locs hP hD hS => ?_)
      refine lv_aload_n hx hb dX9_cut_38 rfl (lv_at hl 0 rfl) ?_
      refine lv_iload_n hx hb dX9_cut_39 rfl (lv_at hl 1 rfl) ?_
      refine lv_iconst (v := (2 : Int32)) hx hb dX9_cut_40 (by decide) ?_
      obtain ⟨q6, eq6, hs⟩ := ob hs
      refine nd_callV (As := [.int x1, .int (2 : Int32)]) (rest := []) (st1 := [.int q6]) hx hb hml hown hts hl hP hK hD hS hA hN (mX9_of eq6) iv_X9_of wd_307 0 rfl rfl rfl rfl ⟨Nat.le_of_ble_eq_true rfl, Nat.le_of_ble_eq_true rfl⟩ (Nat.le_of_ble_eq_true rfl) ⟨Nat.zero_le _, Nat.zero_le _⟩ dX9_cut_41 rfl rfl (fun H locs hP hD hS => ?_)
      refine lv_iconst (v := (1 : Int32)) hx hb dX9_cut_44 (by decide) ?_
      refine lv_isub hx hb dX9_cut_45 ?_
      refine lv_istore_n (lv' := [(2, .int (q6 - (1 : Int32))), (0, .ref (bd 0)), (1, .int x1)]) hx hb dX9_cut_46 rfl hl (by decide) rfl (fun ls hl => ?_)
      refine lv_aload_n hx hb dX9_cut_47 rfl (lv_at hl 1 rfl) ?_
      refine lv_iload_n hx hb dX9_cut_48 rfl (lv_at hl 2 rfl) ?_
      refine lv_iload_n hx hb dX9_cut_49 rfl (lv_at hl 0 rfl) ?_
      obtain ⟨q7, eq7, hs⟩ := ob hs
      refine nd_callV (As := [.int x1, .int (q6 - (1 : Int32))]) (rest := []) (st1 := [.int q7]) hx hb hml hown hts hl hP hK hD hS hA hN (mX9_sumOf eq7) iv_X9_sumOf wd_345 0 rfl rfl rfl rfl ⟨Nat.le_of_ble_eq_true rfl, Nat.le_of_ble_eq_true rfl⟩ (Nat.le_of_ble_eq_true rfl) ⟨Nat.zero_le _, Nat.zero_le _⟩ dX9_cut_50 rfl rfl (fun H locs hP hD hS => ?_)
      refine lv_istore_n (lv' := [(3, .int q7), (2, .int (q6 - (1 : Int32))), (0, .ref (bd 0)), (1, .int x1)]) hx hb dX9_cut_53 rfl hl (by decide) rfl (fun ls hl => ?_)
      refine lv_iconst (v := (0 : Int32)) hx hb dX9_cut_54 (by decide) ?_
      refine lv_istore (lv' := [(4, .int (0 : Int32)), (3, .int q7), (2, .int (q6 - (1 : Int32))), (0, .ref (bd 0)), (1, .int x1)]) hx hb dX9_cut_55 hl (by decide) rfl (fun ls hl => ?_)
      have L57 : ∀ (n57 : Nat) (k57 : (Nat → Int32) → Option (Int32 × (Nat → Int32) × (Nat → Int32) × Int32 × Int32)) (v4_11 : Int32) (ms_11 : (Nat → Int32)) (H : Heap) (locs : List Loc) (ls : Array Slot), lv_has ls 5 [(0, .ref (bd 0)), (1, .int x1), (2, .int (q6 - (1 : Int32))), (3, .int q7), (4, .int v4_11)] → va_P D vwCl (MW bd cI ms_11 q5.1 mb mf mr (0 : Int32) q5.2 ml mat mw mm mh) H → va_S A s.heap H locs → fX9_cut_57 k57 x1 (q6 - (1 : Int32)) q7 n57 v4_11 ms_11 = some (r, ms', msv', mt', mn') → (∀ (ms_u11 : (Nat → Int32)) (H : Heap) (locs : List Loc) (ls : Array Slot), lv_has ls 5 [(0, .ref (bd 0)), (1, .int x1), (2, .int (q6 - (1 : Int32))), (3, .int q7)] → va_P D vwCl (MW bd cI ms_u11 q5.1 mb mf mr (0 : Int32) q5.2 ml mat mw mm mh) H → va_S A s.heap H locs → k57 ms_u11 = some (r, ms', msv', mt', mn') → W p l e ⟨2, 0, 0, 46⟩ s m args below meth c_ H locs 0 0 Q (F0 m 84 ls [])) → W p l e ⟨2, 0, 0, 46⟩ s m args below meth c_ H locs 0 0 Q (F0 m 57 ls []) := by
        intro n57
        induction n57 with
        | zero =>
          intro k57 v4_11 ms_11 H locs ls hl hP hS hs hk57
          rw [fX9_cut_57] at hs
          cases hs
        | succ n57 ih57 =>
          intro k57 v4_11 ms_11 H locs ls hl hP hS hs hk57
          rw [fX9_cut_57] at hs
          have hD : va_D A (MW bd cI ms_11 q5.1 mb mf mr (0 : Int32) q5.2 ml mat mw mm mh) := nd_DD hD rfl
          refine lv_iload hx hb dX9_cut_57 (lv_at hl 4 rfl) ?_
          refine lv_bipush (v := (8 : Int32)) hx hb dX9_cut_59 (by decide) ?_
          refine lv_icmp_ge (tgt := 84) hx hb dX9_cut_61 (by decide) (fun b12 => ?_) (fun b12 => ?_)
          · have hs := ite_t hs b12
            exact hk57 ms_11 _ _ _ (lv_sub hl [0, 1, 2, 3] rfl) hP hS hs
          · have hs := ite_f hs b12
            refine lv_aload_n hx hb dX9_cut_64 rfl (lv_at hl 0 rfl) ?_
            refine gf_X9_7 hx hb hts hown hK hP 0 rfl rfl dX9_cut_65 ?_
            refine lv_iload_n hx hb dX9_cut_68 rfl (lv_at hl 1 rfl) ?_
            refine lv_iload_n hx hb dX9_cut_69 rfl (lv_at hl 2 rfl) ?_
            obtain ⟨q13, eq13, hs⟩ := ob hs
            refine nd_callS (As := [.int x1, .int (q6 - (1 : Int32))]) (rest := [.ref (bd 1)]) (st1 := [.int q13, .ref (bd 1)]) hx hb hml hown hts hl hP hK hD hS hA hN (mX9_placeOf eq13) is_X9_placeOf wd_319 rfl rfl ⟨Nat.le_of_ble_eq_true rfl, Nat.le_of_ble_eq_true rfl⟩ (Nat.le_of_ble_eq_true rfl) ⟨Nat.zero_le _, Nat.zero_le _⟩ dX9_cut_70 rfl rfl (fun H locs hP hD hS => ?_)
            refine lv_iload hx hb dX9_cut_73 (lv_at hl 4 rfl) ?_
            refine lv_iadd hx hb dX9_cut_75 ?_
            refine lv_iconst (v := (0 : Int32)) hx hb dX9_cut_76 (by decide) ?_
            obtain ⟨c14, ec14, hs⟩ := ob hs
            refine nd_iast hx hb hK hP hD hS 1 0 rfl rfl ec14 dX9_cut_77 (fun H locs hP hD hS => ?_)
            have hP : va_P D vwCl (MW bd cI c14 q5.1 mb mf mr (0 : Int32) q5.2 ml mat mw mm mh) H := hP
            have hD : va_D A (MW bd cI c14 q5.1 mb mf mr (0 : Int32) q5.2 ml mat mw mm mh) := hD
            refine lv_iinc (v := v4_11 + (1 : Int32)) (lv' := [(4, .int (v4_11 + (1 : Int32))), (0, .ref (bd 0)), (1, .int x1), (2, .int (q6 - (1 : Int32))), (3, .int q7)]) hx hb dX9_cut_78 hl (k := 4) rfl rfl (by decide) rfl (fun ls hl => ?_)
            refine lv_goto (tgt := 57) hx hb dX9_cut_81 (by decide) ?_
            exact ih57 k57 (v4_11 + (1 : Int32)) c14 _ _ _ (lv_sub hl [1, 2, 3, 4, 0] rfl) hP hS hs hk57
      refine L57 LF _ (0 : Int32) ms _ _ _ (lv_sub hl [3, 4, 2, 1, 0] rfl) hP hS hs (fun ms_u11 H locs ls hl hP hS hs => ?_)
      have hD : va_D A (MW bd cI ms_u11 q5.1 mb mf mr (0 : Int32) q5.2 ml mat mw mm mh) := nd_DD hD rfl
      refine lv_aload_n hx hb dX9_cut_84 rfl (lv_at hl 0 rfl) ?_
      refine lv_iload_n hx hb dX9_cut_85 rfl (lv_at hl 1 rfl) ?_
      refine lv_iconst (v := (2 : Int32)) hx hb dX9_cut_86 (by decide) ?_
      refine lv_iload_n hx hb dX9_cut_87 rfl (lv_at hl 2 rfl) ?_
      obtain ⟨q15, eq15, hs⟩ := ob hs
      refine nd_callV (As := [.int x1, .int (2 : Int32), .int (q6 - (1 : Int32))]) (rest := []) (st1 := []) hx hb hml hown hts hl hP hK hD hS hA hN (mX9_lay eq15) iv_X9_lay wd_139 0 rfl rfl rfl rfl ⟨Nat.le_of_ble_eq_true rfl, Nat.le_of_ble_eq_true rfl⟩ (Nat.le_of_ble_eq_true rfl) ⟨Nat.zero_le _, Nat.zero_le _⟩ dX9_cut_88 rfl rfl (fun H locs hP hD hS => ?_)
      refine lv_iload_n hx hb dX9_cut_91 rfl (lv_at hl 3 rfl) ?_
      exact hret _ _ _ _ _ hs hP hS dX9_cut_92
    · have hs := ite_t hs b4
      refine lv_aload_n hx hb dX9_cut_28 rfl (lv_at hl 0 rfl) ?_
      refine lv_iconst (v := (2 : Int32)) hx hb dX9_cut_29 (by decide) ?_
      obtain ⟨q16, eq16, hs⟩ := ob hs
      refine nd_callV (As := [.int (2 : Int32)]) (rest := []) (st1 := [.int q16.1]) hx hb hml hown hts hl hP hK hD hS hA hN (mX9_fails eq16) iv_X9_fails wd_130 0 rfl rfl rfl rfl ⟨Nat.le_of_ble_eq_true rfl, Nat.le_of_ble_eq_true rfl⟩ (Nat.le_of_ble_eq_true rfl) ⟨Nat.zero_le _, Nat.zero_le _⟩ dX9_cut_30 rfl rfl (fun H locs hP hD hS => ?_)
      exact hret _ _ _ _ _ hs hP hS dX9_cut_33
  · have hs := ite_t hs b2
    refine lv_aload_n hx hb dX9_cut_13 rfl (lv_at hl 0 rfl) ?_
    refine lv_iconst (v := (1 : Int32)) hx hb dX9_cut_14 (by decide) ?_
    obtain ⟨q17, eq17, hs⟩ := ob hs
    refine nd_callV (As := [.int (1 : Int32)]) (rest := []) (st1 := [.int q17.1]) hx hb hml hown hts hl hP hK hD hS hA hN (mX9_fails eq17) iv_X9_fails wd_130 0 rfl rfl rfl rfl ⟨Nat.le_of_ble_eq_true rfl, Nat.le_of_ble_eq_true rfl⟩ (Nat.le_of_ble_eq_true rfl) ⟨Nat.zero_le _, Nat.zero_le _⟩ dX9_cut_15 rfl rfl (fun H locs hP hD hS => ?_)
    exact hret _ _ _ _ _ hs hP hS dX9_cut_18
def tX9_isReceipt_0 : List (Nat × Instr × Nat) := [(0, .aload_n 0, 1), (1, .iload_n 1, 1), (2, .invokevirtual 85, 3), (5, .ifCond .eq 23, 3), (8, .iload_n 2, 1), (9, .iconst 0, 1), (10, .aload_n 0, 1), (11, .iload_n 1, 1), (12, .iconst 2, 1), (13, .invokevirtual 33, 3), (16, .iconst 1, 1), (17, .isub, 1), (18, .invokestatic 29, 3), (21, .ifCond .eq 7, 3), (24, .iconst 1, 1), (25, .goto 4, 3), (28, .iconst 0, 1), (29, .ireturn, 1)]
theorem tX9_isReceipt_0_ok : tX9_isReceipt_0.all (fun q => decide (decode cX9_isReceipt q.1 = .ok q.2)) = true := by decide +kernel
theorem dX9_isReceipt_0 : decode cX9_isReceipt 0 = .ok (.aload_n 0, 1) := td tX9_isReceipt_0_ok 0 (q := (0, .aload_n 0, 1)) rfl
theorem dX9_isReceipt_1 : decode cX9_isReceipt 1 = .ok (.iload_n 1, 1) := td tX9_isReceipt_0_ok 1 (q := (1, .iload_n 1, 1)) rfl
theorem dX9_isReceipt_2 : decode cX9_isReceipt 2 = .ok (.invokevirtual 85, 3) := td tX9_isReceipt_0_ok 2 (q := (2, .invokevirtual 85, 3)) rfl
theorem dX9_isReceipt_5 : decode cX9_isReceipt 5 = .ok (.ifCond .eq 23, 3) := td tX9_isReceipt_0_ok 3 (q := (5, .ifCond .eq 23, 3)) rfl
theorem dX9_isReceipt_8 : decode cX9_isReceipt 8 = .ok (.iload_n 2, 1) := td tX9_isReceipt_0_ok 4 (q := (8, .iload_n 2, 1)) rfl
theorem dX9_isReceipt_9 : decode cX9_isReceipt 9 = .ok (.iconst 0, 1) := td tX9_isReceipt_0_ok 5 (q := (9, .iconst 0, 1)) rfl
theorem dX9_isReceipt_10 : decode cX9_isReceipt 10 = .ok (.aload_n 0, 1) := td tX9_isReceipt_0_ok 6 (q := (10, .aload_n 0, 1)) rfl
theorem dX9_isReceipt_11 : decode cX9_isReceipt 11 = .ok (.iload_n 1, 1) := td tX9_isReceipt_0_ok 7 (q := (11, .iload_n 1, 1)) rfl
theorem dX9_isReceipt_12 : decode cX9_isReceipt 12 = .ok (.iconst 2, 1) := td tX9_isReceipt_0_ok 8 (q := (12, .iconst 2, 1)) rfl
theorem dX9_isReceipt_13 : decode cX9_isReceipt 13 = .ok (.invokevirtual 33, 3) := td tX9_isReceipt_0_ok 9 (q := (13, .invokevirtual 33, 3)) rfl
theorem dX9_isReceipt_16 : decode cX9_isReceipt 16 = .ok (.iconst 1, 1) := td tX9_isReceipt_0_ok 10 (q := (16, .iconst 1, 1)) rfl
theorem dX9_isReceipt_17 : decode cX9_isReceipt 17 = .ok (.isub, 1) := td tX9_isReceipt_0_ok 11 (q := (17, .isub, 1)) rfl
theorem dX9_isReceipt_18 : decode cX9_isReceipt 18 = .ok (.invokestatic 29, 3) := td tX9_isReceipt_0_ok 12 (q := (18, .invokestatic 29, 3)) rfl
theorem dX9_isReceipt_21 : decode cX9_isReceipt 21 = .ok (.ifCond .eq 7, 3) := td tX9_isReceipt_0_ok 13 (q := (21, .ifCond .eq 7, 3)) rfl
theorem dX9_isReceipt_24 : decode cX9_isReceipt 24 = .ok (.iconst 1, 1) := td tX9_isReceipt_0_ok 14 (q := (24, .iconst 1, 1)) rfl
theorem dX9_isReceipt_25 : decode cX9_isReceipt 25 = .ok (.goto 4, 3) := td tX9_isReceipt_0_ok 15 (q := (25, .goto 4, 3)) rfl
theorem dX9_isReceipt_28 : decode cX9_isReceipt 28 = .ok (.iconst 0, 1) := td tX9_isReceipt_0_ok 16 (q := (28, .iconst 0, 1)) rfl
theorem dX9_isReceipt_29 : decode cX9_isReceipt 29 = .ok (.ireturn, 1) := td tX9_isReceipt_0_ok 17 (q := (29, .ireturn, 1)) rfl
def fX9_isReceipt (ms : (Nat → Int32)) (x1 : Int32) (x2 : Int32) : Option (Int32) :=
  (Option.bind (fX9_isPiece ms x1) (fun q1 => (if q1 = 0 then (some (0 : Int32)) else (Option.bind (fX9_of ms x1 (2 : Int32)) (fun q3 => (Option.bind (fX9_in x2 (0 : Int32) (q3 - (1 : Int32))) (fun q4 => (if q4 = 0 then (some (0 : Int32)) else (some (1 : Int32))))))))))
set_option maxHeartbeats 4000000 in
set_option maxRecDepth 100000 in
theorem mX9_isReceipt {l : Launch} {D : va_G} {bd : Nat → Nat} {cI : ClassId} {ms : (Nat → Int32)} {msv : (Nat → Int32)} {mb : (Nat → Int32)} {mf : (Nat → Int32)} {mr : (Nat → Int32)} {mt : Int32} {mn : Int32} {ml : Int32} {mat : Int32} {mw : Int32} {mm : Int32} {mh : Int64} {x1 : Int32} {x2 : Int32} {r : Int32} (hs : fX9_isReceipt ms x1 x2 = some r) : nd_C l yX9_isReceipt cX9_isReceipt 3 (some .boolean) 2 43 D [(cI, .int)] [.ref (bd 0), .int x1, .int x2] (MW bd cI ms msv mb mf mr mt mn ml mat mw mm mh) (MW bd cI ms msv mb mf mr mt mn ml mat mw mm mh) (some (.int r)) := by
  refine nd_ofCz (by decide) (Nat.le_of_ble_eq_true rfl) (fun p e s m args below meth c_ ls A Q hx hb hml hown hts hl hP hK hD hS hA hN hret => ?_)
  have hown : s.vm.findClass RX9 = some m.cls := hown
  have hl : lv_has ls 3 [(0, .ref (bd 0)), (1, .int x1), (2, .int x2)] := hl
  have hret : ∀ (z0 : Int32) {H : Heap} {locs : List Loc} {pc : Nat} {ls : Array Slot}, some z0 = some r → (z0 = 0 ∨ z0 = 1) → va_P D vwCl (MW bd cI ms msv mb mf mr mt mn ml mat mw mm mh) H → va_S A s.heap H locs → decode cX9_isReceipt pc = .ok (.ireturn, 1) → W p l e ⟨2, 0, 0, 43⟩ s m args below meth c_ H locs 0 0 Q (F0 m pc ls [.int z0]) := by
    intro z0 H locs pc ls h hz hP hS hd
    cases h
    exact hret hz hP hS hd
  rw [fX9_isReceipt] at hs
  refine lv_aload_n hx hb dX9_isReceipt_0 rfl (lv_at hl 0 rfl) ?_
  refine lv_iload_n hx hb dX9_isReceipt_1 rfl (lv_at hl 1 rfl) ?_
  obtain ⟨q1, eq1, hs⟩ := ob hs
  refine nd_callV (As := [.int x1]) (rest := []) (st1 := [.int q1]) hx hb hml hown hts hl hP hK hD hS hA hN (mX9_isPiece eq1) iv_X9_isPiece wd_274 0 rfl rfl rfl rfl ⟨Nat.le_of_ble_eq_true rfl, Nat.le_of_ble_eq_true rfl⟩ (Nat.le_of_ble_eq_true rfl) ⟨Nat.zero_le _, Nat.zero_le _⟩ dX9_isReceipt_2 rfl rfl (fun H locs hP hD hS => ?_)
  refine lv_if_eq (tgt := 28) hx hb dX9_isReceipt_5 (by decide) (fun b2 => ?_) (fun b2 => ?_)
  · have hs := ite_t hs b2
    refine lv_iconst (v := (0 : Int32)) hx hb dX9_isReceipt_28 (by decide) ?_
    exact hret _ hs (Or.inl rfl) hP hS dX9_isReceipt_29
  · have hs := ite_f hs b2
    refine lv_iload_n hx hb dX9_isReceipt_8 rfl (lv_at hl 2 rfl) ?_
    refine lv_iconst (v := (0 : Int32)) hx hb dX9_isReceipt_9 (by decide) ?_
    refine lv_aload_n hx hb dX9_isReceipt_10 rfl (lv_at hl 0 rfl) ?_
    refine lv_iload_n hx hb dX9_isReceipt_11 rfl (lv_at hl 1 rfl) ?_
    refine lv_iconst (v := (2 : Int32)) hx hb dX9_isReceipt_12 (by decide) ?_
    obtain ⟨q3, eq3, hs⟩ := ob hs
    refine nd_callV (As := [.int x1, .int (2 : Int32)]) (rest := [.int (0 : Int32), .int x2]) (st1 := [.int q3, .int (0 : Int32), .int x2]) hx hb hml hown hts hl hP hK hD hS hA hN (mX9_of eq3) iv_X9_of wd_307 0 rfl rfl rfl rfl ⟨Nat.le_of_ble_eq_true rfl, Nat.le_of_ble_eq_true rfl⟩ (Nat.le_of_ble_eq_true rfl) ⟨Nat.zero_le _, Nat.zero_le _⟩ dX9_isReceipt_13 rfl rfl (fun H locs hP hD hS => ?_)
    refine lv_iconst (v := (1 : Int32)) hx hb dX9_isReceipt_16 (by decide) ?_
    refine lv_isub hx hb dX9_isReceipt_17 ?_
    obtain ⟨q4, eq4, hs⟩ := ob hs
    refine nd_callS (As := [.int x2, .int (0 : Int32), .int (q3 - (1 : Int32))]) (rest := []) (st1 := [.int q4]) hx hb hml hown hts hl hP hK hD hS hA hN (mX9_in eq4) is_X9_in wd_127 rfl rfl ⟨Nat.le_of_ble_eq_true rfl, Nat.le_of_ble_eq_true rfl⟩ (Nat.le_of_ble_eq_true rfl) ⟨Nat.zero_le _, Nat.zero_le _⟩ dX9_isReceipt_18 rfl rfl (fun H locs hP hD hS => ?_)
    refine lv_if_eq (tgt := 28) hx hb dX9_isReceipt_21 (by decide) (fun b5 => ?_) (fun b5 => ?_)
    · have hs := ite_t hs b5
      refine lv_iconst (v := (0 : Int32)) hx hb dX9_isReceipt_28 (by decide) ?_
      exact hret _ hs (Or.inl rfl) hP hS dX9_isReceipt_29
    · have hs := ite_f hs b5
      refine lv_iconst (v := (1 : Int32)) hx hb dX9_isReceipt_24 (by decide) ?_
      refine lv_goto (tgt := 29) hx hb dX9_isReceipt_25 (by decide) ?_
      exact hret _ hs (Or.inr rfl) hP hS dX9_isReceipt_29
def tX9_correct_0 : List (Nat × Instr × Nat) := [(0, .aload_n 0, 1), (1, .iconst 0, 1), (2, .putfield 25, 3), (5, .aload_n 0, 1), (6, .iload_n 1, 1), (7, .iload_n 2, 1), (8, .invokevirtual 105, 3), (11, .ifCond .ne 9, 3), (14, .aload_n 0, 1), (15, .iconst 1, 1), (16, .invokevirtual 79, 3), (19, .ireturn, 1), (20, .aload_n 0, 1), (21, .invokevirtual 82, 3), (24, .aload_n 0, 1), (25, .iload_n 1, 1), (26, .iload_n 2, 1), (27, .invokevirtual 108, 3), (30, .istore_n 3, 1), (31, .aload_n 0, 1), (32, .getfield 7, 3), (35, .iload_n 1, 1), (36, .iload_n 2, 1), (37, .invokestatic 37, 3), (40, .bipush 7, 2), (42, .iadd, 1), (43, .aload_n 0, 1), (44, .iload_n 1, 1), (45, .iload_n 2, 1), (46, .invokevirtual 47, 3), (49, .iastore, 1), (50, .iload_n 3, 1), (51, .ireturn, 1)]
theorem tX9_correct_0_ok : tX9_correct_0.all (fun q => decide (decode cX9_correct q.1 = .ok q.2)) = true := by decide +kernel
theorem dX9_correct_0 : decode cX9_correct 0 = .ok (.aload_n 0, 1) := td tX9_correct_0_ok 0 (q := (0, .aload_n 0, 1)) rfl
theorem dX9_correct_1 : decode cX9_correct 1 = .ok (.iconst 0, 1) := td tX9_correct_0_ok 1 (q := (1, .iconst 0, 1)) rfl
theorem dX9_correct_2 : decode cX9_correct 2 = .ok (.putfield 25, 3) := td tX9_correct_0_ok 2 (q := (2, .putfield 25, 3)) rfl
theorem dX9_correct_5 : decode cX9_correct 5 = .ok (.aload_n 0, 1) := td tX9_correct_0_ok 3 (q := (5, .aload_n 0, 1)) rfl
theorem dX9_correct_6 : decode cX9_correct 6 = .ok (.iload_n 1, 1) := td tX9_correct_0_ok 4 (q := (6, .iload_n 1, 1)) rfl
theorem dX9_correct_7 : decode cX9_correct 7 = .ok (.iload_n 2, 1) := td tX9_correct_0_ok 5 (q := (7, .iload_n 2, 1)) rfl
theorem dX9_correct_8 : decode cX9_correct 8 = .ok (.invokevirtual 105, 3) := td tX9_correct_0_ok 6 (q := (8, .invokevirtual 105, 3)) rfl
theorem dX9_correct_11 : decode cX9_correct 11 = .ok (.ifCond .ne 9, 3) := td tX9_correct_0_ok 7 (q := (11, .ifCond .ne 9, 3)) rfl
theorem dX9_correct_14 : decode cX9_correct 14 = .ok (.aload_n 0, 1) := td tX9_correct_0_ok 8 (q := (14, .aload_n 0, 1)) rfl
theorem dX9_correct_15 : decode cX9_correct 15 = .ok (.iconst 1, 1) := td tX9_correct_0_ok 9 (q := (15, .iconst 1, 1)) rfl
theorem dX9_correct_16 : decode cX9_correct 16 = .ok (.invokevirtual 79, 3) := td tX9_correct_0_ok 10 (q := (16, .invokevirtual 79, 3)) rfl
theorem dX9_correct_19 : decode cX9_correct 19 = .ok (.ireturn, 1) := td tX9_correct_0_ok 11 (q := (19, .ireturn, 1)) rfl
theorem dX9_correct_20 : decode cX9_correct 20 = .ok (.aload_n 0, 1) := td tX9_correct_0_ok 12 (q := (20, .aload_n 0, 1)) rfl
theorem dX9_correct_21 : decode cX9_correct 21 = .ok (.invokevirtual 82, 3) := td tX9_correct_0_ok 13 (q := (21, .invokevirtual 82, 3)) rfl
theorem dX9_correct_24 : decode cX9_correct 24 = .ok (.aload_n 0, 1) := td tX9_correct_0_ok 14 (q := (24, .aload_n 0, 1)) rfl
theorem dX9_correct_25 : decode cX9_correct 25 = .ok (.iload_n 1, 1) := td tX9_correct_0_ok 15 (q := (25, .iload_n 1, 1)) rfl
theorem dX9_correct_26 : decode cX9_correct 26 = .ok (.iload_n 2, 1) := td tX9_correct_0_ok 16 (q := (26, .iload_n 2, 1)) rfl
theorem dX9_correct_27 : decode cX9_correct 27 = .ok (.invokevirtual 108, 3) := td tX9_correct_0_ok 17 (q := (27, .invokevirtual 108, 3)) rfl
theorem dX9_correct_30 : decode cX9_correct 30 = .ok (.istore_n 3, 1) := td tX9_correct_0_ok 18 (q := (30, .istore_n 3, 1)) rfl
theorem dX9_correct_31 : decode cX9_correct 31 = .ok (.aload_n 0, 1) := td tX9_correct_0_ok 19 (q := (31, .aload_n 0, 1)) rfl
theorem dX9_correct_32 : decode cX9_correct 32 = .ok (.getfield 7, 3) := td tX9_correct_0_ok 20 (q := (32, .getfield 7, 3)) rfl
theorem dX9_correct_35 : decode cX9_correct 35 = .ok (.iload_n 1, 1) := td tX9_correct_0_ok 21 (q := (35, .iload_n 1, 1)) rfl
theorem dX9_correct_36 : decode cX9_correct 36 = .ok (.iload_n 2, 1) := td tX9_correct_0_ok 22 (q := (36, .iload_n 2, 1)) rfl
theorem dX9_correct_37 : decode cX9_correct 37 = .ok (.invokestatic 37, 3) := td tX9_correct_0_ok 23 (q := (37, .invokestatic 37, 3)) rfl
theorem dX9_correct_40 : decode cX9_correct 40 = .ok (.bipush 7, 2) := td tX9_correct_0_ok 24 (q := (40, .bipush 7, 2)) rfl
theorem dX9_correct_42 : decode cX9_correct 42 = .ok (.iadd, 1) := td tX9_correct_0_ok 25 (q := (42, .iadd, 1)) rfl
theorem dX9_correct_43 : decode cX9_correct 43 = .ok (.aload_n 0, 1) := td tX9_correct_0_ok 26 (q := (43, .aload_n 0, 1)) rfl
theorem dX9_correct_44 : decode cX9_correct 44 = .ok (.iload_n 1, 1) := td tX9_correct_0_ok 27 (q := (44, .iload_n 1, 1)) rfl
theorem dX9_correct_45 : decode cX9_correct 45 = .ok (.iload_n 2, 1) := td tX9_correct_0_ok 28 (q := (45, .iload_n 2, 1)) rfl
theorem dX9_correct_46 : decode cX9_correct 46 = .ok (.invokevirtual 47, 3) := td tX9_correct_0_ok 29 (q := (46, .invokevirtual 47, 3)) rfl
theorem dX9_correct_49 : decode cX9_correct 49 = .ok (.iastore, 1) := td tX9_correct_0_ok 30 (q := (49, .iastore, 1)) rfl
theorem dX9_correct_50 : decode cX9_correct 50 = .ok (.iload_n 3, 1) := td tX9_correct_0_ok 31 (q := (50, .iload_n 3, 1)) rfl
theorem dX9_correct_51 : decode cX9_correct 51 = .ok (.ireturn, 1) := td tX9_correct_0_ok 32 (q := (51, .ireturn, 1)) rfl
def fX9_correct (ms : (Nat → Int32)) (msv : (Nat → Int32)) (mt : Int32) (mn : Int32) (x1 : Int32) (x2 : Int32) : Option (Int32 × (Nat → Int32) × (Nat → Int32) × Int32 × Int32) :=
  (Option.bind (fX9_isReceipt ms x1 x2) (fun q1 => (if q1 = 0 then (Option.bind (fX9_fails (0 : Int32) (1 : Int32)) (fun q8 => (some (q8.1, ms, msv, q8.2, mn)))) else (Option.bind (fX9_saves ms msv mn) (fun q3 => (Option.bind (fX9_totalOf ms x1 x2) (fun q4 => (Option.bind (fX9_placeOf x1 x2) (fun q5 => (Option.bind (fX9_sumOf ms x1 x2) (fun q6 => (Option.bind (aput ms 531 (q5 + (7 : Int32)) q6) (fun c7 => (some (q4, c7, q3.1, (0 : Int32), q3.2)))))))))))))))
set_option maxHeartbeats 4000000 in
set_option maxRecDepth 100000 in
theorem mX9_correct {l : Launch} {D : va_G} {bd : Nat → Nat} {cI : ClassId} {ms : (Nat → Int32)} {msv : (Nat → Int32)} {mb : (Nat → Int32)} {mf : (Nat → Int32)} {mr : (Nat → Int32)} {mt : Int32} {mn : Int32} {ml : Int32} {mat : Int32} {mw : Int32} {mm : Int32} {mh : Int64} {x1 : Int32} {x2 : Int32} {r : Int32} {ms' : (Nat → Int32)} {msv' : (Nat → Int32)} {mt' : Int32} {mn' : Int32} (hs : fX9_correct ms msv mt mn x1 x2 = some (r, ms', msv', mt', mn')) : nd_C l yX9_correct cX9_correct 4 (some .int) 3 65 D [(cI, .int)] [.ref (bd 0), .int x1, .int x2] (MW bd cI ms msv mb mf mr mt mn ml mat mw mm mh) (MW bd cI ms' msv' mb mf mr mt' mn' ml mat mw mm mh) (some (.int r)) := by
  refine nd_ofCi (by decide) (Nat.le_of_ble_eq_true rfl) (fun p e s m args below meth c_ ls A Q hx hb hml hown hts hl hP hK hD hS hA hN hret => ?_)
  have hown : s.vm.findClass RX9 = some m.cls := hown
  have hl : lv_has ls 4 [(0, .ref (bd 0)), (1, .int x1), (2, .int x2)] := hl
  have hret : ∀ (z0 : Int32) (z1 : (Nat → Int32)) (z2 : (Nat → Int32)) (z3 : Int32) (z4 : Int32) {H : Heap} {locs : List Loc} {pc : Nat} {ls : Array Slot}, some (z0, z1, z2, z3, z4) = some (r, ms', msv', mt', mn') → va_P D vwCl (MW bd cI z1 z2 mb mf mr z3 z4 ml mat mw mm mh) H → va_S A s.heap H locs → decode cX9_correct pc = .ok (.ireturn, 1) → W p l e ⟨3, 0, 0, 65⟩ s m args below meth c_ H locs 0 0 Q (F0 m pc ls [.int z0]) := by
    intro z0 z1 z2 z3 z4 H locs pc ls h hP hS hd
    cases h
    exact hret hP hS hd
  rw [fX9_correct] at hs
  refine lv_aload_n hx hb dX9_correct_0 rfl (lv_at hl 0 rfl) ?_
  refine lv_iconst (v := (0 : Int32)) hx hb dX9_correct_1 (by decide) ?_
  refine pf_X9_25 hx hb hts hown hK hP hD hS 0 rfl rfl dX9_correct_2 (fun H locs hP hD hS => ?_)
  have hP : va_P D vwCl (MW bd cI ms msv mb mf mr (0 : Int32) mn ml mat mw mm mh) H := hP
  have hD : va_D A (MW bd cI ms msv mb mf mr (0 : Int32) mn ml mat mw mm mh) := hD
  refine lv_aload_n hx hb dX9_correct_5 rfl (lv_at hl 0 rfl) ?_
  refine lv_iload_n hx hb dX9_correct_6 rfl (lv_at hl 1 rfl) ?_
  refine lv_iload_n hx hb dX9_correct_7 rfl (lv_at hl 2 rfl) ?_
  obtain ⟨q1, eq1, hs⟩ := ob hs
  refine nd_callV (As := [.int x1, .int x2]) (rest := []) (st1 := [.int q1]) hx hb hml hown hts hl hP hK hD hS hA hN (mX9_isReceipt eq1) iv_X9_isReceipt wd_364 0 rfl rfl rfl rfl ⟨Nat.le_of_ble_eq_true rfl, Nat.le_of_ble_eq_true rfl⟩ (Nat.le_of_ble_eq_true rfl) ⟨Nat.zero_le _, Nat.zero_le _⟩ dX9_correct_8 rfl rfl (fun H locs hP hD hS => ?_)
  refine lv_if_ne (tgt := 20) hx hb dX9_correct_11 (by decide) (fun b2 => ?_) (fun b2 => ?_)
  · have hs := ite_f hs b2
    refine lv_aload_n hx hb dX9_correct_20 rfl (lv_at hl 0 rfl) ?_
    obtain ⟨q3, eq3, hs⟩ := ob hs
    refine nd_callV (As := []) (rest := []) (st1 := []) hx hb hml hown hts hl hP hK hD hS hA hN (mX9_saves eq3) iv_X9_saves wd_134 0 rfl rfl rfl rfl ⟨Nat.le_of_ble_eq_true rfl, Nat.le_of_ble_eq_true rfl⟩ (Nat.le_of_ble_eq_true rfl) ⟨Nat.zero_le _, Nat.zero_le _⟩ dX9_correct_21 rfl rfl (fun H locs hP hD hS => ?_)
    refine lv_aload_n hx hb dX9_correct_24 rfl (lv_at hl 0 rfl) ?_
    refine lv_iload_n hx hb dX9_correct_25 rfl (lv_at hl 1 rfl) ?_
    refine lv_iload_n hx hb dX9_correct_26 rfl (lv_at hl 2 rfl) ?_
    obtain ⟨q4, eq4, hs⟩ := ob hs
    refine nd_callV (As := [.int x1, .int x2]) (rest := []) (st1 := [.int q4]) hx hb hml hown hts hl hP hK hD hS hA hN (mX9_totalOf eq4) iv_X9_totalOf wd_368 0 rfl rfl rfl rfl ⟨Nat.le_of_ble_eq_true rfl, Nat.le_of_ble_eq_true rfl⟩ (Nat.le_of_ble_eq_true rfl) ⟨Nat.zero_le _, Nat.zero_le _⟩ dX9_correct_27 rfl rfl (fun H locs hP hD hS => ?_)
    refine lv_istore_n (lv' := [(3, .int q4), (0, .ref (bd 0)), (1, .int x1), (2, .int x2)]) hx hb dX9_correct_30 rfl hl (by decide) rfl (fun ls hl => ?_)
    refine lv_aload_n hx hb dX9_correct_31 rfl (lv_at hl 1 rfl) ?_
    refine gf_X9_7 hx hb hts hown hK hP 0 rfl rfl dX9_correct_32 ?_
    refine lv_iload_n hx hb dX9_correct_35 rfl (lv_at hl 2 rfl) ?_
    refine lv_iload_n hx hb dX9_correct_36 rfl (lv_at hl 3 rfl) ?_
    obtain ⟨q5, eq5, hs⟩ := ob hs
    refine nd_callS (As := [.int x1, .int x2]) (rest := [.ref (bd 1)]) (st1 := [.int q5, .ref (bd 1)]) hx hb hml hown hts hl hP hK hD hS hA hN (mX9_placeOf eq5) is_X9_placeOf wd_319 rfl rfl ⟨Nat.le_of_ble_eq_true rfl, Nat.le_of_ble_eq_true rfl⟩ (Nat.le_of_ble_eq_true rfl) ⟨Nat.zero_le _, Nat.zero_le _⟩ dX9_correct_37 rfl rfl (fun H locs hP hD hS => ?_)
    refine lv_bipush (v := (7 : Int32)) hx hb dX9_correct_40 (by decide) ?_
    refine lv_iadd hx hb dX9_correct_42 ?_
    refine lv_aload_n hx hb dX9_correct_43 rfl (lv_at hl 1 rfl) ?_
    refine lv_iload_n hx hb dX9_correct_44 rfl (lv_at hl 2 rfl) ?_
    refine lv_iload_n hx hb dX9_correct_45 rfl (lv_at hl 3 rfl) ?_
    obtain ⟨q6, eq6, hs⟩ := ob hs
    refine nd_callV (As := [.int x1, .int x2]) (rest := [.int (q5 + (7 : Int32)), .ref (bd 1)]) (st1 := [.int q6, .int (q5 + (7 : Int32)), .ref (bd 1)]) hx hb hml hown hts hl hP hK hD hS hA hN (mX9_sumOf eq6) iv_X9_sumOf wd_345 0 rfl rfl rfl rfl ⟨Nat.le_of_ble_eq_true rfl, Nat.le_of_ble_eq_true rfl⟩ (Nat.le_of_ble_eq_true rfl) ⟨Nat.zero_le _, Nat.zero_le _⟩ dX9_correct_46 rfl rfl (fun H locs hP hD hS => ?_)
    obtain ⟨c7, ec7, hs⟩ := ob hs
    refine nd_iast hx hb hK hP hD hS 1 0 rfl rfl ec7 dX9_correct_49 (fun H locs hP hD hS => ?_)
    have hP : va_P D vwCl (MW bd cI c7 q3.1 mb mf mr (0 : Int32) q3.2 ml mat mw mm mh) H := hP
    have hD : va_D A (MW bd cI c7 q3.1 mb mf mr (0 : Int32) q3.2 ml mat mw mm mh) := hD
    refine lv_iload_n hx hb dX9_correct_50 rfl (lv_at hl 0 rfl) ?_
    exact hret _ _ _ _ _ hs hP hS dX9_correct_51
  · have hs := ite_t hs b2
    refine lv_aload_n hx hb dX9_correct_14 rfl (lv_at hl 0 rfl) ?_
    refine lv_iconst (v := (1 : Int32)) hx hb dX9_correct_15 (by decide) ?_
    obtain ⟨q8, eq8, hs⟩ := ob hs
    refine nd_callV (As := [.int (1 : Int32)]) (rest := []) (st1 := [.int q8.1]) hx hb hml hown hts hl hP hK hD hS hA hN (mX9_fails eq8) iv_X9_fails wd_130 0 rfl rfl rfl rfl ⟨Nat.le_of_ble_eq_true rfl, Nat.le_of_ble_eq_true rfl⟩ (Nat.le_of_ble_eq_true rfl) ⟨Nat.zero_le _, Nat.zero_le _⟩ dX9_correct_16 rfl rfl (fun H locs hP hD hS => ?_)
    exact hret _ _ _ _ _ hs hP hS dX9_correct_19
def tX9_join_0 : List (Nat × Instr × Nat) := [(0, .aload_n 0, 1), (1, .iconst 0, 1), (2, .putfield 25, 3), (5, .aload_n 0, 1), (6, .iload_n 1, 1), (7, .invokevirtual 85, 3), (10, .ifCond .eq 11, 3), (13, .aload_n 0, 1), (14, .iload_n 2, 1), (15, .invokevirtual 85, 3), (18, .ifCond .ne 9, 3), (21, .aload_n 0, 1), (22, .iconst 1, 1), (23, .invokevirtual 79, 3), (26, .ireturn, 1), (27, .aload_n 0, 1), (28, .iload_n 1, 1), (29, .iload_n 2, 1), (30, .invokevirtual 72, 3), (33, .ifCond .eq 9, 3), (36, .aload_n 0, 1), (37, .iconst 2, 1), (38, .invokevirtual 79, 3), (41, .ireturn, 1), (42, .aload_n 0, 1), (43, .invokevirtual 82, 3), (46, .aload_n 0, 1), (47, .iload_n 1, 1), (48, .iload_n 2, 1), (49, .invokevirtual 111, 3), (52, .aload_n 0, 1), (53, .iload_n 1, 1), (54, .invokevirtual 115, 3), (57, .ireturn, 1)]
theorem tX9_join_0_ok : tX9_join_0.all (fun q => decide (decode cX9_join q.1 = .ok q.2)) = true := by decide +kernel
theorem dX9_join_0 : decode cX9_join 0 = .ok (.aload_n 0, 1) := td tX9_join_0_ok 0 (q := (0, .aload_n 0, 1)) rfl
theorem dX9_join_1 : decode cX9_join 1 = .ok (.iconst 0, 1) := td tX9_join_0_ok 1 (q := (1, .iconst 0, 1)) rfl
theorem dX9_join_2 : decode cX9_join 2 = .ok (.putfield 25, 3) := td tX9_join_0_ok 2 (q := (2, .putfield 25, 3)) rfl
theorem dX9_join_5 : decode cX9_join 5 = .ok (.aload_n 0, 1) := td tX9_join_0_ok 3 (q := (5, .aload_n 0, 1)) rfl
theorem dX9_join_6 : decode cX9_join 6 = .ok (.iload_n 1, 1) := td tX9_join_0_ok 4 (q := (6, .iload_n 1, 1)) rfl
theorem dX9_join_7 : decode cX9_join 7 = .ok (.invokevirtual 85, 3) := td tX9_join_0_ok 5 (q := (7, .invokevirtual 85, 3)) rfl
theorem dX9_join_10 : decode cX9_join 10 = .ok (.ifCond .eq 11, 3) := td tX9_join_0_ok 6 (q := (10, .ifCond .eq 11, 3)) rfl
theorem dX9_join_13 : decode cX9_join 13 = .ok (.aload_n 0, 1) := td tX9_join_0_ok 7 (q := (13, .aload_n 0, 1)) rfl
theorem dX9_join_14 : decode cX9_join 14 = .ok (.iload_n 2, 1) := td tX9_join_0_ok 8 (q := (14, .iload_n 2, 1)) rfl
theorem dX9_join_15 : decode cX9_join 15 = .ok (.invokevirtual 85, 3) := td tX9_join_0_ok 9 (q := (15, .invokevirtual 85, 3)) rfl
theorem dX9_join_18 : decode cX9_join 18 = .ok (.ifCond .ne 9, 3) := td tX9_join_0_ok 10 (q := (18, .ifCond .ne 9, 3)) rfl
theorem dX9_join_21 : decode cX9_join 21 = .ok (.aload_n 0, 1) := td tX9_join_0_ok 11 (q := (21, .aload_n 0, 1)) rfl
theorem dX9_join_22 : decode cX9_join 22 = .ok (.iconst 1, 1) := td tX9_join_0_ok 12 (q := (22, .iconst 1, 1)) rfl
theorem dX9_join_23 : decode cX9_join 23 = .ok (.invokevirtual 79, 3) := td tX9_join_0_ok 13 (q := (23, .invokevirtual 79, 3)) rfl
theorem dX9_join_26 : decode cX9_join 26 = .ok (.ireturn, 1) := td tX9_join_0_ok 14 (q := (26, .ireturn, 1)) rfl
theorem dX9_join_27 : decode cX9_join 27 = .ok (.aload_n 0, 1) := td tX9_join_0_ok 15 (q := (27, .aload_n 0, 1)) rfl
theorem dX9_join_28 : decode cX9_join 28 = .ok (.iload_n 1, 1) := td tX9_join_0_ok 16 (q := (28, .iload_n 1, 1)) rfl
theorem dX9_join_29 : decode cX9_join 29 = .ok (.iload_n 2, 1) := td tX9_join_0_ok 17 (q := (29, .iload_n 2, 1)) rfl
theorem dX9_join_30 : decode cX9_join 30 = .ok (.invokevirtual 72, 3) := td tX9_join_0_ok 18 (q := (30, .invokevirtual 72, 3)) rfl
theorem dX9_join_33 : decode cX9_join 33 = .ok (.ifCond .eq 9, 3) := td tX9_join_0_ok 19 (q := (33, .ifCond .eq 9, 3)) rfl
theorem dX9_join_36 : decode cX9_join 36 = .ok (.aload_n 0, 1) := td tX9_join_0_ok 20 (q := (36, .aload_n 0, 1)) rfl
theorem dX9_join_37 : decode cX9_join 37 = .ok (.iconst 2, 1) := td tX9_join_0_ok 21 (q := (37, .iconst 2, 1)) rfl
theorem dX9_join_38 : decode cX9_join 38 = .ok (.invokevirtual 79, 3) := td tX9_join_0_ok 22 (q := (38, .invokevirtual 79, 3)) rfl
theorem dX9_join_41 : decode cX9_join 41 = .ok (.ireturn, 1) := td tX9_join_0_ok 23 (q := (41, .ireturn, 1)) rfl
theorem dX9_join_42 : decode cX9_join 42 = .ok (.aload_n 0, 1) := td tX9_join_0_ok 24 (q := (42, .aload_n 0, 1)) rfl
theorem dX9_join_43 : decode cX9_join 43 = .ok (.invokevirtual 82, 3) := td tX9_join_0_ok 25 (q := (43, .invokevirtual 82, 3)) rfl
theorem dX9_join_46 : decode cX9_join 46 = .ok (.aload_n 0, 1) := td tX9_join_0_ok 26 (q := (46, .aload_n 0, 1)) rfl
theorem dX9_join_47 : decode cX9_join 47 = .ok (.iload_n 1, 1) := td tX9_join_0_ok 27 (q := (47, .iload_n 1, 1)) rfl
theorem dX9_join_48 : decode cX9_join 48 = .ok (.iload_n 2, 1) := td tX9_join_0_ok 28 (q := (48, .iload_n 2, 1)) rfl
theorem dX9_join_49 : decode cX9_join 49 = .ok (.invokevirtual 111, 3) := td tX9_join_0_ok 29 (q := (49, .invokevirtual 111, 3)) rfl
theorem dX9_join_52 : decode cX9_join 52 = .ok (.aload_n 0, 1) := td tX9_join_0_ok 30 (q := (52, .aload_n 0, 1)) rfl
theorem dX9_join_53 : decode cX9_join 53 = .ok (.iload_n 1, 1) := td tX9_join_0_ok 31 (q := (53, .iload_n 1, 1)) rfl
theorem dX9_join_54 : decode cX9_join 54 = .ok (.invokevirtual 115, 3) := td tX9_join_0_ok 32 (q := (54, .invokevirtual 115, 3)) rfl
theorem dX9_join_57 : decode cX9_join 57 = .ok (.ireturn, 1) := td tX9_join_0_ok 33 (q := (57, .ireturn, 1)) rfl
def fX9_join (ms : (Nat → Int32)) (msv : (Nat → Int32)) (mt : Int32) (mn : Int32) (x1 : Int32) (x2 : Int32) : Option (Int32 × (Nat → Int32) × (Nat → Int32) × Int32 × Int32) :=
  (Option.bind (fX9_isPiece ms x1) (fun q1 => (if q1 = 0 then (Option.bind (fX9_fails (0 : Int32) (1 : Int32)) (fun q3 => (some (q3.1, ms, msv, q3.2, mn)))) else (Option.bind (fX9_isPiece ms x2) (fun q4 => (if q4 = 0 then (Option.bind (fX9_fails (0 : Int32) (1 : Int32)) (fun q12 => (some (q12.1, ms, msv, q12.2, mn)))) else (Option.bind (fX9_fitting ms x1 x2) (fun q6 => (if q6 = 0 then (Option.bind (fX9_saves ms msv mn) (fun q8 => (Option.bind (fX9_joins ms x1 x2) (fun q9 => (Option.bind (fX9_piecesOfRoll q9 x1) (fun q10 => (some (q10, q9, q8.1, (0 : Int32), q8.2)))))))) else (Option.bind (fX9_fails (0 : Int32) (2 : Int32)) (fun q11 => (some (q11.1, ms, msv, q11.2, mn)))))))))))))
set_option maxHeartbeats 4000000 in
set_option maxRecDepth 100000 in
theorem mX9_join {l : Launch} {D : va_G} {bd : Nat → Nat} {cI : ClassId} {ms : (Nat → Int32)} {msv : (Nat → Int32)} {mb : (Nat → Int32)} {mf : (Nat → Int32)} {mr : (Nat → Int32)} {mt : Int32} {mn : Int32} {ml : Int32} {mat : Int32} {mw : Int32} {mm : Int32} {mh : Int64} {x1 : Int32} {x2 : Int32} {r : Int32} {ms' : (Nat → Int32)} {msv' : (Nat → Int32)} {mt' : Int32} {mn' : Int32} (hs : fX9_join ms msv mt mn x1 x2 = some (r, ms', msv', mt', mn')) : nd_C l yX9_join cX9_join 3 (some .int) 4 88 D [(cI, .int)] [.ref (bd 0), .int x1, .int x2] (MW bd cI ms msv mb mf mr mt mn ml mat mw mm mh) (MW bd cI ms' msv' mb mf mr mt' mn' ml mat mw mm mh) (some (.int r)) := by
  refine nd_ofCi (by decide) (Nat.le_of_ble_eq_true rfl) (fun p e s m args below meth c_ ls A Q hx hb hml hown hts hl hP hK hD hS hA hN hret => ?_)
  have hown : s.vm.findClass RX9 = some m.cls := hown
  have hl : lv_has ls 3 [(0, .ref (bd 0)), (1, .int x1), (2, .int x2)] := hl
  have hret : ∀ (z0 : Int32) (z1 : (Nat → Int32)) (z2 : (Nat → Int32)) (z3 : Int32) (z4 : Int32) {H : Heap} {locs : List Loc} {pc : Nat} {ls : Array Slot}, some (z0, z1, z2, z3, z4) = some (r, ms', msv', mt', mn') → va_P D vwCl (MW bd cI z1 z2 mb mf mr z3 z4 ml mat mw mm mh) H → va_S A s.heap H locs → decode cX9_join pc = .ok (.ireturn, 1) → W p l e ⟨4, 0, 0, 88⟩ s m args below meth c_ H locs 0 0 Q (F0 m pc ls [.int z0]) := by
    intro z0 z1 z2 z3 z4 H locs pc ls h hP hS hd
    cases h
    exact hret hP hS hd
  rw [fX9_join] at hs
  refine lv_aload_n hx hb dX9_join_0 rfl (lv_at hl 0 rfl) ?_
  refine lv_iconst (v := (0 : Int32)) hx hb dX9_join_1 (by decide) ?_
  refine pf_X9_25 hx hb hts hown hK hP hD hS 0 rfl rfl dX9_join_2 (fun H locs hP hD hS => ?_)
  have hP : va_P D vwCl (MW bd cI ms msv mb mf mr (0 : Int32) mn ml mat mw mm mh) H := hP
  have hD : va_D A (MW bd cI ms msv mb mf mr (0 : Int32) mn ml mat mw mm mh) := hD
  refine lv_aload_n hx hb dX9_join_5 rfl (lv_at hl 0 rfl) ?_
  refine lv_iload_n hx hb dX9_join_6 rfl (lv_at hl 1 rfl) ?_
  obtain ⟨q1, eq1, hs⟩ := ob hs
  refine nd_callV (As := [.int x1]) (rest := []) (st1 := [.int q1]) hx hb hml hown hts hl hP hK hD hS hA hN (mX9_isPiece eq1) iv_X9_isPiece wd_274 0 rfl rfl rfl rfl ⟨Nat.le_of_ble_eq_true rfl, Nat.le_of_ble_eq_true rfl⟩ (Nat.le_of_ble_eq_true rfl) ⟨Nat.zero_le _, Nat.zero_le _⟩ dX9_join_7 rfl rfl (fun H locs hP hD hS => ?_)
  refine lv_if_eq (tgt := 21) hx hb dX9_join_10 (by decide) (fun b2 => ?_) (fun b2 => ?_)
  · have hs := ite_t hs b2
    refine lv_aload_n hx hb dX9_join_21 rfl (lv_at hl 0 rfl) ?_
    refine lv_iconst (v := (1 : Int32)) hx hb dX9_join_22 (by decide) ?_
    obtain ⟨q3, eq3, hs⟩ := ob hs
    refine nd_callV (As := [.int (1 : Int32)]) (rest := []) (st1 := [.int q3.1]) hx hb hml hown hts hl hP hK hD hS hA hN (mX9_fails eq3) iv_X9_fails wd_130 0 rfl rfl rfl rfl ⟨Nat.le_of_ble_eq_true rfl, Nat.le_of_ble_eq_true rfl⟩ (Nat.le_of_ble_eq_true rfl) ⟨Nat.zero_le _, Nat.zero_le _⟩ dX9_join_23 rfl rfl (fun H locs hP hD hS => ?_)
    exact hret _ _ _ _ _ hs hP hS dX9_join_26
  · have hs := ite_f hs b2
    refine lv_aload_n hx hb dX9_join_13 rfl (lv_at hl 0 rfl) ?_
    refine lv_iload_n hx hb dX9_join_14 rfl (lv_at hl 2 rfl) ?_
    obtain ⟨q4, eq4, hs⟩ := ob hs
    refine nd_callV (As := [.int x2]) (rest := []) (st1 := [.int q4]) hx hb hml hown hts hl hP hK hD hS hA hN (mX9_isPiece eq4) iv_X9_isPiece wd_274 0 rfl rfl rfl rfl ⟨Nat.le_of_ble_eq_true rfl, Nat.le_of_ble_eq_true rfl⟩ (Nat.le_of_ble_eq_true rfl) ⟨Nat.zero_le _, Nat.zero_le _⟩ dX9_join_15 rfl rfl (fun H locs hP hD hS => ?_)
    refine lv_if_ne (tgt := 27) hx hb dX9_join_18 (by decide) (fun b5 => ?_) (fun b5 => ?_)
    · have hs := ite_f hs b5
      refine lv_aload_n hx hb dX9_join_27 rfl (lv_at hl 0 rfl) ?_
      refine lv_iload_n hx hb dX9_join_28 rfl (lv_at hl 1 rfl) ?_
      refine lv_iload_n hx hb dX9_join_29 rfl (lv_at hl 2 rfl) ?_
      obtain ⟨q6, eq6, hs⟩ := ob hs
      refine nd_callV (As := [.int x1, .int x2]) (rest := []) (st1 := [.int q6]) hx hb hml hown hts hl hP hK hD hS hA hN (mX9_fitting eq6) iv_X9_fitting wd_403 0 rfl rfl rfl rfl ⟨Nat.le_of_ble_eq_true rfl, Nat.le_of_ble_eq_true rfl⟩ (Nat.le_of_ble_eq_true rfl) ⟨Nat.zero_le _, Nat.zero_le _⟩ dX9_join_30 rfl rfl (fun H locs hP hD hS => ?_)
      refine lv_if_eq (tgt := 42) hx hb dX9_join_33 (by decide) (fun b7 => ?_) (fun b7 => ?_)
      · have hs := ite_t hs b7
        refine lv_aload_n hx hb dX9_join_42 rfl (lv_at hl 0 rfl) ?_
        obtain ⟨q8, eq8, hs⟩ := ob hs
        refine nd_callV (As := []) (rest := []) (st1 := []) hx hb hml hown hts hl hP hK hD hS hA hN (mX9_saves eq8) iv_X9_saves wd_134 0 rfl rfl rfl rfl ⟨Nat.le_of_ble_eq_true rfl, Nat.le_of_ble_eq_true rfl⟩ (Nat.le_of_ble_eq_true rfl) ⟨Nat.zero_le _, Nat.zero_le _⟩ dX9_join_43 rfl rfl (fun H locs hP hD hS => ?_)
        refine lv_aload_n hx hb dX9_join_46 rfl (lv_at hl 0 rfl) ?_
        refine lv_iload_n hx hb dX9_join_47 rfl (lv_at hl 1 rfl) ?_
        refine lv_iload_n hx hb dX9_join_48 rfl (lv_at hl 2 rfl) ?_
        obtain ⟨q9, eq9, hs⟩ := ob hs
        refine nd_callV (As := [.int x1, .int x2]) (rest := []) (st1 := []) hx hb hml hown hts hl hP hK hD hS hA hN (mX9_joins eq9) iv_X9_joins wd_411 0 rfl rfl rfl rfl ⟨Nat.le_of_ble_eq_true rfl, Nat.le_of_ble_eq_true rfl⟩ (Nat.le_of_ble_eq_true rfl) ⟨Nat.zero_le _, Nat.zero_le _⟩ dX9_join_49 rfl rfl (fun H locs hP hD hS => ?_)
        refine lv_aload_n hx hb dX9_join_52 rfl (lv_at hl 0 rfl) ?_
        refine lv_iload_n hx hb dX9_join_53 rfl (lv_at hl 1 rfl) ?_
        obtain ⟨q10, eq10, hs⟩ := ob hs
        refine nd_callV (As := [.int x1]) (rest := []) (st1 := [.int q10]) hx hb hml hown hts hl hP hK hD hS hA hN (mX9_piecesOfRoll eq10) iv_X9_piecesOfRoll wd_415 0 rfl rfl rfl rfl ⟨Nat.le_of_ble_eq_true rfl, Nat.le_of_ble_eq_true rfl⟩ (Nat.le_of_ble_eq_true rfl) ⟨Nat.zero_le _, Nat.zero_le _⟩ dX9_join_54 rfl rfl (fun H locs hP hD hS => ?_)
        exact hret _ _ _ _ _ hs hP hS dX9_join_57
      · have hs := ite_f hs b7
        refine lv_aload_n hx hb dX9_join_36 rfl (lv_at hl 0 rfl) ?_
        refine lv_iconst (v := (2 : Int32)) hx hb dX9_join_37 (by decide) ?_
        obtain ⟨q11, eq11, hs⟩ := ob hs
        refine nd_callV (As := [.int (2 : Int32)]) (rest := []) (st1 := [.int q11.1]) hx hb hml hown hts hl hP hK hD hS hA hN (mX9_fails eq11) iv_X9_fails wd_130 0 rfl rfl rfl rfl ⟨Nat.le_of_ble_eq_true rfl, Nat.le_of_ble_eq_true rfl⟩ (Nat.le_of_ble_eq_true rfl) ⟨Nat.zero_le _, Nat.zero_le _⟩ dX9_join_38 rfl rfl (fun H locs hP hD hS => ?_)
        exact hret _ _ _ _ _ hs hP hS dX9_join_41
    · have hs := ite_t hs b5
      refine lv_aload_n hx hb dX9_join_21 rfl (lv_at hl 0 rfl) ?_
      refine lv_iconst (v := (1 : Int32)) hx hb dX9_join_22 (by decide) ?_
      obtain ⟨q12, eq12, hs⟩ := ob hs
      refine nd_callV (As := [.int (1 : Int32)]) (rest := []) (st1 := [.int q12.1]) hx hb hml hown hts hl hP hK hD hS hA hN (mX9_fails eq12) iv_X9_fails wd_130 0 rfl rfl rfl rfl ⟨Nat.le_of_ble_eq_true rfl, Nat.le_of_ble_eq_true rfl⟩ (Nat.le_of_ble_eq_true rfl) ⟨Nat.zero_le _, Nat.zero_le _⟩ dX9_join_23 rfl rfl (fun H locs hP hD hS => ?_)
      exact hret _ _ _ _ _ hs hP hS dX9_join_26
def tX9_part_0 : List (Nat × Instr × Nat) := [(0, .aload_n 0, 1), (1, .iconst 0, 1), (2, .putfield 25, 3), (5, .aload_n 0, 1), (6, .iload_n 1, 1), (7, .invokevirtual 85, 3), (10, .ifCond .ne 9, 3), (13, .aload_n 0, 1), (14, .iconst 1, 1), (15, .invokevirtual 79, 3), (18, .ireturn, 1), (19, .aload_n 0, 1), (20, .iload_n 1, 1), (21, .invokevirtual 60, 3), (24, .istore_n 2, 1), (25, .iload_n 2, 1), (26, .iconst (-1), 1), (27, .if_icmp .ne 9, 3), (30, .aload_n 0, 1), (31, .iconst 2, 1), (32, .invokevirtual 79, 3), (35, .ireturn, 1), (36, .aload_n 0, 1), (37, .invokevirtual 82, 3), (40, .aload_n 0, 1), (41, .iload_n 1, 1), (42, .iconst 4, 1), (43, .iconst 0, 1), (44, .invokevirtual 75, 3), (47, .aload_n 0, 1), (48, .iload_n 2, 1), (49, .iconst 3, 1), (50, .iconst 0, 1), (51, .invokevirtual 75, 3), (54, .iload_n 2, 1), (55, .ireturn, 1)]
theorem tX9_part_0_ok : tX9_part_0.all (fun q => decide (decode cX9_part q.1 = .ok q.2)) = true := by decide +kernel
theorem dX9_part_0 : decode cX9_part 0 = .ok (.aload_n 0, 1) := td tX9_part_0_ok 0 (q := (0, .aload_n 0, 1)) rfl
theorem dX9_part_1 : decode cX9_part 1 = .ok (.iconst 0, 1) := td tX9_part_0_ok 1 (q := (1, .iconst 0, 1)) rfl
theorem dX9_part_2 : decode cX9_part 2 = .ok (.putfield 25, 3) := td tX9_part_0_ok 2 (q := (2, .putfield 25, 3)) rfl
theorem dX9_part_5 : decode cX9_part 5 = .ok (.aload_n 0, 1) := td tX9_part_0_ok 3 (q := (5, .aload_n 0, 1)) rfl
theorem dX9_part_6 : decode cX9_part 6 = .ok (.iload_n 1, 1) := td tX9_part_0_ok 4 (q := (6, .iload_n 1, 1)) rfl
theorem dX9_part_7 : decode cX9_part 7 = .ok (.invokevirtual 85, 3) := td tX9_part_0_ok 5 (q := (7, .invokevirtual 85, 3)) rfl
theorem dX9_part_10 : decode cX9_part 10 = .ok (.ifCond .ne 9, 3) := td tX9_part_0_ok 6 (q := (10, .ifCond .ne 9, 3)) rfl
theorem dX9_part_13 : decode cX9_part 13 = .ok (.aload_n 0, 1) := td tX9_part_0_ok 7 (q := (13, .aload_n 0, 1)) rfl
theorem dX9_part_14 : decode cX9_part 14 = .ok (.iconst 1, 1) := td tX9_part_0_ok 8 (q := (14, .iconst 1, 1)) rfl
theorem dX9_part_15 : decode cX9_part 15 = .ok (.invokevirtual 79, 3) := td tX9_part_0_ok 9 (q := (15, .invokevirtual 79, 3)) rfl
theorem dX9_part_18 : decode cX9_part 18 = .ok (.ireturn, 1) := td tX9_part_0_ok 10 (q := (18, .ireturn, 1)) rfl
theorem dX9_part_19 : decode cX9_part 19 = .ok (.aload_n 0, 1) := td tX9_part_0_ok 11 (q := (19, .aload_n 0, 1)) rfl
theorem dX9_part_20 : decode cX9_part 20 = .ok (.iload_n 1, 1) := td tX9_part_0_ok 12 (q := (20, .iload_n 1, 1)) rfl
theorem dX9_part_21 : decode cX9_part 21 = .ok (.invokevirtual 60, 3) := td tX9_part_0_ok 13 (q := (21, .invokevirtual 60, 3)) rfl
theorem dX9_part_24 : decode cX9_part 24 = .ok (.istore_n 2, 1) := td tX9_part_0_ok 14 (q := (24, .istore_n 2, 1)) rfl
theorem dX9_part_25 : decode cX9_part 25 = .ok (.iload_n 2, 1) := td tX9_part_0_ok 15 (q := (25, .iload_n 2, 1)) rfl
theorem dX9_part_26 : decode cX9_part 26 = .ok (.iconst (-1), 1) := td tX9_part_0_ok 16 (q := (26, .iconst (-1), 1)) rfl
theorem dX9_part_27 : decode cX9_part 27 = .ok (.if_icmp .ne 9, 3) := td tX9_part_0_ok 17 (q := (27, .if_icmp .ne 9, 3)) rfl
theorem dX9_part_30 : decode cX9_part 30 = .ok (.aload_n 0, 1) := td tX9_part_0_ok 18 (q := (30, .aload_n 0, 1)) rfl
theorem dX9_part_31 : decode cX9_part 31 = .ok (.iconst 2, 1) := td tX9_part_0_ok 19 (q := (31, .iconst 2, 1)) rfl
theorem dX9_part_32 : decode cX9_part 32 = .ok (.invokevirtual 79, 3) := td tX9_part_0_ok 20 (q := (32, .invokevirtual 79, 3)) rfl
theorem dX9_part_35 : decode cX9_part 35 = .ok (.ireturn, 1) := td tX9_part_0_ok 21 (q := (35, .ireturn, 1)) rfl
theorem dX9_part_36 : decode cX9_part 36 = .ok (.aload_n 0, 1) := td tX9_part_0_ok 22 (q := (36, .aload_n 0, 1)) rfl
theorem dX9_part_37 : decode cX9_part 37 = .ok (.invokevirtual 82, 3) := td tX9_part_0_ok 23 (q := (37, .invokevirtual 82, 3)) rfl
theorem dX9_part_40 : decode cX9_part 40 = .ok (.aload_n 0, 1) := td tX9_part_0_ok 24 (q := (40, .aload_n 0, 1)) rfl
theorem dX9_part_41 : decode cX9_part 41 = .ok (.iload_n 1, 1) := td tX9_part_0_ok 25 (q := (41, .iload_n 1, 1)) rfl
theorem dX9_part_42 : decode cX9_part 42 = .ok (.iconst 4, 1) := td tX9_part_0_ok 26 (q := (42, .iconst 4, 1)) rfl
theorem dX9_part_43 : decode cX9_part 43 = .ok (.iconst 0, 1) := td tX9_part_0_ok 27 (q := (43, .iconst 0, 1)) rfl
theorem dX9_part_44 : decode cX9_part 44 = .ok (.invokevirtual 75, 3) := td tX9_part_0_ok 28 (q := (44, .invokevirtual 75, 3)) rfl
theorem dX9_part_47 : decode cX9_part 47 = .ok (.aload_n 0, 1) := td tX9_part_0_ok 29 (q := (47, .aload_n 0, 1)) rfl
theorem dX9_part_48 : decode cX9_part 48 = .ok (.iload_n 2, 1) := td tX9_part_0_ok 30 (q := (48, .iload_n 2, 1)) rfl
theorem dX9_part_49 : decode cX9_part 49 = .ok (.iconst 3, 1) := td tX9_part_0_ok 31 (q := (49, .iconst 3, 1)) rfl
theorem dX9_part_50 : decode cX9_part 50 = .ok (.iconst 0, 1) := td tX9_part_0_ok 32 (q := (50, .iconst 0, 1)) rfl
theorem dX9_part_51 : decode cX9_part 51 = .ok (.invokevirtual 75, 3) := td tX9_part_0_ok 33 (q := (51, .invokevirtual 75, 3)) rfl
theorem dX9_part_54 : decode cX9_part 54 = .ok (.iload_n 2, 1) := td tX9_part_0_ok 34 (q := (54, .iload_n 2, 1)) rfl
theorem dX9_part_55 : decode cX9_part 55 = .ok (.ireturn, 1) := td tX9_part_0_ok 35 (q := (55, .ireturn, 1)) rfl
def fX9_part (ms : (Nat → Int32)) (msv : (Nat → Int32)) (mt : Int32) (mn : Int32) (x1 : Int32) : Option (Int32 × (Nat → Int32) × (Nat → Int32) × Int32 × Int32) :=
  (Option.bind (fX9_isPiece ms x1) (fun q1 => (if q1 = 0 then (Option.bind (fX9_fails (0 : Int32) (1 : Int32)) (fun q9 => (some (q9.1, ms, msv, q9.2, mn)))) else (Option.bind (fX9_lowerOf ms x1) (fun q3 => (if q3 = (-1 : Int32) then (Option.bind (fX9_fails (0 : Int32) (2 : Int32)) (fun q8 => (some (q8.1, ms, msv, q8.2, mn)))) else (Option.bind (fX9_saves ms msv mn) (fun q5 => (Option.bind (fX9_lay ms x1 (4 : Int32) (0 : Int32)) (fun q6 => (Option.bind (fX9_lay q6 q3 (3 : Int32) (0 : Int32)) (fun q7 => (some (q3, q7, q5.1, (0 : Int32), q5.2))))))))))))))
set_option maxHeartbeats 4000000 in
set_option maxRecDepth 100000 in
theorem mX9_part {l : Launch} {D : va_G} {bd : Nat → Nat} {cI : ClassId} {ms : (Nat → Int32)} {msv : (Nat → Int32)} {mb : (Nat → Int32)} {mf : (Nat → Int32)} {mr : (Nat → Int32)} {mt : Int32} {mn : Int32} {ml : Int32} {mat : Int32} {mw : Int32} {mm : Int32} {mh : Int64} {x1 : Int32} {r : Int32} {ms' : (Nat → Int32)} {msv' : (Nat → Int32)} {mt' : Int32} {mn' : Int32} (hs : fX9_part ms msv mt mn x1 = some (r, ms', msv', mt', mn')) : nd_C l yX9_part cX9_part 3 (some .int) 2 43 D [(cI, .int)] [.ref (bd 0), .int x1] (MW bd cI ms msv mb mf mr mt mn ml mat mw mm mh) (MW bd cI ms' msv' mb mf mr mt' mn' ml mat mw mm mh) (some (.int r)) := by
  refine nd_ofCi (by decide) (Nat.le_of_ble_eq_true rfl) (fun p e s m args below meth c_ ls A Q hx hb hml hown hts hl hP hK hD hS hA hN hret => ?_)
  have hown : s.vm.findClass RX9 = some m.cls := hown
  have hl : lv_has ls 3 [(0, .ref (bd 0)), (1, .int x1)] := hl
  have hret : ∀ (z0 : Int32) (z1 : (Nat → Int32)) (z2 : (Nat → Int32)) (z3 : Int32) (z4 : Int32) {H : Heap} {locs : List Loc} {pc : Nat} {ls : Array Slot}, some (z0, z1, z2, z3, z4) = some (r, ms', msv', mt', mn') → va_P D vwCl (MW bd cI z1 z2 mb mf mr z3 z4 ml mat mw mm mh) H → va_S A s.heap H locs → decode cX9_part pc = .ok (.ireturn, 1) → W p l e ⟨2, 0, 0, 43⟩ s m args below meth c_ H locs 0 0 Q (F0 m pc ls [.int z0]) := by
    intro z0 z1 z2 z3 z4 H locs pc ls h hP hS hd
    cases h
    exact hret hP hS hd
  rw [fX9_part] at hs
  refine lv_aload_n hx hb dX9_part_0 rfl (lv_at hl 0 rfl) ?_
  refine lv_iconst (v := (0 : Int32)) hx hb dX9_part_1 (by decide) ?_
  refine pf_X9_25 hx hb hts hown hK hP hD hS 0 rfl rfl dX9_part_2 (fun H locs hP hD hS => ?_)
  have hP : va_P D vwCl (MW bd cI ms msv mb mf mr (0 : Int32) mn ml mat mw mm mh) H := hP
  have hD : va_D A (MW bd cI ms msv mb mf mr (0 : Int32) mn ml mat mw mm mh) := hD
  refine lv_aload_n hx hb dX9_part_5 rfl (lv_at hl 0 rfl) ?_
  refine lv_iload_n hx hb dX9_part_6 rfl (lv_at hl 1 rfl) ?_
  obtain ⟨q1, eq1, hs⟩ := ob hs
  refine nd_callV (As := [.int x1]) (rest := []) (st1 := [.int q1]) hx hb hml hown hts hl hP hK hD hS hA hN (mX9_isPiece eq1) iv_X9_isPiece wd_274 0 rfl rfl rfl rfl ⟨Nat.le_of_ble_eq_true rfl, Nat.le_of_ble_eq_true rfl⟩ (Nat.le_of_ble_eq_true rfl) ⟨Nat.zero_le _, Nat.zero_le _⟩ dX9_part_7 rfl rfl (fun H locs hP hD hS => ?_)
  refine lv_if_ne (tgt := 19) hx hb dX9_part_10 (by decide) (fun b2 => ?_) (fun b2 => ?_)
  · have hs := ite_f hs b2
    refine lv_aload_n hx hb dX9_part_19 rfl (lv_at hl 0 rfl) ?_
    refine lv_iload_n hx hb dX9_part_20 rfl (lv_at hl 1 rfl) ?_
    obtain ⟨q3, eq3, hs⟩ := ob hs
    refine nd_callV (As := [.int x1]) (rest := []) (st1 := [.int q3]) hx hb hml hown hts hl hP hK hD hS hA hN (mX9_lowerOf eq3) iv_X9_lowerOf wd_303 0 rfl rfl rfl rfl ⟨Nat.le_of_ble_eq_true rfl, Nat.le_of_ble_eq_true rfl⟩ (Nat.le_of_ble_eq_true rfl) ⟨Nat.zero_le _, Nat.zero_le _⟩ dX9_part_21 rfl rfl (fun H locs hP hD hS => ?_)
    refine lv_istore_n (lv' := [(2, .int q3), (0, .ref (bd 0)), (1, .int x1)]) hx hb dX9_part_24 rfl hl (by decide) rfl (fun ls hl => ?_)
    refine lv_iload_n hx hb dX9_part_25 rfl (lv_at hl 0 rfl) ?_
    refine lv_iconst (v := (-1 : Int32)) hx hb dX9_part_26 (by decide) ?_
    refine lv_icmp_ne (tgt := 36) hx hb dX9_part_27 (by decide) (fun b4 => ?_) (fun b4 => ?_)
    · have hs := ite_f hs b4
      refine lv_aload_n hx hb dX9_part_36 rfl (lv_at hl 1 rfl) ?_
      obtain ⟨q5, eq5, hs⟩ := ob hs
      refine nd_callV (As := []) (rest := []) (st1 := []) hx hb hml hown hts hl hP hK hD hS hA hN (mX9_saves eq5) iv_X9_saves wd_134 0 rfl rfl rfl rfl ⟨Nat.le_of_ble_eq_true rfl, Nat.le_of_ble_eq_true rfl⟩ (Nat.le_of_ble_eq_true rfl) ⟨Nat.zero_le _, Nat.zero_le _⟩ dX9_part_37 rfl rfl (fun H locs hP hD hS => ?_)
      refine lv_aload_n hx hb dX9_part_40 rfl (lv_at hl 1 rfl) ?_
      refine lv_iload_n hx hb dX9_part_41 rfl (lv_at hl 2 rfl) ?_
      refine lv_iconst (v := (4 : Int32)) hx hb dX9_part_42 (by decide) ?_
      refine lv_iconst (v := (0 : Int32)) hx hb dX9_part_43 (by decide) ?_
      obtain ⟨q6, eq6, hs⟩ := ob hs
      refine nd_callV (As := [.int x1, .int (4 : Int32), .int (0 : Int32)]) (rest := []) (st1 := []) hx hb hml hown hts hl hP hK hD hS hA hN (mX9_lay eq6) iv_X9_lay wd_139 0 rfl rfl rfl rfl ⟨Nat.le_of_ble_eq_true rfl, Nat.le_of_ble_eq_true rfl⟩ (Nat.le_of_ble_eq_true rfl) ⟨Nat.zero_le _, Nat.zero_le _⟩ dX9_part_44 rfl rfl (fun H locs hP hD hS => ?_)
      refine lv_aload_n hx hb dX9_part_47 rfl (lv_at hl 1 rfl) ?_
      refine lv_iload_n hx hb dX9_part_48 rfl (lv_at hl 0 rfl) ?_
      refine lv_iconst (v := (3 : Int32)) hx hb dX9_part_49 (by decide) ?_
      refine lv_iconst (v := (0 : Int32)) hx hb dX9_part_50 (by decide) ?_
      obtain ⟨q7, eq7, hs⟩ := ob hs
      refine nd_callV (As := [.int q3, .int (3 : Int32), .int (0 : Int32)]) (rest := []) (st1 := []) hx hb hml hown hts hl hP hK hD hS hA hN (mX9_lay eq7) iv_X9_lay wd_139 0 rfl rfl rfl rfl ⟨Nat.le_of_ble_eq_true rfl, Nat.le_of_ble_eq_true rfl⟩ (Nat.le_of_ble_eq_true rfl) ⟨Nat.zero_le _, Nat.zero_le _⟩ dX9_part_51 rfl rfl (fun H locs hP hD hS => ?_)
      refine lv_iload_n hx hb dX9_part_54 rfl (lv_at hl 0 rfl) ?_
      exact hret _ _ _ _ _ hs hP hS dX9_part_55
    · have hs := ite_t hs b4
      refine lv_aload_n hx hb dX9_part_30 rfl (lv_at hl 1 rfl) ?_
      refine lv_iconst (v := (2 : Int32)) hx hb dX9_part_31 (by decide) ?_
      obtain ⟨q8, eq8, hs⟩ := ob hs
      refine nd_callV (As := [.int (2 : Int32)]) (rest := []) (st1 := [.int q8.1]) hx hb hml hown hts hl hP hK hD hS hA hN (mX9_fails eq8) iv_X9_fails wd_130 0 rfl rfl rfl rfl ⟨Nat.le_of_ble_eq_true rfl, Nat.le_of_ble_eq_true rfl⟩ (Nat.le_of_ble_eq_true rfl) ⟨Nat.zero_le _, Nat.zero_le _⟩ dX9_part_32 rfl rfl (fun H locs hP hD hS => ?_)
      exact hret _ _ _ _ _ hs hP hS dX9_part_35
  · have hs := ite_t hs b2
    refine lv_aload_n hx hb dX9_part_13 rfl (lv_at hl 0 rfl) ?_
    refine lv_iconst (v := (1 : Int32)) hx hb dX9_part_14 (by decide) ?_
    obtain ⟨q9, eq9, hs⟩ := ob hs
    refine nd_callV (As := [.int (1 : Int32)]) (rest := []) (st1 := [.int q9.1]) hx hb hml hown hts hl hP hK hD hS hA hN (mX9_fails eq9) iv_X9_fails wd_130 0 rfl rfl rfl rfl ⟨Nat.le_of_ble_eq_true rfl, Nat.le_of_ble_eq_true rfl⟩ (Nat.le_of_ble_eq_true rfl) ⟨Nat.zero_le _, Nat.zero_le _⟩ dX9_part_15 rfl rfl (fun H locs hP hD hS => ?_)
    exact hret _ _ _ _ _ hs hP hS dX9_part_18
def tX9_clearOne_0 : List (Nat × Instr × Nat) := [(0, .iconst 0, 1), (1, .istore_n 1, 1), (2, .iload_n 1, 1), (3, .aload_n 0, 1), (4, .getfield 7, 3), (7, .iconst 0, 1), (8, .iaload, 1), (9, .if_icmp .ge 40, 3), (12, .aload_n 0, 1), (13, .iload_n 1, 1), (14, .invokevirtual 118, 3), (17, .istore_n 2, 1), (18, .iload_n 2, 1), (19, .invokestatic 121, 3), (22, .iconst 1, 1), (23, .if_icmp .ne 20, 3), (26, .aload_n 0, 1), (27, .iload_n 2, 1), (28, .invokestatic 124, 3), (31, .invokevirtual 127, 3), (34, .invokestatic 121, 3), (37, .iconst 1, 1), (38, .if_icmp .ne 5, 3), (41, .iload_n 1, 1), (42, .ireturn, 1), (43, .iinc 1 1, 3), (46, .goto (-44), 3), (49, .iconst (-1), 1), (50, .ireturn, 1)]
theorem tX9_clearOne_0_ok : tX9_clearOne_0.all (fun q => decide (decode cX9_clearOne q.1 = .ok q.2)) = true := by decide +kernel
theorem dX9_clearOne_0 : decode cX9_clearOne 0 = .ok (.iconst 0, 1) := td tX9_clearOne_0_ok 0 (q := (0, .iconst 0, 1)) rfl
theorem dX9_clearOne_1 : decode cX9_clearOne 1 = .ok (.istore_n 1, 1) := td tX9_clearOne_0_ok 1 (q := (1, .istore_n 1, 1)) rfl
theorem dX9_clearOne_2 : decode cX9_clearOne 2 = .ok (.iload_n 1, 1) := td tX9_clearOne_0_ok 2 (q := (2, .iload_n 1, 1)) rfl
theorem dX9_clearOne_3 : decode cX9_clearOne 3 = .ok (.aload_n 0, 1) := td tX9_clearOne_0_ok 3 (q := (3, .aload_n 0, 1)) rfl
theorem dX9_clearOne_4 : decode cX9_clearOne 4 = .ok (.getfield 7, 3) := td tX9_clearOne_0_ok 4 (q := (4, .getfield 7, 3)) rfl
theorem dX9_clearOne_7 : decode cX9_clearOne 7 = .ok (.iconst 0, 1) := td tX9_clearOne_0_ok 5 (q := (7, .iconst 0, 1)) rfl
theorem dX9_clearOne_8 : decode cX9_clearOne 8 = .ok (.iaload, 1) := td tX9_clearOne_0_ok 6 (q := (8, .iaload, 1)) rfl
theorem dX9_clearOne_9 : decode cX9_clearOne 9 = .ok (.if_icmp .ge 40, 3) := td tX9_clearOne_0_ok 7 (q := (9, .if_icmp .ge 40, 3)) rfl
theorem dX9_clearOne_12 : decode cX9_clearOne 12 = .ok (.aload_n 0, 1) := td tX9_clearOne_0_ok 8 (q := (12, .aload_n 0, 1)) rfl
theorem dX9_clearOne_13 : decode cX9_clearOne 13 = .ok (.iload_n 1, 1) := td tX9_clearOne_0_ok 9 (q := (13, .iload_n 1, 1)) rfl
theorem dX9_clearOne_14 : decode cX9_clearOne 14 = .ok (.invokevirtual 118, 3) := td tX9_clearOne_0_ok 10 (q := (14, .invokevirtual 118, 3)) rfl
theorem dX9_clearOne_17 : decode cX9_clearOne 17 = .ok (.istore_n 2, 1) := td tX9_clearOne_0_ok 11 (q := (17, .istore_n 2, 1)) rfl
theorem dX9_clearOne_18 : decode cX9_clearOne 18 = .ok (.iload_n 2, 1) := td tX9_clearOne_0_ok 12 (q := (18, .iload_n 2, 1)) rfl
theorem dX9_clearOne_19 : decode cX9_clearOne 19 = .ok (.invokestatic 121, 3) := td tX9_clearOne_0_ok 13 (q := (19, .invokestatic 121, 3)) rfl
theorem dX9_clearOne_22 : decode cX9_clearOne 22 = .ok (.iconst 1, 1) := td tX9_clearOne_0_ok 14 (q := (22, .iconst 1, 1)) rfl
theorem dX9_clearOne_23 : decode cX9_clearOne 23 = .ok (.if_icmp .ne 20, 3) := td tX9_clearOne_0_ok 15 (q := (23, .if_icmp .ne 20, 3)) rfl
theorem dX9_clearOne_26 : decode cX9_clearOne 26 = .ok (.aload_n 0, 1) := td tX9_clearOne_0_ok 16 (q := (26, .aload_n 0, 1)) rfl
theorem dX9_clearOne_27 : decode cX9_clearOne 27 = .ok (.iload_n 2, 1) := td tX9_clearOne_0_ok 17 (q := (27, .iload_n 2, 1)) rfl
theorem dX9_clearOne_28 : decode cX9_clearOne 28 = .ok (.invokestatic 124, 3) := td tX9_clearOne_0_ok 18 (q := (28, .invokestatic 124, 3)) rfl
theorem dX9_clearOne_31 : decode cX9_clearOne 31 = .ok (.invokevirtual 127, 3) := td tX9_clearOne_0_ok 19 (q := (31, .invokevirtual 127, 3)) rfl
theorem dX9_clearOne_34 : decode cX9_clearOne 34 = .ok (.invokestatic 121, 3) := td tX9_clearOne_0_ok 20 (q := (34, .invokestatic 121, 3)) rfl
theorem dX9_clearOne_37 : decode cX9_clearOne 37 = .ok (.iconst 1, 1) := td tX9_clearOne_0_ok 21 (q := (37, .iconst 1, 1)) rfl
theorem dX9_clearOne_38 : decode cX9_clearOne 38 = .ok (.if_icmp .ne 5, 3) := td tX9_clearOne_0_ok 22 (q := (38, .if_icmp .ne 5, 3)) rfl
theorem dX9_clearOne_41 : decode cX9_clearOne 41 = .ok (.iload_n 1, 1) := td tX9_clearOne_0_ok 23 (q := (41, .iload_n 1, 1)) rfl
theorem dX9_clearOne_42 : decode cX9_clearOne 42 = .ok (.ireturn, 1) := td tX9_clearOne_0_ok 24 (q := (42, .ireturn, 1)) rfl
theorem dX9_clearOne_43 : decode cX9_clearOne 43 = .ok (.iinc 1 1, 3) := td tX9_clearOne_0_ok 25 (q := (43, .iinc 1 1, 3)) rfl
theorem dX9_clearOne_46 : decode cX9_clearOne 46 = .ok (.goto (-44), 3) := td tX9_clearOne_0_ok 26 (q := (46, .goto (-44), 3)) rfl
theorem dX9_clearOne_49 : decode cX9_clearOne 49 = .ok (.iconst (-1), 1) := td tX9_clearOne_0_ok 27 (q := (49, .iconst (-1), 1)) rfl
theorem dX9_clearOne_50 : decode cX9_clearOne 50 = .ok (.ireturn, 1) := td tX9_clearOne_0_ok 28 (q := (50, .ireturn, 1)) rfl
def fX9_clearOne_2 (k2 : Unit → Option (Int32)) (ms : (Nat → Int32)) : Nat → Int32 → Option (Int32)
  | 0, _ => none
  | n2 + 1, x1 => (Option.bind (aget ms 531 (0 : Int32)) (fun t1 => (if t1 ≤ x1 then (k2 ()) else (Option.bind (fX9_canBelow ms x1) (fun q3 => (Option.bind (fX9_ones q3) (fun q4 => (if q4 = (1 : Int32) then (Option.bind (fX9_lowest q3) (fun q6 => (Option.bind (fX9_canAbove ms q6) (fun q7 => (Option.bind (fX9_ones q7) (fun q8 => (if q8 = (1 : Int32) then (some x1) else (fX9_clearOne_2 k2 ms n2 (x1 + (1 : Int32)))))))))) else (fX9_clearOne_2 k2 ms n2 (x1 + (1 : Int32)))))))))))
def fX9_clearOne (ms : (Nat → Int32)) : Option (Int32) :=
  (fX9_clearOne_2 (fun (_ : Unit) => (some (-1 : Int32))) ms LF (0 : Int32))
set_option maxHeartbeats 4000000 in
set_option maxRecDepth 100000 in
theorem mX9_clearOne {l : Launch} {D : va_G} {bd : Nat → Nat} {cI : ClassId} {ms : (Nat → Int32)} {msv : (Nat → Int32)} {mb : (Nat → Int32)} {mf : (Nat → Int32)} {mr : (Nat → Int32)} {mt : Int32} {mn : Int32} {ml : Int32} {mat : Int32} {mw : Int32} {mm : Int32} {mh : Int64} {r : Int32} (hs : fX9_clearOne ms = some r) : nd_C l yX9_clearOne cX9_clearOne 3 (some .int) 5 111 D [(cI, .int)] [.ref (bd 0)] (MW bd cI ms msv mb mf mr mt mn ml mat mw mm mh) (MW bd cI ms msv mb mf mr mt mn ml mat mw mm mh) (some (.int r)) := by
  refine nd_ofCi (by decide) (Nat.le_of_ble_eq_true rfl) (fun p e s m args below meth c_ ls A Q hx hb hml hown hts hl hP hK hD hS hA hN hret => ?_)
  have hown : s.vm.findClass RX9 = some m.cls := hown
  have hl : lv_has ls 3 [(0, .ref (bd 0))] := hl
  have hret : ∀ (z0 : Int32) {H : Heap} {locs : List Loc} {pc : Nat} {ls : Array Slot}, some z0 = some r → va_P D vwCl (MW bd cI ms msv mb mf mr mt mn ml mat mw mm mh) H → va_S A s.heap H locs → decode cX9_clearOne pc = .ok (.ireturn, 1) → W p l e ⟨5, 0, 0, 111⟩ s m args below meth c_ H locs 0 0 Q (F0 m pc ls [.int z0]) := by
    intro z0 H locs pc ls h hP hS hd
    cases h
    exact hret hP hS hd
  rw [fX9_clearOne] at hs
  refine lv_iconst (v := (0 : Int32)) hx hb dX9_clearOne_0 (by decide) ?_
  refine lv_istore_n (lv' := [(1, .int (0 : Int32)), (0, .ref (bd 0))]) hx hb dX9_clearOne_1 rfl hl (by decide) rfl (fun ls hl => ?_)
  have L2 : ∀ (n2 : Nat) (k2 : Unit → Option (Int32)) (v1_10 : Int32) (H : Heap) (locs : List Loc) (ls : Array Slot), lv_has ls 3 [(0, .ref (bd 0)), (1, .int v1_10)] → va_P D vwCl (MW bd cI ms msv mb mf mr mt mn ml mat mw mm mh) H → va_S A s.heap H locs → fX9_clearOne_2 k2 ms n2 v1_10 = some r → (∀ (H : Heap) (locs : List Loc) (ls : Array Slot), lv_has ls 3 [] → va_P D vwCl (MW bd cI ms msv mb mf mr mt mn ml mat mw mm mh) H → va_S A s.heap H locs → k2 () = some r → W p l e ⟨5, 0, 0, 111⟩ s m args below meth c_ H locs 0 0 Q (F0 m 49 ls [])) → W p l e ⟨5, 0, 0, 111⟩ s m args below meth c_ H locs 0 0 Q (F0 m 2 ls []) := by
    intro n2
    induction n2 with
    | zero =>
      intro k2 v1_10 H locs ls hl hP hS hs hk2
      rw [fX9_clearOne_2] at hs
      cases hs
    | succ n2 ih2 =>
      intro k2 v1_10 H locs ls hl hP hS hs hk2
      rw [fX9_clearOne_2] at hs
      refine lv_iload_n hx hb dX9_clearOne_2 rfl (lv_at hl 1 rfl) ?_
      refine lv_aload_n hx hb dX9_clearOne_3 rfl (lv_at hl 0 rfl) ?_
      refine gf_X9_7 hx hb hts hown hK hP 0 rfl rfl dX9_clearOne_4 ?_
      refine lv_iconst (v := (0 : Int32)) hx hb dX9_clearOne_7 (by decide) ?_
      obtain ⟨t11, et11, hs⟩ := ob hs
      refine nd_iald hx hb hK hP 1 0 rfl rfl et11 dX9_clearOne_8 ?_
      refine lv_icmp_ge (tgt := 49) hx hb dX9_clearOne_9 (by decide) (fun b12 => ?_) (fun b12 => ?_)
      · have hs := ite_t hs b12
        exact hk2  _ _ _ (lv_sub hl [] rfl) hP hS hs
      · have hs := ite_f hs b12
        refine lv_aload_n hx hb dX9_clearOne_12 rfl (lv_at hl 0 rfl) ?_
        refine lv_iload_n hx hb dX9_clearOne_13 rfl (lv_at hl 1 rfl) ?_
        obtain ⟨q13, eq13, hs⟩ := ob hs
        refine nd_callV (As := [.int v1_10]) (rest := []) (st1 := [.int q13]) hx hb hml hown hts hl hP hK hD hS hA hN (mX9_canBelow eq13) iv_X9_canBelow wd_471 0 rfl rfl rfl rfl ⟨Nat.le_of_ble_eq_true rfl, Nat.le_of_ble_eq_true rfl⟩ (Nat.le_of_ble_eq_true rfl) ⟨Nat.zero_le _, Nat.zero_le _⟩ dX9_clearOne_14 rfl rfl (fun H locs hP hD hS => ?_)
        refine lv_istore_n (lv' := [(2, .int q13), (0, .ref (bd 0)), (1, .int v1_10)]) hx hb dX9_clearOne_17 rfl hl (by decide) rfl (fun ls hl => ?_)
        refine lv_iload_n hx hb dX9_clearOne_18 rfl (lv_at hl 0 rfl) ?_
        obtain ⟨q14, eq14, hs⟩ := ob hs
        refine nd_callS (As := [.int q13]) (rest := []) (st1 := [.int q14]) hx hb hml hown hts hl hP hK hD hS hA hN (mX9_ones eq14) is_X9_ones wd_475 rfl rfl ⟨Nat.le_of_ble_eq_true rfl, Nat.le_of_ble_eq_true rfl⟩ (Nat.le_of_ble_eq_true rfl) ⟨Nat.zero_le _, Nat.zero_le _⟩ dX9_clearOne_19 rfl rfl (fun H locs hP hD hS => ?_)
        refine lv_iconst (v := (1 : Int32)) hx hb dX9_clearOne_22 (by decide) ?_
        refine lv_icmp_ne (tgt := 43) hx hb dX9_clearOne_23 (by decide) (fun b15 => ?_) (fun b15 => ?_)
        · have hs := ite_f hs b15
          refine lv_iinc (v := v1_10 + (1 : Int32)) (lv' := [(1, .int (v1_10 + (1 : Int32))), (2, .int q13), (0, .ref (bd 0))]) hx hb dX9_clearOne_43 hl (k := 2) rfl rfl (by decide) rfl (fun ls hl => ?_)
          refine lv_goto (tgt := 2) hx hb dX9_clearOne_46 (by decide) ?_
          exact ih2 k2 (v1_10 + (1 : Int32)) _ _ _ (lv_sub hl [2, 0] rfl) hP hS hs hk2
        · have hs := ite_t hs b15
          refine lv_aload_n hx hb dX9_clearOne_26 rfl (lv_at hl 1 rfl) ?_
          refine lv_iload_n hx hb dX9_clearOne_27 rfl (lv_at hl 0 rfl) ?_
          obtain ⟨q16, eq16, hs⟩ := ob hs
          refine nd_callS (As := [.int q13]) (rest := [.ref (bd 0)]) (st1 := [.int q16, .ref (bd 0)]) hx hb hml hown hts hl hP hK hD hS hA hN (mX9_lowest eq16) is_X9_lowest wd_478 rfl rfl ⟨Nat.le_of_ble_eq_true rfl, Nat.le_of_ble_eq_true rfl⟩ (Nat.le_of_ble_eq_true rfl) ⟨Nat.zero_le _, Nat.zero_le _⟩ dX9_clearOne_28 rfl rfl (fun H locs hP hD hS => ?_)
          obtain ⟨q17, eq17, hs⟩ := ob hs
          refine nd_callV (As := [.int q16]) (rest := []) (st1 := [.int q17]) hx hb hml hown hts hl hP hK hD hS hA hN (mX9_canAbove eq17) iv_X9_canAbove wd_481 0 rfl rfl rfl rfl ⟨Nat.le_of_ble_eq_true rfl, Nat.le_of_ble_eq_true rfl⟩ (Nat.le_of_ble_eq_true rfl) ⟨Nat.zero_le _, Nat.zero_le _⟩ dX9_clearOne_31 rfl rfl (fun H locs hP hD hS => ?_)
          obtain ⟨q18, eq18, hs⟩ := ob hs
          refine nd_callS (As := [.int q17]) (rest := []) (st1 := [.int q18]) hx hb hml hown hts hl hP hK hD hS hA hN (mX9_ones eq18) is_X9_ones wd_475 rfl rfl ⟨Nat.le_of_ble_eq_true rfl, Nat.le_of_ble_eq_true rfl⟩ (Nat.le_of_ble_eq_true rfl) ⟨Nat.zero_le _, Nat.zero_le _⟩ dX9_clearOne_34 rfl rfl (fun H locs hP hD hS => ?_)
          refine lv_iconst (v := (1 : Int32)) hx hb dX9_clearOne_37 (by decide) ?_
          refine lv_icmp_ne (tgt := 43) hx hb dX9_clearOne_38 (by decide) (fun b19 => ?_) (fun b19 => ?_)
          · have hs := ite_f hs b19
            refine lv_iinc (v := v1_10 + (1 : Int32)) (lv' := [(1, .int (v1_10 + (1 : Int32))), (2, .int q13), (0, .ref (bd 0))]) hx hb dX9_clearOne_43 hl (k := 2) rfl rfl (by decide) rfl (fun ls hl => ?_)
            refine lv_goto (tgt := 2) hx hb dX9_clearOne_46 (by decide) ?_
            exact ih2 k2 (v1_10 + (1 : Int32)) _ _ _ (lv_sub hl [2, 0] rfl) hP hS hs hk2
          · have hs := ite_t hs b19
            refine lv_iload_n hx hb dX9_clearOne_41 rfl (lv_at hl 2 rfl) ?_
            exact hret _ hs hP hS dX9_clearOne_42
  refine L2 LF _ (0 : Int32) _ _ _ (lv_sub hl [1, 0] rfl) hP hS hs (fun  H locs ls hl hP hS hs => ?_)
  refine lv_iconst (v := (-1 : Int32)) hx hb dX9_clearOne_49 (by decide) ?_
  exact hret _ hs hP hS dX9_clearOne_50
def tX9_joinClear_0 : List (Nat × Instr × Nat) := [(0, .aload_n 0, 1), (1, .iconst 0, 1), (2, .putfield 25, 3), (5, .aload_n 0, 1), (6, .invokevirtual 82, 3), (9, .iconst 0, 1), (10, .istore_n 1, 1), (11, .aload_n 0, 1), (12, .invokevirtual 130, 3), (15, .istore_n 2, 1), (16, .iload_n 2, 1), (17, .iconst (-1), 1), (18, .if_icmp .eq 27, 3), (21, .aload_n 0, 1), (22, .iload_n 2, 1), (23, .aload_n 0, 1), (24, .iload_n 2, 1), (25, .invokevirtual 118, 3), (28, .invokestatic 124, 3), (31, .invokevirtual 111, 3), (34, .iinc 1 1, 3), (37, .aload_n 0, 1), (38, .invokevirtual 130, 3), (41, .istore_n 2, 1), (42, .goto (-26), 3), (45, .iload_n 1, 1), (46, .ireturn, 1)]
theorem tX9_joinClear_0_ok : tX9_joinClear_0.all (fun q => decide (decode cX9_joinClear q.1 = .ok q.2)) = true := by decide +kernel
theorem dX9_joinClear_0 : decode cX9_joinClear 0 = .ok (.aload_n 0, 1) := td tX9_joinClear_0_ok 0 (q := (0, .aload_n 0, 1)) rfl
theorem dX9_joinClear_1 : decode cX9_joinClear 1 = .ok (.iconst 0, 1) := td tX9_joinClear_0_ok 1 (q := (1, .iconst 0, 1)) rfl
theorem dX9_joinClear_2 : decode cX9_joinClear 2 = .ok (.putfield 25, 3) := td tX9_joinClear_0_ok 2 (q := (2, .putfield 25, 3)) rfl
theorem dX9_joinClear_5 : decode cX9_joinClear 5 = .ok (.aload_n 0, 1) := td tX9_joinClear_0_ok 3 (q := (5, .aload_n 0, 1)) rfl
theorem dX9_joinClear_6 : decode cX9_joinClear 6 = .ok (.invokevirtual 82, 3) := td tX9_joinClear_0_ok 4 (q := (6, .invokevirtual 82, 3)) rfl
theorem dX9_joinClear_9 : decode cX9_joinClear 9 = .ok (.iconst 0, 1) := td tX9_joinClear_0_ok 5 (q := (9, .iconst 0, 1)) rfl
theorem dX9_joinClear_10 : decode cX9_joinClear 10 = .ok (.istore_n 1, 1) := td tX9_joinClear_0_ok 6 (q := (10, .istore_n 1, 1)) rfl
theorem dX9_joinClear_11 : decode cX9_joinClear 11 = .ok (.aload_n 0, 1) := td tX9_joinClear_0_ok 7 (q := (11, .aload_n 0, 1)) rfl
theorem dX9_joinClear_12 : decode cX9_joinClear 12 = .ok (.invokevirtual 130, 3) := td tX9_joinClear_0_ok 8 (q := (12, .invokevirtual 130, 3)) rfl
theorem dX9_joinClear_15 : decode cX9_joinClear 15 = .ok (.istore_n 2, 1) := td tX9_joinClear_0_ok 9 (q := (15, .istore_n 2, 1)) rfl
theorem dX9_joinClear_16 : decode cX9_joinClear 16 = .ok (.iload_n 2, 1) := td tX9_joinClear_0_ok 10 (q := (16, .iload_n 2, 1)) rfl
theorem dX9_joinClear_17 : decode cX9_joinClear 17 = .ok (.iconst (-1), 1) := td tX9_joinClear_0_ok 11 (q := (17, .iconst (-1), 1)) rfl
theorem dX9_joinClear_18 : decode cX9_joinClear 18 = .ok (.if_icmp .eq 27, 3) := td tX9_joinClear_0_ok 12 (q := (18, .if_icmp .eq 27, 3)) rfl
theorem dX9_joinClear_21 : decode cX9_joinClear 21 = .ok (.aload_n 0, 1) := td tX9_joinClear_0_ok 13 (q := (21, .aload_n 0, 1)) rfl
theorem dX9_joinClear_22 : decode cX9_joinClear 22 = .ok (.iload_n 2, 1) := td tX9_joinClear_0_ok 14 (q := (22, .iload_n 2, 1)) rfl
theorem dX9_joinClear_23 : decode cX9_joinClear 23 = .ok (.aload_n 0, 1) := td tX9_joinClear_0_ok 15 (q := (23, .aload_n 0, 1)) rfl
theorem dX9_joinClear_24 : decode cX9_joinClear 24 = .ok (.iload_n 2, 1) := td tX9_joinClear_0_ok 16 (q := (24, .iload_n 2, 1)) rfl
theorem dX9_joinClear_25 : decode cX9_joinClear 25 = .ok (.invokevirtual 118, 3) := td tX9_joinClear_0_ok 17 (q := (25, .invokevirtual 118, 3)) rfl
theorem dX9_joinClear_28 : decode cX9_joinClear 28 = .ok (.invokestatic 124, 3) := td tX9_joinClear_0_ok 18 (q := (28, .invokestatic 124, 3)) rfl
theorem dX9_joinClear_31 : decode cX9_joinClear 31 = .ok (.invokevirtual 111, 3) := td tX9_joinClear_0_ok 19 (q := (31, .invokevirtual 111, 3)) rfl
theorem dX9_joinClear_34 : decode cX9_joinClear 34 = .ok (.iinc 1 1, 3) := td tX9_joinClear_0_ok 20 (q := (34, .iinc 1 1, 3)) rfl
theorem dX9_joinClear_37 : decode cX9_joinClear 37 = .ok (.aload_n 0, 1) := td tX9_joinClear_0_ok 21 (q := (37, .aload_n 0, 1)) rfl
theorem dX9_joinClear_38 : decode cX9_joinClear 38 = .ok (.invokevirtual 130, 3) := td tX9_joinClear_0_ok 22 (q := (38, .invokevirtual 130, 3)) rfl
theorem dX9_joinClear_41 : decode cX9_joinClear 41 = .ok (.istore_n 2, 1) := td tX9_joinClear_0_ok 23 (q := (41, .istore_n 2, 1)) rfl
theorem dX9_joinClear_42 : decode cX9_joinClear 42 = .ok (.goto (-26), 3) := td tX9_joinClear_0_ok 24 (q := (42, .goto (-26), 3)) rfl
theorem dX9_joinClear_45 : decode cX9_joinClear 45 = .ok (.iload_n 1, 1) := td tX9_joinClear_0_ok 25 (q := (45, .iload_n 1, 1)) rfl
theorem dX9_joinClear_46 : decode cX9_joinClear 46 = .ok (.ireturn, 1) := td tX9_joinClear_0_ok 26 (q := (46, .ireturn, 1)) rfl
def fX9_joinClear_16 (k16 : Int32 → (Nat → Int32) → Option (Int32 × (Nat → Int32) × (Nat → Int32) × Int32 × Int32)) : Nat → Int32 → Int32 → (Nat → Int32) → Option (Int32 × (Nat → Int32) × (Nat → Int32) × Int32 × Int32)
  | 0, _, _, _ => none
  | n16 + 1, x1, x2, ms => (if x2 = (-1 : Int32) then (k16 x1 ms) else (Option.bind (fX9_canBelow ms x2) (fun q4 => (Option.bind (fX9_lowest q4) (fun q5 => (Option.bind (fX9_joins ms x2 q5) (fun q6 => (Option.bind (fX9_clearOne q6) (fun q7 => (fX9_joinClear_16 k16 n16 (x1 + (1 : Int32)) q7 q6))))))))))
def fX9_joinClear (ms : (Nat → Int32)) (msv : (Nat → Int32)) (mt : Int32) (mn : Int32) : Option (Int32 × (Nat → Int32) × (Nat → Int32) × Int32 × Int32) :=
  (Option.bind (fX9_saves ms msv mn) (fun q1 => (Option.bind (fX9_clearOne ms) (fun q2 => (fX9_joinClear_16 (fun (u1_8 : Int32) (ms_u8 : (Nat → Int32)) => (some (u1_8, ms_u8, q1.1, (0 : Int32), q1.2))) LF (0 : Int32) q2 ms)))))
set_option maxHeartbeats 4000000 in
set_option maxRecDepth 100000 in
theorem mX9_joinClear {l : Launch} {D : va_G} {bd : Nat → Nat} {cI : ClassId} {ms : (Nat → Int32)} {msv : (Nat → Int32)} {mb : (Nat → Int32)} {mf : (Nat → Int32)} {mr : (Nat → Int32)} {mt : Int32} {mn : Int32} {ml : Int32} {mat : Int32} {mw : Int32} {mm : Int32} {mh : Int64} {r : Int32} {ms' : (Nat → Int32)} {msv' : (Nat → Int32)} {mt' : Int32} {mn' : Int32} (hs : fX9_joinClear ms msv mt mn = some (r, ms', msv', mt', mn')) : nd_C l yX9_joinClear cX9_joinClear 3 (some .int) 6 133 D [(cI, .int)] [.ref (bd 0)] (MW bd cI ms msv mb mf mr mt mn ml mat mw mm mh) (MW bd cI ms' msv' mb mf mr mt' mn' ml mat mw mm mh) (some (.int r)) := by
  refine nd_ofCi (by decide) (Nat.le_of_ble_eq_true rfl) (fun p e s m args below meth c_ ls A Q hx hb hml hown hts hl hP hK hD hS hA hN hret => ?_)
  have hown : s.vm.findClass RX9 = some m.cls := hown
  have hl : lv_has ls 3 [(0, .ref (bd 0))] := hl
  have hret : ∀ (z0 : Int32) (z1 : (Nat → Int32)) (z2 : (Nat → Int32)) (z3 : Int32) (z4 : Int32) {H : Heap} {locs : List Loc} {pc : Nat} {ls : Array Slot}, some (z0, z1, z2, z3, z4) = some (r, ms', msv', mt', mn') → va_P D vwCl (MW bd cI z1 z2 mb mf mr z3 z4 ml mat mw mm mh) H → va_S A s.heap H locs → decode cX9_joinClear pc = .ok (.ireturn, 1) → W p l e ⟨6, 0, 0, 133⟩ s m args below meth c_ H locs 0 0 Q (F0 m pc ls [.int z0]) := by
    intro z0 z1 z2 z3 z4 H locs pc ls h hP hS hd
    cases h
    exact hret hP hS hd
  rw [fX9_joinClear] at hs
  refine lv_aload_n hx hb dX9_joinClear_0 rfl (lv_at hl 0 rfl) ?_
  refine lv_iconst (v := (0 : Int32)) hx hb dX9_joinClear_1 (by decide) ?_
  refine pf_X9_25 hx hb hts hown hK hP hD hS 0 rfl rfl dX9_joinClear_2 (fun H locs hP hD hS => ?_)
  have hP : va_P D vwCl (MW bd cI ms msv mb mf mr (0 : Int32) mn ml mat mw mm mh) H := hP
  have hD : va_D A (MW bd cI ms msv mb mf mr (0 : Int32) mn ml mat mw mm mh) := hD
  refine lv_aload_n hx hb dX9_joinClear_5 rfl (lv_at hl 0 rfl) ?_
  obtain ⟨q1, eq1, hs⟩ := ob hs
  refine nd_callV (As := []) (rest := []) (st1 := []) hx hb hml hown hts hl hP hK hD hS hA hN (mX9_saves eq1) iv_X9_saves wd_134 0 rfl rfl rfl rfl ⟨Nat.le_of_ble_eq_true rfl, Nat.le_of_ble_eq_true rfl⟩ (Nat.le_of_ble_eq_true rfl) ⟨Nat.zero_le _, Nat.zero_le _⟩ dX9_joinClear_6 rfl rfl (fun H locs hP hD hS => ?_)
  refine lv_iconst (v := (0 : Int32)) hx hb dX9_joinClear_9 (by decide) ?_
  refine lv_istore_n (lv' := [(1, .int (0 : Int32)), (0, .ref (bd 0))]) hx hb dX9_joinClear_10 rfl hl (by decide) rfl (fun ls hl => ?_)
  refine lv_aload_n hx hb dX9_joinClear_11 rfl (lv_at hl 1 rfl) ?_
  obtain ⟨q2, eq2, hs⟩ := ob hs
  refine nd_callV (As := []) (rest := []) (st1 := [.int q2]) hx hb hml hown hts hl hP hK hD hS hA hN (mX9_clearOne eq2) iv_X9_clearOne wd_467 0 rfl rfl rfl rfl ⟨Nat.le_of_ble_eq_true rfl, Nat.le_of_ble_eq_true rfl⟩ (Nat.le_of_ble_eq_true rfl) ⟨Nat.zero_le _, Nat.zero_le _⟩ dX9_joinClear_12 rfl rfl (fun H locs hP hD hS => ?_)
  refine lv_istore_n (lv' := [(2, .int q2), (1, .int (0 : Int32)), (0, .ref (bd 0))]) hx hb dX9_joinClear_15 rfl hl (by decide) rfl (fun ls hl => ?_)
  have L16 : ∀ (n16 : Nat) (k16 : Int32 → (Nat → Int32) → Option (Int32 × (Nat → Int32) × (Nat → Int32) × Int32 × Int32)) (v1_8 : Int32) (v2_8 : Int32) (ms_8 : (Nat → Int32)) (H : Heap) (locs : List Loc) (ls : Array Slot), lv_has ls 3 [(0, .ref (bd 0)), (1, .int v1_8), (2, .int v2_8)] → va_P D vwCl (MW bd cI ms_8 q1.1 mb mf mr (0 : Int32) q1.2 ml mat mw mm mh) H → va_S A s.heap H locs → fX9_joinClear_16 k16 n16 v1_8 v2_8 ms_8 = some (r, ms', msv', mt', mn') → (∀ (u1_8 : Int32) (ms_u8 : (Nat → Int32)) (H : Heap) (locs : List Loc) (ls : Array Slot), lv_has ls 3 [(1, .int u1_8)] → va_P D vwCl (MW bd cI ms_u8 q1.1 mb mf mr (0 : Int32) q1.2 ml mat mw mm mh) H → va_S A s.heap H locs → k16 u1_8 ms_u8 = some (r, ms', msv', mt', mn') → W p l e ⟨6, 0, 0, 133⟩ s m args below meth c_ H locs 0 0 Q (F0 m 45 ls [])) → W p l e ⟨6, 0, 0, 133⟩ s m args below meth c_ H locs 0 0 Q (F0 m 16 ls []) := by
    intro n16
    induction n16 with
    | zero =>
      intro k16 v1_8 v2_8 ms_8 H locs ls hl hP hS hs hk16
      rw [fX9_joinClear_16] at hs
      cases hs
    | succ n16 ih16 =>
      intro k16 v1_8 v2_8 ms_8 H locs ls hl hP hS hs hk16
      rw [fX9_joinClear_16] at hs
      have hD : va_D A (MW bd cI ms_8 q1.1 mb mf mr (0 : Int32) q1.2 ml mat mw mm mh) := nd_DD hD rfl
      refine lv_iload_n hx hb dX9_joinClear_16 rfl (lv_at hl 2 rfl) ?_
      refine lv_iconst (v := (-1 : Int32)) hx hb dX9_joinClear_17 (by decide) ?_
      refine lv_icmp_eq (tgt := 45) hx hb dX9_joinClear_18 (by decide) (fun b9 => ?_) (fun b9 => ?_)
      · have hs := ite_t hs b9
        exact hk16 v1_8 ms_8 _ _ _ (lv_sub hl [1] rfl) hP hS hs
      · have hs := ite_f hs b9
        refine lv_aload_n hx hb dX9_joinClear_21 rfl (lv_at hl 0 rfl) ?_
        refine lv_iload_n hx hb dX9_joinClear_22 rfl (lv_at hl 2 rfl) ?_
        refine lv_aload_n hx hb dX9_joinClear_23 rfl (lv_at hl 0 rfl) ?_
        refine lv_iload_n hx hb dX9_joinClear_24 rfl (lv_at hl 2 rfl) ?_
        obtain ⟨q10, eq10, hs⟩ := ob hs
        refine nd_callV (As := [.int v2_8]) (rest := [.int v2_8, .ref (bd 0)]) (st1 := [.int q10, .int v2_8, .ref (bd 0)]) hx hb hml hown hts hl hP hK hD hS hA hN (mX9_canBelow eq10) iv_X9_canBelow wd_471 0 rfl rfl rfl rfl ⟨Nat.le_of_ble_eq_true rfl, Nat.le_of_ble_eq_true rfl⟩ (Nat.le_of_ble_eq_true rfl) ⟨Nat.zero_le _, Nat.zero_le _⟩ dX9_joinClear_25 rfl rfl (fun H locs hP hD hS => ?_)
        obtain ⟨q11, eq11, hs⟩ := ob hs
        refine nd_callS (As := [.int q10]) (rest := [.int v2_8, .ref (bd 0)]) (st1 := [.int q11, .int v2_8, .ref (bd 0)]) hx hb hml hown hts hl hP hK hD hS hA hN (mX9_lowest eq11) is_X9_lowest wd_478 rfl rfl ⟨Nat.le_of_ble_eq_true rfl, Nat.le_of_ble_eq_true rfl⟩ (Nat.le_of_ble_eq_true rfl) ⟨Nat.zero_le _, Nat.zero_le _⟩ dX9_joinClear_28 rfl rfl (fun H locs hP hD hS => ?_)
        obtain ⟨q12, eq12, hs⟩ := ob hs
        refine nd_callV (As := [.int v2_8, .int q11]) (rest := []) (st1 := []) hx hb hml hown hts hl hP hK hD hS hA hN (mX9_joins eq12) iv_X9_joins wd_411 0 rfl rfl rfl rfl ⟨Nat.le_of_ble_eq_true rfl, Nat.le_of_ble_eq_true rfl⟩ (Nat.le_of_ble_eq_true rfl) ⟨Nat.zero_le _, Nat.zero_le _⟩ dX9_joinClear_31 rfl rfl (fun H locs hP hD hS => ?_)
        refine lv_iinc (v := v1_8 + (1 : Int32)) (lv' := [(1, .int (v1_8 + (1 : Int32))), (0, .ref (bd 0)), (2, .int v2_8)]) hx hb dX9_joinClear_34 hl (k := 1) rfl rfl (by decide) rfl (fun ls hl => ?_)
        refine lv_aload_n hx hb dX9_joinClear_37 rfl (lv_at hl 1 rfl) ?_
        obtain ⟨q13, eq13, hs⟩ := ob hs
        refine nd_callV (As := []) (rest := []) (st1 := [.int q13]) hx hb hml hown hts hl hP hK hD hS hA hN (mX9_clearOne eq13) iv_X9_clearOne wd_467 0 rfl rfl rfl rfl ⟨Nat.le_of_ble_eq_true rfl, Nat.le_of_ble_eq_true rfl⟩ (Nat.le_of_ble_eq_true rfl) ⟨Nat.zero_le _, Nat.zero_le _⟩ dX9_joinClear_38 rfl rfl (fun H locs hP hD hS => ?_)
        refine lv_istore_n (lv' := [(2, .int q13), (1, .int (v1_8 + (1 : Int32))), (0, .ref (bd 0))]) hx hb dX9_joinClear_41 rfl hl (by decide) rfl (fun ls hl => ?_)
        refine lv_goto (tgt := 16) hx hb dX9_joinClear_42 (by decide) ?_
        exact ih16 k16 (v1_8 + (1 : Int32)) q13 q12 _ _ _ (lv_sub hl [2, 1, 0] rfl) hP hS hs hk16
  refine L16 LF _ (0 : Int32) q2 ms _ _ _ (lv_sub hl [2, 1, 0] rfl) hP hS hs (fun u1_8 ms_u8 H locs ls hl hP hS hs => ?_)
  have hD : va_D A (MW bd cI ms_u8 q1.1 mb mf mr (0 : Int32) q1.2 ml mat mw mm mh) := nd_DD hD rfl
  refine lv_iload_n hx hb dX9_joinClear_45 rfl (lv_at hl 0 rfl) ?_
  exact hret _ _ _ _ _ hs hP hS dX9_joinClear_46
def tX9_append_0 : List (Nat × Instr × Nat) := [(0, .aload_n 0, 1), (1, .iconst 0, 1), (2, .putfield 25, 3), (5, .iload_n 1, 1), (6, .bipush 33, 2), (8, .bipush 126, 2), (10, .invokestatic 29, 3), (13, .ifCond .ne 9, 3), (16, .aload_n 0, 1), (17, .iconst 1, 1), (18, .invokevirtual 79, 3), (21, .ireturn, 1), (22, .aload_n 0, 1), (23, .getfield 96, 3), (26, .bipush 60, 2), (28, .if_icmp .ne 9, 3), (31, .aload_n 0, 1), (32, .iconst 2, 1), (33, .invokevirtual 79, 3), (36, .ireturn, 1), (37, .aload_n 0, 1), (38, .getfield 16, 3), (41, .aload_n 0, 1), (42, .getfield 96, 3), (45, .iload_n 1, 1), (46, .iastore, 1), (47, .aload_n 0, 1), (48, .dup, 1), (49, .getfield 96, 3), (52, .iconst 1, 1), (53, .iadd, 1), (54, .putfield 96, 3), (57, .aload_n 0, 1), (58, .getfield 96, 3), (61, .ireturn, 1)]
theorem tX9_append_0_ok : tX9_append_0.all (fun q => decide (decode cX9_append q.1 = .ok q.2)) = true := by decide +kernel
theorem dX9_append_0 : decode cX9_append 0 = .ok (.aload_n 0, 1) := td tX9_append_0_ok 0 (q := (0, .aload_n 0, 1)) rfl
theorem dX9_append_1 : decode cX9_append 1 = .ok (.iconst 0, 1) := td tX9_append_0_ok 1 (q := (1, .iconst 0, 1)) rfl
theorem dX9_append_2 : decode cX9_append 2 = .ok (.putfield 25, 3) := td tX9_append_0_ok 2 (q := (2, .putfield 25, 3)) rfl
theorem dX9_append_5 : decode cX9_append 5 = .ok (.iload_n 1, 1) := td tX9_append_0_ok 3 (q := (5, .iload_n 1, 1)) rfl
theorem dX9_append_6 : decode cX9_append 6 = .ok (.bipush 33, 2) := td tX9_append_0_ok 4 (q := (6, .bipush 33, 2)) rfl
theorem dX9_append_8 : decode cX9_append 8 = .ok (.bipush 126, 2) := td tX9_append_0_ok 5 (q := (8, .bipush 126, 2)) rfl
theorem dX9_append_10 : decode cX9_append 10 = .ok (.invokestatic 29, 3) := td tX9_append_0_ok 6 (q := (10, .invokestatic 29, 3)) rfl
theorem dX9_append_13 : decode cX9_append 13 = .ok (.ifCond .ne 9, 3) := td tX9_append_0_ok 7 (q := (13, .ifCond .ne 9, 3)) rfl
theorem dX9_append_16 : decode cX9_append 16 = .ok (.aload_n 0, 1) := td tX9_append_0_ok 8 (q := (16, .aload_n 0, 1)) rfl
theorem dX9_append_17 : decode cX9_append 17 = .ok (.iconst 1, 1) := td tX9_append_0_ok 9 (q := (17, .iconst 1, 1)) rfl
theorem dX9_append_18 : decode cX9_append 18 = .ok (.invokevirtual 79, 3) := td tX9_append_0_ok 10 (q := (18, .invokevirtual 79, 3)) rfl
theorem dX9_append_21 : decode cX9_append 21 = .ok (.ireturn, 1) := td tX9_append_0_ok 11 (q := (21, .ireturn, 1)) rfl
theorem dX9_append_22 : decode cX9_append 22 = .ok (.aload_n 0, 1) := td tX9_append_0_ok 12 (q := (22, .aload_n 0, 1)) rfl
theorem dX9_append_23 : decode cX9_append 23 = .ok (.getfield 96, 3) := td tX9_append_0_ok 13 (q := (23, .getfield 96, 3)) rfl
theorem dX9_append_26 : decode cX9_append 26 = .ok (.bipush 60, 2) := td tX9_append_0_ok 14 (q := (26, .bipush 60, 2)) rfl
theorem dX9_append_28 : decode cX9_append 28 = .ok (.if_icmp .ne 9, 3) := td tX9_append_0_ok 15 (q := (28, .if_icmp .ne 9, 3)) rfl
theorem dX9_append_31 : decode cX9_append 31 = .ok (.aload_n 0, 1) := td tX9_append_0_ok 16 (q := (31, .aload_n 0, 1)) rfl
theorem dX9_append_32 : decode cX9_append 32 = .ok (.iconst 2, 1) := td tX9_append_0_ok 17 (q := (32, .iconst 2, 1)) rfl
theorem dX9_append_33 : decode cX9_append 33 = .ok (.invokevirtual 79, 3) := td tX9_append_0_ok 18 (q := (33, .invokevirtual 79, 3)) rfl
theorem dX9_append_36 : decode cX9_append 36 = .ok (.ireturn, 1) := td tX9_append_0_ok 19 (q := (36, .ireturn, 1)) rfl
theorem dX9_append_37 : decode cX9_append 37 = .ok (.aload_n 0, 1) := td tX9_append_0_ok 20 (q := (37, .aload_n 0, 1)) rfl
theorem dX9_append_38 : decode cX9_append 38 = .ok (.getfield 16, 3) := td tX9_append_0_ok 21 (q := (38, .getfield 16, 3)) rfl
theorem dX9_append_41 : decode cX9_append 41 = .ok (.aload_n 0, 1) := td tX9_append_0_ok 22 (q := (41, .aload_n 0, 1)) rfl
theorem dX9_append_42 : decode cX9_append 42 = .ok (.getfield 96, 3) := td tX9_append_0_ok 23 (q := (42, .getfield 96, 3)) rfl
theorem dX9_append_45 : decode cX9_append 45 = .ok (.iload_n 1, 1) := td tX9_append_0_ok 24 (q := (45, .iload_n 1, 1)) rfl
theorem dX9_append_46 : decode cX9_append 46 = .ok (.iastore, 1) := td tX9_append_0_ok 25 (q := (46, .iastore, 1)) rfl
theorem dX9_append_47 : decode cX9_append 47 = .ok (.aload_n 0, 1) := td tX9_append_0_ok 26 (q := (47, .aload_n 0, 1)) rfl
theorem dX9_append_48 : decode cX9_append 48 = .ok (.dup, 1) := td tX9_append_0_ok 27 (q := (48, .dup, 1)) rfl
theorem dX9_append_49 : decode cX9_append 49 = .ok (.getfield 96, 3) := td tX9_append_0_ok 28 (q := (49, .getfield 96, 3)) rfl
theorem dX9_append_52 : decode cX9_append 52 = .ok (.iconst 1, 1) := td tX9_append_0_ok 29 (q := (52, .iconst 1, 1)) rfl
theorem dX9_append_53 : decode cX9_append 53 = .ok (.iadd, 1) := td tX9_append_0_ok 30 (q := (53, .iadd, 1)) rfl
theorem dX9_append_54 : decode cX9_append 54 = .ok (.putfield 96, 3) := td tX9_append_0_ok 31 (q := (54, .putfield 96, 3)) rfl
theorem dX9_append_57 : decode cX9_append 57 = .ok (.aload_n 0, 1) := td tX9_append_0_ok 32 (q := (57, .aload_n 0, 1)) rfl
theorem dX9_append_58 : decode cX9_append 58 = .ok (.getfield 96, 3) := td tX9_append_0_ok 33 (q := (58, .getfield 96, 3)) rfl
theorem dX9_append_61 : decode cX9_append 61 = .ok (.ireturn, 1) := td tX9_append_0_ok 34 (q := (61, .ireturn, 1)) rfl
def fX9_append (mb : (Nat → Int32)) (mt : Int32) (ml : Int32) (x1 : Int32) : Option (Int32 × (Nat → Int32) × Int32 × Int32) :=
  (Option.bind (fX9_in x1 (33 : Int32) (126 : Int32)) (fun q1 => (if q1 = 0 then (Option.bind (fX9_fails (0 : Int32) (1 : Int32)) (fun q6 => (some (q6.1, mb, q6.2, ml)))) else (if ml = (60 : Int32) then (Option.bind (fX9_fails (0 : Int32) (2 : Int32)) (fun q5 => (some (q5.1, mb, q5.2, ml)))) else (Option.bind (aput mb 60 ml x1) (fun c4 => (some (ml + (1 : Int32), c4, (0 : Int32), ml + (1 : Int32)))))))))
set_option maxHeartbeats 4000000 in
set_option maxRecDepth 100000 in
theorem mX9_append {l : Launch} {D : va_G} {bd : Nat → Nat} {cI : ClassId} {ms : (Nat → Int32)} {msv : (Nat → Int32)} {mb : (Nat → Int32)} {mf : (Nat → Int32)} {mr : (Nat → Int32)} {mt : Int32} {mn : Int32} {ml : Int32} {mat : Int32} {mw : Int32} {mm : Int32} {mh : Int64} {x1 : Int32} {r : Int32} {mb' : (Nat → Int32)} {mt' : Int32} {ml' : Int32} (hs : fX9_append mb mt ml x1 = some (r, mb', mt', ml')) : nd_C l yX9_append cX9_append 2 (some .int) 1 22 D [(cI, .int)] [.ref (bd 0), .int x1] (MW bd cI ms msv mb mf mr mt mn ml mat mw mm mh) (MW bd cI ms msv mb' mf mr mt' mn ml' mat mw mm mh) (some (.int r)) := by
  refine nd_ofCi (by decide) (Nat.le_of_ble_eq_true rfl) (fun p e s m args below meth c_ ls A Q hx hb hml hown hts hl hP hK hD hS hA hN hret => ?_)
  have hown : s.vm.findClass RX9 = some m.cls := hown
  have hl : lv_has ls 2 [(0, .ref (bd 0)), (1, .int x1)] := hl
  have hret : ∀ (z0 : Int32) (z1 : (Nat → Int32)) (z2 : Int32) (z3 : Int32) {H : Heap} {locs : List Loc} {pc : Nat} {ls : Array Slot}, some (z0, z1, z2, z3) = some (r, mb', mt', ml') → va_P D vwCl (MW bd cI ms msv z1 mf mr z2 mn z3 mat mw mm mh) H → va_S A s.heap H locs → decode cX9_append pc = .ok (.ireturn, 1) → W p l e ⟨1, 0, 0, 22⟩ s m args below meth c_ H locs 0 0 Q (F0 m pc ls [.int z0]) := by
    intro z0 z1 z2 z3 H locs pc ls h hP hS hd
    cases h
    exact hret hP hS hd
  rw [fX9_append] at hs
  refine lv_aload_n hx hb dX9_append_0 rfl (lv_at hl 0 rfl) ?_
  refine lv_iconst (v := (0 : Int32)) hx hb dX9_append_1 (by decide) ?_
  refine pf_X9_25 hx hb hts hown hK hP hD hS 0 rfl rfl dX9_append_2 (fun H locs hP hD hS => ?_)
  have hP : va_P D vwCl (MW bd cI ms msv mb mf mr (0 : Int32) mn ml mat mw mm mh) H := hP
  have hD : va_D A (MW bd cI ms msv mb mf mr (0 : Int32) mn ml mat mw mm mh) := hD
  refine lv_iload_n hx hb dX9_append_5 rfl (lv_at hl 1 rfl) ?_
  refine lv_bipush (v := (33 : Int32)) hx hb dX9_append_6 (by decide) ?_
  refine lv_bipush (v := (126 : Int32)) hx hb dX9_append_8 (by decide) ?_
  obtain ⟨q1, eq1, hs⟩ := ob hs
  refine nd_callS (As := [.int x1, .int (33 : Int32), .int (126 : Int32)]) (rest := []) (st1 := [.int q1]) hx hb hml hown hts hl hP hK hD hS hA hN (mX9_in eq1) is_X9_in wd_127 rfl rfl ⟨Nat.le_of_ble_eq_true rfl, Nat.le_of_ble_eq_true rfl⟩ (Nat.le_of_ble_eq_true rfl) ⟨Nat.zero_le _, Nat.zero_le _⟩ dX9_append_10 rfl rfl (fun H locs hP hD hS => ?_)
  refine lv_if_ne (tgt := 22) hx hb dX9_append_13 (by decide) (fun b2 => ?_) (fun b2 => ?_)
  · have hs := ite_f hs b2
    refine lv_aload_n hx hb dX9_append_22 rfl (lv_at hl 0 rfl) ?_
    refine gf_X9_96 hx hb hts hown hK hP 0 rfl rfl dX9_append_23 ?_
    refine lv_bipush (v := (60 : Int32)) hx hb dX9_append_26 (by decide) ?_
    refine lv_icmp_ne (tgt := 37) hx hb dX9_append_28 (by decide) (fun b3 => ?_) (fun b3 => ?_)
    · have hs := ite_f hs b3
      refine lv_aload_n hx hb dX9_append_37 rfl (lv_at hl 0 rfl) ?_
      refine gf_X9_16 hx hb hts hown hK hP 0 rfl rfl dX9_append_38 ?_
      refine lv_aload_n hx hb dX9_append_41 rfl (lv_at hl 0 rfl) ?_
      refine gf_X9_96 hx hb hts hown hK hP 0 rfl rfl dX9_append_42 ?_
      refine lv_iload_n hx hb dX9_append_45 rfl (lv_at hl 1 rfl) ?_
      obtain ⟨c4, ec4, hs⟩ := ob hs
      refine nd_iast hx hb hK hP hD hS 3 0 rfl rfl ec4 dX9_append_46 (fun H locs hP hD hS => ?_)
      have hP : va_P D vwCl (MW bd cI ms msv c4 mf mr (0 : Int32) mn ml mat mw mm mh) H := hP
      have hD : va_D A (MW bd cI ms msv c4 mf mr (0 : Int32) mn ml mat mw mm mh) := hD
      refine lv_aload_n hx hb dX9_append_47 rfl (lv_at hl 0 rfl) ?_
      refine lv_dup hx hb dX9_append_48 rfl ?_
      refine gf_X9_96 hx hb hts hown hK hP 0 rfl rfl dX9_append_49 ?_
      refine lv_iconst (v := (1 : Int32)) hx hb dX9_append_52 (by decide) ?_
      refine lv_iadd hx hb dX9_append_53 ?_
      refine pf_X9_96 hx hb hts hown hK hP hD hS 0 rfl rfl dX9_append_54 (fun H locs hP hD hS => ?_)
      have hP : va_P D vwCl (MW bd cI ms msv c4 mf mr (0 : Int32) mn (ml + (1 : Int32)) mat mw mm mh) H := hP
      have hD : va_D A (MW bd cI ms msv c4 mf mr (0 : Int32) mn (ml + (1 : Int32)) mat mw mm mh) := hD
      refine lv_aload_n hx hb dX9_append_57 rfl (lv_at hl 0 rfl) ?_
      refine gf_X9_96 hx hb hts hown hK hP 0 rfl rfl dX9_append_58 ?_
      exact hret _ _ _ _ hs hP hS dX9_append_61
    · have hs := ite_t hs b3
      refine lv_aload_n hx hb dX9_append_31 rfl (lv_at hl 0 rfl) ?_
      refine lv_iconst (v := (2 : Int32)) hx hb dX9_append_32 (by decide) ?_
      obtain ⟨q5, eq5, hs⟩ := ob hs
      refine nd_callV (As := [.int (2 : Int32)]) (rest := []) (st1 := [.int q5.1]) hx hb hml hown hts hl hP hK hD hS hA hN (mX9_fails eq5) iv_X9_fails wd_130 0 rfl rfl rfl rfl ⟨Nat.le_of_ble_eq_true rfl, Nat.le_of_ble_eq_true rfl⟩ (Nat.le_of_ble_eq_true rfl) ⟨Nat.zero_le _, Nat.zero_le _⟩ dX9_append_33 rfl rfl (fun H locs hP hD hS => ?_)
      exact hret _ _ _ _ hs hP hS dX9_append_36
  · have hs := ite_t hs b2
    refine lv_aload_n hx hb dX9_append_16 rfl (lv_at hl 0 rfl) ?_
    refine lv_iconst (v := (1 : Int32)) hx hb dX9_append_17 (by decide) ?_
    obtain ⟨q6, eq6, hs⟩ := ob hs
    refine nd_callV (As := [.int (1 : Int32)]) (rest := []) (st1 := [.int q6.1]) hx hb hml hown hts hl hP hK hD hS hA hN (mX9_fails eq6) iv_X9_fails wd_130 0 rfl rfl rfl rfl ⟨Nat.le_of_ble_eq_true rfl, Nat.le_of_ble_eq_true rfl⟩ (Nat.le_of_ble_eq_true rfl) ⟨Nat.zero_le _, Nat.zero_le _⟩ dX9_append_18 rfl rfl (fun H locs hP hD hS => ?_)
    exact hret _ _ _ _ hs hP hS dX9_append_21
def tX9_clearBuffer_0 : List (Nat × Instr × Nat) := [(0, .aload_n 0, 1), (1, .iconst 0, 1), (2, .putfield 25, 3), (5, .aload_n 0, 1), (6, .getfield 96, 3), (9, .istore_n 1, 1), (10, .aload_n 0, 1), (11, .iconst 0, 1), (12, .putfield 96, 3), (15, .iload_n 1, 1), (16, .ireturn, 1)]
theorem tX9_clearBuffer_0_ok : tX9_clearBuffer_0.all (fun q => decide (decode cX9_clearBuffer q.1 = .ok q.2)) = true := by decide +kernel
theorem dX9_clearBuffer_0 : decode cX9_clearBuffer 0 = .ok (.aload_n 0, 1) := td tX9_clearBuffer_0_ok 0 (q := (0, .aload_n 0, 1)) rfl
theorem dX9_clearBuffer_1 : decode cX9_clearBuffer 1 = .ok (.iconst 0, 1) := td tX9_clearBuffer_0_ok 1 (q := (1, .iconst 0, 1)) rfl
theorem dX9_clearBuffer_2 : decode cX9_clearBuffer 2 = .ok (.putfield 25, 3) := td tX9_clearBuffer_0_ok 2 (q := (2, .putfield 25, 3)) rfl
theorem dX9_clearBuffer_5 : decode cX9_clearBuffer 5 = .ok (.aload_n 0, 1) := td tX9_clearBuffer_0_ok 3 (q := (5, .aload_n 0, 1)) rfl
theorem dX9_clearBuffer_6 : decode cX9_clearBuffer 6 = .ok (.getfield 96, 3) := td tX9_clearBuffer_0_ok 4 (q := (6, .getfield 96, 3)) rfl
theorem dX9_clearBuffer_9 : decode cX9_clearBuffer 9 = .ok (.istore_n 1, 1) := td tX9_clearBuffer_0_ok 5 (q := (9, .istore_n 1, 1)) rfl
theorem dX9_clearBuffer_10 : decode cX9_clearBuffer 10 = .ok (.aload_n 0, 1) := td tX9_clearBuffer_0_ok 6 (q := (10, .aload_n 0, 1)) rfl
theorem dX9_clearBuffer_11 : decode cX9_clearBuffer 11 = .ok (.iconst 0, 1) := td tX9_clearBuffer_0_ok 7 (q := (11, .iconst 0, 1)) rfl
theorem dX9_clearBuffer_12 : decode cX9_clearBuffer 12 = .ok (.putfield 96, 3) := td tX9_clearBuffer_0_ok 8 (q := (12, .putfield 96, 3)) rfl
theorem dX9_clearBuffer_15 : decode cX9_clearBuffer 15 = .ok (.iload_n 1, 1) := td tX9_clearBuffer_0_ok 9 (q := (15, .iload_n 1, 1)) rfl
theorem dX9_clearBuffer_16 : decode cX9_clearBuffer 16 = .ok (.ireturn, 1) := td tX9_clearBuffer_0_ok 10 (q := (16, .ireturn, 1)) rfl
def fX9_clearBuffer (mt : Int32) (ml : Int32) : Option (Int32 × Int32 × Int32) :=
  (some (ml, (0 : Int32), (0 : Int32)))
set_option maxHeartbeats 4000000 in
set_option maxRecDepth 100000 in
theorem mX9_clearBuffer {l : Launch} {D : va_G} {bd : Nat → Nat} {cI : ClassId} {ms : (Nat → Int32)} {msv : (Nat → Int32)} {mb : (Nat → Int32)} {mf : (Nat → Int32)} {mr : (Nat → Int32)} {mt : Int32} {mn : Int32} {ml : Int32} {mat : Int32} {mw : Int32} {mm : Int32} {mh : Int64} {r : Int32} {mt' : Int32} {ml' : Int32} (hs : fX9_clearBuffer mt ml = some (r, mt', ml')) : nd_C l yX9_clearBuffer cX9_clearBuffer 2 (some .int) 0 0 D [(cI, .int)] [.ref (bd 0)] (MW bd cI ms msv mb mf mr mt mn ml mat mw mm mh) (MW bd cI ms msv mb mf mr mt' mn ml' mat mw mm mh) (some (.int r)) := by
  refine nd_ofCi (by decide) (Nat.le_of_ble_eq_true rfl) (fun p e s m args below meth c_ ls A Q hx hb hml hown hts hl hP hK hD hS hA hN hret => ?_)
  have hown : s.vm.findClass RX9 = some m.cls := hown
  have hl : lv_has ls 2 [(0, .ref (bd 0))] := hl
  have hret : ∀ (z0 : Int32) (z1 : Int32) (z2 : Int32) {H : Heap} {locs : List Loc} {pc : Nat} {ls : Array Slot}, some (z0, z1, z2) = some (r, mt', ml') → va_P D vwCl (MW bd cI ms msv mb mf mr z1 mn z2 mat mw mm mh) H → va_S A s.heap H locs → decode cX9_clearBuffer pc = .ok (.ireturn, 1) → W p l e ⟨0, 0, 0, 0⟩ s m args below meth c_ H locs 0 0 Q (F0 m pc ls [.int z0]) := by
    intro z0 z1 z2 H locs pc ls h hP hS hd
    cases h
    exact hret hP hS hd
  rw [fX9_clearBuffer] at hs
  refine lv_aload_n hx hb dX9_clearBuffer_0 rfl (lv_at hl 0 rfl) ?_
  refine lv_iconst (v := (0 : Int32)) hx hb dX9_clearBuffer_1 (by decide) ?_
  refine pf_X9_25 hx hb hts hown hK hP hD hS 0 rfl rfl dX9_clearBuffer_2 (fun H locs hP hD hS => ?_)
  have hP : va_P D vwCl (MW bd cI ms msv mb mf mr (0 : Int32) mn ml mat mw mm mh) H := hP
  have hD : va_D A (MW bd cI ms msv mb mf mr (0 : Int32) mn ml mat mw mm mh) := hD
  refine lv_aload_n hx hb dX9_clearBuffer_5 rfl (lv_at hl 0 rfl) ?_
  refine gf_X9_96 hx hb hts hown hK hP 0 rfl rfl dX9_clearBuffer_6 ?_
  refine lv_istore_n (lv' := [(1, .int ml), (0, .ref (bd 0))]) hx hb dX9_clearBuffer_9 rfl hl (by decide) rfl (fun ls hl => ?_)
  refine lv_aload_n hx hb dX9_clearBuffer_10 rfl (lv_at hl 1 rfl) ?_
  refine lv_iconst (v := (0 : Int32)) hx hb dX9_clearBuffer_11 (by decide) ?_
  refine pf_X9_96 hx hb hts hown hK hP hD hS 0 rfl rfl dX9_clearBuffer_12 (fun H locs hP hD hS => ?_)
  have hP : va_P D vwCl (MW bd cI ms msv mb mf mr (0 : Int32) mn (0 : Int32) mat mw mm mh) H := hP
  have hD : va_D A (MW bd cI ms msv mb mf mr (0 : Int32) mn (0 : Int32) mat mw mm mh) := hD
  refine lv_iload_n hx hb dX9_clearBuffer_15 rfl (lv_at hl 0 rfl) ?_
  exact hret _ _ _ hs hP hS dX9_clearBuffer_16
def tX9_firstError_0 : List (Nat × Instr × Nat) := [(0, .aload_n 0, 1), (1, .iconst 0, 1), (2, .putfield 25, 3), (5, .aload_n 0, 1), (6, .invokevirtual 89, 3), (9, .aload_n 0, 1), (10, .getfield 134, 3), (13, .ireturn, 1)]
theorem tX9_firstError_0_ok : tX9_firstError_0.all (fun q => decide (decode cX9_firstError q.1 = .ok q.2)) = true := by decide +kernel
theorem dX9_firstError_0 : decode cX9_firstError 0 = .ok (.aload_n 0, 1) := td tX9_firstError_0_ok 0 (q := (0, .aload_n 0, 1)) rfl
theorem dX9_firstError_1 : decode cX9_firstError 1 = .ok (.iconst 0, 1) := td tX9_firstError_0_ok 1 (q := (1, .iconst 0, 1)) rfl
theorem dX9_firstError_2 : decode cX9_firstError 2 = .ok (.putfield 25, 3) := td tX9_firstError_0_ok 2 (q := (2, .putfield 25, 3)) rfl
theorem dX9_firstError_5 : decode cX9_firstError 5 = .ok (.aload_n 0, 1) := td tX9_firstError_0_ok 3 (q := (5, .aload_n 0, 1)) rfl
theorem dX9_firstError_6 : decode cX9_firstError 6 = .ok (.invokevirtual 89, 3) := td tX9_firstError_0_ok 4 (q := (6, .invokevirtual 89, 3)) rfl
theorem dX9_firstError_9 : decode cX9_firstError 9 = .ok (.aload_n 0, 1) := td tX9_firstError_0_ok 5 (q := (9, .aload_n 0, 1)) rfl
theorem dX9_firstError_10 : decode cX9_firstError 10 = .ok (.getfield 134, 3) := td tX9_firstError_0_ok 6 (q := (10, .getfield 134, 3)) rfl
theorem dX9_firstError_13 : decode cX9_firstError 13 = .ok (.ireturn, 1) := td tX9_firstError_0_ok 7 (q := (13, .ireturn, 1)) rfl
def fX9_firstError (mb : (Nat → Int32)) (mr : (Nat → Int32)) (mt : Int32) (ml : Int32) (mat : Int32) (mw : Int32) (mm : Int32) : Option (Int32 × (Nat → Int32) × Int32 × Int32 × Int32 × Int32) :=
  (Option.bind (fX9_readsAll mb mr ml mat mw mm) (fun q1 => (some (q1.2.1, q1.1, (0 : Int32), q1.2.1, q1.2.2.1, q1.2.2.2))))
set_option maxHeartbeats 4000000 in
set_option maxRecDepth 100000 in
theorem mX9_firstError {l : Launch} {D : va_G} {bd : Nat → Nat} {cI : ClassId} {ms : (Nat → Int32)} {msv : (Nat → Int32)} {mb : (Nat → Int32)} {mf : (Nat → Int32)} {mr : (Nat → Int32)} {mt : Int32} {mn : Int32} {ml : Int32} {mat : Int32} {mw : Int32} {mm : Int32} {mh : Int64} {r : Int32} {mr' : (Nat → Int32)} {mt' : Int32} {mat' : Int32} {mw' : Int32} {mm' : Int32} (hs : fX9_firstError mb mr mt ml mat mw mm = some (r, mr', mt', mat', mw', mm')) : nd_C l yX9_firstError cX9_firstError 1 (some .int) 4 87 D [(cI, .int)] [.ref (bd 0)] (MW bd cI ms msv mb mf mr mt mn ml mat mw mm mh) (MW bd cI ms msv mb mf mr' mt' mn ml mat' mw' mm' mh) (some (.int r)) := by
  refine nd_ofCi (by decide) (Nat.le_of_ble_eq_true rfl) (fun p e s m args below meth c_ ls A Q hx hb hml hown hts hl hP hK hD hS hA hN hret => ?_)
  have hown : s.vm.findClass RX9 = some m.cls := hown
  have hl : lv_has ls 1 [(0, .ref (bd 0))] := hl
  have hret : ∀ (z0 : Int32) (z1 : (Nat → Int32)) (z2 : Int32) (z3 : Int32) (z4 : Int32) (z5 : Int32) {H : Heap} {locs : List Loc} {pc : Nat} {ls : Array Slot}, some (z0, z1, z2, z3, z4, z5) = some (r, mr', mt', mat', mw', mm') → va_P D vwCl (MW bd cI ms msv mb mf z1 z2 mn ml z3 z4 z5 mh) H → va_S A s.heap H locs → decode cX9_firstError pc = .ok (.ireturn, 1) → W p l e ⟨4, 0, 0, 87⟩ s m args below meth c_ H locs 0 0 Q (F0 m pc ls [.int z0]) := by
    intro z0 z1 z2 z3 z4 z5 H locs pc ls h hP hS hd
    cases h
    exact hret hP hS hd
  rw [fX9_firstError] at hs
  refine lv_aload_n hx hb dX9_firstError_0 rfl (lv_at hl 0 rfl) ?_
  refine lv_iconst (v := (0 : Int32)) hx hb dX9_firstError_1 (by decide) ?_
  refine pf_X9_25 hx hb hts hown hK hP hD hS 0 rfl rfl dX9_firstError_2 (fun H locs hP hD hS => ?_)
  have hP : va_P D vwCl (MW bd cI ms msv mb mf mr (0 : Int32) mn ml mat mw mm mh) H := hP
  have hD : va_D A (MW bd cI ms msv mb mf mr (0 : Int32) mn ml mat mw mm mh) := hD
  refine lv_aload_n hx hb dX9_firstError_5 rfl (lv_at hl 0 rfl) ?_
  obtain ⟨q1, eq1, hs⟩ := ob hs
  refine nd_callV (As := []) (rest := []) (st1 := []) hx hb hml hown hts hl hP hK hD hS hA hN (mX9_readsAll eq1) iv_X9_readsAll wd_278 0 rfl rfl rfl rfl ⟨Nat.le_of_ble_eq_true rfl, Nat.le_of_ble_eq_true rfl⟩ (Nat.le_of_ble_eq_true rfl) ⟨Nat.zero_le _, Nat.zero_le _⟩ dX9_firstError_6 rfl rfl (fun H locs hP hD hS => ?_)
  refine lv_aload_n hx hb dX9_firstError_9 rfl (lv_at hl 0 rfl) ?_
  refine gf_X9_134 hx hb hts hown hK hP 0 rfl rfl dX9_firstError_10 ?_
  exact hret _ _ _ _ _ _ hs hP hS dX9_firstError_13
def tX9_undo_0 : List (Nat × Instr × Nat) := [(0, .aload_n 0, 1), (1, .iconst 0, 1), (2, .putfield 25, 3), (5, .aload_n 0, 1), (6, .getfield 40, 3), (9, .ifCond .ne 9, 3), (12, .aload_n 0, 1), (13, .iconst 1, 1), (14, .invokevirtual 79, 3), (17, .ireturn, 1), (18, .aload_n 0, 1), (19, .dup, 1), (20, .getfield 40, 3), (23, .iconst 1, 1), (24, .isub, 1), (25, .putfield 40, 3), (28, .iconst 0, 1), (29, .istore_n 1, 1), (30, .iload_n 1, 1), (31, .sipush 531, 3), (34, .if_icmp .ge 30, 3), (37, .aload_n 0, 1), (38, .getfield 7, 3), (41, .iload_n 1, 1), (42, .aload_n 0, 1), (43, .getfield 13, 3), (46, .sipush 531, 3), (49, .aload_n 0, 1), (50, .getfield 40, 3), (53, .imul, 1), (54, .iload_n 1, 1), (55, .iadd, 1), (56, .iaload, 1), (57, .iastore, 1), (58, .iinc 1 1, 3), (61, .goto (-31), 3), (64, .aload_n 0, 1), (65, .getfield 40, 3), (68, .ireturn, 1)]
theorem tX9_undo_0_ok : tX9_undo_0.all (fun q => decide (decode cX9_undo q.1 = .ok q.2)) = true := by decide +kernel
theorem dX9_undo_0 : decode cX9_undo 0 = .ok (.aload_n 0, 1) := td tX9_undo_0_ok 0 (q := (0, .aload_n 0, 1)) rfl
theorem dX9_undo_1 : decode cX9_undo 1 = .ok (.iconst 0, 1) := td tX9_undo_0_ok 1 (q := (1, .iconst 0, 1)) rfl
theorem dX9_undo_2 : decode cX9_undo 2 = .ok (.putfield 25, 3) := td tX9_undo_0_ok 2 (q := (2, .putfield 25, 3)) rfl
theorem dX9_undo_5 : decode cX9_undo 5 = .ok (.aload_n 0, 1) := td tX9_undo_0_ok 3 (q := (5, .aload_n 0, 1)) rfl
theorem dX9_undo_6 : decode cX9_undo 6 = .ok (.getfield 40, 3) := td tX9_undo_0_ok 4 (q := (6, .getfield 40, 3)) rfl
theorem dX9_undo_9 : decode cX9_undo 9 = .ok (.ifCond .ne 9, 3) := td tX9_undo_0_ok 5 (q := (9, .ifCond .ne 9, 3)) rfl
theorem dX9_undo_12 : decode cX9_undo 12 = .ok (.aload_n 0, 1) := td tX9_undo_0_ok 6 (q := (12, .aload_n 0, 1)) rfl
theorem dX9_undo_13 : decode cX9_undo 13 = .ok (.iconst 1, 1) := td tX9_undo_0_ok 7 (q := (13, .iconst 1, 1)) rfl
theorem dX9_undo_14 : decode cX9_undo 14 = .ok (.invokevirtual 79, 3) := td tX9_undo_0_ok 8 (q := (14, .invokevirtual 79, 3)) rfl
theorem dX9_undo_17 : decode cX9_undo 17 = .ok (.ireturn, 1) := td tX9_undo_0_ok 9 (q := (17, .ireturn, 1)) rfl
theorem dX9_undo_18 : decode cX9_undo 18 = .ok (.aload_n 0, 1) := td tX9_undo_0_ok 10 (q := (18, .aload_n 0, 1)) rfl
theorem dX9_undo_19 : decode cX9_undo 19 = .ok (.dup, 1) := td tX9_undo_0_ok 11 (q := (19, .dup, 1)) rfl
theorem dX9_undo_20 : decode cX9_undo 20 = .ok (.getfield 40, 3) := td tX9_undo_0_ok 12 (q := (20, .getfield 40, 3)) rfl
theorem dX9_undo_23 : decode cX9_undo 23 = .ok (.iconst 1, 1) := td tX9_undo_0_ok 13 (q := (23, .iconst 1, 1)) rfl
theorem dX9_undo_24 : decode cX9_undo 24 = .ok (.isub, 1) := td tX9_undo_0_ok 14 (q := (24, .isub, 1)) rfl
theorem dX9_undo_25 : decode cX9_undo 25 = .ok (.putfield 40, 3) := td tX9_undo_0_ok 15 (q := (25, .putfield 40, 3)) rfl
theorem dX9_undo_28 : decode cX9_undo 28 = .ok (.iconst 0, 1) := td tX9_undo_0_ok 16 (q := (28, .iconst 0, 1)) rfl
theorem dX9_undo_29 : decode cX9_undo 29 = .ok (.istore_n 1, 1) := td tX9_undo_0_ok 17 (q := (29, .istore_n 1, 1)) rfl
theorem dX9_undo_30 : decode cX9_undo 30 = .ok (.iload_n 1, 1) := td tX9_undo_0_ok 18 (q := (30, .iload_n 1, 1)) rfl
theorem dX9_undo_31 : decode cX9_undo 31 = .ok (.sipush 531, 3) := td tX9_undo_0_ok 19 (q := (31, .sipush 531, 3)) rfl
theorem dX9_undo_34 : decode cX9_undo 34 = .ok (.if_icmp .ge 30, 3) := td tX9_undo_0_ok 20 (q := (34, .if_icmp .ge 30, 3)) rfl
theorem dX9_undo_37 : decode cX9_undo 37 = .ok (.aload_n 0, 1) := td tX9_undo_0_ok 21 (q := (37, .aload_n 0, 1)) rfl
theorem dX9_undo_38 : decode cX9_undo 38 = .ok (.getfield 7, 3) := td tX9_undo_0_ok 22 (q := (38, .getfield 7, 3)) rfl
theorem dX9_undo_41 : decode cX9_undo 41 = .ok (.iload_n 1, 1) := td tX9_undo_0_ok 23 (q := (41, .iload_n 1, 1)) rfl
theorem dX9_undo_42 : decode cX9_undo 42 = .ok (.aload_n 0, 1) := td tX9_undo_0_ok 24 (q := (42, .aload_n 0, 1)) rfl
theorem dX9_undo_43 : decode cX9_undo 43 = .ok (.getfield 13, 3) := td tX9_undo_0_ok 25 (q := (43, .getfield 13, 3)) rfl
theorem dX9_undo_46 : decode cX9_undo 46 = .ok (.sipush 531, 3) := td tX9_undo_0_ok 26 (q := (46, .sipush 531, 3)) rfl
theorem dX9_undo_49 : decode cX9_undo 49 = .ok (.aload_n 0, 1) := td tX9_undo_0_ok 27 (q := (49, .aload_n 0, 1)) rfl
theorem dX9_undo_50 : decode cX9_undo 50 = .ok (.getfield 40, 3) := td tX9_undo_0_ok 28 (q := (50, .getfield 40, 3)) rfl
theorem dX9_undo_53 : decode cX9_undo 53 = .ok (.imul, 1) := td tX9_undo_0_ok 29 (q := (53, .imul, 1)) rfl
theorem dX9_undo_54 : decode cX9_undo 54 = .ok (.iload_n 1, 1) := td tX9_undo_0_ok 30 (q := (54, .iload_n 1, 1)) rfl
theorem dX9_undo_55 : decode cX9_undo 55 = .ok (.iadd, 1) := td tX9_undo_0_ok 31 (q := (55, .iadd, 1)) rfl
theorem dX9_undo_56 : decode cX9_undo 56 = .ok (.iaload, 1) := td tX9_undo_0_ok 32 (q := (56, .iaload, 1)) rfl
theorem dX9_undo_57 : decode cX9_undo 57 = .ok (.iastore, 1) := td tX9_undo_0_ok 33 (q := (57, .iastore, 1)) rfl
theorem dX9_undo_58 : decode cX9_undo 58 = .ok (.iinc 1 1, 3) := td tX9_undo_0_ok 34 (q := (58, .iinc 1 1, 3)) rfl
theorem dX9_undo_61 : decode cX9_undo 61 = .ok (.goto (-31), 3) := td tX9_undo_0_ok 35 (q := (61, .goto (-31), 3)) rfl
theorem dX9_undo_64 : decode cX9_undo 64 = .ok (.aload_n 0, 1) := td tX9_undo_0_ok 36 (q := (64, .aload_n 0, 1)) rfl
theorem dX9_undo_65 : decode cX9_undo 65 = .ok (.getfield 40, 3) := td tX9_undo_0_ok 37 (q := (65, .getfield 40, 3)) rfl
theorem dX9_undo_68 : decode cX9_undo 68 = .ok (.ireturn, 1) := td tX9_undo_0_ok 38 (q := (68, .ireturn, 1)) rfl
def fX9_undo_30 (k30 : (Nat → Int32) → Option (Int32 × (Nat → Int32) × Int32 × Int32)) (msv : (Nat → Int32)) (mn : Int32) : Nat → Int32 → (Nat → Int32) → Option (Int32 × (Nat → Int32) × Int32 × Int32)
  | 0, _, _ => none
  | n30 + 1, x1, ms => (if (531 : Int32) ≤ x1 then (k30 ms) else (Option.bind (aget msv 3186 (((531 : Int32) * mn) + x1)) (fun t3 => (Option.bind (aput ms 531 x1 t3) (fun c4 => (fX9_undo_30 k30 msv mn n30 (x1 + (1 : Int32)) c4))))))
def fX9_undo (ms : (Nat → Int32)) (msv : (Nat → Int32)) (mt : Int32) (mn : Int32) : Option (Int32 × (Nat → Int32) × Int32 × Int32) :=
  (if mn = 0 then (Option.bind (fX9_fails (0 : Int32) (1 : Int32)) (fun q9 => (some (q9.1, ms, q9.2, mn)))) else (fX9_undo_30 (fun (ms_u5 : (Nat → Int32)) => (some (mn - (1 : Int32), ms_u5, (0 : Int32), mn - (1 : Int32)))) msv (mn - (1 : Int32)) LF (0 : Int32) ms))
set_option maxHeartbeats 4000000 in
set_option maxRecDepth 100000 in
theorem mX9_undo {l : Launch} {D : va_G} {bd : Nat → Nat} {cI : ClassId} {ms : (Nat → Int32)} {msv : (Nat → Int32)} {mb : (Nat → Int32)} {mf : (Nat → Int32)} {mr : (Nat → Int32)} {mt : Int32} {mn : Int32} {ml : Int32} {mat : Int32} {mw : Int32} {mm : Int32} {mh : Int64} {r : Int32} {ms' : (Nat → Int32)} {mt' : Int32} {mn' : Int32} (hs : fX9_undo ms msv mt mn = some (r, ms', mt', mn')) : nd_C l yX9_undo cX9_undo 2 (some .int) 1 21 D [(cI, .int)] [.ref (bd 0)] (MW bd cI ms msv mb mf mr mt mn ml mat mw mm mh) (MW bd cI ms' msv mb mf mr mt' mn' ml mat mw mm mh) (some (.int r)) := by
  refine nd_ofCi (by decide) (Nat.le_of_ble_eq_true rfl) (fun p e s m args below meth c_ ls A Q hx hb hml hown hts hl hP hK hD hS hA hN hret => ?_)
  have hown : s.vm.findClass RX9 = some m.cls := hown
  have hl : lv_has ls 2 [(0, .ref (bd 0))] := hl
  have hret : ∀ (z0 : Int32) (z1 : (Nat → Int32)) (z2 : Int32) (z3 : Int32) {H : Heap} {locs : List Loc} {pc : Nat} {ls : Array Slot}, some (z0, z1, z2, z3) = some (r, ms', mt', mn') → va_P D vwCl (MW bd cI z1 msv mb mf mr z2 z3 ml mat mw mm mh) H → va_S A s.heap H locs → decode cX9_undo pc = .ok (.ireturn, 1) → W p l e ⟨1, 0, 0, 21⟩ s m args below meth c_ H locs 0 0 Q (F0 m pc ls [.int z0]) := by
    intro z0 z1 z2 z3 H locs pc ls h hP hS hd
    cases h
    exact hret hP hS hd
  rw [fX9_undo] at hs
  refine lv_aload_n hx hb dX9_undo_0 rfl (lv_at hl 0 rfl) ?_
  refine lv_iconst (v := (0 : Int32)) hx hb dX9_undo_1 (by decide) ?_
  refine pf_X9_25 hx hb hts hown hK hP hD hS 0 rfl rfl dX9_undo_2 (fun H locs hP hD hS => ?_)
  have hP : va_P D vwCl (MW bd cI ms msv mb mf mr (0 : Int32) mn ml mat mw mm mh) H := hP
  have hD : va_D A (MW bd cI ms msv mb mf mr (0 : Int32) mn ml mat mw mm mh) := hD
  refine lv_aload_n hx hb dX9_undo_5 rfl (lv_at hl 0 rfl) ?_
  refine gf_X9_40 hx hb hts hown hK hP 0 rfl rfl dX9_undo_6 ?_
  refine lv_if_ne (tgt := 18) hx hb dX9_undo_9 (by decide) (fun b1 => ?_) (fun b1 => ?_)
  · have hs := ite_f hs b1
    refine lv_aload_n hx hb dX9_undo_18 rfl (lv_at hl 0 rfl) ?_
    refine lv_dup hx hb dX9_undo_19 rfl ?_
    refine gf_X9_40 hx hb hts hown hK hP 0 rfl rfl dX9_undo_20 ?_
    refine lv_iconst (v := (1 : Int32)) hx hb dX9_undo_23 (by decide) ?_
    refine lv_isub hx hb dX9_undo_24 ?_
    refine pf_X9_40 hx hb hts hown hK hP hD hS 0 rfl rfl dX9_undo_25 (fun H locs hP hD hS => ?_)
    have hP : va_P D vwCl (MW bd cI ms msv mb mf mr (0 : Int32) (mn - (1 : Int32)) ml mat mw mm mh) H := hP
    have hD : va_D A (MW bd cI ms msv mb mf mr (0 : Int32) (mn - (1 : Int32)) ml mat mw mm mh) := hD
    refine lv_iconst (v := (0 : Int32)) hx hb dX9_undo_28 (by decide) ?_
    refine lv_istore_n (lv' := [(1, .int (0 : Int32)), (0, .ref (bd 0))]) hx hb dX9_undo_29 rfl hl (by decide) rfl (fun ls hl => ?_)
    have L30 : ∀ (n30 : Nat) (k30 : (Nat → Int32) → Option (Int32 × (Nat → Int32) × Int32 × Int32)) (v1_5 : Int32) (ms_5 : (Nat → Int32)) (H : Heap) (locs : List Loc) (ls : Array Slot), lv_has ls 2 [(0, .ref (bd 0)), (1, .int v1_5)] → va_P D vwCl (MW bd cI ms_5 msv mb mf mr (0 : Int32) (mn - (1 : Int32)) ml mat mw mm mh) H → va_S A s.heap H locs → fX9_undo_30 k30 msv (mn - (1 : Int32)) n30 v1_5 ms_5 = some (r, ms', mt', mn') → (∀ (ms_u5 : (Nat → Int32)) (H : Heap) (locs : List Loc) (ls : Array Slot), lv_has ls 2 [(0, .ref (bd 0))] → va_P D vwCl (MW bd cI ms_u5 msv mb mf mr (0 : Int32) (mn - (1 : Int32)) ml mat mw mm mh) H → va_S A s.heap H locs → k30 ms_u5 = some (r, ms', mt', mn') → W p l e ⟨1, 0, 0, 21⟩ s m args below meth c_ H locs 0 0 Q (F0 m 64 ls [])) → W p l e ⟨1, 0, 0, 21⟩ s m args below meth c_ H locs 0 0 Q (F0 m 30 ls []) := by
      intro n30
      induction n30 with
      | zero =>
        intro k30 v1_5 ms_5 H locs ls hl hP hS hs hk30
        rw [fX9_undo_30] at hs
        cases hs
      | succ n30 ih30 =>
        intro k30 v1_5 ms_5 H locs ls hl hP hS hs hk30
        rw [fX9_undo_30] at hs
        have hD : va_D A (MW bd cI ms_5 msv mb mf mr (0 : Int32) (mn - (1 : Int32)) ml mat mw mm mh) := nd_DD hD rfl
        refine lv_iload_n hx hb dX9_undo_30 rfl (lv_at hl 1 rfl) ?_
        refine lv_sipush (v := (531 : Int32)) hx hb dX9_undo_31 (by decide) ?_
        refine lv_icmp_ge (tgt := 64) hx hb dX9_undo_34 (by decide) (fun b6 => ?_) (fun b6 => ?_)
        · have hs := ite_t hs b6
          exact hk30 ms_5 _ _ _ (lv_sub hl [0] rfl) hP hS hs
        · have hs := ite_f hs b6
          refine lv_aload_n hx hb dX9_undo_37 rfl (lv_at hl 0 rfl) ?_
          refine gf_X9_7 hx hb hts hown hK hP 0 rfl rfl dX9_undo_38 ?_
          refine lv_iload_n hx hb dX9_undo_41 rfl (lv_at hl 1 rfl) ?_
          refine lv_aload_n hx hb dX9_undo_42 rfl (lv_at hl 0 rfl) ?_
          refine gf_X9_13 hx hb hts hown hK hP 0 rfl rfl dX9_undo_43 ?_
          refine lv_sipush (v := (531 : Int32)) hx hb dX9_undo_46 (by decide) ?_
          refine lv_aload_n hx hb dX9_undo_49 rfl (lv_at hl 0 rfl) ?_
          refine gf_X9_40 hx hb hts hown hK hP 0 rfl rfl dX9_undo_50 ?_
          refine lv_imul hx hb dX9_undo_53 ?_
          refine lv_iload_n hx hb dX9_undo_54 rfl (lv_at hl 1 rfl) ?_
          refine lv_iadd hx hb dX9_undo_55 ?_
          obtain ⟨t7, et7, hs⟩ := ob hs
          refine nd_iald hx hb hK hP 2 0 rfl rfl et7 dX9_undo_56 ?_
          obtain ⟨c8, ec8, hs⟩ := ob hs
          refine nd_iast hx hb hK hP hD hS 1 0 rfl rfl ec8 dX9_undo_57 (fun H locs hP hD hS => ?_)
          have hP : va_P D vwCl (MW bd cI c8 msv mb mf mr (0 : Int32) (mn - (1 : Int32)) ml mat mw mm mh) H := hP
          have hD : va_D A (MW bd cI c8 msv mb mf mr (0 : Int32) (mn - (1 : Int32)) ml mat mw mm mh) := hD
          refine lv_iinc (v := v1_5 + (1 : Int32)) (lv' := [(1, .int (v1_5 + (1 : Int32))), (0, .ref (bd 0))]) hx hb dX9_undo_58 hl (k := 1) rfl rfl (by decide) rfl (fun ls hl => ?_)
          refine lv_goto (tgt := 30) hx hb dX9_undo_61 (by decide) ?_
          exact ih30 k30 (v1_5 + (1 : Int32)) c8 _ _ _ (lv_sub hl [1, 0] rfl) hP hS hs hk30
    refine L30 LF _ (0 : Int32) ms _ _ _ (lv_sub hl [1, 0] rfl) hP hS hs (fun ms_u5 H locs ls hl hP hS hs => ?_)
    have hD : va_D A (MW bd cI ms_u5 msv mb mf mr (0 : Int32) (mn - (1 : Int32)) ml mat mw mm mh) := nd_DD hD rfl
    refine lv_aload_n hx hb dX9_undo_64 rfl (lv_at hl 0 rfl) ?_
    refine gf_X9_40 hx hb hts hown hK hP 0 rfl rfl dX9_undo_65 ?_
    exact hret _ _ _ _ hs hP hS dX9_undo_68
  · have hs := ite_t hs b1
    refine lv_aload_n hx hb dX9_undo_12 rfl (lv_at hl 0 rfl) ?_
    refine lv_iconst (v := (1 : Int32)) hx hb dX9_undo_13 (by decide) ?_
    obtain ⟨q9, eq9, hs⟩ := ob hs
    refine nd_callV (As := [.int (1 : Int32)]) (rest := []) (st1 := [.int q9.1]) hx hb hml hown hts hl hP hK hD hS hA hN (mX9_fails eq9) iv_X9_fails wd_130 0 rfl rfl rfl rfl ⟨Nat.le_of_ble_eq_true rfl, Nat.le_of_ble_eq_true rfl⟩ (Nat.le_of_ble_eq_true rfl) ⟨Nat.zero_le _, Nat.zero_le _⟩ dX9_undo_14 rfl rfl (fun H locs hP hD hS => ?_)
    exact hret _ _ _ _ hs hP hS dX9_undo_17
def tX9_sumOfPiece_0 : List (Nat × Instr × Nat) := [(0, .iconst 0, 1), (1, .istore_n 2, 1), (2, .iconst 0, 1), (3, .istore_n 3, 1), (4, .iload_n 3, 1), (5, .aload_n 0, 1), (6, .iload_n 1, 1), (7, .iconst 2, 1), (8, .invokevirtual 33, 3), (11, .if_icmp .ge 18, 3), (14, .iload_n 2, 1), (15, .aload_n 0, 1), (16, .iload_n 1, 1), (17, .iload_n 3, 1), (18, .invokevirtual 47, 3), (21, .iadd, 1), (22, .istore_n 2, 1), (23, .iinc 3 1, 3), (26, .goto (-22), 3), (29, .iload_n 2, 1), (30, .ireturn, 1)]
theorem tX9_sumOfPiece_0_ok : tX9_sumOfPiece_0.all (fun q => decide (decode cX9_sumOfPiece q.1 = .ok q.2)) = true := by decide +kernel
theorem dX9_sumOfPiece_0 : decode cX9_sumOfPiece 0 = .ok (.iconst 0, 1) := td tX9_sumOfPiece_0_ok 0 (q := (0, .iconst 0, 1)) rfl
theorem dX9_sumOfPiece_1 : decode cX9_sumOfPiece 1 = .ok (.istore_n 2, 1) := td tX9_sumOfPiece_0_ok 1 (q := (1, .istore_n 2, 1)) rfl
theorem dX9_sumOfPiece_2 : decode cX9_sumOfPiece 2 = .ok (.iconst 0, 1) := td tX9_sumOfPiece_0_ok 2 (q := (2, .iconst 0, 1)) rfl
theorem dX9_sumOfPiece_3 : decode cX9_sumOfPiece 3 = .ok (.istore_n 3, 1) := td tX9_sumOfPiece_0_ok 3 (q := (3, .istore_n 3, 1)) rfl
theorem dX9_sumOfPiece_4 : decode cX9_sumOfPiece 4 = .ok (.iload_n 3, 1) := td tX9_sumOfPiece_0_ok 4 (q := (4, .iload_n 3, 1)) rfl
theorem dX9_sumOfPiece_5 : decode cX9_sumOfPiece 5 = .ok (.aload_n 0, 1) := td tX9_sumOfPiece_0_ok 5 (q := (5, .aload_n 0, 1)) rfl
theorem dX9_sumOfPiece_6 : decode cX9_sumOfPiece 6 = .ok (.iload_n 1, 1) := td tX9_sumOfPiece_0_ok 6 (q := (6, .iload_n 1, 1)) rfl
theorem dX9_sumOfPiece_7 : decode cX9_sumOfPiece 7 = .ok (.iconst 2, 1) := td tX9_sumOfPiece_0_ok 7 (q := (7, .iconst 2, 1)) rfl
theorem dX9_sumOfPiece_8 : decode cX9_sumOfPiece 8 = .ok (.invokevirtual 33, 3) := td tX9_sumOfPiece_0_ok 8 (q := (8, .invokevirtual 33, 3)) rfl
theorem dX9_sumOfPiece_11 : decode cX9_sumOfPiece 11 = .ok (.if_icmp .ge 18, 3) := td tX9_sumOfPiece_0_ok 9 (q := (11, .if_icmp .ge 18, 3)) rfl
theorem dX9_sumOfPiece_14 : decode cX9_sumOfPiece 14 = .ok (.iload_n 2, 1) := td tX9_sumOfPiece_0_ok 10 (q := (14, .iload_n 2, 1)) rfl
theorem dX9_sumOfPiece_15 : decode cX9_sumOfPiece 15 = .ok (.aload_n 0, 1) := td tX9_sumOfPiece_0_ok 11 (q := (15, .aload_n 0, 1)) rfl
theorem dX9_sumOfPiece_16 : decode cX9_sumOfPiece 16 = .ok (.iload_n 1, 1) := td tX9_sumOfPiece_0_ok 12 (q := (16, .iload_n 1, 1)) rfl
theorem dX9_sumOfPiece_17 : decode cX9_sumOfPiece 17 = .ok (.iload_n 3, 1) := td tX9_sumOfPiece_0_ok 13 (q := (17, .iload_n 3, 1)) rfl
theorem dX9_sumOfPiece_18 : decode cX9_sumOfPiece 18 = .ok (.invokevirtual 47, 3) := td tX9_sumOfPiece_0_ok 14 (q := (18, .invokevirtual 47, 3)) rfl
theorem dX9_sumOfPiece_21 : decode cX9_sumOfPiece 21 = .ok (.iadd, 1) := td tX9_sumOfPiece_0_ok 15 (q := (21, .iadd, 1)) rfl
theorem dX9_sumOfPiece_22 : decode cX9_sumOfPiece 22 = .ok (.istore_n 2, 1) := td tX9_sumOfPiece_0_ok 16 (q := (22, .istore_n 2, 1)) rfl
theorem dX9_sumOfPiece_23 : decode cX9_sumOfPiece 23 = .ok (.iinc 3 1, 3) := td tX9_sumOfPiece_0_ok 17 (q := (23, .iinc 3 1, 3)) rfl
theorem dX9_sumOfPiece_26 : decode cX9_sumOfPiece 26 = .ok (.goto (-22), 3) := td tX9_sumOfPiece_0_ok 18 (q := (26, .goto (-22), 3)) rfl
theorem dX9_sumOfPiece_29 : decode cX9_sumOfPiece 29 = .ok (.iload_n 2, 1) := td tX9_sumOfPiece_0_ok 19 (q := (29, .iload_n 2, 1)) rfl
theorem dX9_sumOfPiece_30 : decode cX9_sumOfPiece 30 = .ok (.ireturn, 1) := td tX9_sumOfPiece_0_ok 20 (q := (30, .ireturn, 1)) rfl
def fX9_sumOfPiece_4 (k4 : Int32 → Option (Int32)) (ms : (Nat → Int32)) (x1 : Int32) : Nat → Int32 → Int32 → Option (Int32)
  | 0, _, _ => none
  | n4 + 1, x2, x3 => (Option.bind (fX9_of ms x1 (2 : Int32)) (fun q1 => (if q1 ≤ x3 then (k4 x2) else (Option.bind (fX9_sumOf ms x1 x3) (fun q3 => (fX9_sumOfPiece_4 k4 ms x1 n4 (x2 + q3) (x3 + (1 : Int32))))))))
def fX9_sumOfPiece (ms : (Nat → Int32)) (x1 : Int32) : Option (Int32) :=
  (fX9_sumOfPiece_4 (fun (u2_4 : Int32) => (some u2_4)) ms x1 LF (0 : Int32) (0 : Int32))
set_option maxHeartbeats 4000000 in
set_option maxRecDepth 100000 in
theorem mX9_sumOfPiece {l : Launch} {D : va_G} {bd : Nat → Nat} {cI : ClassId} {ms : (Nat → Int32)} {msv : (Nat → Int32)} {mb : (Nat → Int32)} {mf : (Nat → Int32)} {mr : (Nat → Int32)} {mt : Int32} {mn : Int32} {ml : Int32} {mat : Int32} {mw : Int32} {mm : Int32} {mh : Int64} {x1 : Int32} {r : Int32} (hs : fX9_sumOfPiece ms x1 = some r) : nd_C l yX9_sumOfPiece cX9_sumOfPiece 4 (some .int) 2 46 D [(cI, .int)] [.ref (bd 0), .int x1] (MW bd cI ms msv mb mf mr mt mn ml mat mw mm mh) (MW bd cI ms msv mb mf mr mt mn ml mat mw mm mh) (some (.int r)) := by
  refine nd_ofCi (by decide) (Nat.le_of_ble_eq_true rfl) (fun p e s m args below meth c_ ls A Q hx hb hml hown hts hl hP hK hD hS hA hN hret => ?_)
  have hown : s.vm.findClass RX9 = some m.cls := hown
  have hl : lv_has ls 4 [(0, .ref (bd 0)), (1, .int x1)] := hl
  have hret : ∀ (z0 : Int32) {H : Heap} {locs : List Loc} {pc : Nat} {ls : Array Slot}, some z0 = some r → va_P D vwCl (MW bd cI ms msv mb mf mr mt mn ml mat mw mm mh) H → va_S A s.heap H locs → decode cX9_sumOfPiece pc = .ok (.ireturn, 1) → W p l e ⟨2, 0, 0, 46⟩ s m args below meth c_ H locs 0 0 Q (F0 m pc ls [.int z0]) := by
    intro z0 H locs pc ls h hP hS hd
    cases h
    exact hret hP hS hd
  rw [fX9_sumOfPiece] at hs
  refine lv_iconst (v := (0 : Int32)) hx hb dX9_sumOfPiece_0 (by decide) ?_
  refine lv_istore_n (lv' := [(2, .int (0 : Int32)), (0, .ref (bd 0)), (1, .int x1)]) hx hb dX9_sumOfPiece_1 rfl hl (by decide) rfl (fun ls hl => ?_)
  refine lv_iconst (v := (0 : Int32)) hx hb dX9_sumOfPiece_2 (by decide) ?_
  refine lv_istore_n (lv' := [(3, .int (0 : Int32)), (2, .int (0 : Int32)), (0, .ref (bd 0)), (1, .int x1)]) hx hb dX9_sumOfPiece_3 rfl hl (by decide) rfl (fun ls hl => ?_)
  have L4 : ∀ (n4 : Nat) (k4 : Int32 → Option (Int32)) (v2_4 : Int32) (v3_4 : Int32) (H : Heap) (locs : List Loc) (ls : Array Slot), lv_has ls 4 [(0, .ref (bd 0)), (1, .int x1), (2, .int v2_4), (3, .int v3_4)] → va_P D vwCl (MW bd cI ms msv mb mf mr mt mn ml mat mw mm mh) H → va_S A s.heap H locs → fX9_sumOfPiece_4 k4 ms x1 n4 v2_4 v3_4 = some r → (∀ (u2_4 : Int32) (H : Heap) (locs : List Loc) (ls : Array Slot), lv_has ls 4 [(2, .int u2_4)] → va_P D vwCl (MW bd cI ms msv mb mf mr mt mn ml mat mw mm mh) H → va_S A s.heap H locs → k4 u2_4 = some r → W p l e ⟨2, 0, 0, 46⟩ s m args below meth c_ H locs 0 0 Q (F0 m 29 ls [])) → W p l e ⟨2, 0, 0, 46⟩ s m args below meth c_ H locs 0 0 Q (F0 m 4 ls []) := by
    intro n4
    induction n4 with
    | zero =>
      intro k4 v2_4 v3_4 H locs ls hl hP hS hs hk4
      rw [fX9_sumOfPiece_4] at hs
      cases hs
    | succ n4 ih4 =>
      intro k4 v2_4 v3_4 H locs ls hl hP hS hs hk4
      rw [fX9_sumOfPiece_4] at hs
      refine lv_iload_n hx hb dX9_sumOfPiece_4 rfl (lv_at hl 3 rfl) ?_
      refine lv_aload_n hx hb dX9_sumOfPiece_5 rfl (lv_at hl 0 rfl) ?_
      refine lv_iload_n hx hb dX9_sumOfPiece_6 rfl (lv_at hl 1 rfl) ?_
      refine lv_iconst (v := (2 : Int32)) hx hb dX9_sumOfPiece_7 (by decide) ?_
      obtain ⟨q5, eq5, hs⟩ := ob hs
      refine nd_callV (As := [.int x1, .int (2 : Int32)]) (rest := [.int v3_4]) (st1 := [.int q5, .int v3_4]) hx hb hml hown hts hl hP hK hD hS hA hN (mX9_of eq5) iv_X9_of wd_307 0 rfl rfl rfl rfl ⟨Nat.le_of_ble_eq_true rfl, Nat.le_of_ble_eq_true rfl⟩ (Nat.le_of_ble_eq_true rfl) ⟨Nat.zero_le _, Nat.zero_le _⟩ dX9_sumOfPiece_8 rfl rfl (fun H locs hP hD hS => ?_)
      refine lv_icmp_ge (tgt := 29) hx hb dX9_sumOfPiece_11 (by decide) (fun b6 => ?_) (fun b6 => ?_)
      · have hs := ite_t hs b6
        exact hk4 v2_4 _ _ _ (lv_sub hl [2] rfl) hP hS hs
      · have hs := ite_f hs b6
        refine lv_iload_n hx hb dX9_sumOfPiece_14 rfl (lv_at hl 2 rfl) ?_
        refine lv_aload_n hx hb dX9_sumOfPiece_15 rfl (lv_at hl 0 rfl) ?_
        refine lv_iload_n hx hb dX9_sumOfPiece_16 rfl (lv_at hl 1 rfl) ?_
        refine lv_iload_n hx hb dX9_sumOfPiece_17 rfl (lv_at hl 3 rfl) ?_
        obtain ⟨q7, eq7, hs⟩ := ob hs
        refine nd_callV (As := [.int x1, .int v3_4]) (rest := [.int v2_4]) (st1 := [.int q7, .int v2_4]) hx hb hml hown hts hl hP hK hD hS hA hN (mX9_sumOf eq7) iv_X9_sumOf wd_345 0 rfl rfl rfl rfl ⟨Nat.le_of_ble_eq_true rfl, Nat.le_of_ble_eq_true rfl⟩ (Nat.le_of_ble_eq_true rfl) ⟨Nat.zero_le _, Nat.zero_le _⟩ dX9_sumOfPiece_18 rfl rfl (fun H locs hP hD hS => ?_)
        refine lv_iadd hx hb dX9_sumOfPiece_21 ?_
        refine lv_istore_n (lv' := [(2, .int (v2_4 + q7)), (0, .ref (bd 0)), (1, .int x1), (3, .int v3_4)]) hx hb dX9_sumOfPiece_22 rfl hl (by decide) rfl (fun ls hl => ?_)
        refine lv_iinc (v := v3_4 + (1 : Int32)) (lv' := [(3, .int (v3_4 + (1 : Int32))), (2, .int (v2_4 + q7)), (0, .ref (bd 0)), (1, .int x1)]) hx hb dX9_sumOfPiece_23 hl (k := 3) rfl rfl (by decide) rfl (fun ls hl => ?_)
        refine lv_goto (tgt := 4) hx hb dX9_sumOfPiece_26 (by decide) ?_
        exact ih4 k4 (v2_4 + q7) (v3_4 + (1 : Int32)) _ _ _ (lv_sub hl [2, 3, 1, 0] rfl) hP hS hs hk4
  refine L4 LF _ (0 : Int32) (0 : Int32) _ _ _ (lv_sub hl [2, 3, 1, 0] rfl) hP hS hs (fun u2_4 H locs ls hl hP hS hs => ?_)
  refine lv_iload_n hx hb dX9_sumOfPiece_29 rfl (lv_at hl 0 rfl) ?_
  exact hret _ hs hP hS dX9_sumOfPiece_30
def tX9_tellsPiece_0 : List (Nat × Instr × Nat) := [(0, .iload_n 2, 1), (1, .tableswitch 65 3 7 #[35, 41, 47, 53, 59], 35), (36, .aload_n 0, 1), (37, .iload_n 1, 1), (38, .invokevirtual 54, 3), (41, .ireturn, 1), (42, .aload_n 0, 1), (43, .iload_n 1, 1), (44, .invokevirtual 60, 3), (47, .ireturn, 1), (48, .aload_n 0, 1), (49, .iload_n 1, 1), (50, .invokevirtual 63, 3), (53, .ireturn, 1), (54, .aload_n 0, 1), (55, .iload_n 1, 1), (56, .invokevirtual 118, 3), (59, .ireturn, 1), (60, .aload_n 0, 1), (61, .iload_n 1, 1), (62, .invokevirtual 149, 3), (65, .ireturn, 1), (66, .aload_n 0, 1), (67, .iload_n 1, 1), (68, .iload_n 2, 1), (69, .invokevirtual 33, 3), (72, .ireturn, 1)]
theorem tX9_tellsPiece_0_ok : tX9_tellsPiece_0.all (fun q => decide (decode cX9_tellsPiece q.1 = .ok q.2)) = true := by decide +kernel
theorem dX9_tellsPiece_0 : decode cX9_tellsPiece 0 = .ok (.iload_n 2, 1) := td tX9_tellsPiece_0_ok 0 (q := (0, .iload_n 2, 1)) rfl
theorem dX9_tellsPiece_1 : decode cX9_tellsPiece 1 = .ok (.tableswitch 65 3 7 #[35, 41, 47, 53, 59], 35) := td tX9_tellsPiece_0_ok 1 (q := (1, .tableswitch 65 3 7 #[35, 41, 47, 53, 59], 35)) rfl
theorem dX9_tellsPiece_36 : decode cX9_tellsPiece 36 = .ok (.aload_n 0, 1) := td tX9_tellsPiece_0_ok 2 (q := (36, .aload_n 0, 1)) rfl
theorem dX9_tellsPiece_37 : decode cX9_tellsPiece 37 = .ok (.iload_n 1, 1) := td tX9_tellsPiece_0_ok 3 (q := (37, .iload_n 1, 1)) rfl
theorem dX9_tellsPiece_38 : decode cX9_tellsPiece 38 = .ok (.invokevirtual 54, 3) := td tX9_tellsPiece_0_ok 4 (q := (38, .invokevirtual 54, 3)) rfl
theorem dX9_tellsPiece_41 : decode cX9_tellsPiece 41 = .ok (.ireturn, 1) := td tX9_tellsPiece_0_ok 5 (q := (41, .ireturn, 1)) rfl
theorem dX9_tellsPiece_42 : decode cX9_tellsPiece 42 = .ok (.aload_n 0, 1) := td tX9_tellsPiece_0_ok 6 (q := (42, .aload_n 0, 1)) rfl
theorem dX9_tellsPiece_43 : decode cX9_tellsPiece 43 = .ok (.iload_n 1, 1) := td tX9_tellsPiece_0_ok 7 (q := (43, .iload_n 1, 1)) rfl
theorem dX9_tellsPiece_44 : decode cX9_tellsPiece 44 = .ok (.invokevirtual 60, 3) := td tX9_tellsPiece_0_ok 8 (q := (44, .invokevirtual 60, 3)) rfl
theorem dX9_tellsPiece_47 : decode cX9_tellsPiece 47 = .ok (.ireturn, 1) := td tX9_tellsPiece_0_ok 9 (q := (47, .ireturn, 1)) rfl
theorem dX9_tellsPiece_48 : decode cX9_tellsPiece 48 = .ok (.aload_n 0, 1) := td tX9_tellsPiece_0_ok 10 (q := (48, .aload_n 0, 1)) rfl
theorem dX9_tellsPiece_49 : decode cX9_tellsPiece 49 = .ok (.iload_n 1, 1) := td tX9_tellsPiece_0_ok 11 (q := (49, .iload_n 1, 1)) rfl
theorem dX9_tellsPiece_50 : decode cX9_tellsPiece 50 = .ok (.invokevirtual 63, 3) := td tX9_tellsPiece_0_ok 12 (q := (50, .invokevirtual 63, 3)) rfl
theorem dX9_tellsPiece_53 : decode cX9_tellsPiece 53 = .ok (.ireturn, 1) := td tX9_tellsPiece_0_ok 13 (q := (53, .ireturn, 1)) rfl
theorem dX9_tellsPiece_54 : decode cX9_tellsPiece 54 = .ok (.aload_n 0, 1) := td tX9_tellsPiece_0_ok 14 (q := (54, .aload_n 0, 1)) rfl
theorem dX9_tellsPiece_55 : decode cX9_tellsPiece 55 = .ok (.iload_n 1, 1) := td tX9_tellsPiece_0_ok 15 (q := (55, .iload_n 1, 1)) rfl
theorem dX9_tellsPiece_56 : decode cX9_tellsPiece 56 = .ok (.invokevirtual 118, 3) := td tX9_tellsPiece_0_ok 16 (q := (56, .invokevirtual 118, 3)) rfl
theorem dX9_tellsPiece_59 : decode cX9_tellsPiece 59 = .ok (.ireturn, 1) := td tX9_tellsPiece_0_ok 17 (q := (59, .ireturn, 1)) rfl
theorem dX9_tellsPiece_60 : decode cX9_tellsPiece 60 = .ok (.aload_n 0, 1) := td tX9_tellsPiece_0_ok 18 (q := (60, .aload_n 0, 1)) rfl
theorem dX9_tellsPiece_61 : decode cX9_tellsPiece 61 = .ok (.iload_n 1, 1) := td tX9_tellsPiece_0_ok 19 (q := (61, .iload_n 1, 1)) rfl
theorem dX9_tellsPiece_62 : decode cX9_tellsPiece 62 = .ok (.invokevirtual 149, 3) := td tX9_tellsPiece_0_ok 20 (q := (62, .invokevirtual 149, 3)) rfl
theorem dX9_tellsPiece_65 : decode cX9_tellsPiece 65 = .ok (.ireturn, 1) := td tX9_tellsPiece_0_ok 21 (q := (65, .ireturn, 1)) rfl
theorem dX9_tellsPiece_66 : decode cX9_tellsPiece 66 = .ok (.aload_n 0, 1) := td tX9_tellsPiece_0_ok 22 (q := (66, .aload_n 0, 1)) rfl
theorem dX9_tellsPiece_67 : decode cX9_tellsPiece 67 = .ok (.iload_n 1, 1) := td tX9_tellsPiece_0_ok 23 (q := (67, .iload_n 1, 1)) rfl
theorem dX9_tellsPiece_68 : decode cX9_tellsPiece 68 = .ok (.iload_n 2, 1) := td tX9_tellsPiece_0_ok 24 (q := (68, .iload_n 2, 1)) rfl
theorem dX9_tellsPiece_69 : decode cX9_tellsPiece 69 = .ok (.invokevirtual 33, 3) := td tX9_tellsPiece_0_ok 25 (q := (69, .invokevirtual 33, 3)) rfl
theorem dX9_tellsPiece_72 : decode cX9_tellsPiece 72 = .ok (.ireturn, 1) := td tX9_tellsPiece_0_ok 26 (q := (72, .ireturn, 1)) rfl
def fX9_tellsPiece (ms : (Nat → Int32)) (x1 : Int32) (x2 : Int32) : Option (Int32) :=
  (if x2 = (3 : Int32) then (Option.bind (fX9_upperOf ms x1) (fun q2 => (some q2))) else (if x2 = (4 : Int32) then (Option.bind (fX9_lowerOf ms x1) (fun q4 => (some q4))) else (if x2 = (5 : Int32) then (Option.bind (fX9_firstOf ms x1) (fun q6 => (some q6))) else (if x2 = (6 : Int32) then (Option.bind (fX9_canBelow ms x1) (fun q8 => (some q8))) else (if x2 = (7 : Int32) then (Option.bind (fX9_sumOfPiece ms x1) (fun q10 => (some q10))) else (Option.bind (fX9_of ms x1 x2) (fun q11 => (some q11))))))))
set_option maxHeartbeats 4000000 in
set_option maxRecDepth 100000 in
theorem mX9_tellsPiece {l : Launch} {D : va_G} {bd : Nat → Nat} {cI : ClassId} {ms : (Nat → Int32)} {msv : (Nat → Int32)} {mb : (Nat → Int32)} {mf : (Nat → Int32)} {mr : (Nat → Int32)} {mt : Int32} {mn : Int32} {ml : Int32} {mat : Int32} {mw : Int32} {mm : Int32} {mh : Int64} {x1 : Int32} {x2 : Int32} {r : Int32} (hs : fX9_tellsPiece ms x1 x2 = some r) : nd_C l yX9_tellsPiece cX9_tellsPiece 3 (some .int) 5 111 D [(cI, .int)] [.ref (bd 0), .int x1, .int x2] (MW bd cI ms msv mb mf mr mt mn ml mat mw mm mh) (MW bd cI ms msv mb mf mr mt mn ml mat mw mm mh) (some (.int r)) := by
  refine nd_ofCi (by decide) (Nat.le_of_ble_eq_true rfl) (fun p e s m args below meth c_ ls A Q hx hb hml hown hts hl hP hK hD hS hA hN hret => ?_)
  have hown : s.vm.findClass RX9 = some m.cls := hown
  have hl : lv_has ls 3 [(0, .ref (bd 0)), (1, .int x1), (2, .int x2)] := hl
  have hret : ∀ (z0 : Int32) {H : Heap} {locs : List Loc} {pc : Nat} {ls : Array Slot}, some z0 = some r → va_P D vwCl (MW bd cI ms msv mb mf mr mt mn ml mat mw mm mh) H → va_S A s.heap H locs → decode cX9_tellsPiece pc = .ok (.ireturn, 1) → W p l e ⟨5, 0, 0, 111⟩ s m args below meth c_ H locs 0 0 Q (F0 m pc ls [.int z0]) := by
    intro z0 H locs pc ls h hP hS hd
    cases h
    exact hret hP hS hd
  rw [fX9_tellsPiece] at hs
  refine lv_iload_n hx hb dX9_tellsPiece_0 rfl (lv_at hl 2 rfl) ?_
  by_cases b1 : x2 = (3 : Int32)
  · have hs := ite_t hs b1
    rw [b1]
    refine lv_tableIn (off := (35)) (tgt := 36) hx hb dX9_tellsPiece_1 (by decide) (by decide) (by decide) (by decide) ?_
    refine lv_aload_n hx hb dX9_tellsPiece_36 rfl (lv_at hl 0 rfl) ?_
    refine lv_iload_n hx hb dX9_tellsPiece_37 rfl (lv_at hl 1 rfl) ?_
    obtain ⟨q2, eq2, hs⟩ := ob hs
    refine nd_callV (As := [.int x1]) (rest := []) (st1 := [.int q2]) hx hb hml hown hts hl hP hK hD hS hA hN (mX9_upperOf eq2) iv_X9_upperOf wd_326 0 rfl rfl rfl rfl ⟨Nat.le_of_ble_eq_true rfl, Nat.le_of_ble_eq_true rfl⟩ (Nat.le_of_ble_eq_true rfl) ⟨Nat.zero_le _, Nat.zero_le _⟩ dX9_tellsPiece_38 rfl rfl (fun H locs hP hD hS => ?_)
    exact hret _ hs hP hS dX9_tellsPiece_41
  have hs := ite_f hs b1
  by_cases b3 : x2 = (4 : Int32)
  · have hs := ite_t hs b3
    rw [b3]
    refine lv_tableIn (off := (41)) (tgt := 42) hx hb dX9_tellsPiece_1 (by decide) (by decide) (by decide) (by decide) ?_
    refine lv_aload_n hx hb dX9_tellsPiece_42 rfl (lv_at hl 0 rfl) ?_
    refine lv_iload_n hx hb dX9_tellsPiece_43 rfl (lv_at hl 1 rfl) ?_
    obtain ⟨q4, eq4, hs⟩ := ob hs
    refine nd_callV (As := [.int x1]) (rest := []) (st1 := [.int q4]) hx hb hml hown hts hl hP hK hD hS hA hN (mX9_lowerOf eq4) iv_X9_lowerOf wd_303 0 rfl rfl rfl rfl ⟨Nat.le_of_ble_eq_true rfl, Nat.le_of_ble_eq_true rfl⟩ (Nat.le_of_ble_eq_true rfl) ⟨Nat.zero_le _, Nat.zero_le _⟩ dX9_tellsPiece_44 rfl rfl (fun H locs hP hD hS => ?_)
    exact hret _ hs hP hS dX9_tellsPiece_47
  have hs := ite_f hs b3
  by_cases b5 : x2 = (5 : Int32)
  · have hs := ite_t hs b5
    rw [b5]
    refine lv_tableIn (off := (47)) (tgt := 48) hx hb dX9_tellsPiece_1 (by decide) (by decide) (by decide) (by decide) ?_
    refine lv_aload_n hx hb dX9_tellsPiece_48 rfl (lv_at hl 0 rfl) ?_
    refine lv_iload_n hx hb dX9_tellsPiece_49 rfl (lv_at hl 1 rfl) ?_
    obtain ⟨q6, eq6, hs⟩ := ob hs
    refine nd_callV (As := [.int x1]) (rest := []) (st1 := [.int q6]) hx hb hml hown hts hl hP hK hD hS hA hN (mX9_firstOf eq6) iv_X9_firstOf wd_407 0 rfl rfl rfl rfl ⟨Nat.le_of_ble_eq_true rfl, Nat.le_of_ble_eq_true rfl⟩ (Nat.le_of_ble_eq_true rfl) ⟨Nat.zero_le _, Nat.zero_le _⟩ dX9_tellsPiece_50 rfl rfl (fun H locs hP hD hS => ?_)
    exact hret _ hs hP hS dX9_tellsPiece_53
  have hs := ite_f hs b5
  by_cases b7 : x2 = (6 : Int32)
  · have hs := ite_t hs b7
    rw [b7]
    refine lv_tableIn (off := (53)) (tgt := 54) hx hb dX9_tellsPiece_1 (by decide) (by decide) (by decide) (by decide) ?_
    refine lv_aload_n hx hb dX9_tellsPiece_54 rfl (lv_at hl 0 rfl) ?_
    refine lv_iload_n hx hb dX9_tellsPiece_55 rfl (lv_at hl 1 rfl) ?_
    obtain ⟨q8, eq8, hs⟩ := ob hs
    refine nd_callV (As := [.int x1]) (rest := []) (st1 := [.int q8]) hx hb hml hown hts hl hP hK hD hS hA hN (mX9_canBelow eq8) iv_X9_canBelow wd_471 0 rfl rfl rfl rfl ⟨Nat.le_of_ble_eq_true rfl, Nat.le_of_ble_eq_true rfl⟩ (Nat.le_of_ble_eq_true rfl) ⟨Nat.zero_le _, Nat.zero_le _⟩ dX9_tellsPiece_56 rfl rfl (fun H locs hP hD hS => ?_)
    exact hret _ hs hP hS dX9_tellsPiece_59
  have hs := ite_f hs b7
  by_cases b9 : x2 = (7 : Int32)
  · have hs := ite_t hs b9
    rw [b9]
    refine lv_tableIn (off := (59)) (tgt := 60) hx hb dX9_tellsPiece_1 (by decide) (by decide) (by decide) (by decide) ?_
    refine lv_aload_n hx hb dX9_tellsPiece_60 rfl (lv_at hl 0 rfl) ?_
    refine lv_iload_n hx hb dX9_tellsPiece_61 rfl (lv_at hl 1 rfl) ?_
    obtain ⟨q10, eq10, hs⟩ := ob hs
    refine nd_callV (As := [.int x1]) (rest := []) (st1 := [.int q10]) hx hb hml hown hts hl hP hK hD hS hA hN (mX9_sumOfPiece eq10) iv_X9_sumOfPiece wd_566 0 rfl rfl rfl rfl ⟨Nat.le_of_ble_eq_true rfl, Nat.le_of_ble_eq_true rfl⟩ (Nat.le_of_ble_eq_true rfl) ⟨Nat.zero_le _, Nat.zero_le _⟩ dX9_tellsPiece_62 rfl rfl (fun H locs hP hD hS => ?_)
    exact hret _ hs hP hS dX9_tellsPiece_65
  have hs := ite_f hs b9
  have zb1 : x2.toInt ≠ (3) := sw_ne b1
  have zb3 : x2.toInt ≠ (4) := sw_ne b3
  have zb5 : x2.toInt ≠ (5) := sw_ne b5
  have zb7 : x2.toInt ≠ (6) := sw_ne b7
  have zb9 : x2.toInt ≠ (7) := sw_ne b9
  refine lv_tableOut (tgt := 66) hx hb dX9_tellsPiece_1 (by omega) (by decide) ?_
  refine lv_aload_n hx hb dX9_tellsPiece_66 rfl (lv_at hl 0 rfl) ?_
  refine lv_iload_n hx hb dX9_tellsPiece_67 rfl (lv_at hl 1 rfl) ?_
  refine lv_iload_n hx hb dX9_tellsPiece_68 rfl (lv_at hl 2 rfl) ?_
  obtain ⟨q11, eq11, hs⟩ := ob hs
  refine nd_callV (As := [.int x1, .int x2]) (rest := []) (st1 := [.int q11]) hx hb hml hown hts hl hP hK hD hS hA hN (mX9_of eq11) iv_X9_of wd_307 0 rfl rfl rfl rfl ⟨Nat.le_of_ble_eq_true rfl, Nat.le_of_ble_eq_true rfl⟩ (Nat.le_of_ble_eq_true rfl) ⟨Nat.zero_le _, Nat.zero_le _⟩ dX9_tellsPiece_69 rfl rfl (fun H locs hP hD hS => ?_)
  exact hret _ hs hP hS dX9_tellsPiece_72
def tX9_pieceOf_0 : List (Nat × Instr × Nat) := [(0, .aload_n 0, 1), (1, .iconst 0, 1), (2, .putfield 25, 3), (5, .aload_n 0, 1), (6, .iload_n 1, 1), (7, .invokevirtual 85, 3), (10, .ifCond .ne 9, 3), (13, .aload_n 0, 1), (14, .iconst 1, 1), (15, .invokevirtual 79, 3), (18, .ireturn, 1), (19, .iload_n 2, 1), (20, .iconst 0, 1), (21, .bipush 7, 2), (23, .invokestatic 29, 3), (26, .ifCond .eq 12, 3), (29, .aload_n 0, 1), (30, .iload_n 1, 1), (31, .iload_n 2, 1), (32, .invokevirtual 152, 3), (35, .goto 8, 3), (38, .aload_n 0, 1), (39, .iconst 2, 1), (40, .invokevirtual 79, 3), (43, .ireturn, 1)]
theorem tX9_pieceOf_0_ok : tX9_pieceOf_0.all (fun q => decide (decode cX9_pieceOf q.1 = .ok q.2)) = true := by decide +kernel
theorem dX9_pieceOf_0 : decode cX9_pieceOf 0 = .ok (.aload_n 0, 1) := td tX9_pieceOf_0_ok 0 (q := (0, .aload_n 0, 1)) rfl
theorem dX9_pieceOf_1 : decode cX9_pieceOf 1 = .ok (.iconst 0, 1) := td tX9_pieceOf_0_ok 1 (q := (1, .iconst 0, 1)) rfl
theorem dX9_pieceOf_2 : decode cX9_pieceOf 2 = .ok (.putfield 25, 3) := td tX9_pieceOf_0_ok 2 (q := (2, .putfield 25, 3)) rfl
theorem dX9_pieceOf_5 : decode cX9_pieceOf 5 = .ok (.aload_n 0, 1) := td tX9_pieceOf_0_ok 3 (q := (5, .aload_n 0, 1)) rfl
theorem dX9_pieceOf_6 : decode cX9_pieceOf 6 = .ok (.iload_n 1, 1) := td tX9_pieceOf_0_ok 4 (q := (6, .iload_n 1, 1)) rfl
theorem dX9_pieceOf_7 : decode cX9_pieceOf 7 = .ok (.invokevirtual 85, 3) := td tX9_pieceOf_0_ok 5 (q := (7, .invokevirtual 85, 3)) rfl
theorem dX9_pieceOf_10 : decode cX9_pieceOf 10 = .ok (.ifCond .ne 9, 3) := td tX9_pieceOf_0_ok 6 (q := (10, .ifCond .ne 9, 3)) rfl
theorem dX9_pieceOf_13 : decode cX9_pieceOf 13 = .ok (.aload_n 0, 1) := td tX9_pieceOf_0_ok 7 (q := (13, .aload_n 0, 1)) rfl
theorem dX9_pieceOf_14 : decode cX9_pieceOf 14 = .ok (.iconst 1, 1) := td tX9_pieceOf_0_ok 8 (q := (14, .iconst 1, 1)) rfl
theorem dX9_pieceOf_15 : decode cX9_pieceOf 15 = .ok (.invokevirtual 79, 3) := td tX9_pieceOf_0_ok 9 (q := (15, .invokevirtual 79, 3)) rfl
theorem dX9_pieceOf_18 : decode cX9_pieceOf 18 = .ok (.ireturn, 1) := td tX9_pieceOf_0_ok 10 (q := (18, .ireturn, 1)) rfl
theorem dX9_pieceOf_19 : decode cX9_pieceOf 19 = .ok (.iload_n 2, 1) := td tX9_pieceOf_0_ok 11 (q := (19, .iload_n 2, 1)) rfl
theorem dX9_pieceOf_20 : decode cX9_pieceOf 20 = .ok (.iconst 0, 1) := td tX9_pieceOf_0_ok 12 (q := (20, .iconst 0, 1)) rfl
theorem dX9_pieceOf_21 : decode cX9_pieceOf 21 = .ok (.bipush 7, 2) := td tX9_pieceOf_0_ok 13 (q := (21, .bipush 7, 2)) rfl
theorem dX9_pieceOf_23 : decode cX9_pieceOf 23 = .ok (.invokestatic 29, 3) := td tX9_pieceOf_0_ok 14 (q := (23, .invokestatic 29, 3)) rfl
theorem dX9_pieceOf_26 : decode cX9_pieceOf 26 = .ok (.ifCond .eq 12, 3) := td tX9_pieceOf_0_ok 15 (q := (26, .ifCond .eq 12, 3)) rfl
theorem dX9_pieceOf_29 : decode cX9_pieceOf 29 = .ok (.aload_n 0, 1) := td tX9_pieceOf_0_ok 16 (q := (29, .aload_n 0, 1)) rfl
theorem dX9_pieceOf_30 : decode cX9_pieceOf 30 = .ok (.iload_n 1, 1) := td tX9_pieceOf_0_ok 17 (q := (30, .iload_n 1, 1)) rfl
theorem dX9_pieceOf_31 : decode cX9_pieceOf 31 = .ok (.iload_n 2, 1) := td tX9_pieceOf_0_ok 18 (q := (31, .iload_n 2, 1)) rfl
theorem dX9_pieceOf_32 : decode cX9_pieceOf 32 = .ok (.invokevirtual 152, 3) := td tX9_pieceOf_0_ok 19 (q := (32, .invokevirtual 152, 3)) rfl
theorem dX9_pieceOf_35 : decode cX9_pieceOf 35 = .ok (.goto 8, 3) := td tX9_pieceOf_0_ok 20 (q := (35, .goto 8, 3)) rfl
theorem dX9_pieceOf_38 : decode cX9_pieceOf 38 = .ok (.aload_n 0, 1) := td tX9_pieceOf_0_ok 21 (q := (38, .aload_n 0, 1)) rfl
theorem dX9_pieceOf_39 : decode cX9_pieceOf 39 = .ok (.iconst 2, 1) := td tX9_pieceOf_0_ok 22 (q := (39, .iconst 2, 1)) rfl
theorem dX9_pieceOf_40 : decode cX9_pieceOf 40 = .ok (.invokevirtual 79, 3) := td tX9_pieceOf_0_ok 23 (q := (40, .invokevirtual 79, 3)) rfl
theorem dX9_pieceOf_43 : decode cX9_pieceOf 43 = .ok (.ireturn, 1) := td tX9_pieceOf_0_ok 24 (q := (43, .ireturn, 1)) rfl
def fX9_pieceOf (ms : (Nat → Int32)) (mt : Int32) (x1 : Int32) (x2 : Int32) : Option (Int32 × Int32) :=
  (Option.bind (fX9_isPiece ms x1) (fun q1 => (if q1 = 0 then (Option.bind (fX9_fails (0 : Int32) (1 : Int32)) (fun q7 => (some (q7.1, q7.2)))) else (Option.bind (fX9_in x2 (0 : Int32) (7 : Int32)) (fun q3 => (if q3 = 0 then (Option.bind (fX9_fails (0 : Int32) (2 : Int32)) (fun q5 => (some (q5.1, q5.2)))) else (Option.bind (fX9_tellsPiece ms x1 x2) (fun q6 => (some (q6, (0 : Int32)))))))))))
set_option maxHeartbeats 4000000 in
set_option maxRecDepth 100000 in
theorem mX9_pieceOf {l : Launch} {D : va_G} {bd : Nat → Nat} {cI : ClassId} {ms : (Nat → Int32)} {msv : (Nat → Int32)} {mb : (Nat → Int32)} {mf : (Nat → Int32)} {mr : (Nat → Int32)} {mt : Int32} {mn : Int32} {ml : Int32} {mat : Int32} {mw : Int32} {mm : Int32} {mh : Int64} {x1 : Int32} {x2 : Int32} {r : Int32} {mt' : Int32} (hs : fX9_pieceOf ms mt x1 x2 = some (r, mt')) : nd_C l yX9_pieceOf cX9_pieceOf 3 (some .int) 6 133 D [(cI, .int)] [.ref (bd 0), .int x1, .int x2] (MW bd cI ms msv mb mf mr mt mn ml mat mw mm mh) (MW bd cI ms msv mb mf mr mt' mn ml mat mw mm mh) (some (.int r)) := by
  refine nd_ofCi (by decide) (Nat.le_of_ble_eq_true rfl) (fun p e s m args below meth c_ ls A Q hx hb hml hown hts hl hP hK hD hS hA hN hret => ?_)
  have hown : s.vm.findClass RX9 = some m.cls := hown
  have hl : lv_has ls 3 [(0, .ref (bd 0)), (1, .int x1), (2, .int x2)] := hl
  have hret : ∀ (z0 : Int32) (z1 : Int32) {H : Heap} {locs : List Loc} {pc : Nat} {ls : Array Slot}, some (z0, z1) = some (r, mt') → va_P D vwCl (MW bd cI ms msv mb mf mr z1 mn ml mat mw mm mh) H → va_S A s.heap H locs → decode cX9_pieceOf pc = .ok (.ireturn, 1) → W p l e ⟨6, 0, 0, 133⟩ s m args below meth c_ H locs 0 0 Q (F0 m pc ls [.int z0]) := by
    intro z0 z1 H locs pc ls h hP hS hd
    cases h
    exact hret hP hS hd
  rw [fX9_pieceOf] at hs
  refine lv_aload_n hx hb dX9_pieceOf_0 rfl (lv_at hl 0 rfl) ?_
  refine lv_iconst (v := (0 : Int32)) hx hb dX9_pieceOf_1 (by decide) ?_
  refine pf_X9_25 hx hb hts hown hK hP hD hS 0 rfl rfl dX9_pieceOf_2 (fun H locs hP hD hS => ?_)
  have hP : va_P D vwCl (MW bd cI ms msv mb mf mr (0 : Int32) mn ml mat mw mm mh) H := hP
  have hD : va_D A (MW bd cI ms msv mb mf mr (0 : Int32) mn ml mat mw mm mh) := hD
  refine lv_aload_n hx hb dX9_pieceOf_5 rfl (lv_at hl 0 rfl) ?_
  refine lv_iload_n hx hb dX9_pieceOf_6 rfl (lv_at hl 1 rfl) ?_
  obtain ⟨q1, eq1, hs⟩ := ob hs
  refine nd_callV (As := [.int x1]) (rest := []) (st1 := [.int q1]) hx hb hml hown hts hl hP hK hD hS hA hN (mX9_isPiece eq1) iv_X9_isPiece wd_274 0 rfl rfl rfl rfl ⟨Nat.le_of_ble_eq_true rfl, Nat.le_of_ble_eq_true rfl⟩ (Nat.le_of_ble_eq_true rfl) ⟨Nat.zero_le _, Nat.zero_le _⟩ dX9_pieceOf_7 rfl rfl (fun H locs hP hD hS => ?_)
  refine lv_if_ne (tgt := 19) hx hb dX9_pieceOf_10 (by decide) (fun b2 => ?_) (fun b2 => ?_)
  · have hs := ite_f hs b2
    refine lv_iload_n hx hb dX9_pieceOf_19 rfl (lv_at hl 2 rfl) ?_
    refine lv_iconst (v := (0 : Int32)) hx hb dX9_pieceOf_20 (by decide) ?_
    refine lv_bipush (v := (7 : Int32)) hx hb dX9_pieceOf_21 (by decide) ?_
    obtain ⟨q3, eq3, hs⟩ := ob hs
    refine nd_callS (As := [.int x2, .int (0 : Int32), .int (7 : Int32)]) (rest := []) (st1 := [.int q3]) hx hb hml hown hts hl hP hK hD hS hA hN (mX9_in eq3) is_X9_in wd_127 rfl rfl ⟨Nat.le_of_ble_eq_true rfl, Nat.le_of_ble_eq_true rfl⟩ (Nat.le_of_ble_eq_true rfl) ⟨Nat.zero_le _, Nat.zero_le _⟩ dX9_pieceOf_23 rfl rfl (fun H locs hP hD hS => ?_)
    refine lv_if_eq (tgt := 38) hx hb dX9_pieceOf_26 (by decide) (fun b4 => ?_) (fun b4 => ?_)
    · have hs := ite_t hs b4
      refine lv_aload_n hx hb dX9_pieceOf_38 rfl (lv_at hl 0 rfl) ?_
      refine lv_iconst (v := (2 : Int32)) hx hb dX9_pieceOf_39 (by decide) ?_
      obtain ⟨q5, eq5, hs⟩ := ob hs
      refine nd_callV (As := [.int (2 : Int32)]) (rest := []) (st1 := [.int q5.1]) hx hb hml hown hts hl hP hK hD hS hA hN (mX9_fails eq5) iv_X9_fails wd_130 0 rfl rfl rfl rfl ⟨Nat.le_of_ble_eq_true rfl, Nat.le_of_ble_eq_true rfl⟩ (Nat.le_of_ble_eq_true rfl) ⟨Nat.zero_le _, Nat.zero_le _⟩ dX9_pieceOf_40 rfl rfl (fun H locs hP hD hS => ?_)
      exact hret _ _ hs hP hS dX9_pieceOf_43
    · have hs := ite_f hs b4
      refine lv_aload_n hx hb dX9_pieceOf_29 rfl (lv_at hl 0 rfl) ?_
      refine lv_iload_n hx hb dX9_pieceOf_30 rfl (lv_at hl 1 rfl) ?_
      refine lv_iload_n hx hb dX9_pieceOf_31 rfl (lv_at hl 2 rfl) ?_
      obtain ⟨q6, eq6, hs⟩ := ob hs
      refine nd_callV (As := [.int x1, .int x2]) (rest := []) (st1 := [.int q6]) hx hb hml hown hts hl hP hK hD hS hA hN (mX9_tellsPiece eq6) iv_X9_tellsPiece wd_562 0 rfl rfl rfl rfl ⟨Nat.le_of_ble_eq_true rfl, Nat.le_of_ble_eq_true rfl⟩ (Nat.le_of_ble_eq_true rfl) ⟨Nat.zero_le _, Nat.zero_le _⟩ dX9_pieceOf_32 rfl rfl (fun H locs hP hD hS => ?_)
      refine lv_goto (tgt := 43) hx hb dX9_pieceOf_35 (by decide) ?_
      exact hret _ _ hs hP hS dX9_pieceOf_43
  · have hs := ite_t hs b2
    refine lv_aload_n hx hb dX9_pieceOf_13 rfl (lv_at hl 0 rfl) ?_
    refine lv_iconst (v := (1 : Int32)) hx hb dX9_pieceOf_14 (by decide) ?_
    obtain ⟨q7, eq7, hs⟩ := ob hs
    refine nd_callV (As := [.int (1 : Int32)]) (rest := []) (st1 := [.int q7.1]) hx hb hml hown hts hl hP hK hD hS hA hN (mX9_fails eq7) iv_X9_fails wd_130 0 rfl rfl rfl rfl ⟨Nat.le_of_ble_eq_true rfl, Nat.le_of_ble_eq_true rfl⟩ (Nat.le_of_ble_eq_true rfl) ⟨Nat.zero_le _, Nat.zero_le _⟩ dX9_pieceOf_15 rfl rfl (fun H locs hP hD hS => ?_)
    exact hret _ _ hs hP hS dX9_pieceOf_18
def tX9_pageOf_0 : List (Nat × Instr × Nat) := [(0, .aload_n 0, 1), (1, .iload_n 1, 1), (2, .iload_n 2, 1), (3, .invokevirtual 57, 3), (6, .sipush 720, 3), (9, .iadd, 1), (10, .sipush 1440, 3), (13, .idiv, 1), (14, .ireturn, 1)]
theorem tX9_pageOf_0_ok : tX9_pageOf_0.all (fun q => decide (decode cX9_pageOf q.1 = .ok q.2)) = true := by decide +kernel
theorem dX9_pageOf_0 : decode cX9_pageOf 0 = .ok (.aload_n 0, 1) := td tX9_pageOf_0_ok 0 (q := (0, .aload_n 0, 1)) rfl
theorem dX9_pageOf_1 : decode cX9_pageOf 1 = .ok (.iload_n 1, 1) := td tX9_pageOf_0_ok 1 (q := (1, .iload_n 1, 1)) rfl
theorem dX9_pageOf_2 : decode cX9_pageOf 2 = .ok (.iload_n 2, 1) := td tX9_pageOf_0_ok 2 (q := (2, .iload_n 2, 1)) rfl
theorem dX9_pageOf_3 : decode cX9_pageOf 3 = .ok (.invokevirtual 57, 3) := td tX9_pageOf_0_ok 3 (q := (3, .invokevirtual 57, 3)) rfl
theorem dX9_pageOf_6 : decode cX9_pageOf 6 = .ok (.sipush 720, 3) := td tX9_pageOf_0_ok 4 (q := (6, .sipush 720, 3)) rfl
theorem dX9_pageOf_9 : decode cX9_pageOf 9 = .ok (.iadd, 1) := td tX9_pageOf_0_ok 5 (q := (9, .iadd, 1)) rfl
theorem dX9_pageOf_10 : decode cX9_pageOf 10 = .ok (.sipush 1440, 3) := td tX9_pageOf_0_ok 6 (q := (10, .sipush 1440, 3)) rfl
theorem dX9_pageOf_13 : decode cX9_pageOf 13 = .ok (.idiv, 1) := td tX9_pageOf_0_ok 7 (q := (13, .idiv, 1)) rfl
theorem dX9_pageOf_14 : decode cX9_pageOf 14 = .ok (.ireturn, 1) := td tX9_pageOf_0_ok 8 (q := (14, .ireturn, 1)) rfl
def fX9_pageOf (ms : (Nat → Int32)) (x1 : Int32) (x2 : Int32) : Option (Int32) :=
  (Option.bind (fX9_timeOf ms x1 x2) (fun q1 => (some ((q1 + (720 : Int32)) / (1440 : Int32)))))
set_option maxHeartbeats 4000000 in
set_option maxRecDepth 100000 in
theorem mX9_pageOf {l : Launch} {D : va_G} {bd : Nat → Nat} {cI : ClassId} {ms : (Nat → Int32)} {msv : (Nat → Int32)} {mb : (Nat → Int32)} {mf : (Nat → Int32)} {mr : (Nat → Int32)} {mt : Int32} {mn : Int32} {ml : Int32} {mat : Int32} {mw : Int32} {mm : Int32} {mh : Int64} {x1 : Int32} {x2 : Int32} {r : Int32} (hs : fX9_pageOf ms x1 x2 = some r) : nd_C l yX9_pageOf cX9_pageOf 3 (some .int) 2 43 D [(cI, .int)] [.ref (bd 0), .int x1, .int x2] (MW bd cI ms msv mb mf mr mt mn ml mat mw mm mh) (MW bd cI ms msv mb mf mr mt mn ml mat mw mm mh) (some (.int r)) := by
  refine nd_ofCi (by decide) (Nat.le_of_ble_eq_true rfl) (fun p e s m args below meth c_ ls A Q hx hb hml hown hts hl hP hK hD hS hA hN hret => ?_)
  have hown : s.vm.findClass RX9 = some m.cls := hown
  have hl : lv_has ls 3 [(0, .ref (bd 0)), (1, .int x1), (2, .int x2)] := hl
  have hret : ∀ (z0 : Int32) {H : Heap} {locs : List Loc} {pc : Nat} {ls : Array Slot}, some z0 = some r → va_P D vwCl (MW bd cI ms msv mb mf mr mt mn ml mat mw mm mh) H → va_S A s.heap H locs → decode cX9_pageOf pc = .ok (.ireturn, 1) → W p l e ⟨2, 0, 0, 43⟩ s m args below meth c_ H locs 0 0 Q (F0 m pc ls [.int z0]) := by
    intro z0 H locs pc ls h hP hS hd
    cases h
    exact hret hP hS hd
  rw [fX9_pageOf] at hs
  refine lv_aload_n hx hb dX9_pageOf_0 rfl (lv_at hl 0 rfl) ?_
  refine lv_iload_n hx hb dX9_pageOf_1 rfl (lv_at hl 1 rfl) ?_
  refine lv_iload_n hx hb dX9_pageOf_2 rfl (lv_at hl 2 rfl) ?_
  obtain ⟨q1, eq1, hs⟩ := ob hs
  refine nd_callV (As := [.int x1, .int x2]) (rest := []) (st1 := [.int q1]) hx hb hml hown hts hl hP hK hD hS hA hN (mX9_timeOf eq1) iv_X9_timeOf wd_315 0 rfl rfl rfl rfl ⟨Nat.le_of_ble_eq_true rfl, Nat.le_of_ble_eq_true rfl⟩ (Nat.le_of_ble_eq_true rfl) ⟨Nat.zero_le _, Nat.zero_le _⟩ dX9_pageOf_3 rfl rfl (fun H locs hP hD hS => ?_)
  refine lv_sipush (v := (720 : Int32)) hx hb dX9_pageOf_6 (by decide) ?_
  refine lv_iadd hx hb dX9_pageOf_9 ?_
  refine lv_sipush (v := (1440 : Int32)) hx hb dX9_pageOf_10 (by decide) ?_
  refine lv_idiv hx hb dX9_pageOf_13 (by decide) ?_
  exact hret _ hs hP hS dX9_pageOf_14
def tX9_shopOf_0 : List (Nat × Instr × Nat) := [(0, .aload_n 0, 1), (1, .getfield 7, 3), (4, .iload_n 1, 1), (5, .iload_n 2, 1), (6, .invokestatic 37, 3), (9, .iconst 1, 1), (10, .iadd, 1), (11, .iaload, 1), (12, .ireturn, 1)]
theorem tX9_shopOf_0_ok : tX9_shopOf_0.all (fun q => decide (decode cX9_shopOf q.1 = .ok q.2)) = true := by decide +kernel
theorem dX9_shopOf_0 : decode cX9_shopOf 0 = .ok (.aload_n 0, 1) := td tX9_shopOf_0_ok 0 (q := (0, .aload_n 0, 1)) rfl
theorem dX9_shopOf_1 : decode cX9_shopOf 1 = .ok (.getfield 7, 3) := td tX9_shopOf_0_ok 1 (q := (1, .getfield 7, 3)) rfl
theorem dX9_shopOf_4 : decode cX9_shopOf 4 = .ok (.iload_n 1, 1) := td tX9_shopOf_0_ok 2 (q := (4, .iload_n 1, 1)) rfl
theorem dX9_shopOf_5 : decode cX9_shopOf 5 = .ok (.iload_n 2, 1) := td tX9_shopOf_0_ok 3 (q := (5, .iload_n 2, 1)) rfl
theorem dX9_shopOf_6 : decode cX9_shopOf 6 = .ok (.invokestatic 37, 3) := td tX9_shopOf_0_ok 4 (q := (6, .invokestatic 37, 3)) rfl
theorem dX9_shopOf_9 : decode cX9_shopOf 9 = .ok (.iconst 1, 1) := td tX9_shopOf_0_ok 5 (q := (9, .iconst 1, 1)) rfl
theorem dX9_shopOf_10 : decode cX9_shopOf 10 = .ok (.iadd, 1) := td tX9_shopOf_0_ok 6 (q := (10, .iadd, 1)) rfl
theorem dX9_shopOf_11 : decode cX9_shopOf 11 = .ok (.iaload, 1) := td tX9_shopOf_0_ok 7 (q := (11, .iaload, 1)) rfl
theorem dX9_shopOf_12 : decode cX9_shopOf 12 = .ok (.ireturn, 1) := td tX9_shopOf_0_ok 8 (q := (12, .ireturn, 1)) rfl
def fX9_shopOf (ms : (Nat → Int32)) (x1 : Int32) (x2 : Int32) : Option (Int32) :=
  (Option.bind (fX9_placeOf x1 x2) (fun q1 => (Option.bind (aget ms 531 (q1 + (1 : Int32))) (fun t2 => (some t2)))))
set_option maxHeartbeats 4000000 in
set_option maxRecDepth 100000 in
theorem mX9_shopOf {l : Launch} {D : va_G} {bd : Nat → Nat} {cI : ClassId} {ms : (Nat → Int32)} {msv : (Nat → Int32)} {mb : (Nat → Int32)} {mf : (Nat → Int32)} {mr : (Nat → Int32)} {mt : Int32} {mn : Int32} {ml : Int32} {mat : Int32} {mw : Int32} {mm : Int32} {mh : Int64} {x1 : Int32} {x2 : Int32} {r : Int32} (hs : fX9_shopOf ms x1 x2 = some r) : nd_C l yX9_shopOf cX9_shopOf 3 (some .int) 1 21 D [(cI, .int)] [.ref (bd 0), .int x1, .int x2] (MW bd cI ms msv mb mf mr mt mn ml mat mw mm mh) (MW bd cI ms msv mb mf mr mt mn ml mat mw mm mh) (some (.int r)) := by
  refine nd_ofCi (by decide) (Nat.le_of_ble_eq_true rfl) (fun p e s m args below meth c_ ls A Q hx hb hml hown hts hl hP hK hD hS hA hN hret => ?_)
  have hown : s.vm.findClass RX9 = some m.cls := hown
  have hl : lv_has ls 3 [(0, .ref (bd 0)), (1, .int x1), (2, .int x2)] := hl
  have hret : ∀ (z0 : Int32) {H : Heap} {locs : List Loc} {pc : Nat} {ls : Array Slot}, some z0 = some r → va_P D vwCl (MW bd cI ms msv mb mf mr mt mn ml mat mw mm mh) H → va_S A s.heap H locs → decode cX9_shopOf pc = .ok (.ireturn, 1) → W p l e ⟨1, 0, 0, 21⟩ s m args below meth c_ H locs 0 0 Q (F0 m pc ls [.int z0]) := by
    intro z0 H locs pc ls h hP hS hd
    cases h
    exact hret hP hS hd
  rw [fX9_shopOf] at hs
  refine lv_aload_n hx hb dX9_shopOf_0 rfl (lv_at hl 0 rfl) ?_
  refine gf_X9_7 hx hb hts hown hK hP 0 rfl rfl dX9_shopOf_1 ?_
  refine lv_iload_n hx hb dX9_shopOf_4 rfl (lv_at hl 1 rfl) ?_
  refine lv_iload_n hx hb dX9_shopOf_5 rfl (lv_at hl 2 rfl) ?_
  obtain ⟨q1, eq1, hs⟩ := ob hs
  refine nd_callS (As := [.int x1, .int x2]) (rest := [.ref (bd 1)]) (st1 := [.int q1, .ref (bd 1)]) hx hb hml hown hts hl hP hK hD hS hA hN (mX9_placeOf eq1) is_X9_placeOf wd_319 rfl rfl ⟨Nat.le_of_ble_eq_true rfl, Nat.le_of_ble_eq_true rfl⟩ (Nat.le_of_ble_eq_true rfl) ⟨Nat.zero_le _, Nat.zero_le _⟩ dX9_shopOf_6 rfl rfl (fun H locs hP hD hS => ?_)
  refine lv_iconst (v := (1 : Int32)) hx hb dX9_shopOf_9 (by decide) ?_
  refine lv_iadd hx hb dX9_shopOf_10 ?_
  obtain ⟨t2, et2, hs⟩ := ob hs
  refine nd_iald hx hb hK hP 1 0 rfl rfl et2 dX9_shopOf_11 ?_
  exact hret _ hs hP hS dX9_shopOf_12
def tX9_hourOf_0 : List (Nat × Instr × Nat) := [(0, .aload_n 0, 1), (1, .iload_n 1, 1), (2, .iload_n 2, 1), (3, .invokevirtual 57, 3), (6, .bipush 60, 2), (8, .idiv, 1), (9, .bipush 24, 2), (11, .irem, 1), (12, .ireturn, 1)]
theorem tX9_hourOf_0_ok : tX9_hourOf_0.all (fun q => decide (decode cX9_hourOf q.1 = .ok q.2)) = true := by decide +kernel
theorem dX9_hourOf_0 : decode cX9_hourOf 0 = .ok (.aload_n 0, 1) := td tX9_hourOf_0_ok 0 (q := (0, .aload_n 0, 1)) rfl
theorem dX9_hourOf_1 : decode cX9_hourOf 1 = .ok (.iload_n 1, 1) := td tX9_hourOf_0_ok 1 (q := (1, .iload_n 1, 1)) rfl
theorem dX9_hourOf_2 : decode cX9_hourOf 2 = .ok (.iload_n 2, 1) := td tX9_hourOf_0_ok 2 (q := (2, .iload_n 2, 1)) rfl
theorem dX9_hourOf_3 : decode cX9_hourOf 3 = .ok (.invokevirtual 57, 3) := td tX9_hourOf_0_ok 3 (q := (3, .invokevirtual 57, 3)) rfl
theorem dX9_hourOf_6 : decode cX9_hourOf 6 = .ok (.bipush 60, 2) := td tX9_hourOf_0_ok 4 (q := (6, .bipush 60, 2)) rfl
theorem dX9_hourOf_8 : decode cX9_hourOf 8 = .ok (.idiv, 1) := td tX9_hourOf_0_ok 5 (q := (8, .idiv, 1)) rfl
theorem dX9_hourOf_9 : decode cX9_hourOf 9 = .ok (.bipush 24, 2) := td tX9_hourOf_0_ok 6 (q := (9, .bipush 24, 2)) rfl
theorem dX9_hourOf_11 : decode cX9_hourOf 11 = .ok (.irem, 1) := td tX9_hourOf_0_ok 7 (q := (11, .irem, 1)) rfl
theorem dX9_hourOf_12 : decode cX9_hourOf 12 = .ok (.ireturn, 1) := td tX9_hourOf_0_ok 8 (q := (12, .ireturn, 1)) rfl
def fX9_hourOf (ms : (Nat → Int32)) (x1 : Int32) (x2 : Int32) : Option (Int32) :=
  (Option.bind (fX9_timeOf ms x1 x2) (fun q1 => (some ((q1 / (60 : Int32)) - (q1 / (60 : Int32)) / (24 : Int32) * (24 : Int32)))))
set_option maxHeartbeats 4000000 in
set_option maxRecDepth 100000 in
theorem mX9_hourOf {l : Launch} {D : va_G} {bd : Nat → Nat} {cI : ClassId} {ms : (Nat → Int32)} {msv : (Nat → Int32)} {mb : (Nat → Int32)} {mf : (Nat → Int32)} {mr : (Nat → Int32)} {mt : Int32} {mn : Int32} {ml : Int32} {mat : Int32} {mw : Int32} {mm : Int32} {mh : Int64} {x1 : Int32} {x2 : Int32} {r : Int32} (hs : fX9_hourOf ms x1 x2 = some r) : nd_C l yX9_hourOf cX9_hourOf 3 (some .int) 2 43 D [(cI, .int)] [.ref (bd 0), .int x1, .int x2] (MW bd cI ms msv mb mf mr mt mn ml mat mw mm mh) (MW bd cI ms msv mb mf mr mt mn ml mat mw mm mh) (some (.int r)) := by
  refine nd_ofCi (by decide) (Nat.le_of_ble_eq_true rfl) (fun p e s m args below meth c_ ls A Q hx hb hml hown hts hl hP hK hD hS hA hN hret => ?_)
  have hown : s.vm.findClass RX9 = some m.cls := hown
  have hl : lv_has ls 3 [(0, .ref (bd 0)), (1, .int x1), (2, .int x2)] := hl
  have hret : ∀ (z0 : Int32) {H : Heap} {locs : List Loc} {pc : Nat} {ls : Array Slot}, some z0 = some r → va_P D vwCl (MW bd cI ms msv mb mf mr mt mn ml mat mw mm mh) H → va_S A s.heap H locs → decode cX9_hourOf pc = .ok (.ireturn, 1) → W p l e ⟨2, 0, 0, 43⟩ s m args below meth c_ H locs 0 0 Q (F0 m pc ls [.int z0]) := by
    intro z0 H locs pc ls h hP hS hd
    cases h
    exact hret hP hS hd
  rw [fX9_hourOf] at hs
  refine lv_aload_n hx hb dX9_hourOf_0 rfl (lv_at hl 0 rfl) ?_
  refine lv_iload_n hx hb dX9_hourOf_1 rfl (lv_at hl 1 rfl) ?_
  refine lv_iload_n hx hb dX9_hourOf_2 rfl (lv_at hl 2 rfl) ?_
  obtain ⟨q1, eq1, hs⟩ := ob hs
  refine nd_callV (As := [.int x1, .int x2]) (rest := []) (st1 := [.int q1]) hx hb hml hown hts hl hP hK hD hS hA hN (mX9_timeOf eq1) iv_X9_timeOf wd_315 0 rfl rfl rfl rfl ⟨Nat.le_of_ble_eq_true rfl, Nat.le_of_ble_eq_true rfl⟩ (Nat.le_of_ble_eq_true rfl) ⟨Nat.zero_le _, Nat.zero_le _⟩ dX9_hourOf_3 rfl rfl (fun H locs hP hD hS => ?_)
  refine lv_bipush (v := (60 : Int32)) hx hb dX9_hourOf_6 (by decide) ?_
  refine lv_idiv hx hb dX9_hourOf_8 (by decide) ?_
  refine lv_bipush (v := (24 : Int32)) hx hb dX9_hourOf_9 (by decide) ?_
  refine lv_irem hx hb dX9_hourOf_11 (by decide) ?_
  exact hret _ hs hP hS dX9_hourOf_12
def tX9_alike_0 : List (Nat × Instr × Nat) := [(0, .iconst 0, 1), (1, .istore_n 3, 1), (2, .iconst 0, 1), (3, .istore 4, 2), (5, .iload 4, 2), (7, .aload_n 0, 1), (8, .getfield 7, 3), (11, .iconst 0, 1), (12, .iaload, 1), (13, .if_icmp .ge 107, 3), (16, .iconst 0, 1), (17, .istore 5, 2), (19, .iload 5, 2), (21, .aload_n 0, 1), (22, .iload 4, 2), (24, .iconst 2, 1), (25, .invokevirtual 33, 3), (28, .if_icmp .ge 86, 3), (31, .iload 4, 2), (33, .iload_n 1, 1), (34, .if_icmp .eq 80, 3), (37, .aload_n 0, 1), (38, .iload 4, 2), (40, .iload 5, 2), (42, .invokevirtual 57, 3), (45, .aload_n 0, 1), (46, .iload_n 1, 1), (47, .iload_n 2, 1), (48, .invokevirtual 57, 3), (51, .if_icmp .ne 24, 3), (54, .aload_n 0, 1), (55, .iload 4, 2), (57, .iload 5, 2), (59, .invokevirtual 155, 3), (62, .aload_n 0, 1), (63, .iload_n 1, 1), (64, .iload_n 2, 1), (65, .invokevirtual 155, 3), (68, .if_icmp .ne 7, 3), (71, .iconst 1, 1), (72, .goto 4, 3), (75, .iconst 0, 1), (76, .istore 6, 2), (78, .iload_n 3, 1), (79, .iload 6, 2), (81, .ifCond .eq 24, 3), (84, .aload_n 0, 1), (85, .iload 4, 2), (87, .iload 5, 2), (89, .invokevirtual 47, 3), (92, .aload_n 0, 1), (93, .iload_n 1, 1), (94, .iload_n 2, 1), (95, .invokevirtual 47, 3), (98, .if_icmp .ne 7, 3), (101, .iconst 1, 1), (102, .goto 4, 3), (105, .iconst 0, 1), (106, .iadd, 1), (107, .istore_n 3, 1)]
theorem tX9_alike_0_ok : tX9_alike_0.all (fun q => decide (decode cX9_alike q.1 = .ok q.2)) = true := by decide +kernel
theorem dX9_alike_0 : decode cX9_alike 0 = .ok (.iconst 0, 1) := td tX9_alike_0_ok 0 (q := (0, .iconst 0, 1)) rfl
theorem dX9_alike_1 : decode cX9_alike 1 = .ok (.istore_n 3, 1) := td tX9_alike_0_ok 1 (q := (1, .istore_n 3, 1)) rfl
theorem dX9_alike_2 : decode cX9_alike 2 = .ok (.iconst 0, 1) := td tX9_alike_0_ok 2 (q := (2, .iconst 0, 1)) rfl
theorem dX9_alike_3 : decode cX9_alike 3 = .ok (.istore 4, 2) := td tX9_alike_0_ok 3 (q := (3, .istore 4, 2)) rfl
theorem dX9_alike_5 : decode cX9_alike 5 = .ok (.iload 4, 2) := td tX9_alike_0_ok 4 (q := (5, .iload 4, 2)) rfl
theorem dX9_alike_7 : decode cX9_alike 7 = .ok (.aload_n 0, 1) := td tX9_alike_0_ok 5 (q := (7, .aload_n 0, 1)) rfl
theorem dX9_alike_8 : decode cX9_alike 8 = .ok (.getfield 7, 3) := td tX9_alike_0_ok 6 (q := (8, .getfield 7, 3)) rfl
theorem dX9_alike_11 : decode cX9_alike 11 = .ok (.iconst 0, 1) := td tX9_alike_0_ok 7 (q := (11, .iconst 0, 1)) rfl
theorem dX9_alike_12 : decode cX9_alike 12 = .ok (.iaload, 1) := td tX9_alike_0_ok 8 (q := (12, .iaload, 1)) rfl
theorem dX9_alike_13 : decode cX9_alike 13 = .ok (.if_icmp .ge 107, 3) := td tX9_alike_0_ok 9 (q := (13, .if_icmp .ge 107, 3)) rfl
theorem dX9_alike_16 : decode cX9_alike 16 = .ok (.iconst 0, 1) := td tX9_alike_0_ok 10 (q := (16, .iconst 0, 1)) rfl
theorem dX9_alike_17 : decode cX9_alike 17 = .ok (.istore 5, 2) := td tX9_alike_0_ok 11 (q := (17, .istore 5, 2)) rfl
theorem dX9_alike_19 : decode cX9_alike 19 = .ok (.iload 5, 2) := td tX9_alike_0_ok 12 (q := (19, .iload 5, 2)) rfl
theorem dX9_alike_21 : decode cX9_alike 21 = .ok (.aload_n 0, 1) := td tX9_alike_0_ok 13 (q := (21, .aload_n 0, 1)) rfl
theorem dX9_alike_22 : decode cX9_alike 22 = .ok (.iload 4, 2) := td tX9_alike_0_ok 14 (q := (22, .iload 4, 2)) rfl
theorem dX9_alike_24 : decode cX9_alike 24 = .ok (.iconst 2, 1) := td tX9_alike_0_ok 15 (q := (24, .iconst 2, 1)) rfl
theorem dX9_alike_25 : decode cX9_alike 25 = .ok (.invokevirtual 33, 3) := td tX9_alike_0_ok 16 (q := (25, .invokevirtual 33, 3)) rfl
theorem dX9_alike_28 : decode cX9_alike 28 = .ok (.if_icmp .ge 86, 3) := td tX9_alike_0_ok 17 (q := (28, .if_icmp .ge 86, 3)) rfl
theorem dX9_alike_31 : decode cX9_alike 31 = .ok (.iload 4, 2) := td tX9_alike_0_ok 18 (q := (31, .iload 4, 2)) rfl
theorem dX9_alike_33 : decode cX9_alike 33 = .ok (.iload_n 1, 1) := td tX9_alike_0_ok 19 (q := (33, .iload_n 1, 1)) rfl
theorem dX9_alike_34 : decode cX9_alike 34 = .ok (.if_icmp .eq 80, 3) := td tX9_alike_0_ok 20 (q := (34, .if_icmp .eq 80, 3)) rfl
theorem dX9_alike_37 : decode cX9_alike 37 = .ok (.aload_n 0, 1) := td tX9_alike_0_ok 21 (q := (37, .aload_n 0, 1)) rfl
theorem dX9_alike_38 : decode cX9_alike 38 = .ok (.iload 4, 2) := td tX9_alike_0_ok 22 (q := (38, .iload 4, 2)) rfl
theorem dX9_alike_40 : decode cX9_alike 40 = .ok (.iload 5, 2) := td tX9_alike_0_ok 23 (q := (40, .iload 5, 2)) rfl
theorem dX9_alike_42 : decode cX9_alike 42 = .ok (.invokevirtual 57, 3) := td tX9_alike_0_ok 24 (q := (42, .invokevirtual 57, 3)) rfl
theorem dX9_alike_45 : decode cX9_alike 45 = .ok (.aload_n 0, 1) := td tX9_alike_0_ok 25 (q := (45, .aload_n 0, 1)) rfl
theorem dX9_alike_46 : decode cX9_alike 46 = .ok (.iload_n 1, 1) := td tX9_alike_0_ok 26 (q := (46, .iload_n 1, 1)) rfl
theorem dX9_alike_47 : decode cX9_alike 47 = .ok (.iload_n 2, 1) := td tX9_alike_0_ok 27 (q := (47, .iload_n 2, 1)) rfl
theorem dX9_alike_48 : decode cX9_alike 48 = .ok (.invokevirtual 57, 3) := td tX9_alike_0_ok 28 (q := (48, .invokevirtual 57, 3)) rfl
theorem dX9_alike_51 : decode cX9_alike 51 = .ok (.if_icmp .ne 24, 3) := td tX9_alike_0_ok 29 (q := (51, .if_icmp .ne 24, 3)) rfl
theorem dX9_alike_54 : decode cX9_alike 54 = .ok (.aload_n 0, 1) := td tX9_alike_0_ok 30 (q := (54, .aload_n 0, 1)) rfl
theorem dX9_alike_55 : decode cX9_alike 55 = .ok (.iload 4, 2) := td tX9_alike_0_ok 31 (q := (55, .iload 4, 2)) rfl
theorem dX9_alike_57 : decode cX9_alike 57 = .ok (.iload 5, 2) := td tX9_alike_0_ok 32 (q := (57, .iload 5, 2)) rfl
theorem dX9_alike_59 : decode cX9_alike 59 = .ok (.invokevirtual 155, 3) := td tX9_alike_0_ok 33 (q := (59, .invokevirtual 155, 3)) rfl
theorem dX9_alike_62 : decode cX9_alike 62 = .ok (.aload_n 0, 1) := td tX9_alike_0_ok 34 (q := (62, .aload_n 0, 1)) rfl
theorem dX9_alike_63 : decode cX9_alike 63 = .ok (.iload_n 1, 1) := td tX9_alike_0_ok 35 (q := (63, .iload_n 1, 1)) rfl
theorem dX9_alike_64 : decode cX9_alike 64 = .ok (.iload_n 2, 1) := td tX9_alike_0_ok 36 (q := (64, .iload_n 2, 1)) rfl
theorem dX9_alike_65 : decode cX9_alike 65 = .ok (.invokevirtual 155, 3) := td tX9_alike_0_ok 37 (q := (65, .invokevirtual 155, 3)) rfl
theorem dX9_alike_68 : decode cX9_alike 68 = .ok (.if_icmp .ne 7, 3) := td tX9_alike_0_ok 38 (q := (68, .if_icmp .ne 7, 3)) rfl
theorem dX9_alike_71 : decode cX9_alike 71 = .ok (.iconst 1, 1) := td tX9_alike_0_ok 39 (q := (71, .iconst 1, 1)) rfl
theorem dX9_alike_72 : decode cX9_alike 72 = .ok (.goto 4, 3) := td tX9_alike_0_ok 40 (q := (72, .goto 4, 3)) rfl
theorem dX9_alike_75 : decode cX9_alike 75 = .ok (.iconst 0, 1) := td tX9_alike_0_ok 41 (q := (75, .iconst 0, 1)) rfl
theorem dX9_alike_76 : decode cX9_alike 76 = .ok (.istore 6, 2) := td tX9_alike_0_ok 42 (q := (76, .istore 6, 2)) rfl
theorem dX9_alike_78 : decode cX9_alike 78 = .ok (.iload_n 3, 1) := td tX9_alike_0_ok 43 (q := (78, .iload_n 3, 1)) rfl
theorem dX9_alike_79 : decode cX9_alike 79 = .ok (.iload 6, 2) := td tX9_alike_0_ok 44 (q := (79, .iload 6, 2)) rfl
theorem dX9_alike_81 : decode cX9_alike 81 = .ok (.ifCond .eq 24, 3) := td tX9_alike_0_ok 45 (q := (81, .ifCond .eq 24, 3)) rfl
theorem dX9_alike_84 : decode cX9_alike 84 = .ok (.aload_n 0, 1) := td tX9_alike_0_ok 46 (q := (84, .aload_n 0, 1)) rfl
theorem dX9_alike_85 : decode cX9_alike 85 = .ok (.iload 4, 2) := td tX9_alike_0_ok 47 (q := (85, .iload 4, 2)) rfl
theorem dX9_alike_87 : decode cX9_alike 87 = .ok (.iload 5, 2) := td tX9_alike_0_ok 48 (q := (87, .iload 5, 2)) rfl
theorem dX9_alike_89 : decode cX9_alike 89 = .ok (.invokevirtual 47, 3) := td tX9_alike_0_ok 49 (q := (89, .invokevirtual 47, 3)) rfl
theorem dX9_alike_92 : decode cX9_alike 92 = .ok (.aload_n 0, 1) := td tX9_alike_0_ok 50 (q := (92, .aload_n 0, 1)) rfl
theorem dX9_alike_93 : decode cX9_alike 93 = .ok (.iload_n 1, 1) := td tX9_alike_0_ok 51 (q := (93, .iload_n 1, 1)) rfl
theorem dX9_alike_94 : decode cX9_alike 94 = .ok (.iload_n 2, 1) := td tX9_alike_0_ok 52 (q := (94, .iload_n 2, 1)) rfl
theorem dX9_alike_95 : decode cX9_alike 95 = .ok (.invokevirtual 47, 3) := td tX9_alike_0_ok 53 (q := (95, .invokevirtual 47, 3)) rfl
theorem dX9_alike_98 : decode cX9_alike 98 = .ok (.if_icmp .ne 7, 3) := td tX9_alike_0_ok 54 (q := (98, .if_icmp .ne 7, 3)) rfl
theorem dX9_alike_101 : decode cX9_alike 101 = .ok (.iconst 1, 1) := td tX9_alike_0_ok 55 (q := (101, .iconst 1, 1)) rfl
theorem dX9_alike_102 : decode cX9_alike 102 = .ok (.goto 4, 3) := td tX9_alike_0_ok 56 (q := (102, .goto 4, 3)) rfl
theorem dX9_alike_105 : decode cX9_alike 105 = .ok (.iconst 0, 1) := td tX9_alike_0_ok 57 (q := (105, .iconst 0, 1)) rfl
theorem dX9_alike_106 : decode cX9_alike 106 = .ok (.iadd, 1) := td tX9_alike_0_ok 58 (q := (106, .iadd, 1)) rfl
theorem dX9_alike_107 : decode cX9_alike 107 = .ok (.istore_n 3, 1) := td tX9_alike_0_ok 59 (q := (107, .istore_n 3, 1)) rfl
def tX9_alike_1 : List (Nat × Instr × Nat) := [(108, .iinc 5 1, 3), (111, .goto (-92), 3), (114, .iinc 4 1, 3), (117, .goto (-112), 3), (120, .iload_n 3, 1), (121, .ireturn, 1)]
theorem tX9_alike_1_ok : tX9_alike_1.all (fun q => decide (decode cX9_alike q.1 = .ok q.2)) = true := by decide +kernel
theorem dX9_alike_108 : decode cX9_alike 108 = .ok (.iinc 5 1, 3) := td tX9_alike_1_ok 0 (q := (108, .iinc 5 1, 3)) rfl
theorem dX9_alike_111 : decode cX9_alike 111 = .ok (.goto (-92), 3) := td tX9_alike_1_ok 1 (q := (111, .goto (-92), 3)) rfl
theorem dX9_alike_114 : decode cX9_alike 114 = .ok (.iinc 4 1, 3) := td tX9_alike_1_ok 2 (q := (114, .iinc 4 1, 3)) rfl
theorem dX9_alike_117 : decode cX9_alike 117 = .ok (.goto (-112), 3) := td tX9_alike_1_ok 3 (q := (117, .goto (-112), 3)) rfl
theorem dX9_alike_120 : decode cX9_alike 120 = .ok (.iload_n 3, 1) := td tX9_alike_1_ok 4 (q := (120, .iload_n 3, 1)) rfl
theorem dX9_alike_121 : decode cX9_alike 121 = .ok (.ireturn, 1) := td tX9_alike_1_ok 5 (q := (121, .ireturn, 1)) rfl
def fX9_alike_19 (k19 : Int32 → Option (Int32)) (ms : (Nat → Int32)) (x1 : Int32) (x2 : Int32) (x4 : Int32) : Nat → Int32 → Int32 → Option (Int32)
  | 0, _, _ => none
  | n19 + 1, x3, x5 => (Option.bind (fX9_of ms x4 (2 : Int32)) (fun q3 => (if q3 ≤ x5 then (k19 x3) else (if x4 = x1 then (k19 x3) else (Option.bind (fX9_timeOf ms x4 x5) (fun q6 => (Option.bind (fX9_timeOf ms x1 x2) (fun q7 => (if q6 = q7 then (Option.bind (fX9_shopOf ms x4 x5) (fun q9 => (Option.bind (fX9_shopOf ms x1 x2) (fun q10 => (if q9 = q10 then (Option.bind (fX9_sumOf ms x4 x5) (fun q12 => (Option.bind (fX9_sumOf ms x1 x2) (fun q13 => (if q12 = q13 then (fX9_alike_19 k19 ms x1 x2 x4 n19 (x3 + (1 : Int32)) (x5 + (1 : Int32))) else (fX9_alike_19 k19 ms x1 x2 x4 n19 (x3 + (0 : Int32)) (x5 + (1 : Int32)))))))) else (fX9_alike_19 k19 ms x1 x2 x4 n19 (x3 + (0 : Int32)) (x5 + (1 : Int32)))))))) else (fX9_alike_19 k19 ms x1 x2 x4 n19 (x3 + (0 : Int32)) (x5 + (1 : Int32))))))))))))
def fX9_alike_5 (k5 : Int32 → Option (Int32)) (ms : (Nat → Int32)) (x1 : Int32) (x2 : Int32) : Nat → Int32 → Int32 → Option (Int32)
  | 0, _, _ => none
  | n5 + 1, x3, x4 => (Option.bind (aget ms 531 (0 : Int32)) (fun t1 => (if t1 ≤ x4 then (k5 x3) else (fX9_alike_19 (fun (u3_15 : Int32) => (fX9_alike_5 k5 ms x1 x2 n5 u3_15 (x4 + (1 : Int32)))) ms x1 x2 x4 LF x3 (0 : Int32)))))
def fX9_alike (ms : (Nat → Int32)) (x1 : Int32) (x2 : Int32) : Option (Int32) :=
  (fX9_alike_5 (fun (u3_28 : Int32) => (some u3_28)) ms x1 x2 LF (0 : Int32) (0 : Int32))
set_option maxHeartbeats 4000000 in
set_option maxRecDepth 100000 in
theorem mX9_alike {l : Launch} {D : va_G} {bd : Nat → Nat} {cI : ClassId} {ms : (Nat → Int32)} {msv : (Nat → Int32)} {mb : (Nat → Int32)} {mf : (Nat → Int32)} {mr : (Nat → Int32)} {mt : Int32} {mn : Int32} {ml : Int32} {mat : Int32} {mw : Int32} {mm : Int32} {mh : Int64} {x1 : Int32} {x2 : Int32} {r : Int32} (hs : fX9_alike ms x1 x2 = some r) : nd_C l yX9_alike cX9_alike 7 (some .int) 2 46 D [(cI, .int)] [.ref (bd 0), .int x1, .int x2] (MW bd cI ms msv mb mf mr mt mn ml mat mw mm mh) (MW bd cI ms msv mb mf mr mt mn ml mat mw mm mh) (some (.int r)) := by
  refine nd_ofCi (by decide) (Nat.le_of_ble_eq_true rfl) (fun p e s m args below meth c_ ls A Q hx hb hml hown hts hl hP hK hD hS hA hN hret => ?_)
  have hown : s.vm.findClass RX9 = some m.cls := hown
  have hl : lv_has ls 7 [(0, .ref (bd 0)), (1, .int x1), (2, .int x2)] := hl
  have hret : ∀ (z0 : Int32) {H : Heap} {locs : List Loc} {pc : Nat} {ls : Array Slot}, some z0 = some r → va_P D vwCl (MW bd cI ms msv mb mf mr mt mn ml mat mw mm mh) H → va_S A s.heap H locs → decode cX9_alike pc = .ok (.ireturn, 1) → W p l e ⟨2, 0, 0, 46⟩ s m args below meth c_ H locs 0 0 Q (F0 m pc ls [.int z0]) := by
    intro z0 H locs pc ls h hP hS hd
    cases h
    exact hret hP hS hd
  rw [fX9_alike] at hs
  refine lv_iconst (v := (0 : Int32)) hx hb dX9_alike_0 (by decide) ?_
  refine lv_istore_n (lv' := [(3, .int (0 : Int32)), (0, .ref (bd 0)), (1, .int x1), (2, .int x2)]) hx hb dX9_alike_1 rfl hl (by decide) rfl (fun ls hl => ?_)
  refine lv_iconst (v := (0 : Int32)) hx hb dX9_alike_2 (by decide) ?_
  refine lv_istore (lv' := [(4, .int (0 : Int32)), (3, .int (0 : Int32)), (0, .ref (bd 0)), (1, .int x1), (2, .int x2)]) hx hb dX9_alike_3 hl (by decide) rfl (fun ls hl => ?_)
  have L5 : ∀ (n5 : Nat) (k5 : Int32 → Option (Int32)) (v3_28 : Int32) (v4_28 : Int32) (H : Heap) (locs : List Loc) (ls : Array Slot), lv_has ls 7 [(0, .ref (bd 0)), (1, .int x1), (2, .int x2), (3, .int v3_28), (4, .int v4_28)] → va_P D vwCl (MW bd cI ms msv mb mf mr mt mn ml mat mw mm mh) H → va_S A s.heap H locs → fX9_alike_5 k5 ms x1 x2 n5 v3_28 v4_28 = some r → (∀ (u3_28 : Int32) (H : Heap) (locs : List Loc) (ls : Array Slot), lv_has ls 7 [(3, .int u3_28)] → va_P D vwCl (MW bd cI ms msv mb mf mr mt mn ml mat mw mm mh) H → va_S A s.heap H locs → k5 u3_28 = some r → W p l e ⟨2, 0, 0, 46⟩ s m args below meth c_ H locs 0 0 Q (F0 m 120 ls [])) → W p l e ⟨2, 0, 0, 46⟩ s m args below meth c_ H locs 0 0 Q (F0 m 5 ls []) := by
    intro n5
    induction n5 with
    | zero =>
      intro k5 v3_28 v4_28 H locs ls hl hP hS hs hk5
      rw [fX9_alike_5] at hs
      cases hs
    | succ n5 ih5 =>
      intro k5 v3_28 v4_28 H locs ls hl hP hS hs hk5
      rw [fX9_alike_5] at hs
      refine lv_iload hx hb dX9_alike_5 (lv_at hl 4 rfl) ?_
      refine lv_aload_n hx hb dX9_alike_7 rfl (lv_at hl 0 rfl) ?_
      refine gf_X9_7 hx hb hts hown hK hP 0 rfl rfl dX9_alike_8 ?_
      refine lv_iconst (v := (0 : Int32)) hx hb dX9_alike_11 (by decide) ?_
      obtain ⟨t29, et29, hs⟩ := ob hs
      refine nd_iald hx hb hK hP 1 0 rfl rfl et29 dX9_alike_12 ?_
      refine lv_icmp_ge (tgt := 120) hx hb dX9_alike_13 (by decide) (fun b30 => ?_) (fun b30 => ?_)
      · have hs := ite_t hs b30
        exact hk5 v3_28 _ _ _ (lv_sub hl [3] rfl) hP hS hs
      · have hs := ite_f hs b30
        refine lv_iconst (v := (0 : Int32)) hx hb dX9_alike_16 (by decide) ?_
        refine lv_istore (lv' := [(5, .int (0 : Int32)), (0, .ref (bd 0)), (1, .int x1), (2, .int x2), (3, .int v3_28), (4, .int v4_28)]) hx hb dX9_alike_17 hl (by decide) rfl (fun ls hl => ?_)
        have L19 : ∀ (n19 : Nat) (k19 : Int32 → Option (Int32)) (v3_43 : Int32) (v5_43 : Int32) (H : Heap) (locs : List Loc) (ls : Array Slot), lv_has ls 7 [(0, .ref (bd 0)), (1, .int x1), (2, .int x2), (3, .int v3_43), (4, .int v4_28), (5, .int v5_43)] → va_P D vwCl (MW bd cI ms msv mb mf mr mt mn ml mat mw mm mh) H → va_S A s.heap H locs → fX9_alike_19 k19 ms x1 x2 v4_28 n19 v3_43 v5_43 = some r → (∀ (u3_43 : Int32) (H : Heap) (locs : List Loc) (ls : Array Slot), lv_has ls 7 [(0, .ref (bd 0)), (1, .int x1), (2, .int x2), (3, .int u3_43), (4, .int v4_28)] → va_P D vwCl (MW bd cI ms msv mb mf mr mt mn ml mat mw mm mh) H → va_S A s.heap H locs → k19 u3_43 = some r → W p l e ⟨2, 0, 0, 46⟩ s m args below meth c_ H locs 0 0 Q (F0 m 114 ls [])) → W p l e ⟨2, 0, 0, 46⟩ s m args below meth c_ H locs 0 0 Q (F0 m 19 ls []) := by
          intro n19
          induction n19 with
          | zero =>
            intro k19 v3_43 v5_43 H locs ls hl hP hS hs hk19
            rw [fX9_alike_19] at hs
            cases hs
          | succ n19 ih19 =>
            intro k19 v3_43 v5_43 H locs ls hl hP hS hs hk19
            rw [fX9_alike_19] at hs
            refine lv_iload hx hb dX9_alike_19 (lv_at hl 5 rfl) ?_
            refine lv_aload_n hx hb dX9_alike_21 rfl (lv_at hl 0 rfl) ?_
            refine lv_iload hx hb dX9_alike_22 (lv_at hl 4 rfl) ?_
            refine lv_iconst (v := (2 : Int32)) hx hb dX9_alike_24 (by decide) ?_
            obtain ⟨q44, eq44, hs⟩ := ob hs
            refine nd_callV (As := [.int v4_28, .int (2 : Int32)]) (rest := [.int v5_43]) (st1 := [.int q44, .int v5_43]) hx hb hml hown hts hl hP hK hD hS hA hN (mX9_of eq44) iv_X9_of wd_307 0 rfl rfl rfl rfl ⟨Nat.le_of_ble_eq_true rfl, Nat.le_of_ble_eq_true rfl⟩ (Nat.le_of_ble_eq_true rfl) ⟨Nat.zero_le _, Nat.zero_le _⟩ dX9_alike_25 rfl rfl (fun H locs hP hD hS => ?_)
            refine lv_icmp_ge (tgt := 114) hx hb dX9_alike_28 (by decide) (fun b45 => ?_) (fun b45 => ?_)
            · have hs := ite_t hs b45
              exact hk19 v3_43 _ _ _ (lv_sub hl [0, 1, 2, 3, 4] rfl) hP hS hs
            · have hs := ite_f hs b45
              refine lv_iload hx hb dX9_alike_31 (lv_at hl 4 rfl) ?_
              refine lv_iload_n hx hb dX9_alike_33 rfl (lv_at hl 1 rfl) ?_
              refine lv_icmp_eq (tgt := 114) hx hb dX9_alike_34 (by decide) (fun b46 => ?_) (fun b46 => ?_)
              · have hs := ite_t hs b46
                exact hk19 v3_43 _ _ _ (lv_sub hl [0, 1, 2, 3, 4] rfl) hP hS hs
              · have hs := ite_f hs b46
                refine lv_aload_n hx hb dX9_alike_37 rfl (lv_at hl 0 rfl) ?_
                refine lv_iload hx hb dX9_alike_38 (lv_at hl 4 rfl) ?_
                refine lv_iload hx hb dX9_alike_40 (lv_at hl 5 rfl) ?_
                obtain ⟨q47, eq47, hs⟩ := ob hs
                refine nd_callV (As := [.int v4_28, .int v5_43]) (rest := []) (st1 := [.int q47]) hx hb hml hown hts hl hP hK hD hS hA hN (mX9_timeOf eq47) iv_X9_timeOf wd_315 0 rfl rfl rfl rfl ⟨Nat.le_of_ble_eq_true rfl, Nat.le_of_ble_eq_true rfl⟩ (Nat.le_of_ble_eq_true rfl) ⟨Nat.zero_le _, Nat.zero_le _⟩ dX9_alike_42 rfl rfl (fun H locs hP hD hS => ?_)
                refine lv_aload_n hx hb dX9_alike_45 rfl (lv_at hl 0 rfl) ?_
                refine lv_iload_n hx hb dX9_alike_46 rfl (lv_at hl 1 rfl) ?_
                refine lv_iload_n hx hb dX9_alike_47 rfl (lv_at hl 2 rfl) ?_
                obtain ⟨q48, eq48, hs⟩ := ob hs
                refine nd_callV (As := [.int x1, .int x2]) (rest := [.int q47]) (st1 := [.int q48, .int q47]) hx hb hml hown hts hl hP hK hD hS hA hN (mX9_timeOf eq48) iv_X9_timeOf wd_315 0 rfl rfl rfl rfl ⟨Nat.le_of_ble_eq_true rfl, Nat.le_of_ble_eq_true rfl⟩ (Nat.le_of_ble_eq_true rfl) ⟨Nat.zero_le _, Nat.zero_le _⟩ dX9_alike_48 rfl rfl (fun H locs hP hD hS => ?_)
                refine lv_icmp_ne (tgt := 75) hx hb dX9_alike_51 (by decide) (fun b49 => ?_) (fun b49 => ?_)
                · have hs := ite_f hs b49
                  refine lv_iconst (v := (0 : Int32)) hx hb dX9_alike_75 (by decide) ?_
                  refine lv_istore (lv' := [(6, .int (0 : Int32)), (0, .ref (bd 0)), (1, .int x1), (2, .int x2), (3, .int v3_43), (4, .int v4_28), (5, .int v5_43)]) hx hb dX9_alike_76 hl (by decide) rfl (fun ls hl => ?_)
                  refine lv_iload_n hx hb dX9_alike_78 rfl (lv_at hl 4 rfl) ?_
                  refine lv_iload hx hb dX9_alike_79 (lv_at hl 0 rfl) ?_
                  refine lv_if_eq (tgt := 105) hx hb dX9_alike_81 (by decide) (fun _ => ?_) (fun h => absurd (by decide) h)
                  refine lv_iconst (v := (0 : Int32)) hx hb dX9_alike_105 (by decide) ?_
                  refine lv_iadd hx hb dX9_alike_106 ?_
                  refine lv_istore_n (lv' := [(3, .int (v3_43 + (0 : Int32))), (6, .int (0 : Int32)), (0, .ref (bd 0)), (1, .int x1), (2, .int x2), (4, .int v4_28), (5, .int v5_43)]) hx hb dX9_alike_107 rfl hl (by decide) rfl (fun ls hl => ?_)
                  refine lv_iinc (v := v5_43 + (1 : Int32)) (lv' := [(5, .int (v5_43 + (1 : Int32))), (3, .int (v3_43 + (0 : Int32))), (6, .int (0 : Int32)), (0, .ref (bd 0)), (1, .int x1), (2, .int x2), (4, .int v4_28)]) hx hb dX9_alike_108 hl (k := 6) rfl rfl (by decide) rfl (fun ls hl => ?_)
                  refine lv_goto (tgt := 19) hx hb dX9_alike_111 (by decide) ?_
                  exact ih19 k19 (v3_43 + (0 : Int32)) (v5_43 + (1 : Int32)) _ _ _ (lv_sub hl [3, 4, 5, 1, 6, 0] rfl) hP hS hs hk19
                · have hs := ite_t hs b49
                  refine lv_aload_n hx hb dX9_alike_54 rfl (lv_at hl 0 rfl) ?_
                  refine lv_iload hx hb dX9_alike_55 (lv_at hl 4 rfl) ?_
                  refine lv_iload hx hb dX9_alike_57 (lv_at hl 5 rfl) ?_
                  obtain ⟨q50, eq50, hs⟩ := ob hs
                  refine nd_callV (As := [.int v4_28, .int v5_43]) (rest := []) (st1 := [.int q50]) hx hb hml hown hts hl hP hK hD hS hA hN (mX9_shopOf eq50) iv_X9_shopOf wd_645 0 rfl rfl rfl rfl ⟨Nat.le_of_ble_eq_true rfl, Nat.le_of_ble_eq_true rfl⟩ (Nat.le_of_ble_eq_true rfl) ⟨Nat.zero_le _, Nat.zero_le _⟩ dX9_alike_59 rfl rfl (fun H locs hP hD hS => ?_)
                  refine lv_aload_n hx hb dX9_alike_62 rfl (lv_at hl 0 rfl) ?_
                  refine lv_iload_n hx hb dX9_alike_63 rfl (lv_at hl 1 rfl) ?_
                  refine lv_iload_n hx hb dX9_alike_64 rfl (lv_at hl 2 rfl) ?_
                  obtain ⟨q51, eq51, hs⟩ := ob hs
                  refine nd_callV (As := [.int x1, .int x2]) (rest := [.int q50]) (st1 := [.int q51, .int q50]) hx hb hml hown hts hl hP hK hD hS hA hN (mX9_shopOf eq51) iv_X9_shopOf wd_645 0 rfl rfl rfl rfl ⟨Nat.le_of_ble_eq_true rfl, Nat.le_of_ble_eq_true rfl⟩ (Nat.le_of_ble_eq_true rfl) ⟨Nat.zero_le _, Nat.zero_le _⟩ dX9_alike_65 rfl rfl (fun H locs hP hD hS => ?_)
                  refine lv_icmp_ne (tgt := 75) hx hb dX9_alike_68 (by decide) (fun b52 => ?_) (fun b52 => ?_)
                  · have hs := ite_f hs b52
                    refine lv_iconst (v := (0 : Int32)) hx hb dX9_alike_75 (by decide) ?_
                    refine lv_istore (lv' := [(6, .int (0 : Int32)), (0, .ref (bd 0)), (1, .int x1), (2, .int x2), (3, .int v3_43), (4, .int v4_28), (5, .int v5_43)]) hx hb dX9_alike_76 hl (by decide) rfl (fun ls hl => ?_)
                    refine lv_iload_n hx hb dX9_alike_78 rfl (lv_at hl 4 rfl) ?_
                    refine lv_iload hx hb dX9_alike_79 (lv_at hl 0 rfl) ?_
                    refine lv_if_eq (tgt := 105) hx hb dX9_alike_81 (by decide) (fun _ => ?_) (fun h => absurd (by decide) h)
                    refine lv_iconst (v := (0 : Int32)) hx hb dX9_alike_105 (by decide) ?_
                    refine lv_iadd hx hb dX9_alike_106 ?_
                    refine lv_istore_n (lv' := [(3, .int (v3_43 + (0 : Int32))), (6, .int (0 : Int32)), (0, .ref (bd 0)), (1, .int x1), (2, .int x2), (4, .int v4_28), (5, .int v5_43)]) hx hb dX9_alike_107 rfl hl (by decide) rfl (fun ls hl => ?_)
                    refine lv_iinc (v := v5_43 + (1 : Int32)) (lv' := [(5, .int (v5_43 + (1 : Int32))), (3, .int (v3_43 + (0 : Int32))), (6, .int (0 : Int32)), (0, .ref (bd 0)), (1, .int x1), (2, .int x2), (4, .int v4_28)]) hx hb dX9_alike_108 hl (k := 6) rfl rfl (by decide) rfl (fun ls hl => ?_)
                    refine lv_goto (tgt := 19) hx hb dX9_alike_111 (by decide) ?_
                    exact ih19 k19 (v3_43 + (0 : Int32)) (v5_43 + (1 : Int32)) _ _ _ (lv_sub hl [3, 4, 5, 1, 6, 0] rfl) hP hS hs hk19
                  · have hs := ite_t hs b52
                    refine lv_iconst (v := (1 : Int32)) hx hb dX9_alike_71 (by decide) ?_
                    refine lv_goto (tgt := 76) hx hb dX9_alike_72 (by decide) ?_
                    refine lv_istore (lv' := [(6, .int (1 : Int32)), (0, .ref (bd 0)), (1, .int x1), (2, .int x2), (3, .int v3_43), (4, .int v4_28), (5, .int v5_43)]) hx hb dX9_alike_76 hl (by decide) rfl (fun ls hl => ?_)
                    refine lv_iload_n hx hb dX9_alike_78 rfl (lv_at hl 4 rfl) ?_
                    refine lv_iload hx hb dX9_alike_79 (lv_at hl 0 rfl) ?_
                    refine lv_if_eq (tgt := 105) hx hb dX9_alike_81 (by decide) (fun h => absurd h (by decide)) (fun _ => ?_)
                    refine lv_aload_n hx hb dX9_alike_84 rfl (lv_at hl 1 rfl) ?_
                    refine lv_iload hx hb dX9_alike_85 (lv_at hl 5 rfl) ?_
                    refine lv_iload hx hb dX9_alike_87 (lv_at hl 6 rfl) ?_
                    obtain ⟨q53, eq53, hs⟩ := ob hs
                    refine nd_callV (As := [.int v4_28, .int v5_43]) (rest := [.int v3_43]) (st1 := [.int q53, .int v3_43]) hx hb hml hown hts hl hP hK hD hS hA hN (mX9_sumOf eq53) iv_X9_sumOf wd_345 0 rfl rfl rfl rfl ⟨Nat.le_of_ble_eq_true rfl, Nat.le_of_ble_eq_true rfl⟩ (Nat.le_of_ble_eq_true rfl) ⟨Nat.zero_le _, Nat.zero_le _⟩ dX9_alike_89 rfl rfl (fun H locs hP hD hS => ?_)
                    refine lv_aload_n hx hb dX9_alike_92 rfl (lv_at hl 1 rfl) ?_
                    refine lv_iload_n hx hb dX9_alike_93 rfl (lv_at hl 2 rfl) ?_
                    refine lv_iload_n hx hb dX9_alike_94 rfl (lv_at hl 3 rfl) ?_
                    obtain ⟨q54, eq54, hs⟩ := ob hs
                    refine nd_callV (As := [.int x1, .int x2]) (rest := [.int q53, .int v3_43]) (st1 := [.int q54, .int q53, .int v3_43]) hx hb hml hown hts hl hP hK hD hS hA hN (mX9_sumOf eq54) iv_X9_sumOf wd_345 0 rfl rfl rfl rfl ⟨Nat.le_of_ble_eq_true rfl, Nat.le_of_ble_eq_true rfl⟩ (Nat.le_of_ble_eq_true rfl) ⟨Nat.zero_le _, Nat.zero_le _⟩ dX9_alike_95 rfl rfl (fun H locs hP hD hS => ?_)
                    refine lv_icmp_ne (tgt := 105) hx hb dX9_alike_98 (by decide) (fun b55 => ?_) (fun b55 => ?_)
                    · have hs := ite_f hs b55
                      refine lv_iconst (v := (0 : Int32)) hx hb dX9_alike_105 (by decide) ?_
                      refine lv_iadd hx hb dX9_alike_106 ?_
                      refine lv_istore_n (lv' := [(3, .int (v3_43 + (0 : Int32))), (6, .int (1 : Int32)), (0, .ref (bd 0)), (1, .int x1), (2, .int x2), (4, .int v4_28), (5, .int v5_43)]) hx hb dX9_alike_107 rfl hl (by decide) rfl (fun ls hl => ?_)
                      refine lv_iinc (v := v5_43 + (1 : Int32)) (lv' := [(5, .int (v5_43 + (1 : Int32))), (3, .int (v3_43 + (0 : Int32))), (6, .int (1 : Int32)), (0, .ref (bd 0)), (1, .int x1), (2, .int x2), (4, .int v4_28)]) hx hb dX9_alike_108 hl (k := 6) rfl rfl (by decide) rfl (fun ls hl => ?_)
                      refine lv_goto (tgt := 19) hx hb dX9_alike_111 (by decide) ?_
                      exact ih19 k19 (v3_43 + (0 : Int32)) (v5_43 + (1 : Int32)) _ _ _ (lv_sub hl [3, 4, 5, 1, 6, 0] rfl) hP hS hs hk19
                    · have hs := ite_t hs b55
                      refine lv_iconst (v := (1 : Int32)) hx hb dX9_alike_101 (by decide) ?_
                      refine lv_goto (tgt := 106) hx hb dX9_alike_102 (by decide) ?_
                      refine lv_iadd hx hb dX9_alike_106 ?_
                      refine lv_istore_n (lv' := [(3, .int (v3_43 + (1 : Int32))), (6, .int (1 : Int32)), (0, .ref (bd 0)), (1, .int x1), (2, .int x2), (4, .int v4_28), (5, .int v5_43)]) hx hb dX9_alike_107 rfl hl (by decide) rfl (fun ls hl => ?_)
                      refine lv_iinc (v := v5_43 + (1 : Int32)) (lv' := [(5, .int (v5_43 + (1 : Int32))), (3, .int (v3_43 + (1 : Int32))), (6, .int (1 : Int32)), (0, .ref (bd 0)), (1, .int x1), (2, .int x2), (4, .int v4_28)]) hx hb dX9_alike_108 hl (k := 6) rfl rfl (by decide) rfl (fun ls hl => ?_)
                      refine lv_goto (tgt := 19) hx hb dX9_alike_111 (by decide) ?_
                      exact ih19 k19 (v3_43 + (1 : Int32)) (v5_43 + (1 : Int32)) _ _ _ (lv_sub hl [3, 4, 5, 1, 6, 0] rfl) hP hS hs hk19
        refine L19 LF _ v3_28 (0 : Int32) _ _ _ (lv_sub hl [1, 2, 3, 4, 5, 0] rfl) hP hS hs (fun u3_43 H locs ls hl hP hS hs => ?_)
        refine lv_iinc (v := v4_28 + (1 : Int32)) (lv' := [(4, .int (v4_28 + (1 : Int32))), (0, .ref (bd 0)), (1, .int x1), (2, .int x2), (3, .int u3_43)]) hx hb dX9_alike_114 hl (k := 4) rfl rfl (by decide) rfl (fun ls hl => ?_)
        refine lv_goto (tgt := 5) hx hb dX9_alike_117 (by decide) ?_
        exact ih5 k5 u3_43 (v4_28 + (1 : Int32)) _ _ _ (lv_sub hl [1, 2, 3, 4, 0] rfl) hP hS hs hk5
  refine L5 LF _ (0 : Int32) (0 : Int32) _ _ _ (lv_sub hl [2, 3, 4, 1, 0] rfl) hP hS hs (fun u3_28 H locs ls hl hP hS hs => ?_)
  refine lv_iload_n hx hb dX9_alike_120 rfl (lv_at hl 0 rfl) ?_
  exact hret _ hs hP hS dX9_alike_121
def tX9_tellsReceipt_0 : List (Nat × Instr × Nat) := [(0, .iload_n 3, 1), (1, .tableswitch 95 0 7 #[47, 47, 47, 60, 67, 74, 81, 88], 47), (48, .aload_n 0, 1), (49, .getfield 7, 3), (52, .iload_n 1, 1), (53, .iload_n 2, 1), (54, .invokestatic 37, 3), (57, .iload_n 3, 1), (58, .iadd, 1), (59, .iaload, 1), (60, .ireturn, 1), (61, .aload_n 0, 1), (62, .iload_n 1, 1), (63, .iload_n 2, 1), (64, .invokevirtual 47, 3), (67, .ireturn, 1), (68, .aload_n 0, 1), (69, .iload_n 1, 1), (70, .iload_n 2, 1), (71, .invokevirtual 108, 3), (74, .ireturn, 1), (75, .aload_n 0, 1), (76, .iload_n 1, 1), (77, .iload_n 2, 1), (78, .invokevirtual 158, 3), (81, .ireturn, 1), (82, .aload_n 0, 1), (83, .iload_n 1, 1), (84, .iload_n 2, 1), (85, .invokevirtual 161, 3), (88, .ireturn, 1), (89, .aload_n 0, 1), (90, .iload_n 1, 1), (91, .iload_n 2, 1), (92, .invokevirtual 164, 3), (95, .ireturn, 1), (96, .aload_n 0, 1), (97, .iload_n 1, 1), (98, .iload_n 2, 1), (99, .invokevirtual 167, 3), (102, .ireturn, 1)]
theorem tX9_tellsReceipt_0_ok : tX9_tellsReceipt_0.all (fun q => decide (decode cX9_tellsReceipt q.1 = .ok q.2)) = true := by decide +kernel
theorem dX9_tellsReceipt_0 : decode cX9_tellsReceipt 0 = .ok (.iload_n 3, 1) := td tX9_tellsReceipt_0_ok 0 (q := (0, .iload_n 3, 1)) rfl
theorem dX9_tellsReceipt_1 : decode cX9_tellsReceipt 1 = .ok (.tableswitch 95 0 7 #[47, 47, 47, 60, 67, 74, 81, 88], 47) := td tX9_tellsReceipt_0_ok 1 (q := (1, .tableswitch 95 0 7 #[47, 47, 47, 60, 67, 74, 81, 88], 47)) rfl
theorem dX9_tellsReceipt_48 : decode cX9_tellsReceipt 48 = .ok (.aload_n 0, 1) := td tX9_tellsReceipt_0_ok 2 (q := (48, .aload_n 0, 1)) rfl
theorem dX9_tellsReceipt_49 : decode cX9_tellsReceipt 49 = .ok (.getfield 7, 3) := td tX9_tellsReceipt_0_ok 3 (q := (49, .getfield 7, 3)) rfl
theorem dX9_tellsReceipt_52 : decode cX9_tellsReceipt 52 = .ok (.iload_n 1, 1) := td tX9_tellsReceipt_0_ok 4 (q := (52, .iload_n 1, 1)) rfl
theorem dX9_tellsReceipt_53 : decode cX9_tellsReceipt 53 = .ok (.iload_n 2, 1) := td tX9_tellsReceipt_0_ok 5 (q := (53, .iload_n 2, 1)) rfl
theorem dX9_tellsReceipt_54 : decode cX9_tellsReceipt 54 = .ok (.invokestatic 37, 3) := td tX9_tellsReceipt_0_ok 6 (q := (54, .invokestatic 37, 3)) rfl
theorem dX9_tellsReceipt_57 : decode cX9_tellsReceipt 57 = .ok (.iload_n 3, 1) := td tX9_tellsReceipt_0_ok 7 (q := (57, .iload_n 3, 1)) rfl
theorem dX9_tellsReceipt_58 : decode cX9_tellsReceipt 58 = .ok (.iadd, 1) := td tX9_tellsReceipt_0_ok 8 (q := (58, .iadd, 1)) rfl
theorem dX9_tellsReceipt_59 : decode cX9_tellsReceipt 59 = .ok (.iaload, 1) := td tX9_tellsReceipt_0_ok 9 (q := (59, .iaload, 1)) rfl
theorem dX9_tellsReceipt_60 : decode cX9_tellsReceipt 60 = .ok (.ireturn, 1) := td tX9_tellsReceipt_0_ok 10 (q := (60, .ireturn, 1)) rfl
theorem dX9_tellsReceipt_61 : decode cX9_tellsReceipt 61 = .ok (.aload_n 0, 1) := td tX9_tellsReceipt_0_ok 11 (q := (61, .aload_n 0, 1)) rfl
theorem dX9_tellsReceipt_62 : decode cX9_tellsReceipt 62 = .ok (.iload_n 1, 1) := td tX9_tellsReceipt_0_ok 12 (q := (62, .iload_n 1, 1)) rfl
theorem dX9_tellsReceipt_63 : decode cX9_tellsReceipt 63 = .ok (.iload_n 2, 1) := td tX9_tellsReceipt_0_ok 13 (q := (63, .iload_n 2, 1)) rfl
theorem dX9_tellsReceipt_64 : decode cX9_tellsReceipt 64 = .ok (.invokevirtual 47, 3) := td tX9_tellsReceipt_0_ok 14 (q := (64, .invokevirtual 47, 3)) rfl
theorem dX9_tellsReceipt_67 : decode cX9_tellsReceipt 67 = .ok (.ireturn, 1) := td tX9_tellsReceipt_0_ok 15 (q := (67, .ireturn, 1)) rfl
theorem dX9_tellsReceipt_68 : decode cX9_tellsReceipt 68 = .ok (.aload_n 0, 1) := td tX9_tellsReceipt_0_ok 16 (q := (68, .aload_n 0, 1)) rfl
theorem dX9_tellsReceipt_69 : decode cX9_tellsReceipt 69 = .ok (.iload_n 1, 1) := td tX9_tellsReceipt_0_ok 17 (q := (69, .iload_n 1, 1)) rfl
theorem dX9_tellsReceipt_70 : decode cX9_tellsReceipt 70 = .ok (.iload_n 2, 1) := td tX9_tellsReceipt_0_ok 18 (q := (70, .iload_n 2, 1)) rfl
theorem dX9_tellsReceipt_71 : decode cX9_tellsReceipt 71 = .ok (.invokevirtual 108, 3) := td tX9_tellsReceipt_0_ok 19 (q := (71, .invokevirtual 108, 3)) rfl
theorem dX9_tellsReceipt_74 : decode cX9_tellsReceipt 74 = .ok (.ireturn, 1) := td tX9_tellsReceipt_0_ok 20 (q := (74, .ireturn, 1)) rfl
theorem dX9_tellsReceipt_75 : decode cX9_tellsReceipt 75 = .ok (.aload_n 0, 1) := td tX9_tellsReceipt_0_ok 21 (q := (75, .aload_n 0, 1)) rfl
theorem dX9_tellsReceipt_76 : decode cX9_tellsReceipt 76 = .ok (.iload_n 1, 1) := td tX9_tellsReceipt_0_ok 22 (q := (76, .iload_n 1, 1)) rfl
theorem dX9_tellsReceipt_77 : decode cX9_tellsReceipt 77 = .ok (.iload_n 2, 1) := td tX9_tellsReceipt_0_ok 23 (q := (77, .iload_n 2, 1)) rfl
theorem dX9_tellsReceipt_78 : decode cX9_tellsReceipt 78 = .ok (.invokevirtual 158, 3) := td tX9_tellsReceipt_0_ok 24 (q := (78, .invokevirtual 158, 3)) rfl
theorem dX9_tellsReceipt_81 : decode cX9_tellsReceipt 81 = .ok (.ireturn, 1) := td tX9_tellsReceipt_0_ok 25 (q := (81, .ireturn, 1)) rfl
theorem dX9_tellsReceipt_82 : decode cX9_tellsReceipt 82 = .ok (.aload_n 0, 1) := td tX9_tellsReceipt_0_ok 26 (q := (82, .aload_n 0, 1)) rfl
theorem dX9_tellsReceipt_83 : decode cX9_tellsReceipt 83 = .ok (.iload_n 1, 1) := td tX9_tellsReceipt_0_ok 27 (q := (83, .iload_n 1, 1)) rfl
theorem dX9_tellsReceipt_84 : decode cX9_tellsReceipt 84 = .ok (.iload_n 2, 1) := td tX9_tellsReceipt_0_ok 28 (q := (84, .iload_n 2, 1)) rfl
theorem dX9_tellsReceipt_85 : decode cX9_tellsReceipt 85 = .ok (.invokevirtual 161, 3) := td tX9_tellsReceipt_0_ok 29 (q := (85, .invokevirtual 161, 3)) rfl
theorem dX9_tellsReceipt_88 : decode cX9_tellsReceipt 88 = .ok (.ireturn, 1) := td tX9_tellsReceipt_0_ok 30 (q := (88, .ireturn, 1)) rfl
theorem dX9_tellsReceipt_89 : decode cX9_tellsReceipt 89 = .ok (.aload_n 0, 1) := td tX9_tellsReceipt_0_ok 31 (q := (89, .aload_n 0, 1)) rfl
theorem dX9_tellsReceipt_90 : decode cX9_tellsReceipt 90 = .ok (.iload_n 1, 1) := td tX9_tellsReceipt_0_ok 32 (q := (90, .iload_n 1, 1)) rfl
theorem dX9_tellsReceipt_91 : decode cX9_tellsReceipt 91 = .ok (.iload_n 2, 1) := td tX9_tellsReceipt_0_ok 33 (q := (91, .iload_n 2, 1)) rfl
theorem dX9_tellsReceipt_92 : decode cX9_tellsReceipt 92 = .ok (.invokevirtual 164, 3) := td tX9_tellsReceipt_0_ok 34 (q := (92, .invokevirtual 164, 3)) rfl
theorem dX9_tellsReceipt_95 : decode cX9_tellsReceipt 95 = .ok (.ireturn, 1) := td tX9_tellsReceipt_0_ok 35 (q := (95, .ireturn, 1)) rfl
theorem dX9_tellsReceipt_96 : decode cX9_tellsReceipt 96 = .ok (.aload_n 0, 1) := td tX9_tellsReceipt_0_ok 36 (q := (96, .aload_n 0, 1)) rfl
theorem dX9_tellsReceipt_97 : decode cX9_tellsReceipt 97 = .ok (.iload_n 1, 1) := td tX9_tellsReceipt_0_ok 37 (q := (97, .iload_n 1, 1)) rfl
theorem dX9_tellsReceipt_98 : decode cX9_tellsReceipt 98 = .ok (.iload_n 2, 1) := td tX9_tellsReceipt_0_ok 38 (q := (98, .iload_n 2, 1)) rfl
theorem dX9_tellsReceipt_99 : decode cX9_tellsReceipt 99 = .ok (.invokevirtual 167, 3) := td tX9_tellsReceipt_0_ok 39 (q := (99, .invokevirtual 167, 3)) rfl
theorem dX9_tellsReceipt_102 : decode cX9_tellsReceipt 102 = .ok (.ireturn, 1) := td tX9_tellsReceipt_0_ok 40 (q := (102, .ireturn, 1)) rfl
def fX9_tellsReceipt (ms : (Nat → Int32)) (x1 : Int32) (x2 : Int32) (x3 : Int32) : Option (Int32) :=
  (if x3 = (0 : Int32) then (Option.bind (fX9_placeOf x1 x2) (fun q2 => (Option.bind (aget ms 531 (q2 + x3)) (fun t3 => (some t3))))) else (if x3 = (1 : Int32) then (Option.bind (fX9_placeOf x1 x2) (fun q5 => (Option.bind (aget ms 531 (q5 + x3)) (fun t6 => (some t6))))) else (if x3 = (2 : Int32) then (Option.bind (fX9_placeOf x1 x2) (fun q8 => (Option.bind (aget ms 531 (q8 + x3)) (fun t9 => (some t9))))) else (if x3 = (3 : Int32) then (Option.bind (fX9_sumOf ms x1 x2) (fun q11 => (some q11))) else (if x3 = (4 : Int32) then (Option.bind (fX9_totalOf ms x1 x2) (fun q13 => (some q13))) else (if x3 = (5 : Int32) then (Option.bind (fX9_stateOf ms x1 x2) (fun q15 => (some q15))) else (if x3 = (6 : Int32) then (Option.bind (fX9_pageOf ms x1 x2) (fun q17 => (some q17))) else (if x3 = (7 : Int32) then (Option.bind (fX9_hourOf ms x1 x2) (fun q19 => (some q19))) else (Option.bind (fX9_alike ms x1 x2) (fun q20 => (some q20)))))))))))
set_option maxHeartbeats 4000000 in
set_option maxRecDepth 100000 in
theorem mX9_tellsReceipt {l : Launch} {D : va_G} {bd : Nat → Nat} {cI : ClassId} {ms : (Nat → Int32)} {msv : (Nat → Int32)} {mb : (Nat → Int32)} {mf : (Nat → Int32)} {mr : (Nat → Int32)} {mt : Int32} {mn : Int32} {ml : Int32} {mat : Int32} {mw : Int32} {mm : Int32} {mh : Int64} {x1 : Int32} {x2 : Int32} {x3 : Int32} {r : Int32} (hs : fX9_tellsReceipt ms x1 x2 x3 = some r) : nd_C l yX9_tellsReceipt cX9_tellsReceipt 4 (some .int) 3 74 D [(cI, .int)] [.ref (bd 0), .int x1, .int x2, .int x3] (MW bd cI ms msv mb mf mr mt mn ml mat mw mm mh) (MW bd cI ms msv mb mf mr mt mn ml mat mw mm mh) (some (.int r)) := by
  refine nd_ofCi (by decide) (Nat.le_of_ble_eq_true rfl) (fun p e s m args below meth c_ ls A Q hx hb hml hown hts hl hP hK hD hS hA hN hret => ?_)
  have hown : s.vm.findClass RX9 = some m.cls := hown
  have hl : lv_has ls 4 [(0, .ref (bd 0)), (1, .int x1), (2, .int x2), (3, .int x3)] := hl
  have hret : ∀ (z0 : Int32) {H : Heap} {locs : List Loc} {pc : Nat} {ls : Array Slot}, some z0 = some r → va_P D vwCl (MW bd cI ms msv mb mf mr mt mn ml mat mw mm mh) H → va_S A s.heap H locs → decode cX9_tellsReceipt pc = .ok (.ireturn, 1) → W p l e ⟨3, 0, 0, 74⟩ s m args below meth c_ H locs 0 0 Q (F0 m pc ls [.int z0]) := by
    intro z0 H locs pc ls h hP hS hd
    cases h
    exact hret hP hS hd
  rw [fX9_tellsReceipt] at hs
  refine lv_iload_n hx hb dX9_tellsReceipt_0 rfl (lv_at hl 3 rfl) ?_
  by_cases b1 : x3 = (0 : Int32)
  · have hs := ite_t hs b1
    rw [b1]
    refine lv_tableIn (off := (47)) (tgt := 48) hx hb dX9_tellsReceipt_1 (by decide) (by decide) (by decide) (by decide) ?_
    refine lv_aload_n hx hb dX9_tellsReceipt_48 rfl (lv_at hl 0 rfl) ?_
    refine gf_X9_7 hx hb hts hown hK hP 0 rfl rfl dX9_tellsReceipt_49 ?_
    refine lv_iload_n hx hb dX9_tellsReceipt_52 rfl (lv_at hl 1 rfl) ?_
    refine lv_iload_n hx hb dX9_tellsReceipt_53 rfl (lv_at hl 2 rfl) ?_
    obtain ⟨q2, eq2, hs⟩ := ob hs
    refine nd_callS (As := [.int x1, .int x2]) (rest := [.ref (bd 1)]) (st1 := [.int q2, .ref (bd 1)]) hx hb hml hown hts hl hP hK hD hS hA hN (mX9_placeOf eq2) is_X9_placeOf wd_319 rfl rfl ⟨Nat.le_of_ble_eq_true rfl, Nat.le_of_ble_eq_true rfl⟩ (Nat.le_of_ble_eq_true rfl) ⟨Nat.zero_le _, Nat.zero_le _⟩ dX9_tellsReceipt_54 rfl rfl (fun H locs hP hD hS => ?_)
    refine lv_iload_n hx hb dX9_tellsReceipt_57 rfl (lv_at hl 3 rfl) ?_
    refine lv_iadd hx hb dX9_tellsReceipt_58 ?_
    obtain ⟨t3, et3, hs⟩ := ob hs
    refine nd_iald hx hb hK hP 1 0 rfl rfl et3 dX9_tellsReceipt_59 ?_
    exact hret _ hs hP hS dX9_tellsReceipt_60
  have hs := ite_f hs b1
  by_cases b4 : x3 = (1 : Int32)
  · have hs := ite_t hs b4
    rw [b4]
    refine lv_tableIn (off := (47)) (tgt := 48) hx hb dX9_tellsReceipt_1 (by decide) (by decide) (by decide) (by decide) ?_
    refine lv_aload_n hx hb dX9_tellsReceipt_48 rfl (lv_at hl 0 rfl) ?_
    refine gf_X9_7 hx hb hts hown hK hP 0 rfl rfl dX9_tellsReceipt_49 ?_
    refine lv_iload_n hx hb dX9_tellsReceipt_52 rfl (lv_at hl 1 rfl) ?_
    refine lv_iload_n hx hb dX9_tellsReceipt_53 rfl (lv_at hl 2 rfl) ?_
    obtain ⟨q5, eq5, hs⟩ := ob hs
    refine nd_callS (As := [.int x1, .int x2]) (rest := [.ref (bd 1)]) (st1 := [.int q5, .ref (bd 1)]) hx hb hml hown hts hl hP hK hD hS hA hN (mX9_placeOf eq5) is_X9_placeOf wd_319 rfl rfl ⟨Nat.le_of_ble_eq_true rfl, Nat.le_of_ble_eq_true rfl⟩ (Nat.le_of_ble_eq_true rfl) ⟨Nat.zero_le _, Nat.zero_le _⟩ dX9_tellsReceipt_54 rfl rfl (fun H locs hP hD hS => ?_)
    refine lv_iload_n hx hb dX9_tellsReceipt_57 rfl (lv_at hl 3 rfl) ?_
    refine lv_iadd hx hb dX9_tellsReceipt_58 ?_
    obtain ⟨t6, et6, hs⟩ := ob hs
    refine nd_iald hx hb hK hP 1 0 rfl rfl et6 dX9_tellsReceipt_59 ?_
    exact hret _ hs hP hS dX9_tellsReceipt_60
  have hs := ite_f hs b4
  by_cases b7 : x3 = (2 : Int32)
  · have hs := ite_t hs b7
    rw [b7]
    refine lv_tableIn (off := (47)) (tgt := 48) hx hb dX9_tellsReceipt_1 (by decide) (by decide) (by decide) (by decide) ?_
    refine lv_aload_n hx hb dX9_tellsReceipt_48 rfl (lv_at hl 0 rfl) ?_
    refine gf_X9_7 hx hb hts hown hK hP 0 rfl rfl dX9_tellsReceipt_49 ?_
    refine lv_iload_n hx hb dX9_tellsReceipt_52 rfl (lv_at hl 1 rfl) ?_
    refine lv_iload_n hx hb dX9_tellsReceipt_53 rfl (lv_at hl 2 rfl) ?_
    obtain ⟨q8, eq8, hs⟩ := ob hs
    refine nd_callS (As := [.int x1, .int x2]) (rest := [.ref (bd 1)]) (st1 := [.int q8, .ref (bd 1)]) hx hb hml hown hts hl hP hK hD hS hA hN (mX9_placeOf eq8) is_X9_placeOf wd_319 rfl rfl ⟨Nat.le_of_ble_eq_true rfl, Nat.le_of_ble_eq_true rfl⟩ (Nat.le_of_ble_eq_true rfl) ⟨Nat.zero_le _, Nat.zero_le _⟩ dX9_tellsReceipt_54 rfl rfl (fun H locs hP hD hS => ?_)
    refine lv_iload_n hx hb dX9_tellsReceipt_57 rfl (lv_at hl 3 rfl) ?_
    refine lv_iadd hx hb dX9_tellsReceipt_58 ?_
    obtain ⟨t9, et9, hs⟩ := ob hs
    refine nd_iald hx hb hK hP 1 0 rfl rfl et9 dX9_tellsReceipt_59 ?_
    exact hret _ hs hP hS dX9_tellsReceipt_60
  have hs := ite_f hs b7
  by_cases b10 : x3 = (3 : Int32)
  · have hs := ite_t hs b10
    rw [b10]
    refine lv_tableIn (off := (60)) (tgt := 61) hx hb dX9_tellsReceipt_1 (by decide) (by decide) (by decide) (by decide) ?_
    refine lv_aload_n hx hb dX9_tellsReceipt_61 rfl (lv_at hl 0 rfl) ?_
    refine lv_iload_n hx hb dX9_tellsReceipt_62 rfl (lv_at hl 1 rfl) ?_
    refine lv_iload_n hx hb dX9_tellsReceipt_63 rfl (lv_at hl 2 rfl) ?_
    obtain ⟨q11, eq11, hs⟩ := ob hs
    refine nd_callV (As := [.int x1, .int x2]) (rest := []) (st1 := [.int q11]) hx hb hml hown hts hl hP hK hD hS hA hN (mX9_sumOf eq11) iv_X9_sumOf wd_345 0 rfl rfl rfl rfl ⟨Nat.le_of_ble_eq_true rfl, Nat.le_of_ble_eq_true rfl⟩ (Nat.le_of_ble_eq_true rfl) ⟨Nat.zero_le _, Nat.zero_le _⟩ dX9_tellsReceipt_64 rfl rfl (fun H locs hP hD hS => ?_)
    exact hret _ hs hP hS dX9_tellsReceipt_67
  have hs := ite_f hs b10
  by_cases b12 : x3 = (4 : Int32)
  · have hs := ite_t hs b12
    rw [b12]
    refine lv_tableIn (off := (67)) (tgt := 68) hx hb dX9_tellsReceipt_1 (by decide) (by decide) (by decide) (by decide) ?_
    refine lv_aload_n hx hb dX9_tellsReceipt_68 rfl (lv_at hl 0 rfl) ?_
    refine lv_iload_n hx hb dX9_tellsReceipt_69 rfl (lv_at hl 1 rfl) ?_
    refine lv_iload_n hx hb dX9_tellsReceipt_70 rfl (lv_at hl 2 rfl) ?_
    obtain ⟨q13, eq13, hs⟩ := ob hs
    refine nd_callV (As := [.int x1, .int x2]) (rest := []) (st1 := [.int q13]) hx hb hml hown hts hl hP hK hD hS hA hN (mX9_totalOf eq13) iv_X9_totalOf wd_368 0 rfl rfl rfl rfl ⟨Nat.le_of_ble_eq_true rfl, Nat.le_of_ble_eq_true rfl⟩ (Nat.le_of_ble_eq_true rfl) ⟨Nat.zero_le _, Nat.zero_le _⟩ dX9_tellsReceipt_71 rfl rfl (fun H locs hP hD hS => ?_)
    exact hret _ hs hP hS dX9_tellsReceipt_74
  have hs := ite_f hs b12
  by_cases b14 : x3 = (5 : Int32)
  · have hs := ite_t hs b14
    rw [b14]
    refine lv_tableIn (off := (74)) (tgt := 75) hx hb dX9_tellsReceipt_1 (by decide) (by decide) (by decide) (by decide) ?_
    refine lv_aload_n hx hb dX9_tellsReceipt_75 rfl (lv_at hl 0 rfl) ?_
    refine lv_iload_n hx hb dX9_tellsReceipt_76 rfl (lv_at hl 1 rfl) ?_
    refine lv_iload_n hx hb dX9_tellsReceipt_77 rfl (lv_at hl 2 rfl) ?_
    obtain ⟨q15, eq15, hs⟩ := ob hs
    refine nd_callV (As := [.int x1, .int x2]) (rest := []) (st1 := [.int q15]) hx hb hml hown hts hl hP hK hD hS hA hN (mX9_stateOf eq15) iv_X9_stateOf wd_623 0 rfl rfl rfl rfl ⟨Nat.le_of_ble_eq_true rfl, Nat.le_of_ble_eq_true rfl⟩ (Nat.le_of_ble_eq_true rfl) ⟨Nat.zero_le _, Nat.zero_le _⟩ dX9_tellsReceipt_78 rfl rfl (fun H locs hP hD hS => ?_)
    exact hret _ hs hP hS dX9_tellsReceipt_81
  have hs := ite_f hs b14
  by_cases b16 : x3 = (6 : Int32)
  · have hs := ite_t hs b16
    rw [b16]
    refine lv_tableIn (off := (81)) (tgt := 82) hx hb dX9_tellsReceipt_1 (by decide) (by decide) (by decide) (by decide) ?_
    refine lv_aload_n hx hb dX9_tellsReceipt_82 rfl (lv_at hl 0 rfl) ?_
    refine lv_iload_n hx hb dX9_tellsReceipt_83 rfl (lv_at hl 1 rfl) ?_
    refine lv_iload_n hx hb dX9_tellsReceipt_84 rfl (lv_at hl 2 rfl) ?_
    obtain ⟨q17, eq17, hs⟩ := ob hs
    refine nd_callV (As := [.int x1, .int x2]) (rest := []) (st1 := [.int q17]) hx hb hml hown hts hl hP hK hD hS hA hN (mX9_pageOf eq17) iv_X9_pageOf wd_633 0 rfl rfl rfl rfl ⟨Nat.le_of_ble_eq_true rfl, Nat.le_of_ble_eq_true rfl⟩ (Nat.le_of_ble_eq_true rfl) ⟨Nat.zero_le _, Nat.zero_le _⟩ dX9_tellsReceipt_85 rfl rfl (fun H locs hP hD hS => ?_)
    exact hret _ hs hP hS dX9_tellsReceipt_88
  have hs := ite_f hs b16
  by_cases b18 : x3 = (7 : Int32)
  · have hs := ite_t hs b18
    rw [b18]
    refine lv_tableIn (off := (88)) (tgt := 89) hx hb dX9_tellsReceipt_1 (by decide) (by decide) (by decide) (by decide) ?_
    refine lv_aload_n hx hb dX9_tellsReceipt_89 rfl (lv_at hl 0 rfl) ?_
    refine lv_iload_n hx hb dX9_tellsReceipt_90 rfl (lv_at hl 1 rfl) ?_
    refine lv_iload_n hx hb dX9_tellsReceipt_91 rfl (lv_at hl 2 rfl) ?_
    obtain ⟨q19, eq19, hs⟩ := ob hs
    refine nd_callV (As := [.int x1, .int x2]) (rest := []) (st1 := [.int q19]) hx hb hml hown hts hl hP hK hD hS hA hN (mX9_hourOf eq19) iv_X9_hourOf wd_637 0 rfl rfl rfl rfl ⟨Nat.le_of_ble_eq_true rfl, Nat.le_of_ble_eq_true rfl⟩ (Nat.le_of_ble_eq_true rfl) ⟨Nat.zero_le _, Nat.zero_le _⟩ dX9_tellsReceipt_92 rfl rfl (fun H locs hP hD hS => ?_)
    exact hret _ hs hP hS dX9_tellsReceipt_95
  have hs := ite_f hs b18
  have zb1 : x3.toInt ≠ (0) := sw_ne b1
  have zb4 : x3.toInt ≠ (1) := sw_ne b4
  have zb7 : x3.toInt ≠ (2) := sw_ne b7
  have zb10 : x3.toInt ≠ (3) := sw_ne b10
  have zb12 : x3.toInt ≠ (4) := sw_ne b12
  have zb14 : x3.toInt ≠ (5) := sw_ne b14
  have zb16 : x3.toInt ≠ (6) := sw_ne b16
  have zb18 : x3.toInt ≠ (7) := sw_ne b18
  refine lv_tableOut (tgt := 96) hx hb dX9_tellsReceipt_1 (by omega) (by decide) ?_
  refine lv_aload_n hx hb dX9_tellsReceipt_96 rfl (lv_at hl 0 rfl) ?_
  refine lv_iload_n hx hb dX9_tellsReceipt_97 rfl (lv_at hl 1 rfl) ?_
  refine lv_iload_n hx hb dX9_tellsReceipt_98 rfl (lv_at hl 2 rfl) ?_
  obtain ⟨q20, eq20, hs⟩ := ob hs
  refine nd_callV (As := [.int x1, .int x2]) (rest := []) (st1 := [.int q20]) hx hb hml hown hts hl hP hK hD hS hA hN (mX9_alike eq20) iv_X9_alike wd_641 0 rfl rfl rfl rfl ⟨Nat.le_of_ble_eq_true rfl, Nat.le_of_ble_eq_true rfl⟩ (Nat.le_of_ble_eq_true rfl) ⟨Nat.zero_le _, Nat.zero_le _⟩ dX9_tellsReceipt_99 rfl rfl (fun H locs hP hD hS => ?_)
  exact hret _ hs hP hS dX9_tellsReceipt_102
