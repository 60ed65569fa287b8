/-! The start: what the tables and the premises give. -/
theorem iz_52 : ∀ w ∈ (vx_atS RX8 52 "java/lang/IllegalArgumentException" ["java/lang/RuntimeException", "java/lang/Exception"]).filter goodWord, w ∈ lw_tbl := by decide +kernel
theorem iz_63 : ∀ w ∈ (vx_atS RX8 63 "java/lang/IllegalStateException" ["java/lang/RuntimeException", "java/lang/Exception"]).filter goodWord, w ∈ lw_tbl := by decide +kernel
theorem iz_252 : ∀ w ∈ (vx_atS RX8 252 "java/lang/IndexOutOfBoundsException" ["java/lang/RuntimeException", "java/lang/Exception"]).filter goodWord, w ∈ lw_tbl := by decide +kernel
theorem wsL0_in : ∀ w ∈ wsL_law0, w ∈ lw_tbl := List.forall_mem_append.mpr ⟨List.forall_mem_append.mpr ⟨List.forall_mem_append.mpr ⟨List.forall_mem_append.mpr ⟨List.forall_mem_append.mpr ⟨List.forall_mem_append.mpr ⟨List.forall_mem_append.mpr ⟨List.forall_mem_append.mpr ⟨List.forall_mem_append.mpr ⟨ix_1, List.forall_mem_append.mpr ⟨ix_2, List.forall_mem_append.mpr ⟨ix_3, List.forall_mem_append.mpr ⟨ix_4, List.forall_mem_append.mpr ⟨ix_5, List.forall_mem_append.mpr ⟨ix_6, List.forall_mem_append.mpr ⟨ix_7, List.forall_mem_append.mpr ⟨ix_8, List.forall_mem_append.mpr ⟨ix_9, List.forall_mem_append.mpr ⟨ix_10, List.forall_mem_append.mpr ⟨ix_11, List.forall_mem_append.mpr ⟨ix_12, List.forall_mem_append.mpr ⟨ix_13, List.forall_mem_append.mpr ⟨ix_14, List.forall_mem_append.mpr ⟨ix_15, List.forall_mem_append.mpr ⟨ix_16, List.forall_mem_append.mpr ⟨ix_17, List.forall_mem_append.mpr ⟨ix_18, List.forall_mem_append.mpr ⟨ix_19, List.forall_mem_append.mpr ⟨ix_20, List.forall_mem_append.mpr ⟨ix_21, List.forall_mem_append.mpr ⟨ix_22, List.forall_mem_append.mpr ⟨ix_23, List.forall_mem_append.mpr ⟨ix_24, List.forall_mem_append.mpr ⟨ix_25, List.forall_mem_append.mpr ⟨ix_26, List.forall_mem_append.mpr ⟨ix_27, List.forall_mem_append.mpr ⟨ix_28, List.forall_mem_append.mpr ⟨ix_29, List.forall_mem_append.mpr ⟨ix_30, List.forall_mem_append.mpr ⟨ix_31, List.forall_mem_append.mpr ⟨ix_32, List.forall_mem_append.mpr ⟨ix_33, List.forall_mem_append.mpr ⟨ix_34, List.forall_mem_append.mpr ⟨ix_35, List.forall_mem_append.mpr ⟨ix_36, List.forall_mem_append.mpr ⟨ix_37, List.forall_mem_append.mpr ⟨ix_38, List.forall_mem_append.mpr ⟨ix_39, List.forall_mem_append.mpr ⟨ix_40, List.forall_mem_append.mpr ⟨ix_41, ix_42⟩⟩⟩⟩⟩⟩⟩⟩⟩⟩⟩⟩⟩⟩⟩⟩⟩⟩⟩⟩⟩⟩⟩⟩⟩⟩⟩⟩⟩⟩⟩⟩⟩⟩⟩⟩⟩⟩⟩⟩⟩, iy_8⟩, iy_9⟩, iy_0⟩, iy_1⟩, iy_6⟩, iy_4⟩, iy_5⟩, fun _ h => absurd h List.not_mem_nil⟩
theorem wsL_in : ∀ w ∈ wsL_law, w ∈ lw_tbl := List.forall_mem_append.mpr ⟨List.forall_mem_append.mpr ⟨List.forall_mem_append.mpr ⟨wsL0_in, iz_52⟩, iz_63⟩, iz_252⟩
def fcL : List Cond := [.methodLinkNest "NightDiary$Joining" 42 yX8_lowestOf "NightDiary", .methodLinkNest "NightDiary$LongestRow" 87 yX8_lowestOf "NightDiary", .methodLinkNest "NightDiary" 11 yX0_init "NightDiary", .methodLinkNest "NightDiary" 18 yX1_init "NightDiary", .methodLinkNest "NightDiary" 25 yX6_init "NightDiary", .methodLinkNest "NightDiary" 32 yX4_init "NightDiary", .methodLinkNest "NightDiary" 39 yX5_init "NightDiary", .laysStatic Bundle.tN "UNASSIGNED_STACK" Bundle.steD, .laysStatic Bundle.tN "SUPPRESSED_SENTINEL" Bundle.listD, .initialized Bundle.tN, .castable "java/lang/IllegalArgumentException" "java/lang/IllegalArgumentException", .castable "java/lang/IllegalStateException" "java/lang/IllegalStateException", .castable "java/lang/IndexOutOfBoundsException" "java/lang/IndexOutOfBoundsException", .declares (Bundle.initS "java/lang/RuntimeException"), .declares (Bundle.initS "java/lang/Exception"), .declares (Bundle.initS "java/lang/Throwable"), .stringRef "NightDiary" 50 "a seam is not 0 to 99", .stringRef "NightDiary" 61 "there are 10 pieces", .stringRef "NightDiary" 79 "the buffer does not tell receipts", .stringRef "NightDiary" 91 "the piece has no receipt", .stringRef "NightDiary" 115 "the pieces cannot be joined", .stringRef "NightDiary" 123 "the piece is not joined to one below", .stringRef "NightDiary" 132 "the code is not 33 to 126", .stringRef "NightDiary" 137 "the buffer has 60 characters", .stringRef "NightDiary" 148 "there is no saved state", .stringRef "NightDiary" 167 "the line is below 0", .stringRef "NightDiary" 246 "an argument is out of range", .stringRef "NightDiary" 250 "there is no such piece", .stringRef "NightDiary" 253 "there is no such receipt"]
theorem fc_in : ∀ w ∈ fcL, w ∈ lw_tbl := pos_in [280, 579, 114, 131, 144, 172, 185, 645, 647, 89, 620, 688, 720, 622, 624, 626, 659, 695, 742, 781, 801, 815, 827, 828, 840, 877, 855, 727, 793] (by decide +kernel)
def naL : List Cond := [.isRef (.static Bundle.tN "UNASSIGNED_STACK" Bundle.steD), .isRef (.static Bundle.tN "SUPPRESSED_SENTINEL" Bundle.listD), .not (.castable "java/lang/IllegalStateException" "java/lang/IllegalArgumentException"), .not (.castable "java/lang/IllegalArgumentException" "java/lang/IndexOutOfBoundsException"), .not (.castable "java/lang/IllegalStateException" "java/lang/IndexOutOfBoundsException"), .exactly (.string "NightDiary" 50) "java/lang/String", .exactly (.string "NightDiary" 61) "java/lang/String", .exactly (.string "NightDiary" 79) "java/lang/String", .exactly (.string "NightDiary" 91) "java/lang/String", .exactly (.string "NightDiary" 115) "java/lang/String", .exactly (.string "NightDiary" 123) "java/lang/String", .exactly (.string "NightDiary" 132) "java/lang/String", .exactly (.string "NightDiary" 137) "java/lang/String", .exactly (.string "NightDiary" 148) "java/lang/String", .exactly (.string "NightDiary" 167) "java/lang/String", .exactly (.string "NightDiary" 246) "java/lang/String", .exactly (.string "NightDiary" 250) "java/lang/String", .exactly (.string "NightDiary" 253) "java/lang/String"]
theorem na_in : ∀ w ∈ naL, w ∈ flatC (Jvm.Cond.and given_1 narrow_1) := by decide +kernel
theorem str_of {own tx : String} {k : Nat} {A : Array Value} {U : State} (h1 : (Cond.stringRef own k tx).before A U = true) (h2 : (Cond.exactly (.string own k) "java/lang/String").before A U = true) : ∃ a, vk_R own k tx a U := by
  obtain ⟨a, c, cell, kk, e, -⟩ := Cond.exactly_spec h2
  exact ⟨a, vk_R.of (A := A) h1 e⟩
theorem ar_of_w {ty : FieldType} {args : Array Value} {s : State} (hty : ty = .int ∨ ty = .long) (h : (Cond.arrayClass ty).before args s = true) : ∃ cA : ClassId, ArrOfT s cA ty ∧ va_RA s cA ty := by
  obtain ⟨cA, kA, comp, h1, h2, h3⟩ := Cond.arrayClass_spec h
  rcases hty with rfl | rfl <;> exact ⟨cA, fun n z => ⟨fun k h => (by cases h), kA, h2, comp, h3⟩, h1⟩
section START
variable {args : Array Value} {s : State}
theorem st_N (h : ∀ w ∈ lw_tbl, w.before args s = true) : nd_N s ∧ nd_M s := by
  have f := fun (i : Nat) (w : Cond) (hi : fcL[i]? = some w) => h w (fc_in w (List.mem_of_getElem? hi))
  exact ⟨⟨va_Nw.of rfl (f 0 _ rfl), va_Nw.of rfl (f 1 _ rfl)⟩, ⟨va_Nw.of rfl (f 2 _ rfl), va_Nw.of rfl (f 3 _ rfl)⟩, va_Nw.of rfl (f 4 _ rfl), va_Nw.of rfl (f 5 _ rfl), va_Nw.of rfl (f 6 _ rfl)⟩
theorem st_X (h : ∀ w ∈ lw_tbl, w.before args s = true) (hn : (Jvm.Cond.and given_1 narrow_1).before args s = true) : nd_X (fun q => s.heap.size ≤ q) s s.heap ∧ nd_Y s := by
  have f := fun (i : Nat) (w : Cond) (hi : fcL[i]? = some w) => h w (fc_in w (List.mem_of_getElem? hi))
  have g := fun (i : Nat) (w : Cond) (hi : naL[i]? = some w) => flat_of_before _ hn w (na_in w (List.mem_of_getElem? hi))
  have hA : ∀ a : Nat, a < s.heap.size → ¬ (fun q => s.heap.size ≤ q) a := fun a h1 h2 => Nat.not_le.mpr h1 h2
  refine ⟨⟨vx_Zqof (f 7 _ rfl) (f 9 _ rfl) (g 0 _ rfl) hA, vx_Zqof (f 8 _ rfl) (f 9 _ rfl) (g 1 _ rfl) hA, ?_, ?_, ?_⟩, va_Nc.of (g 2 _ rfl), va_Nc.of (g 3 _ rfl), va_Nc.of (g 4 _ rfl)⟩
  · exact List.forall_mem_cons.mpr ⟨str_of (f 16 _ rfl) (g 5 _ rfl), List.forall_mem_cons.mpr ⟨str_of (f 17 _ rfl) (g 6 _ rfl), List.forall_mem_cons.mpr ⟨str_of (f 18 _ rfl) (g 7 _ rfl), List.forall_mem_cons.mpr ⟨str_of (f 19 _ rfl) (g 8 _ rfl), List.forall_mem_cons.mpr ⟨str_of (f 20 _ rfl) (g 9 _ rfl), List.forall_mem_cons.mpr ⟨str_of (f 21 _ rfl) (g 10 _ rfl), List.forall_mem_cons.mpr ⟨str_of (f 22 _ rfl) (g 11 _ rfl), List.forall_mem_cons.mpr ⟨str_of (f 23 _ rfl) (g 12 _ rfl), List.forall_mem_cons.mpr ⟨str_of (f 24 _ rfl) (g 13 _ rfl), List.forall_mem_cons.mpr ⟨str_of (f 25 _ rfl) (g 14 _ rfl), List.forall_mem_cons.mpr ⟨str_of (f 26 _ rfl) (g 15 _ rfl), List.forall_mem_cons.mpr ⟨str_of (f 27 _ rfl) (g 16 _ rfl), List.forall_mem_cons.mpr ⟨str_of (f 28 _ rfl) (g 17 _ rfl), fun _ h => absurd h List.not_mem_nil⟩⟩⟩⟩⟩⟩⟩⟩⟩⟩⟩⟩⟩
  · exact List.forall_mem_cons.mpr ⟨va_Nw.of rfl (f 10 _ rfl), List.forall_mem_cons.mpr ⟨va_Nw.of rfl (f 11 _ rfl), List.forall_mem_cons.mpr ⟨va_Nw.of rfl (f 12 _ rfl), fun _ h => absurd h List.not_mem_nil⟩⟩⟩
  · exact List.forall_mem_cons.mpr ⟨va_Nw.of rfl (f 13 _ rfl), List.forall_mem_cons.mpr ⟨va_Nw.of rfl (f 14 _ rfl), List.forall_mem_cons.mpr ⟨va_Nw.of rfl (f 15 _ rfl), fun _ h => absurd h List.not_mem_nil⟩⟩⟩
theorem st_K (h : ∀ w ∈ lw_tbl, w.before args s = true) : ∃ (D : va_G) (cI cJ : ClassId), va_K D vwCl [(cI, .int), (cJ, .long)] s := by
  have hw : ∀ w ∈ wsL_law, w.before args s = true := fun w q => h w (wsL_in w q)
  obtain ⟨c0, i0, h0⟩ := u_known (C := RX0) (T := TX0) (N := 3) (n := 3) h iy_0 (hw _ wd_14)
  obtain ⟨c1, i1, h1⟩ := u_known (C := RX1) (T := TX1) (N := 2) (n := 2) h iy_1 (hw _ wd_18)
  obtain ⟨c2, i2, h2⟩ := u_known (C := RX4) (T := TX4) (N := 2) (n := 2) h iy_4 (hw _ wd_26)
  obtain ⟨c3, i3, h3⟩ := u_known (C := RX5) (T := TX5) (N := 8) (n := 8) h iy_5 (hw _ wd_30)
  obtain ⟨c4, i4, h4⟩ := u_known (C := RX6) (T := TX6) (N := 7) (n := 7) h iy_6 (hw _ wd_22)
  obtain ⟨c5, i5, h5⟩ := u_known (C := RX8) (T := TX8) (N := 5) (n := 5) h iy_8 (hw _ wd_1)
  obtain ⟨c6, i6, h6⟩ := u_known (C := RX9) (T := TX9) (N := 12) (n := 12) h iy_9 (hw _ wd_4)
  obtain ⟨cI, a1, a2⟩ := ar_of_w (Or.inl rfl) (hw _ wd_36)
  obtain ⟨cJ, b1, b2⟩ := ar_of_w (Or.inr rfl) (hw _ wd_6)
  refine ⟨(fun k => match k with | 0 => c0 | 1 => c1 | 2 => c2 | 3 => c3 | 4 => c4 | 5 => c5 | _ => c6, fun k => match k with | 0 => i0 | 1 => i1 | 2 => i2 | 3 => i3 | 4 => i4 | 5 => i5 | _ => i6), cI, cJ, ?_, ?_⟩
  · intro k q hq
    match k, hq with
    | 0, hq => cases hq; exact h0
    | 1, hq => cases hq; exact h1
    | 2, hq => cases hq; exact h2
    | 3, hq => cases hq; exact h3
    | 4, hq => cases hq; exact h4
    | 5, hq => cases hq; exact h5
    | 6, hq => cases hq; exact h6
    | k + 7, hq => simp at hq
  · intro k q hq
    match k, hq with
    | 0, hq => cases hq; exact ⟨a1, a2⟩
    | 1, hq => cases hq; exact ⟨b1, b2⟩
    | k + 2, hq => simp at hq
end START
theorem WF_0 : WF (fun _ => (0 : Int32)) := by
  refine ⟨⟨rfl, Nat.zero_le _⟩, fun p hp => ⟨⟨rfl, Nat.zero_le _⟩, ⟨rfl, Nat.le_refl _⟩, rfl, Nat.le_refl _⟩, fun p hp _ => ⟨rfl, rfl, rfl⟩, fun p q hp => absurd hp (Nat.not_lt_zero _), ⟨fun _ => 0, fun p q hp => absurd hp (Nat.not_lt_zero _)⟩, fun p r hp hr => absurd hr (Nat.not_lt_zero _)⟩
theorem RC_0 : RC (fun _ => (0 : Int32)) (fun _ => (0 : Int32)) := ⟨rfl, fun _ _ => rfl, fun p hp => absurd hp (Nat.not_lt_zero _), fun p r hp hr => absurd hr (Nat.not_lt_zero _)⟩
theorem ST_0 : ST (fun _ => (0 : Int32)) (fun _ => (0 : Int32)) (fun _ => (0 : Int32)) (fun _ => (0 : Int32)) 0 := ⟨WF_0, RC_0, Nat.zero_le _, fun i hi => absurd hi (Nat.not_lt_zero _)⟩
theorem BU_00 : BU (fun _ => (0 : Int32)) (fun _ => (0 : Int32)) 0 := ⟨Nat.zero_le _, fun _ => 0, ⟨Nat.zero_le _, fun j hj => absurd hj (Nat.not_lt_zero _)⟩, ⟨Nat.zero_le _, fun j hj => absurd hj (Nat.not_lt_zero _)⟩⟩
