/-! The law's helpers: entry. -/
theorem nd_ofH {l : Launch} {y : MethodName} {cc : ByteArray} {n : Nat} {hh : List (Nat × Nat × Nat × Nat)} {D : va_G} {cI cJ : ClassId} {od : Nat} {g : Nat → Int64} {as : List Value} {W0 : va_W} {PX : va_W → (Nat → Int64) → Prop} {k : Int32} (hy : plainName y.cls = true) (hn : (lg_sl as).length ≤ n)
    (body : ∀ (p : Program) (e : Env) (s : State) (m : MethodId) (args : Array Value) (below : List Frame) (meth : Method) (c : Code) (ls : Array Slot) (A : Nat → Prop) (Q : State → Prop), p.tables.exec = Jvm.exec → c.code = cc → c.maxLocals = n → s.vm.findClass y.cls = some m.cls → (∀ w ∈ wsL_law, w.before args s = true) → lv_has ls n (lv_args 0 as) → va_P D vwCl ((od, OU cJ g) :: W0) s.heap → va_K D vwCl [(cI, .int), (cJ, .long)] s → va_D A ((od, OU cJ g) :: W0) → va_S A s.heap s.heap [] → (∀ q, s.heap.size ≤ q → A q) → nd_N s → nd_X A s s.heap → nd_Y s → c.exceptionTable.toList = tableOf hh →
      (∀ {W1 : va_W} {g1 : Nat → Int64} {H : Heap} {locs : List Loc} {pc : Nat} {ls : Array Slot}, PX W1 g1 → W1.map (·.1) = W0.map (·.1) → va_P D vwCl ((od, OU cJ g1) :: W1) H → va_S A s.heap H locs → decode cc pc = .ok (.ireturn, 1) → W p l e rmH s m args below meth c H locs 1 6 Q (F0 m pc ls [.int k])) →
      W p l e rmH s m args below meth c s.heap [] 0 0 Q (F0 m 0 ls [])) : nd_H l y cc n hh D cI cJ od g as W0 PX k := by
  intro sz
  refine va_MetW (cc := cc) (maxL := n) (ret := some .int) (hh := hh) hy rfl ?_
  intro p e s m args below meth c s₁ B hml hv
  obtain ⟨rfl, ⟨⟨hsz, hP, hK, hD0, hN⟩, hX⟩, hY⟩ := hv
  subst hsz
  have hts := atoms_spec (ws := wyH y cc n hh) B.pre
  have hxt := vx_table (x := y) B (hts _ (List.mem_cons_self))
  have hts : ∀ w ∈ wsL_law, w.before as.toArray s = true := fun w h => hts w (List.mem_cons_of_mem _ h)
  have hl := lv_entry as hn
  rw [lg_entry_eq]
  exact body p e s m _ below meth c _ (va_A ((od, OU cJ g) :: W0) s.heap.size) _ B.exec B.bytes hml (findClass_of_methodNamed B.named) hts hl hP hK hD0.self va_S.rf (fun q h => Or.inr h) hN hX hY hxt (fun {W1 g1 H locs pc ls} hw hsame hP hS hdg => W.iret B.exec B.bytes B.returns (fun t ht _ => ⟨⟨k, (W1, g1), rfl, ⟨rfl, hw, hsame⟩, by subst ht; exact hP⟩, hS.F ht⟩) hS.2.2 hdg B.notSynchronized)
theorem wl_in {D : va_G} {x : Nat × va_E} {W0 : va_W} {H : Heap} (h : va_P D vwCl (x :: W0) H) : va_P D vwCl ([x] ++ W0 ++ []) H := by rw [List.append_nil]; exact h
theorem wl_out {D : va_G} {x : Nat × va_E} {W0 : va_W} {H : Heap} (h : va_P D vwCl ([x] ++ W0 ++ []) H) : va_P D vwCl (x :: W0) H := by rw [List.append_nil] at h; exact h
theorem wl_inD {A : Nat → Prop} {x : Nat × va_E} {W0 : va_W} (h : va_D A (x :: W0)) : va_D A ([x] ++ W0 ++ []) := by rw [List.append_nil]; exact h
theorem wl_outD {A : Nat → Prop} {x : Nat × va_E} {W0 : va_W} (h : va_D A ([x] ++ W0 ++ [])) : va_D A (x :: W0) := by rw [List.append_nil] at h; exact h
theorem in_01 : vp_in (0 : Int32) 1 := pk_in 0 1 (by decide)
theorem j_cast {E : String} {A : Nat → Prop} {U : State} {H : Heap} {args : Array Value} (h : nd_X A U H) (hE : E ∈ nd_exs) : (Cond.castable E E).before args U = true := va_Nw.use rfl (h.2.2.2.1 _ hE)
theorem iv_X8_piece : nd_iv yX8_piece RX8 cX8_piece 3 (some .int) 2 := ⟨by decide +kernel, wd_88, wd_89, wd_2, wd_90⟩
theorem iv_X8_paste : nd_iv yX8_paste RX8 cX8_paste 3 (some .int) 1 := ⟨by decide +kernel, wd_152, wd_153, wd_2, wd_154⟩
theorem iv_X8_cut : nd_iv yX8_cut RX8 cX8_cut 3 (some .int) 1 := ⟨by decide +kernel, wd_334, wd_335, wd_2, wd_336⟩
theorem iv_X8_correct : nd_iv yX8_correct RX8 cX8_correct 5 (some .int) 2 := ⟨by decide +kernel, wd_353, wd_354, wd_2, wd_355⟩
theorem iv_X8_join : nd_iv yX8_join RX8 cX8_join 3 (some .int) 2 := ⟨by decide +kernel, wd_376, wd_377, wd_2, wd_378⟩
theorem iv_X8_part : nd_iv yX8_part RX8 cX8_part 3 (some .int) 1 := ⟨by decide +kernel, wd_423, wd_424, wd_2, wd_425⟩
theorem iv_X8_append : nd_iv yX8_append RX8 cX8_append 2 (some .int) 1 := ⟨by decide +kernel, wd_489, wd_490, wd_2, wd_491⟩
theorem iv_X8_undo : nd_iv yX8_undo RX8 cX8_undo 1 (some .int) 0 := ⟨by decide +kernel, wd_520, wd_521, wd_2, wd_522⟩
theorem iv_X8_pieceOf : nd_iv yX8_pieceOf RX8 cX8_pieceOf 3 (some .int) 2 := ⟨by decide +kernel, wd_539, wd_540, wd_2, wd_541⟩
theorem iv_X8_receipt : nd_iv yX8_receipt RX8 cX8_receipt 4 (some .int) 3 := ⟨by decide +kernel, wd_574, wd_575, wd_2, wd_576⟩
theorem iv_X8_page : nd_iv yX8_page RX8 cX8_page 3 (some .int) 2 := ⟨by decide +kernel, wd_653, wd_654, wd_2, wd_655⟩
theorem iv_X8_line : nd_iv yX8_line RX8 cX8_line 5 (some .int) 3 := ⟨by decide +kernel, wd_679, wd_680, wd_2, wd_681⟩
theorem iv_X8_sum : nd_iv yX8_sum RX8 cX8_sum 3 (some .int) 2 := ⟨by decide +kernel, wd_725, wd_726, wd_2, wd_727⟩
theorem iv_X8_count : nd_iv yX8_count RX8 cX8_count 2 (some .int) 1 := ⟨by decide +kernel, wd_744, wd_745, wd_2, wd_746⟩
theorem iv_X8_fits : nd_iv yX8_fits RX8 cX8_fits 3 (some .int) 2 := ⟨by decide +kernel, wd_795, wd_796, wd_2, wd_797⟩
theorem iv_X8_longest : nd_iv yX8_longest RX8 cX8_longest 2 (some .int) 1 := ⟨by decide +kernel, wd_806, wd_807, wd_2, wd_808⟩
theorem iv_X8_joinClear : nd_iv yX8_joinClear RX8 cX8_joinClear 1 (some .int) 0 := ⟨by decide +kernel, wd_435, wd_436, wd_2, wd_437⟩
theorem iv_X8_clearBuffer : nd_iv yX8_clearBuffer RX8 cX8_clearBuffer 2 (some .int) 0 := ⟨by decide +kernel, wd_501, wd_502, wd_2, wd_503⟩
theorem iv_X8_firstError : nd_iv yX8_firstError RX8 cX8_firstError 1 (some .int) 0 := ⟨by decide +kernel, wd_509, wd_510, wd_2, wd_511⟩
theorem iv_X8_hidden : nd_iv yX8_hidden RX8 cX8_hidden 1 (some .int) 0 := ⟨by decide +kernel, wd_873, wd_874, wd_2, wd_875⟩
theorem iv_X8_suspect : nd_iv yX8_suspect RX8 cX8_suspect 1 (some .int) 0 := ⟨by decide +kernel, wd_891, wd_892, wd_2, wd_893⟩
theorem iv_X8_rightShare : nd_iv yX8_rightShare RX8 cX8_rightShare 1 (some .double) 0 := ⟨by decide +kernel, wd_910, wd_911, wd_2, wd_912⟩
theorem iv_X8_digest : nd_iv yX8_digest RX8 cX8_digest 3 (some .long) 0 := ⟨by decide +kernel, wd_927, wd_928, wd_2, wd_929⟩
theorem iv_X9_piece : nd_iv yX9_piece RX9 cX9_piece 3 (some .int) 2 := ⟨by decide +kernel, wd_124, wd_125, wd_5, wd_126⟩
theorem iv_X9_paste : nd_iv yX9_paste RX9 cX9_paste 5 (some .int) 1 := ⟨by decide +kernel, wd_268, wd_269, wd_5, wd_270⟩
theorem iv_X9_cut : nd_iv yX9_cut RX9 cX9_cut 5 (some .int) 1 := ⟨by decide +kernel, wd_342, wd_343, wd_5, wd_344⟩
theorem iv_X9_correct : nd_iv yX9_correct RX9 cX9_correct 4 (some .int) 2 := ⟨by decide +kernel, wd_361, wd_362, wd_5, wd_363⟩
theorem iv_X9_join : nd_iv yX9_join RX9 cX9_join 3 (some .int) 2 := ⟨by decide +kernel, wd_400, wd_401, wd_5, wd_402⟩
theorem iv_X9_part : nd_iv yX9_part RX9 cX9_part 3 (some .int) 1 := ⟨by decide +kernel, wd_431, wd_432, wd_5, wd_433⟩
theorem iv_X9_append : nd_iv yX9_append RX9 cX9_append 2 (some .int) 1 := ⟨by decide +kernel, wd_497, wd_498, wd_5, wd_499⟩
theorem iv_X9_undo : nd_iv yX9_undo RX9 cX9_undo 2 (some .int) 0 := ⟨by decide +kernel, wd_532, wd_533, wd_5, wd_534⟩
theorem iv_X9_pieceOf : nd_iv yX9_pieceOf RX9 cX9_pieceOf 3 (some .int) 2 := ⟨by decide +kernel, wd_559, wd_560, wd_5, wd_561⟩
theorem iv_X9_receipt : nd_iv yX9_receipt RX9 cX9_receipt 4 (some .int) 3 := ⟨by decide +kernel, wd_616, wd_617, wd_5, wd_618⟩
theorem iv_X9_page : nd_iv yX9_page RX9 cX9_page 3 (some .int) 2 := ⟨by decide +kernel, wd_668, wd_669, wd_5, wd_670⟩
theorem iv_X9_line : nd_iv yX9_line RX9 cX9_line 4 (some .int) 3 := ⟨by decide +kernel, wd_710, wd_711, wd_5, wd_712⟩
theorem iv_X9_sum : nd_iv yX9_sum RX9 cX9_sum 3 (some .int) 2 := ⟨by decide +kernel, wd_733, wd_734, wd_5, wd_735⟩
theorem iv_X9_count : nd_iv yX9_count RX9 cX9_count 2 (some .int) 1 := ⟨by decide +kernel, wd_772, wd_773, wd_5, wd_774⟩
theorem iv_X9_fits : nd_iv yX9_fits RX9 cX9_fits 3 (some .int) 2 := ⟨by decide +kernel, wd_799, wd_800, wd_5, wd_801⟩
theorem iv_X9_longest : nd_iv yX9_longest RX9 cX9_longest 2 (some .int) 1 := ⟨by decide +kernel, wd_857, wd_858, wd_5, wd_859⟩
theorem iv_X9_joinClear : nd_iv yX9_joinClear RX9 cX9_joinClear 3 (some .int) 0 := ⟨by decide +kernel, wd_464, wd_465, wd_5, wd_466⟩
theorem iv_X9_clearBuffer : nd_iv yX9_clearBuffer RX9 cX9_clearBuffer 2 (some .int) 0 := ⟨by decide +kernel, wd_505, wd_506, wd_5, wd_507⟩
theorem iv_X9_firstError : nd_iv yX9_firstError RX9 cX9_firstError 1 (some .int) 0 := ⟨by decide +kernel, wd_513, wd_514, wd_5, wd_515⟩
theorem iv_X9_hidden : nd_iv yX9_hidden RX9 cX9_hidden 1 (some .int) 0 := ⟨by decide +kernel, wd_880, wd_881, wd_5, wd_882⟩
theorem iv_X9_suspect : nd_iv yX9_suspect RX9 cX9_suspect 1 (some .int) 0 := ⟨by decide +kernel, wd_902, wd_903, wd_5, wd_904⟩
theorem iv_X9_rightShare : nd_iv yX9_rightShare RX9 cX9_rightShare 1 (some .double) 0 := ⟨by decide +kernel, wd_919, wd_920, wd_5, wd_921⟩
theorem iv_X9_digest : nd_iv yX9_digest RX9 cX9_digest 2 (some .long) 0 := ⟨by decide +kernel, wd_975, wd_976, wd_5, wd_977⟩
theorem iv_X9_thrown : nd_iv yX9_thrown RX9 cX9_thrown 1 (some .int) 0 := ⟨by decide +kernel, wd_144, wd_145, wd_5, wd_146⟩
