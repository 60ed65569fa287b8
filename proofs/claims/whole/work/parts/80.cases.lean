/-! The law's cases. -/
section CASES
variable {p : Program} {l : Launch} {e : Env} {s : State} {m : MethodId} {args : Array Value} {below : List Frame} {meth : Method} {c : Code} {H : Heap} {locs : List Loc} {cells slots : Nat} {Q : State → Prop}
variable {D : va_G} {cI cJ : ClassId} {b L od k : Nat} {xs : Nat → Int32} {ls : Array Slot} {ad bd : Nat → Nat} {WC WM : va_W} {g : Nat → Int64} {mt : Int32}
set_option maxHeartbeats 4000000 in
set_option maxRecDepth 100000 in
theorem k_piece (X : LX p l s m args c D cI cJ b L xs) (hL : L ≤ 2048) (hk : 4 * k + 3 < L) (sw : SW ad bd cI WC WM mt) (hP : va_P D vwCl (((od, OU cJ g) :: WC) ++ WM) H) (hD : va_D (fun q => s.heap.size ≤ q) (((od, OU cJ g) :: WC) ++ WM)) (hS : va_S (fun q => s.heap.size ≤ q) s.heap H locs) (hl : lv_has ls 9 (lvL ad bd b od k)) (hf : cells + 1 ≤ 1059 ∧ slots + 6 ≤ 28332) (nx : NX p l e s m args below meth c Q D cI cJ ad bd b od k 1280 (cells + 1) (slots + 6)) : W p l e room_1 s m args below meth c H locs cells slots Q (F0 m 144 ls []) := by
  obtain ⟨⟨hx, hb, hml, hown⟩, hts, hK, ⟨hN, hX, hY⟩, hXs, hbl, hnt⟩ := id X
  have hK1 : va_K D vwCl [(cI, .int)] s := hK.sub [0] rfl
  obtain ⟨fsC, hqC⟩ := sw.c0
  obtain ⟨fsM, hqM⟩ := sw.m0
  obtain ⟨k0, r, PX, WM', hH, hM, hfin⟩ := ua_piece sw hnt D cJ od g (xs (4 * k + 1)) (xs (4 * k + 2))
  refine lv_aload_n hx hb dL_law_144 rfl (lv_at hl 3 rfl) ?_
  refine lw_ld X hS (lv_at hl 4 rfl) (lv_at hl 0 rfl) hL 1 rfl (by omega) dL_law_145 dL_law_146 dL_law_148 dL_law_149 dL_law_150 ?_
  refine lw_ld X hS (lv_at hl 4 rfl) (lv_at hl 0 rfl) hL 2 rfl (by omega) dL_law_151 dL_law_152 dL_law_154 dL_law_155 dL_law_156 ?_
  refine lv_aload_n hx hb dL_law_157 rfl (lv_at hl 1 rfl) ?_
  refine nd_callH (n := 4) (As := [.ref (ad 0), .int (xs (4 * k + 1)), .int (xs (4 * k + 2)), .ref od]) (rest := []) hx hb hml hown hts hl WC WM hP hK hD hS (fun _ h => h) hN hX hY hH (by decide +kernel) wd_81 wd_82 wd_83 wd_84 rfl ⟨Nat.le_of_ble_eq_true rfl, Nat.le_of_ble_eq_true rfl⟩ (Nat.le_of_ble_eq_true rfl) hf dL_law_158 rfl (fun W1 g1 H locs hw hP hD hS => ?_)
  obtain ⟨sw1, hv⟩ := hfin W1 g1 hw
  refine lv_istore (lv' := (5, .int k0) :: lvL ad bd b od k) hx hb dL_law_161 hl (by decide) rfl (fun ls hl => ?_)
  refine lv_aload_n hx hb dL_law_163 rfl (lv_at hl 3 rfl) ?_
  refine lw_ld X hS (lv_at hl 5 rfl) (lv_at hl 1 rfl) hL 1 rfl (by omega) dL_law_164 dL_law_165 dL_law_167 dL_law_168 dL_law_169 ?_
  refine lw_ld X hS (lv_at hl 5 rfl) (lv_at hl 1 rfl) hL 2 rfl (by omega) dL_law_170 dL_law_171 dL_law_173 dL_law_174 dL_law_175 ?_
  have hP0 : va_P D vwCl (((od, OU cJ g1) :: W1) ++ WM ++ []) H := by rw [List.append_nil]; exact hP
  have hD0 : va_D (fun q => s.heap.size ≤ q) (((od, OU cJ g1) :: W1) ++ WM ++ []) := by rw [List.append_nil]; exact hD
  refine nd_callVW (As := [.int (xs (4 * k + 1)), .int (xs (4 * k + 2))]) (rest := []) (st1 := [.int r]) hx hb hml hown hts hl ((od, OU cJ g1) :: W1) WM WM' [] hP0 hK1 hD0 hS (fun _ h => h) hN hM iv_X9_piece wd_123 0 hqM rfl (sw.mm sw1) rfl ⟨Nat.le_of_ble_eq_true rfl, Nat.le_of_ble_eq_true rfl⟩ (Nat.le_of_ble_eq_true rfl) hf dL_law_176 rfl rfl (fun H locs hP hD hS => ?_)
  rw [List.append_nil] at hP hD
  refine lv_istore (lv' := (6, .int r) :: (5, .int k0) :: lvL ad bd b od k) hx hb dL_law_179 hl (by decide) rfl (fun ls hl => ?_)
  exact lw_tail (pc := 181) (off := 1071) X sw1 hP hD hS hl hv hf (by decide +kernel) (by decide) nx
set_option maxHeartbeats 4000000 in
set_option maxRecDepth 100000 in
theorem k_paste (X : LX p l s m args c D cI cJ b L xs) (hL : L ≤ 2048) (hk : 4 * k + 3 < L) (sw : SW ad bd cI WC WM mt) (hP : va_P D vwCl (((od, OU cJ g) :: WC) ++ WM) H) (hD : va_D (fun q => s.heap.size ≤ q) (((od, OU cJ g) :: WC) ++ WM)) (hS : va_S (fun q => s.heap.size ≤ q) s.heap H locs) (hl : lv_has ls 9 (lvL ad bd b od k)) (hf : cells + 1 ≤ 1059 ∧ slots + 6 ≤ 28332) (nx : NX p l e s m args below meth c Q D cI cJ ad bd b od k 1280 (cells + 1) (slots + 6)) : W p l e room_1 s m args below meth c H locs cells slots Q (F0 m 212 ls []) := by
  obtain ⟨⟨hx, hb, hml, hown⟩, hts, hK, ⟨hN, hX, hY⟩, hXs, hbl, hnt⟩ := id X
  have hK1 : va_K D vwCl [(cI, .int)] s := hK.sub [0] rfl
  obtain ⟨fsC, hqC⟩ := sw.c0
  obtain ⟨fsM, hqM⟩ := sw.m0
  obtain ⟨k0, r, PX, WM', hH, hM, hfin⟩ := ua_paste sw hnt D cJ od g (xs (4 * k + 1))
  refine lv_aload_n hx hb dL_law_212 rfl (lv_at hl 3 rfl) ?_
  refine lw_ld X hS (lv_at hl 4 rfl) (lv_at hl 0 rfl) hL 1 rfl (by omega) dL_law_213 dL_law_214 dL_law_216 dL_law_217 dL_law_218 ?_
  refine lv_aload_n hx hb dL_law_219 rfl (lv_at hl 1 rfl) ?_
  refine nd_callH (n := 3) (As := [.ref (ad 0), .int (xs (4 * k + 1)), .ref od]) (rest := []) hx hb hml hown hts hl WC WM hP hK hD hS (fun _ h => h) hN hX hY hH (by decide +kernel) wd_147 wd_148 wd_83 wd_149 rfl ⟨Nat.le_of_ble_eq_true rfl, Nat.le_of_ble_eq_true rfl⟩ (Nat.le_of_ble_eq_true rfl) hf dL_law_220 rfl (fun W1 g1 H locs hw hP hD hS => ?_)
  obtain ⟨sw1, hv⟩ := hfin W1 g1 hw
  refine lv_istore (lv' := (5, .int k0) :: lvL ad bd b od k) hx hb dL_law_223 hl (by decide) rfl (fun ls hl => ?_)
  refine lv_aload_n hx hb dL_law_225 rfl (lv_at hl 3 rfl) ?_
  refine lw_ld X hS (lv_at hl 5 rfl) (lv_at hl 1 rfl) hL 1 rfl (by omega) dL_law_226 dL_law_227 dL_law_229 dL_law_230 dL_law_231 ?_
  have hP0 : va_P D vwCl (((od, OU cJ g1) :: W1) ++ WM ++ []) H := by rw [List.append_nil]; exact hP
  have hD0 : va_D (fun q => s.heap.size ≤ q) (((od, OU cJ g1) :: W1) ++ WM ++ []) := by rw [List.append_nil]; exact hD
  refine nd_callVW (As := [.int (xs (4 * k + 1))]) (rest := []) (st1 := [.int r]) hx hb hml hown hts hl ((od, OU cJ g1) :: W1) WM WM' [] hP0 hK1 hD0 hS (fun _ h => h) hN hM iv_X9_paste wd_267 0 hqM rfl (sw.mm sw1) rfl ⟨Nat.le_of_ble_eq_true rfl, Nat.le_of_ble_eq_true rfl⟩ (Nat.le_of_ble_eq_true rfl) hf dL_law_232 rfl rfl (fun H locs hP hD hS => ?_)
  rw [List.append_nil] at hP hD
  refine lv_istore (lv' := (6, .int r) :: (5, .int k0) :: lvL ad bd b od k) hx hb dL_law_235 hl (by decide) rfl (fun ls hl => ?_)
  exact lw_tail (pc := 237) (off := 1015) X sw1 hP hD hS hl hv hf (by decide +kernel) (by decide) nx
set_option maxHeartbeats 4000000 in
set_option maxRecDepth 100000 in
theorem k_cut (X : LX p l s m args c D cI cJ b L xs) (hL : L ≤ 2048) (hk : 4 * k + 3 < L) (sw : SW ad bd cI WC WM mt) (hP : va_P D vwCl (((od, OU cJ g) :: WC) ++ WM) H) (hD : va_D (fun q => s.heap.size ≤ q) (((od, OU cJ g) :: WC) ++ WM)) (hS : va_S (fun q => s.heap.size ≤ q) s.heap H locs) (hl : lv_has ls 9 (lvL ad bd b od k)) (hf : cells + 1 ≤ 1059 ∧ slots + 6 ≤ 28332) (nx : NX p l e s m args below meth c Q D cI cJ ad bd b od k 1280 (cells + 1) (slots + 6)) : W p l e room_1 s m args below meth c H locs cells slots Q (F0 m 268 ls []) := by
  obtain ⟨⟨hx, hb, hml, hown⟩, hts, hK, ⟨hN, hX, hY⟩, hXs, hbl, hnt⟩ := id X
  have hK1 : va_K D vwCl [(cI, .int)] s := hK.sub [0] rfl
  obtain ⟨fsC, hqC⟩ := sw.c0
  obtain ⟨fsM, hqM⟩ := sw.m0
  obtain ⟨k0, r, PX, WM', hH, hM, hfin⟩ := ua_cut sw hnt D cJ od g (xs (4 * k + 1))
  refine lv_aload_n hx hb dL_law_268 rfl (lv_at hl 3 rfl) ?_
  refine lw_ld X hS (lv_at hl 4 rfl) (lv_at hl 0 rfl) hL 1 rfl (by omega) dL_law_269 dL_law_270 dL_law_272 dL_law_273 dL_law_274 ?_
  refine lv_aload_n hx hb dL_law_275 rfl (lv_at hl 1 rfl) ?_
  refine nd_callH (n := 3) (As := [.ref (ad 0), .int (xs (4 * k + 1)), .ref od]) (rest := []) hx hb hml hown hts hl WC WM hP hK hD hS (fun _ h => h) hN hX hY hH (by decide +kernel) wd_330 wd_331 wd_83 wd_332 rfl ⟨Nat.le_of_ble_eq_true rfl, Nat.le_of_ble_eq_true rfl⟩ (Nat.le_of_ble_eq_true rfl) hf dL_law_276 rfl (fun W1 g1 H locs hw hP hD hS => ?_)
  obtain ⟨sw1, hv⟩ := hfin W1 g1 hw
  refine lv_istore (lv' := (5, .int k0) :: lvL ad bd b od k) hx hb dL_law_279 hl (by decide) rfl (fun ls hl => ?_)
  refine lv_aload_n hx hb dL_law_281 rfl (lv_at hl 3 rfl) ?_
  refine lw_ld X hS (lv_at hl 5 rfl) (lv_at hl 1 rfl) hL 1 rfl (by omega) dL_law_282 dL_law_283 dL_law_285 dL_law_286 dL_law_287 ?_
  have hP0 : va_P D vwCl (((od, OU cJ g1) :: W1) ++ WM ++ []) H := by rw [List.append_nil]; exact hP
  have hD0 : va_D (fun q => s.heap.size ≤ q) (((od, OU cJ g1) :: W1) ++ WM ++ []) := by rw [List.append_nil]; exact hD
  refine nd_callVW (As := [.int (xs (4 * k + 1))]) (rest := []) (st1 := [.int r]) hx hb hml hown hts hl ((od, OU cJ g1) :: W1) WM WM' [] hP0 hK1 hD0 hS (fun _ h => h) hN hM iv_X9_cut wd_341 0 hqM rfl (sw.mm sw1) rfl ⟨Nat.le_of_ble_eq_true rfl, Nat.le_of_ble_eq_true rfl⟩ (Nat.le_of_ble_eq_true rfl) hf dL_law_288 rfl rfl (fun H locs hP hD hS => ?_)
  rw [List.append_nil] at hP hD
  refine lv_istore (lv' := (6, .int r) :: (5, .int k0) :: lvL ad bd b od k) hx hb dL_law_291 hl (by decide) rfl (fun ls hl => ?_)
  exact lw_tail (pc := 293) (off := 959) X sw1 hP hD hS hl hv hf (by decide +kernel) (by decide) nx
set_option maxHeartbeats 4000000 in
set_option maxRecDepth 100000 in
theorem k_correct (X : LX p l s m args c D cI cJ b L xs) (hL : L ≤ 2048) (hk : 4 * k + 3 < L) (sw : SW ad bd cI WC WM mt) (hP : va_P D vwCl (((od, OU cJ g) :: WC) ++ WM) H) (hD : va_D (fun q => s.heap.size ≤ q) (((od, OU cJ g) :: WC) ++ WM)) (hS : va_S (fun q => s.heap.size ≤ q) s.heap H locs) (hl : lv_has ls 9 (lvL ad bd b od k)) (hf : cells + 1 ≤ 1059 ∧ slots + 6 ≤ 28332) (nx : NX p l e s m args below meth c Q D cI cJ ad bd b od k 1280 (cells + 1) (slots + 6)) : W p l e room_1 s m args below meth c H locs cells slots Q (F0 m 324 ls []) := by
  obtain ⟨⟨hx, hb, hml, hown⟩, hts, hK, ⟨hN, hX, hY⟩, hXs, hbl, hnt⟩ := id X
  have hK1 : va_K D vwCl [(cI, .int)] s := hK.sub [0] rfl
  obtain ⟨fsC, hqC⟩ := sw.c0
  obtain ⟨fsM, hqM⟩ := sw.m0
  obtain ⟨k0, r, PX, WM', hH, hM, hfin⟩ := ua_correct sw hnt D cJ od g (xs (4 * k + 1)) (xs (4 * k + 2))
  refine lv_aload_n hx hb dL_law_324 rfl (lv_at hl 3 rfl) ?_
  refine lw_ld X hS (lv_at hl 4 rfl) (lv_at hl 0 rfl) hL 1 rfl (by omega) dL_law_325 dL_law_326 dL_law_328 dL_law_329 dL_law_330 ?_
  refine lw_ld X hS (lv_at hl 4 rfl) (lv_at hl 0 rfl) hL 2 rfl (by omega) dL_law_331 dL_law_332 dL_law_334 dL_law_335 dL_law_336 ?_
  refine lv_aload_n hx hb dL_law_337 rfl (lv_at hl 1 rfl) ?_
  refine nd_callH (n := 4) (As := [.ref (ad 0), .int (xs (4 * k + 1)), .int (xs (4 * k + 2)), .ref od]) (rest := []) hx hb hml hown hts hl WC WM hP hK hD hS (fun _ h => h) hN hX hY hH (by decide +kernel) wd_349 wd_350 wd_83 wd_351 rfl ⟨Nat.le_of_ble_eq_true rfl, Nat.le_of_ble_eq_true rfl⟩ (Nat.le_of_ble_eq_true rfl) hf dL_law_338 rfl (fun W1 g1 H locs hw hP hD hS => ?_)
  obtain ⟨sw1, hv⟩ := hfin W1 g1 hw
  refine lv_istore (lv' := (5, .int k0) :: lvL ad bd b od k) hx hb dL_law_341 hl (by decide) rfl (fun ls hl => ?_)
  refine lv_aload_n hx hb dL_law_343 rfl (lv_at hl 3 rfl) ?_
  refine lw_ld X hS (lv_at hl 5 rfl) (lv_at hl 1 rfl) hL 1 rfl (by omega) dL_law_344 dL_law_345 dL_law_347 dL_law_348 dL_law_349 ?_
  refine lw_ld X hS (lv_at hl 5 rfl) (lv_at hl 1 rfl) hL 2 rfl (by omega) dL_law_350 dL_law_351 dL_law_353 dL_law_354 dL_law_355 ?_
  have hP0 : va_P D vwCl (((od, OU cJ g1) :: W1) ++ WM ++ []) H := by rw [List.append_nil]; exact hP
  have hD0 : va_D (fun q => s.heap.size ≤ q) (((od, OU cJ g1) :: W1) ++ WM ++ []) := by rw [List.append_nil]; exact hD
  refine nd_callVW (As := [.int (xs (4 * k + 1)), .int (xs (4 * k + 2))]) (rest := []) (st1 := [.int r]) hx hb hml hown hts hl ((od, OU cJ g1) :: W1) WM WM' [] hP0 hK1 hD0 hS (fun _ h => h) hN hM iv_X9_correct wd_360 0 hqM rfl (sw.mm sw1) rfl ⟨Nat.le_of_ble_eq_true rfl, Nat.le_of_ble_eq_true rfl⟩ (Nat.le_of_ble_eq_true rfl) hf dL_law_356 rfl rfl (fun H locs hP hD hS => ?_)
  rw [List.append_nil] at hP hD
  refine lv_istore (lv' := (6, .int r) :: (5, .int k0) :: lvL ad bd b od k) hx hb dL_law_359 hl (by decide) rfl (fun ls hl => ?_)
  exact lw_tail (pc := 361) (off := 891) X sw1 hP hD hS hl hv hf (by decide +kernel) (by decide) nx
set_option maxHeartbeats 4000000 in
set_option maxRecDepth 100000 in
theorem k_join (X : LX p l s m args c D cI cJ b L xs) (hL : L ≤ 2048) (hk : 4 * k + 3 < L) (sw : SW ad bd cI WC WM mt) (hP : va_P D vwCl (((od, OU cJ g) :: WC) ++ WM) H) (hD : va_D (fun q => s.heap.size ≤ q) (((od, OU cJ g) :: WC) ++ WM)) (hS : va_S (fun q => s.heap.size ≤ q) s.heap H locs) (hl : lv_has ls 9 (lvL ad bd b od k)) (hf : cells + 1 ≤ 1059 ∧ slots + 6 ≤ 28332) (nx : NX p l e s m args below meth c Q D cI cJ ad bd b od k 1280 (cells + 1) (slots + 6)) : W p l e room_1 s m args below meth c H locs cells slots Q (F0 m 392 ls []) := by
  obtain ⟨⟨hx, hb, hml, hown⟩, hts, hK, ⟨hN, hX, hY⟩, hXs, hbl, hnt⟩ := id X
  have hK1 : va_K D vwCl [(cI, .int)] s := hK.sub [0] rfl
  obtain ⟨fsC, hqC⟩ := sw.c0
  obtain ⟨fsM, hqM⟩ := sw.m0
  obtain ⟨k0, r, PX, WM', hH, hM, hfin⟩ := ua_join sw hnt D cJ od g (xs (4 * k + 1)) (xs (4 * k + 2))
  refine lv_aload_n hx hb dL_law_392 rfl (lv_at hl 3 rfl) ?_
  refine lw_ld X hS (lv_at hl 4 rfl) (lv_at hl 0 rfl) hL 1 rfl (by omega) dL_law_393 dL_law_394 dL_law_396 dL_law_397 dL_law_398 ?_
  refine lw_ld X hS (lv_at hl 4 rfl) (lv_at hl 0 rfl) hL 2 rfl (by omega) dL_law_399 dL_law_400 dL_law_402 dL_law_403 dL_law_404 ?_
  refine lv_aload_n hx hb dL_law_405 rfl (lv_at hl 1 rfl) ?_
  refine nd_callH (n := 4) (As := [.ref (ad 0), .int (xs (4 * k + 1)), .int (xs (4 * k + 2)), .ref od]) (rest := []) hx hb hml hown hts hl WC WM hP hK hD hS (fun _ h => h) hN hX hY hH (by decide +kernel) wd_372 wd_373 wd_83 wd_374 rfl ⟨Nat.le_of_ble_eq_true rfl, Nat.le_of_ble_eq_true rfl⟩ (Nat.le_of_ble_eq_true rfl) hf dL_law_406 rfl (fun W1 g1 H locs hw hP hD hS => ?_)
  obtain ⟨sw1, hv⟩ := hfin W1 g1 hw
  refine lv_istore (lv' := (5, .int k0) :: lvL ad bd b od k) hx hb dL_law_409 hl (by decide) rfl (fun ls hl => ?_)
  refine lv_aload_n hx hb dL_law_411 rfl (lv_at hl 3 rfl) ?_
  refine lw_ld X hS (lv_at hl 5 rfl) (lv_at hl 1 rfl) hL 1 rfl (by omega) dL_law_412 dL_law_413 dL_law_415 dL_law_416 dL_law_417 ?_
  refine lw_ld X hS (lv_at hl 5 rfl) (lv_at hl 1 rfl) hL 2 rfl (by omega) dL_law_418 dL_law_419 dL_law_421 dL_law_422 dL_law_423 ?_
  have hP0 : va_P D vwCl (((od, OU cJ g1) :: W1) ++ WM ++ []) H := by rw [List.append_nil]; exact hP
  have hD0 : va_D (fun q => s.heap.size ≤ q) (((od, OU cJ g1) :: W1) ++ WM ++ []) := by rw [List.append_nil]; exact hD
  refine nd_callVW (As := [.int (xs (4 * k + 1)), .int (xs (4 * k + 2))]) (rest := []) (st1 := [.int r]) hx hb hml hown hts hl ((od, OU cJ g1) :: W1) WM WM' [] hP0 hK1 hD0 hS (fun _ h => h) hN hM iv_X9_join wd_399 0 hqM rfl (sw.mm sw1) rfl ⟨Nat.le_of_ble_eq_true rfl, Nat.le_of_ble_eq_true rfl⟩ (Nat.le_of_ble_eq_true rfl) hf dL_law_424 rfl rfl (fun H locs hP hD hS => ?_)
  rw [List.append_nil] at hP hD
  refine lv_istore (lv' := (6, .int r) :: (5, .int k0) :: lvL ad bd b od k) hx hb dL_law_427 hl (by decide) rfl (fun ls hl => ?_)
  exact lw_tail (pc := 429) (off := 823) X sw1 hP hD hS hl hv hf (by decide +kernel) (by decide) nx
set_option maxHeartbeats 4000000 in
set_option maxRecDepth 100000 in
theorem k_part (X : LX p l s m args c D cI cJ b L xs) (hL : L ≤ 2048) (hk : 4 * k + 3 < L) (sw : SW ad bd cI WC WM mt) (hP : va_P D vwCl (((od, OU cJ g) :: WC) ++ WM) H) (hD : va_D (fun q => s.heap.size ≤ q) (((od, OU cJ g) :: WC) ++ WM)) (hS : va_S (fun q => s.heap.size ≤ q) s.heap H locs) (hl : lv_has ls 9 (lvL ad bd b od k)) (hf : cells + 1 ≤ 1059 ∧ slots + 6 ≤ 28332) (nx : NX p l e s m args below meth c Q D cI cJ ad bd b od k 1280 (cells + 1) (slots + 6)) : W p l e room_1 s m args below meth c H locs cells slots Q (F0 m 460 ls []) := by
  obtain ⟨⟨hx, hb, hml, hown⟩, hts, hK, ⟨hN, hX, hY⟩, hXs, hbl, hnt⟩ := id X
  have hK1 : va_K D vwCl [(cI, .int)] s := hK.sub [0] rfl
  obtain ⟨fsC, hqC⟩ := sw.c0
  obtain ⟨fsM, hqM⟩ := sw.m0
  obtain ⟨k0, r, PX, WM', hH, hM, hfin⟩ := ua_part sw hnt D cJ od g (xs (4 * k + 1))
  refine lv_aload_n hx hb dL_law_460 rfl (lv_at hl 3 rfl) ?_
  refine lw_ld X hS (lv_at hl 4 rfl) (lv_at hl 0 rfl) hL 1 rfl (by omega) dL_law_461 dL_law_462 dL_law_464 dL_law_465 dL_law_466 ?_
  refine lv_aload_n hx hb dL_law_467 rfl (lv_at hl 1 rfl) ?_
  refine nd_callH (n := 3) (As := [.ref (ad 0), .int (xs (4 * k + 1)), .ref od]) (rest := []) hx hb hml hown hts hl WC WM hP hK hD hS (fun _ h => h) hN hX hY hH (by decide +kernel) wd_419 wd_420 wd_83 wd_421 rfl ⟨Nat.le_of_ble_eq_true rfl, Nat.le_of_ble_eq_true rfl⟩ (Nat.le_of_ble_eq_true rfl) hf dL_law_468 rfl (fun W1 g1 H locs hw hP hD hS => ?_)
  obtain ⟨sw1, hv⟩ := hfin W1 g1 hw
  refine lv_istore (lv' := (5, .int k0) :: lvL ad bd b od k) hx hb dL_law_471 hl (by decide) rfl (fun ls hl => ?_)
  refine lv_aload_n hx hb dL_law_473 rfl (lv_at hl 3 rfl) ?_
  refine lw_ld X hS (lv_at hl 5 rfl) (lv_at hl 1 rfl) hL 1 rfl (by omega) dL_law_474 dL_law_475 dL_law_477 dL_law_478 dL_law_479 ?_
  have hP0 : va_P D vwCl (((od, OU cJ g1) :: W1) ++ WM ++ []) H := by rw [List.append_nil]; exact hP
  have hD0 : va_D (fun q => s.heap.size ≤ q) (((od, OU cJ g1) :: W1) ++ WM ++ []) := by rw [List.append_nil]; exact hD
  refine nd_callVW (As := [.int (xs (4 * k + 1))]) (rest := []) (st1 := [.int r]) hx hb hml hown hts hl ((od, OU cJ g1) :: W1) WM WM' [] hP0 hK1 hD0 hS (fun _ h => h) hN hM iv_X9_part wd_430 0 hqM rfl (sw.mm sw1) rfl ⟨Nat.le_of_ble_eq_true rfl, Nat.le_of_ble_eq_true rfl⟩ (Nat.le_of_ble_eq_true rfl) hf dL_law_480 rfl rfl (fun H locs hP hD hS => ?_)
  rw [List.append_nil] at hP hD
  refine lv_istore (lv' := (6, .int r) :: (5, .int k0) :: lvL ad bd b od k) hx hb dL_law_483 hl (by decide) rfl (fun ls hl => ?_)
  exact lw_tail (pc := 485) (off := 767) X sw1 hP hD hS hl hv hf (by decide +kernel) (by decide) nx
set_option maxHeartbeats 4000000 in
set_option maxRecDepth 100000 in
theorem k_joinClear (X : LX p l s m args c D cI cJ b L xs) (hL : L ≤ 2048) (hk : 4 * k + 3 < L) (sw : SW ad bd cI WC WM mt) (hP : va_P D vwCl (((od, OU cJ g) :: WC) ++ WM) H) (hD : va_D (fun q => s.heap.size ≤ q) (((od, OU cJ g) :: WC) ++ WM)) (hS : va_S (fun q => s.heap.size ≤ q) s.heap H locs) (hl : lv_has ls 9 (lvL ad bd b od k)) (hf : cells + 1 ≤ 1059 ∧ slots + 6 ≤ 28332) (nx : NX p l e s m args below meth c Q D cI cJ ad bd b od k 1280 (cells + 1) (slots + 6)) : W p l e room_1 s m args below meth c H locs cells slots Q (F0 m 516 ls []) := by
  obtain ⟨⟨hx, hb, hml, hown⟩, hts, hK, ⟨hN, hX, hY⟩, hXs, hbl, hnt⟩ := id X
  have hK1 : va_K D vwCl [(cI, .int)] s := hK.sub [0] rfl
  obtain ⟨fsC, hqC⟩ := sw.c0
  obtain ⟨fsM, hqM⟩ := sw.m0
  obtain ⟨r, WC', WM', k', hC, hM, sw'⟩ := v_joinClear sw l D
  refine W.widen (k := cells + 1) (n := slots + 6) (by omega) (by omega) ?_
  refine lv_aload_n hx hb dL_law_516 rfl (lv_at hl 3 rfl) ?_
  refine nd_callVW (As := []) (rest := []) (st1 := [.int r]) hx hb hml hown hts hl [(od, OU cJ g)] WC WC' WM hP hK1 hD hS (fun _ h => h) hN hC iv_X8_joinClear wd_434 0 hqC rfl (sw.cc sw') rfl ⟨Nat.le_of_ble_eq_true rfl, Nat.le_of_ble_eq_true rfl⟩ (Nat.le_of_ble_eq_true rfl) hf dL_law_517 rfl rfl (fun H locs hP hD hS => ?_)
  have hP0 : va_P D vwCl (((od, OU cJ g) :: WC') ++ WM ++ []) H := by rw [List.append_nil]; exact hP
  have hD0 : va_D (fun q => s.heap.size ≤ q) (((od, OU cJ g) :: WC') ++ WM ++ []) := by rw [List.append_nil]; exact hD
  refine lv_aload_n hx hb dL_law_520 rfl (lv_at hl 2 rfl) ?_
  refine nd_callVW (As := []) (rest := [.int r]) (st1 := .int r :: [.int r]) hx hb hml hown hts hl ((od, OU cJ g) :: WC') WM WM' [] hP0 hK1 hD0 hS (fun _ h => h) hN hM iv_X9_joinClear wd_463 0 hqM rfl (sw.mm sw') rfl ⟨Nat.le_of_ble_eq_true rfl, Nat.le_of_ble_eq_true rfl⟩ (Nat.le_of_ble_eq_true rfl) hf dL_law_521 rfl rfl (fun H locs hP hD hS => ?_)
  rw [List.append_nil] at hP hD
  exact lv_icmp_eq (tgt := 1280) hx hb dL_law_524 (by decide) (fun _ => nx H locs ls g WC' WM' k' sw' hP hD hS hl) (fun q => absurd rfl q)
set_option maxHeartbeats 4000000 in
set_option maxRecDepth 100000 in
theorem k_append (X : LX p l s m args c D cI cJ b L xs) (hL : L ≤ 2048) (hk : 4 * k + 3 < L) (sw : SW ad bd cI WC WM mt) (hP : va_P D vwCl (((od, OU cJ g) :: WC) ++ WM) H) (hD : va_D (fun q => s.heap.size ≤ q) (((od, OU cJ g) :: WC) ++ WM)) (hS : va_S (fun q => s.heap.size ≤ q) s.heap H locs) (hl : lv_has ls 9 (lvL ad bd b od k)) (hf : cells + 1 ≤ 1059 ∧ slots + 6 ≤ 28332) (nx : NX p l e s m args below meth c Q D cI cJ ad bd b od k 1280 (cells + 1) (slots + 6)) : W p l e room_1 s m args below meth c H locs cells slots Q (F0 m 529 ls []) := by
  obtain ⟨⟨hx, hb, hml, hown⟩, hts, hK, ⟨hN, hX, hY⟩, hXs, hbl, hnt⟩ := id X
  have hK1 : va_K D vwCl [(cI, .int)] s := hK.sub [0] rfl
  obtain ⟨fsC, hqC⟩ := sw.c0
  obtain ⟨fsM, hqM⟩ := sw.m0
  obtain ⟨k0, r, PX, WM', hH, hM, hfin⟩ := ua_append sw hnt D cJ od g (xs (4 * k + 1))
  refine lv_aload_n hx hb dL_law_529 rfl (lv_at hl 3 rfl) ?_
  refine lw_ld X hS (lv_at hl 4 rfl) (lv_at hl 0 rfl) hL 1 rfl (by omega) dL_law_530 dL_law_531 dL_law_533 dL_law_534 dL_law_535 ?_
  refine lv_aload_n hx hb dL_law_536 rfl (lv_at hl 1 rfl) ?_
  refine nd_callH (n := 3) (As := [.ref (ad 0), .int (xs (4 * k + 1)), .ref od]) (rest := []) hx hb hml hown hts hl WC WM hP hK hD hS (fun _ h => h) hN hX hY hH (by decide +kernel) wd_485 wd_486 wd_83 wd_487 rfl ⟨Nat.le_of_ble_eq_true rfl, Nat.le_of_ble_eq_true rfl⟩ (Nat.le_of_ble_eq_true rfl) hf dL_law_537 rfl (fun W1 g1 H locs hw hP hD hS => ?_)
  obtain ⟨sw1, hv⟩ := hfin W1 g1 hw
  refine lv_istore (lv' := (5, .int k0) :: lvL ad bd b od k) hx hb dL_law_540 hl (by decide) rfl (fun ls hl => ?_)
  refine lv_aload_n hx hb dL_law_542 rfl (lv_at hl 3 rfl) ?_
  refine lw_ld X hS (lv_at hl 5 rfl) (lv_at hl 1 rfl) hL 1 rfl (by omega) dL_law_543 dL_law_544 dL_law_546 dL_law_547 dL_law_548 ?_
  have hP0 : va_P D vwCl (((od, OU cJ g1) :: W1) ++ WM ++ []) H := by rw [List.append_nil]; exact hP
  have hD0 : va_D (fun q => s.heap.size ≤ q) (((od, OU cJ g1) :: W1) ++ WM ++ []) := by rw [List.append_nil]; exact hD
  refine nd_callVW (As := [.int (xs (4 * k + 1))]) (rest := []) (st1 := [.int r]) hx hb hml hown hts hl ((od, OU cJ g1) :: W1) WM WM' [] hP0 hK1 hD0 hS (fun _ h => h) hN hM iv_X9_append wd_496 0 hqM rfl (sw.mm sw1) rfl ⟨Nat.le_of_ble_eq_true rfl, Nat.le_of_ble_eq_true rfl⟩ (Nat.le_of_ble_eq_true rfl) hf dL_law_549 rfl rfl (fun H locs hP hD hS => ?_)
  rw [List.append_nil] at hP hD
  refine lv_istore (lv' := (6, .int r) :: (5, .int k0) :: lvL ad bd b od k) hx hb dL_law_552 hl (by decide) rfl (fun ls hl => ?_)
  exact lw_tail (pc := 554) (off := 698) X sw1 hP hD hS hl hv hf (by decide +kernel) (by decide) nx
set_option maxHeartbeats 4000000 in
set_option maxRecDepth 100000 in
theorem k_clearBuffer (X : LX p l s m args c D cI cJ b L xs) (hL : L ≤ 2048) (hk : 4 * k + 3 < L) (sw : SW ad bd cI WC WM mt) (hP : va_P D vwCl (((od, OU cJ g) :: WC) ++ WM) H) (hD : va_D (fun q => s.heap.size ≤ q) (((od, OU cJ g) :: WC) ++ WM)) (hS : va_S (fun q => s.heap.size ≤ q) s.heap H locs) (hl : lv_has ls 9 (lvL ad bd b od k)) (hf : cells + 1 ≤ 1059 ∧ slots + 6 ≤ 28332) (nx : NX p l e s m args below meth c Q D cI cJ ad bd b od k 1280 (cells + 1) (slots + 6)) : W p l e room_1 s m args below meth c H locs cells slots Q (F0 m 585 ls []) := by
  obtain ⟨⟨hx, hb, hml, hown⟩, hts, hK, ⟨hN, hX, hY⟩, hXs, hbl, hnt⟩ := id X
  have hK1 : va_K D vwCl [(cI, .int)] s := hK.sub [0] rfl
  obtain ⟨fsC, hqC⟩ := sw.c0
  obtain ⟨fsM, hqM⟩ := sw.m0
  obtain ⟨r, WC', WM', k', hC, hM, sw'⟩ := v_clearBuffer sw l D
  refine W.widen (k := cells + 1) (n := slots + 6) (by omega) (by omega) ?_
  refine lv_aload_n hx hb dL_law_585 rfl (lv_at hl 3 rfl) ?_
  refine nd_callVW (As := []) (rest := []) (st1 := [.int r]) hx hb hml hown hts hl [(od, OU cJ g)] WC WC' WM hP hK1 hD hS (fun _ h => h) hN hC iv_X8_clearBuffer wd_500 0 hqC rfl (sw.cc sw') rfl ⟨Nat.le_of_ble_eq_true rfl, Nat.le_of_ble_eq_true rfl⟩ (Nat.le_of_ble_eq_true rfl) hf dL_law_586 rfl rfl (fun H locs hP hD hS => ?_)
  have hP0 : va_P D vwCl (((od, OU cJ g) :: WC') ++ WM ++ []) H := by rw [List.append_nil]; exact hP
  have hD0 : va_D (fun q => s.heap.size ≤ q) (((od, OU cJ g) :: WC') ++ WM ++ []) := by rw [List.append_nil]; exact hD
  refine lv_aload_n hx hb dL_law_589 rfl (lv_at hl 2 rfl) ?_
  refine nd_callVW (As := []) (rest := [.int r]) (st1 := .int r :: [.int r]) hx hb hml hown hts hl ((od, OU cJ g) :: WC') WM WM' [] hP0 hK1 hD0 hS (fun _ h => h) hN hM iv_X9_clearBuffer wd_504 0 hqM rfl (sw.mm sw') rfl ⟨Nat.le_of_ble_eq_true rfl, Nat.le_of_ble_eq_true rfl⟩ (Nat.le_of_ble_eq_true rfl) hf dL_law_590 rfl rfl (fun H locs hP hD hS => ?_)
  rw [List.append_nil] at hP hD
  exact lv_icmp_eq (tgt := 1280) hx hb dL_law_593 (by decide) (fun _ => nx H locs ls g WC' WM' k' sw' hP hD hS hl) (fun q => absurd rfl q)
set_option maxHeartbeats 4000000 in
set_option maxRecDepth 100000 in
theorem k_firstError (X : LX p l s m args c D cI cJ b L xs) (hL : L ≤ 2048) (hk : 4 * k + 3 < L) (sw : SW ad bd cI WC WM mt) (hP : va_P D vwCl (((od, OU cJ g) :: WC) ++ WM) H) (hD : va_D (fun q => s.heap.size ≤ q) (((od, OU cJ g) :: WC) ++ WM)) (hS : va_S (fun q => s.heap.size ≤ q) s.heap H locs) (hl : lv_has ls 9 (lvL ad bd b od k)) (hf : cells + 1 ≤ 1059 ∧ slots + 6 ≤ 28332) (nx : NX p l e s m args below meth c Q D cI cJ ad bd b od k 1280 (cells + 1) (slots + 6)) : W p l e room_1 s m args below meth c H locs cells slots Q (F0 m 598 ls []) := by
  obtain ⟨⟨hx, hb, hml, hown⟩, hts, hK, ⟨hN, hX, hY⟩, hXs, hbl, hnt⟩ := id X
  have hK1 : va_K D vwCl [(cI, .int)] s := hK.sub [0] rfl
  obtain ⟨fsC, hqC⟩ := sw.c0
  obtain ⟨fsM, hqM⟩ := sw.m0
  obtain ⟨r, WC', WM', k', hC, hM, sw'⟩ := v_firstError sw l D
  refine W.widen (k := cells + 1) (n := slots + 6) (by omega) (by omega) ?_
  refine lv_aload_n hx hb dL_law_598 rfl (lv_at hl 3 rfl) ?_
  refine nd_callVW (As := []) (rest := []) (st1 := [.int r]) hx hb hml hown hts hl [(od, OU cJ g)] WC WC' WM hP hK1 hD hS (fun _ h => h) hN hC iv_X8_firstError wd_508 0 hqC rfl (sw.cc sw') rfl ⟨Nat.le_of_ble_eq_true rfl, Nat.le_of_ble_eq_true rfl⟩ (Nat.le_of_ble_eq_true rfl) hf dL_law_599 rfl rfl (fun H locs hP hD hS => ?_)
  have hP0 : va_P D vwCl (((od, OU cJ g) :: WC') ++ WM ++ []) H := by rw [List.append_nil]; exact hP
  have hD0 : va_D (fun q => s.heap.size ≤ q) (((od, OU cJ g) :: WC') ++ WM ++ []) := by rw [List.append_nil]; exact hD
  refine lv_aload_n hx hb dL_law_602 rfl (lv_at hl 2 rfl) ?_
  refine nd_callVW (As := []) (rest := [.int r]) (st1 := .int r :: [.int r]) hx hb hml hown hts hl ((od, OU cJ g) :: WC') WM WM' [] hP0 hK1 hD0 hS (fun _ h => h) hN hM iv_X9_firstError wd_512 0 hqM rfl (sw.mm sw') rfl ⟨Nat.le_of_ble_eq_true rfl, Nat.le_of_ble_eq_true rfl⟩ (Nat.le_of_ble_eq_true rfl) hf dL_law_603 rfl rfl (fun H locs hP hD hS => ?_)
  rw [List.append_nil] at hP hD
  exact lv_icmp_eq (tgt := 1280) hx hb dL_law_606 (by decide) (fun _ => nx H locs ls g WC' WM' k' sw' hP hD hS hl) (fun q => absurd rfl q)
set_option maxHeartbeats 4000000 in
set_option maxRecDepth 100000 in
theorem k_undo (X : LX p l s m args c D cI cJ b L xs) (hL : L ≤ 2048) (hk : 4 * k + 3 < L) (sw : SW ad bd cI WC WM mt) (hP : va_P D vwCl (((od, OU cJ g) :: WC) ++ WM) H) (hD : va_D (fun q => s.heap.size ≤ q) (((od, OU cJ g) :: WC) ++ WM)) (hS : va_S (fun q => s.heap.size ≤ q) s.heap H locs) (hl : lv_has ls 9 (lvL ad bd b od k)) (hf : cells + 1 ≤ 1059 ∧ slots + 6 ≤ 28332) (nx : NX p l e s m args below meth c Q D cI cJ ad bd b od k 1280 (cells + 1) (slots + 6)) : W p l e room_1 s m args below meth c H locs cells slots Q (F0 m 611 ls []) := by
  obtain ⟨⟨hx, hb, hml, hown⟩, hts, hK, ⟨hN, hX, hY⟩, hXs, hbl, hnt⟩ := id X
  have hK1 : va_K D vwCl [(cI, .int)] s := hK.sub [0] rfl
  obtain ⟨fsC, hqC⟩ := sw.c0
  obtain ⟨fsM, hqM⟩ := sw.m0
  obtain ⟨k0, r, PX, WM', hH, hM, hfin⟩ := ua_undo sw hnt D cJ od g
  refine lv_aload_n hx hb dL_law_611 rfl (lv_at hl 3 rfl) ?_
  refine lv_aload_n hx hb dL_law_612 rfl (lv_at hl 1 rfl) ?_
  refine nd_callH (n := 2) (As := [.ref (ad 0), .ref od]) (rest := []) hx hb hml hown hts hl WC WM hP hK hD hS (fun _ h => h) hN hX hY hH (by decide +kernel) wd_516 wd_517 wd_83 wd_518 rfl ⟨Nat.le_of_ble_eq_true rfl, Nat.le_of_ble_eq_true rfl⟩ (Nat.le_of_ble_eq_true rfl) hf dL_law_613 rfl (fun W1 g1 H locs hw hP hD hS => ?_)
  obtain ⟨sw1, hv⟩ := hfin W1 g1 hw
  refine lv_istore (lv' := (5, .int k0) :: lvL ad bd b od k) hx hb dL_law_616 hl (by decide) rfl (fun ls hl => ?_)
  refine lv_aload_n hx hb dL_law_618 rfl (lv_at hl 3 rfl) ?_
  have hP0 : va_P D vwCl (((od, OU cJ g1) :: W1) ++ WM ++ []) H := by rw [List.append_nil]; exact hP
  have hD0 : va_D (fun q => s.heap.size ≤ q) (((od, OU cJ g1) :: W1) ++ WM ++ []) := by rw [List.append_nil]; exact hD
  refine nd_callVW (As := []) (rest := []) (st1 := [.int r]) hx hb hml hown hts hl ((od, OU cJ g1) :: W1) WM WM' [] hP0 hK1 hD0 hS (fun _ h => h) hN hM iv_X9_undo wd_531 0 hqM rfl (sw.mm sw1) rfl ⟨Nat.le_of_ble_eq_true rfl, Nat.le_of_ble_eq_true rfl⟩ (Nat.le_of_ble_eq_true rfl) hf dL_law_619 rfl rfl (fun H locs hP hD hS => ?_)
  rw [List.append_nil] at hP hD
  refine lv_istore (lv' := (6, .int r) :: (5, .int k0) :: lvL ad bd b od k) hx hb dL_law_622 hl (by decide) rfl (fun ls hl => ?_)
  exact lw_tail (pc := 624) (off := 628) X sw1 hP hD hS hl hv hf (by decide +kernel) (by decide) nx
set_option maxHeartbeats 4000000 in
set_option maxRecDepth 100000 in
theorem k_pieceOf (X : LX p l s m args c D cI cJ b L xs) (hL : L ≤ 2048) (hk : 4 * k + 3 < L) (sw : SW ad bd cI WC WM mt) (hP : va_P D vwCl (((od, OU cJ g) :: WC) ++ WM) H) (hD : va_D (fun q => s.heap.size ≤ q) (((od, OU cJ g) :: WC) ++ WM)) (hS : va_S (fun q => s.heap.size ≤ q) s.heap H locs) (hl : lv_has ls 9 (lvL ad bd b od k)) (hf : cells + 1 ≤ 1059 ∧ slots + 6 ≤ 28332) (nx : NX p l e s m args below meth c Q D cI cJ ad bd b od k 1280 (cells + 1) (slots + 6)) : W p l e room_1 s m args below meth c H locs cells slots Q (F0 m 655 ls []) := by
  obtain ⟨⟨hx, hb, hml, hown⟩, hts, hK, ⟨hN, hX, hY⟩, hXs, hbl, hnt⟩ := id X
  have hK1 : va_K D vwCl [(cI, .int)] s := hK.sub [0] rfl
  obtain ⟨fsC, hqC⟩ := sw.c0
  obtain ⟨fsM, hqM⟩ := sw.m0
  obtain ⟨k0, r, PX, WM', hH, hM, hfin⟩ := ua_pieceOf sw hnt D cJ od g (xs (4 * k + 1)) (xs (4 * k + 2))
  refine lv_aload_n hx hb dL_law_655 rfl (lv_at hl 3 rfl) ?_
  refine lw_ld X hS (lv_at hl 4 rfl) (lv_at hl 0 rfl) hL 1 rfl (by omega) dL_law_656 dL_law_657 dL_law_659 dL_law_660 dL_law_661 ?_
  refine lw_ld X hS (lv_at hl 4 rfl) (lv_at hl 0 rfl) hL 2 rfl (by omega) dL_law_662 dL_law_663 dL_law_665 dL_law_666 dL_law_667 ?_
  refine lv_aload_n hx hb dL_law_668 rfl (lv_at hl 1 rfl) ?_
  refine nd_callH (n := 4) (As := [.ref (ad 0), .int (xs (4 * k + 1)), .int (xs (4 * k + 2)), .ref od]) (rest := []) hx hb hml hown hts hl WC WM hP hK hD hS (fun _ h => h) hN hX hY hH (by decide +kernel) wd_535 wd_536 wd_83 wd_537 rfl ⟨Nat.le_of_ble_eq_true rfl, Nat.le_of_ble_eq_true rfl⟩ (Nat.le_of_ble_eq_true rfl) hf dL_law_669 rfl (fun W1 g1 H locs hw hP hD hS => ?_)
  obtain ⟨sw1, hv⟩ := hfin W1 g1 hw
  refine lv_istore (lv' := (5, .int k0) :: lvL ad bd b od k) hx hb dL_law_672 hl (by decide) rfl (fun ls hl => ?_)
  refine lv_aload_n hx hb dL_law_674 rfl (lv_at hl 3 rfl) ?_
  refine lw_ld X hS (lv_at hl 5 rfl) (lv_at hl 1 rfl) hL 1 rfl (by omega) dL_law_675 dL_law_676 dL_law_678 dL_law_679 dL_law_680 ?_
  refine lw_ld X hS (lv_at hl 5 rfl) (lv_at hl 1 rfl) hL 2 rfl (by omega) dL_law_681 dL_law_682 dL_law_684 dL_law_685 dL_law_686 ?_
  have hP0 : va_P D vwCl (((od, OU cJ g1) :: W1) ++ WM ++ []) H := by rw [List.append_nil]; exact hP
  have hD0 : va_D (fun q => s.heap.size ≤ q) (((od, OU cJ g1) :: W1) ++ WM ++ []) := by rw [List.append_nil]; exact hD
  refine nd_callVW (As := [.int (xs (4 * k + 1)), .int (xs (4 * k + 2))]) (rest := []) (st1 := [.int r]) hx hb hml hown hts hl ((od, OU cJ g1) :: W1) WM WM' [] hP0 hK1 hD0 hS (fun _ h => h) hN hM iv_X9_pieceOf wd_558 0 hqM rfl (sw.mm sw1) rfl ⟨Nat.le_of_ble_eq_true rfl, Nat.le_of_ble_eq_true rfl⟩ (Nat.le_of_ble_eq_true rfl) hf dL_law_687 rfl rfl (fun H locs hP hD hS => ?_)
  rw [List.append_nil] at hP hD
  refine lv_istore (lv' := (6, .int r) :: (5, .int k0) :: lvL ad bd b od k) hx hb dL_law_690 hl (by decide) rfl (fun ls hl => ?_)
  exact lw_tail (pc := 692) (off := 560) X sw1 hP hD hS hl hv hf (by decide +kernel) (by decide) nx
set_option maxHeartbeats 4000000 in
set_option maxRecDepth 100000 in
theorem k_receipt (X : LX p l s m args c D cI cJ b L xs) (hL : L ≤ 2048) (hk : 4 * k + 3 < L) (sw : SW ad bd cI WC WM mt) (hP : va_P D vwCl (((od, OU cJ g) :: WC) ++ WM) H) (hD : va_D (fun q => s.heap.size ≤ q) (((od, OU cJ g) :: WC) ++ WM)) (hS : va_S (fun q => s.heap.size ≤ q) s.heap H locs) (hl : lv_has ls 9 (lvL ad bd b od k)) (hf : cells + 1 ≤ 1059 ∧ slots + 6 ≤ 28332) (nx : NX p l e s m args below meth c Q D cI cJ ad bd b od k 1280 (cells + 1) (slots + 6)) : W p l e room_1 s m args below meth c H locs cells slots Q (F0 m 723 ls []) := by
  obtain ⟨⟨hx, hb, hml, hown⟩, hts, hK, ⟨hN, hX, hY⟩, hXs, hbl, hnt⟩ := id X
  have hK1 : va_K D vwCl [(cI, .int)] s := hK.sub [0] rfl
  obtain ⟨fsC, hqC⟩ := sw.c0
  obtain ⟨fsM, hqM⟩ := sw.m0
  obtain ⟨k0, r, PX, WM', hH, hM, hfin⟩ := ua_receipt sw hnt D cJ od g (xs (4 * k + 1)) (xs (4 * k + 2)) (xs (4 * k + 3))
  refine lv_aload_n hx hb dL_law_723 rfl (lv_at hl 3 rfl) ?_
  refine lw_ld X hS (lv_at hl 4 rfl) (lv_at hl 0 rfl) hL 1 rfl (by omega) dL_law_724 dL_law_725 dL_law_727 dL_law_728 dL_law_729 ?_
  refine lw_ld X hS (lv_at hl 4 rfl) (lv_at hl 0 rfl) hL 2 rfl (by omega) dL_law_730 dL_law_731 dL_law_733 dL_law_734 dL_law_735 ?_
  refine lw_ld X hS (lv_at hl 4 rfl) (lv_at hl 0 rfl) hL 3 rfl (by omega) dL_law_736 dL_law_737 dL_law_739 dL_law_740 dL_law_741 ?_
  refine lv_aload_n hx hb dL_law_742 rfl (lv_at hl 1 rfl) ?_
  refine nd_callH (n := 5) (As := [.ref (ad 0), .int (xs (4 * k + 1)), .int (xs (4 * k + 2)), .int (xs (4 * k + 3)), .ref od]) (rest := []) hx hb hml hown hts hl WC WM hP hK hD hS (fun _ h => h) hN hX hY hH (by decide +kernel) wd_570 wd_571 wd_83 wd_572 rfl ⟨Nat.le_of_ble_eq_true rfl, Nat.le_of_ble_eq_true rfl⟩ (Nat.le_of_ble_eq_true rfl) hf dL_law_743 rfl (fun W1 g1 H locs hw hP hD hS => ?_)
  obtain ⟨sw1, hv⟩ := hfin W1 g1 hw
  refine lv_istore (lv' := (5, .int k0) :: lvL ad bd b od k) hx hb dL_law_746 hl (by decide) rfl (fun ls hl => ?_)
  refine lv_aload_n hx hb dL_law_748 rfl (lv_at hl 3 rfl) ?_
  refine lw_ld X hS (lv_at hl 5 rfl) (lv_at hl 1 rfl) hL 1 rfl (by omega) dL_law_749 dL_law_750 dL_law_752 dL_law_753 dL_law_754 ?_
  refine lw_ld X hS (lv_at hl 5 rfl) (lv_at hl 1 rfl) hL 2 rfl (by omega) dL_law_755 dL_law_756 dL_law_758 dL_law_759 dL_law_760 ?_
  refine lw_ld X hS (lv_at hl 5 rfl) (lv_at hl 1 rfl) hL 3 rfl (by omega) dL_law_761 dL_law_762 dL_law_764 dL_law_765 dL_law_766 ?_
  have hP0 : va_P D vwCl (((od, OU cJ g1) :: W1) ++ WM ++ []) H := by rw [List.append_nil]; exact hP
  have hD0 : va_D (fun q => s.heap.size ≤ q) (((od, OU cJ g1) :: W1) ++ WM ++ []) := by rw [List.append_nil]; exact hD
  refine nd_callVW (As := [.int (xs (4 * k + 1)), .int (xs (4 * k + 2)), .int (xs (4 * k + 3))]) (rest := []) (st1 := [.int r]) hx hb hml hown hts hl ((od, OU cJ g1) :: W1) WM WM' [] hP0 hK1 hD0 hS (fun _ h => h) hN hM iv_X9_receipt wd_615 0 hqM rfl (sw.mm sw1) rfl ⟨Nat.le_of_ble_eq_true rfl, Nat.le_of_ble_eq_true rfl⟩ (Nat.le_of_ble_eq_true rfl) hf dL_law_767 rfl rfl (fun H locs hP hD hS => ?_)
  rw [List.append_nil] at hP hD
  refine lv_istore (lv' := (6, .int r) :: (5, .int k0) :: lvL ad bd b od k) hx hb dL_law_770 hl (by decide) rfl (fun ls hl => ?_)
  exact lw_tail (pc := 772) (off := 480) X sw1 hP hD hS hl hv hf (by decide +kernel) (by decide) nx
set_option maxHeartbeats 4000000 in
set_option maxRecDepth 100000 in
theorem k_page (X : LX p l s m args c D cI cJ b L xs) (hL : L ≤ 2048) (hk : 4 * k + 3 < L) (sw : SW ad bd cI WC WM mt) (hP : va_P D vwCl (((od, OU cJ g) :: WC) ++ WM) H) (hD : va_D (fun q => s.heap.size ≤ q) (((od, OU cJ g) :: WC) ++ WM)) (hS : va_S (fun q => s.heap.size ≤ q) s.heap H locs) (hl : lv_has ls 9 (lvL ad bd b od k)) (hf : cells + 1 ≤ 1059 ∧ slots + 6 ≤ 28332) (nx : NX p l e s m args below meth c Q D cI cJ ad bd b od k 1280 (cells + 1) (slots + 6)) : W p l e room_1 s m args below meth c H locs cells slots Q (F0 m 803 ls []) := by
  obtain ⟨⟨hx, hb, hml, hown⟩, hts, hK, ⟨hN, hX, hY⟩, hXs, hbl, hnt⟩ := id X
  have hK1 : va_K D vwCl [(cI, .int)] s := hK.sub [0] rfl
  obtain ⟨fsC, hqC⟩ := sw.c0
  obtain ⟨fsM, hqM⟩ := sw.m0
  obtain ⟨k0, r, PX, WM', hH, hM, hfin⟩ := ua_page sw hnt D cJ od g (xs (4 * k + 1)) (xs (4 * k + 2))
  refine lv_aload_n hx hb dL_law_803 rfl (lv_at hl 3 rfl) ?_
  refine lw_ld X hS (lv_at hl 4 rfl) (lv_at hl 0 rfl) hL 1 rfl (by omega) dL_law_804 dL_law_805 dL_law_807 dL_law_808 dL_law_809 ?_
  refine lw_ld X hS (lv_at hl 4 rfl) (lv_at hl 0 rfl) hL 2 rfl (by omega) dL_law_810 dL_law_811 dL_law_813 dL_law_814 dL_law_815 ?_
  refine lv_aload_n hx hb dL_law_816 rfl (lv_at hl 1 rfl) ?_
  refine nd_callH (n := 4) (As := [.ref (ad 0), .int (xs (4 * k + 1)), .int (xs (4 * k + 2)), .ref od]) (rest := []) hx hb hml hown hts hl WC WM hP hK hD hS (fun _ h => h) hN hX hY hH (by decide +kernel) wd_649 wd_650 wd_83 wd_651 rfl ⟨Nat.le_of_ble_eq_true rfl, Nat.le_of_ble_eq_true rfl⟩ (Nat.le_of_ble_eq_true rfl) hf dL_law_817 rfl (fun W1 g1 H locs hw hP hD hS => ?_)
  obtain ⟨sw1, hv⟩ := hfin W1 g1 hw
  refine lv_istore (lv' := (5, .int k0) :: lvL ad bd b od k) hx hb dL_law_820 hl (by decide) rfl (fun ls hl => ?_)
  refine lv_aload_n hx hb dL_law_822 rfl (lv_at hl 3 rfl) ?_
  refine lw_ld X hS (lv_at hl 5 rfl) (lv_at hl 1 rfl) hL 1 rfl (by omega) dL_law_823 dL_law_824 dL_law_826 dL_law_827 dL_law_828 ?_
  refine lw_ld X hS (lv_at hl 5 rfl) (lv_at hl 1 rfl) hL 2 rfl (by omega) dL_law_829 dL_law_830 dL_law_832 dL_law_833 dL_law_834 ?_
  have hP0 : va_P D vwCl (((od, OU cJ g1) :: W1) ++ WM ++ []) H := by rw [List.append_nil]; exact hP
  have hD0 : va_D (fun q => s.heap.size ≤ q) (((od, OU cJ g1) :: W1) ++ WM ++ []) := by rw [List.append_nil]; exact hD
  refine nd_callVW (As := [.int (xs (4 * k + 1)), .int (xs (4 * k + 2))]) (rest := []) (st1 := [.int r]) hx hb hml hown hts hl ((od, OU cJ g1) :: W1) WM WM' [] hP0 hK1 hD0 hS (fun _ h => h) hN hM iv_X9_page wd_667 0 hqM rfl (sw.mm sw1) rfl ⟨Nat.le_of_ble_eq_true rfl, Nat.le_of_ble_eq_true rfl⟩ (Nat.le_of_ble_eq_true rfl) hf dL_law_835 rfl rfl (fun H locs hP hD hS => ?_)
  rw [List.append_nil] at hP hD
  refine lv_istore (lv' := (6, .int r) :: (5, .int k0) :: lvL ad bd b od k) hx hb dL_law_838 hl (by decide) rfl (fun ls hl => ?_)
  exact lw_tail (pc := 840) (off := 412) X sw1 hP hD hS hl hv hf (by decide +kernel) (by decide) nx
set_option maxHeartbeats 4000000 in
set_option maxRecDepth 100000 in
theorem k_line (X : LX p l s m args c D cI cJ b L xs) (hL : L ≤ 2048) (hk : 4 * k + 3 < L) (sw : SW ad bd cI WC WM mt) (hP : va_P D vwCl (((od, OU cJ g) :: WC) ++ WM) H) (hD : va_D (fun q => s.heap.size ≤ q) (((od, OU cJ g) :: WC) ++ WM)) (hS : va_S (fun q => s.heap.size ≤ q) s.heap H locs) (hl : lv_has ls 9 (lvL ad bd b od k)) (hf : cells + 1 ≤ 1059 ∧ slots + 6 ≤ 28332) (nx : NX p l e s m args below meth c Q D cI cJ ad bd b od k 1280 (cells + 1) (slots + 6)) : W p l e room_1 s m args below meth c H locs cells slots Q (F0 m 871 ls []) := by
  obtain ⟨⟨hx, hb, hml, hown⟩, hts, hK, ⟨hN, hX, hY⟩, hXs, hbl, hnt⟩ := id X
  have hK1 : va_K D vwCl [(cI, .int)] s := hK.sub [0] rfl
  obtain ⟨fsC, hqC⟩ := sw.c0
  obtain ⟨fsM, hqM⟩ := sw.m0
  obtain ⟨k0, r, PX, WM', hH, hM, hfin⟩ := ua_line sw hnt D cJ od g (xs (4 * k + 1)) (xs (4 * k + 2)) (xs (4 * k + 3))
  refine lv_aload_n hx hb dL_law_871 rfl (lv_at hl 3 rfl) ?_
  refine lw_ld X hS (lv_at hl 4 rfl) (lv_at hl 0 rfl) hL 1 rfl (by omega) dL_law_872 dL_law_873 dL_law_875 dL_law_876 dL_law_877 ?_
  refine lw_ld X hS (lv_at hl 4 rfl) (lv_at hl 0 rfl) hL 2 rfl (by omega) dL_law_878 dL_law_879 dL_law_881 dL_law_882 dL_law_883 ?_
  refine lw_ld X hS (lv_at hl 4 rfl) (lv_at hl 0 rfl) hL 3 rfl (by omega) dL_law_884 dL_law_885 dL_law_887 dL_law_888 dL_law_889 ?_
  refine lv_aload_n hx hb dL_law_890 rfl (lv_at hl 1 rfl) ?_
  refine nd_callH (n := 5) (As := [.ref (ad 0), .int (xs (4 * k + 1)), .int (xs (4 * k + 2)), .int (xs (4 * k + 3)), .ref od]) (rest := []) hx hb hml hown hts hl WC WM hP hK hD hS (fun _ h => h) hN hX hY hH (by decide +kernel) wd_675 wd_676 wd_83 wd_677 rfl ⟨Nat.le_of_ble_eq_true rfl, Nat.le_of_ble_eq_true rfl⟩ (Nat.le_of_ble_eq_true rfl) hf dL_law_891 rfl (fun W1 g1 H locs hw hP hD hS => ?_)
  obtain ⟨sw1, hv⟩ := hfin W1 g1 hw
  refine lv_istore (lv' := (5, .int k0) :: lvL ad bd b od k) hx hb dL_law_894 hl (by decide) rfl (fun ls hl => ?_)
  refine lv_aload_n hx hb dL_law_896 rfl (lv_at hl 3 rfl) ?_
  refine lw_ld X hS (lv_at hl 5 rfl) (lv_at hl 1 rfl) hL 1 rfl (by omega) dL_law_897 dL_law_898 dL_law_900 dL_law_901 dL_law_902 ?_
  refine lw_ld X hS (lv_at hl 5 rfl) (lv_at hl 1 rfl) hL 2 rfl (by omega) dL_law_903 dL_law_904 dL_law_906 dL_law_907 dL_law_908 ?_
  refine lw_ld X hS (lv_at hl 5 rfl) (lv_at hl 1 rfl) hL 3 rfl (by omega) dL_law_909 dL_law_910 dL_law_912 dL_law_913 dL_law_914 ?_
  have hP0 : va_P D vwCl (((od, OU cJ g1) :: W1) ++ WM ++ []) H := by rw [List.append_nil]; exact hP
  have hD0 : va_D (fun q => s.heap.size ≤ q) (((od, OU cJ g1) :: W1) ++ WM ++ []) := by rw [List.append_nil]; exact hD
  refine nd_callVW (As := [.int (xs (4 * k + 1)), .int (xs (4 * k + 2)), .int (xs (4 * k + 3))]) (rest := []) (st1 := [.int r]) hx hb hml hown hts hl ((od, OU cJ g1) :: W1) WM WM' [] hP0 hK1 hD0 hS (fun _ h => h) hN hM iv_X9_line wd_709 0 hqM rfl (sw.mm sw1) rfl ⟨Nat.le_of_ble_eq_true rfl, Nat.le_of_ble_eq_true rfl⟩ (Nat.le_of_ble_eq_true rfl) hf dL_law_915 rfl rfl (fun H locs hP hD hS => ?_)
  rw [List.append_nil] at hP hD
  refine lv_istore (lv' := (6, .int r) :: (5, .int k0) :: lvL ad bd b od k) hx hb dL_law_918 hl (by decide) rfl (fun ls hl => ?_)
  exact lw_tail (pc := 920) (off := 332) X sw1 hP hD hS hl hv hf (by decide +kernel) (by decide) nx
set_option maxHeartbeats 4000000 in
set_option maxRecDepth 100000 in
theorem k_sum (X : LX p l s m args c D cI cJ b L xs) (hL : L ≤ 2048) (hk : 4 * k + 3 < L) (sw : SW ad bd cI WC WM mt) (hP : va_P D vwCl (((od, OU cJ g) :: WC) ++ WM) H) (hD : va_D (fun q => s.heap.size ≤ q) (((od, OU cJ g) :: WC) ++ WM)) (hS : va_S (fun q => s.heap.size ≤ q) s.heap H locs) (hl : lv_has ls 9 (lvL ad bd b od k)) (hf : cells + 1 ≤ 1059 ∧ slots + 6 ≤ 28332) (nx : NX p l e s m args below meth c Q D cI cJ ad bd b od k 1280 (cells + 1) (slots + 6)) : W p l e room_1 s m args below meth c H locs cells slots Q (F0 m 951 ls []) := by
  obtain ⟨⟨hx, hb, hml, hown⟩, hts, hK, ⟨hN, hX, hY⟩, hXs, hbl, hnt⟩ := id X
  have hK1 : va_K D vwCl [(cI, .int)] s := hK.sub [0] rfl
  obtain ⟨fsC, hqC⟩ := sw.c0
  obtain ⟨fsM, hqM⟩ := sw.m0
  obtain ⟨k0, r, PX, WM', hH, hM, hfin⟩ := ua_sum sw hnt D cJ od g (xs (4 * k + 1)) (xs (4 * k + 2))
  refine lv_aload_n hx hb dL_law_951 rfl (lv_at hl 3 rfl) ?_
  refine lw_ld X hS (lv_at hl 4 rfl) (lv_at hl 0 rfl) hL 1 rfl (by omega) dL_law_952 dL_law_953 dL_law_955 dL_law_956 dL_law_957 ?_
  refine lw_ld X hS (lv_at hl 4 rfl) (lv_at hl 0 rfl) hL 2 rfl (by omega) dL_law_958 dL_law_959 dL_law_961 dL_law_962 dL_law_963 ?_
  refine lv_aload_n hx hb dL_law_964 rfl (lv_at hl 1 rfl) ?_
  refine nd_callH (n := 4) (As := [.ref (ad 0), .int (xs (4 * k + 1)), .int (xs (4 * k + 2)), .ref od]) (rest := []) hx hb hml hown hts hl WC WM hP hK hD hS (fun _ h => h) hN hX hY hH (by decide +kernel) wd_721 wd_722 wd_83 wd_723 rfl ⟨Nat.le_of_ble_eq_true rfl, Nat.le_of_ble_eq_true rfl⟩ (Nat.le_of_ble_eq_true rfl) hf dL_law_965 rfl (fun W1 g1 H locs hw hP hD hS => ?_)
  obtain ⟨sw1, hv⟩ := hfin W1 g1 hw
  refine lv_istore (lv' := (5, .int k0) :: lvL ad bd b od k) hx hb dL_law_968 hl (by decide) rfl (fun ls hl => ?_)
  refine lv_aload_n hx hb dL_law_970 rfl (lv_at hl 3 rfl) ?_
  refine lw_ld X hS (lv_at hl 5 rfl) (lv_at hl 1 rfl) hL 1 rfl (by omega) dL_law_971 dL_law_972 dL_law_974 dL_law_975 dL_law_976 ?_
  refine lw_ld X hS (lv_at hl 5 rfl) (lv_at hl 1 rfl) hL 2 rfl (by omega) dL_law_977 dL_law_978 dL_law_980 dL_law_981 dL_law_982 ?_
  have hP0 : va_P D vwCl (((od, OU cJ g1) :: W1) ++ WM ++ []) H := by rw [List.append_nil]; exact hP
  have hD0 : va_D (fun q => s.heap.size ≤ q) (((od, OU cJ g1) :: W1) ++ WM ++ []) := by rw [List.append_nil]; exact hD
  refine nd_callVW (As := [.int (xs (4 * k + 1)), .int (xs (4 * k + 2))]) (rest := []) (st1 := [.int r]) hx hb hml hown hts hl ((od, OU cJ g1) :: W1) WM WM' [] hP0 hK1 hD0 hS (fun _ h => h) hN hM iv_X9_sum wd_732 0 hqM rfl (sw.mm sw1) rfl ⟨Nat.le_of_ble_eq_true rfl, Nat.le_of_ble_eq_true rfl⟩ (Nat.le_of_ble_eq_true rfl) hf dL_law_983 rfl rfl (fun H locs hP hD hS => ?_)
  rw [List.append_nil] at hP hD
  refine lv_istore (lv' := (6, .int r) :: (5, .int k0) :: lvL ad bd b od k) hx hb dL_law_986 hl (by decide) rfl (fun ls hl => ?_)
  exact lw_tail (pc := 988) (off := 264) X sw1 hP hD hS hl hv hf (by decide +kernel) (by decide) nx
set_option maxHeartbeats 4000000 in
set_option maxRecDepth 100000 in
theorem k_count (X : LX p l s m args c D cI cJ b L xs) (hL : L ≤ 2048) (hk : 4 * k + 3 < L) (sw : SW ad bd cI WC WM mt) (hP : va_P D vwCl (((od, OU cJ g) :: WC) ++ WM) H) (hD : va_D (fun q => s.heap.size ≤ q) (((od, OU cJ g) :: WC) ++ WM)) (hS : va_S (fun q => s.heap.size ≤ q) s.heap H locs) (hl : lv_has ls 9 (lvL ad bd b od k)) (hf : cells + 1 ≤ 1059 ∧ slots + 6 ≤ 28332) (nx : NX p l e s m args below meth c Q D cI cJ ad bd b od k 1280 (cells + 1) (slots + 6)) : W p l e room_1 s m args below meth c H locs cells slots Q (F0 m 1019 ls []) := by
  obtain ⟨⟨hx, hb, hml, hown⟩, hts, hK, ⟨hN, hX, hY⟩, hXs, hbl, hnt⟩ := id X
  have hK1 : va_K D vwCl [(cI, .int)] s := hK.sub [0] rfl
  obtain ⟨fsC, hqC⟩ := sw.c0
  obtain ⟨fsM, hqM⟩ := sw.m0
  obtain ⟨k0, r, PX, WM', hH, hM, hfin⟩ := ua_count sw hnt D cJ od g (xs (4 * k + 1))
  refine lv_aload_n hx hb dL_law_1019 rfl (lv_at hl 3 rfl) ?_
  refine lw_ld X hS (lv_at hl 4 rfl) (lv_at hl 0 rfl) hL 1 rfl (by omega) dL_law_1020 dL_law_1021 dL_law_1023 dL_law_1024 dL_law_1025 ?_
  refine lv_aload_n hx hb dL_law_1026 rfl (lv_at hl 1 rfl) ?_
  refine nd_callH (n := 3) (As := [.ref (ad 0), .int (xs (4 * k + 1)), .ref od]) (rest := []) hx hb hml hown hts hl WC WM hP hK hD hS (fun _ h => h) hN hX hY hH (by decide +kernel) wd_740 wd_741 wd_83 wd_742 rfl ⟨Nat.le_of_ble_eq_true rfl, Nat.le_of_ble_eq_true rfl⟩ (Nat.le_of_ble_eq_true rfl) hf dL_law_1027 rfl (fun W1 g1 H locs hw hP hD hS => ?_)
  obtain ⟨sw1, hv⟩ := hfin W1 g1 hw
  refine lv_istore (lv' := (5, .int k0) :: lvL ad bd b od k) hx hb dL_law_1030 hl (by decide) rfl (fun ls hl => ?_)
  refine lv_aload_n hx hb dL_law_1032 rfl (lv_at hl 3 rfl) ?_
  refine lw_ld X hS (lv_at hl 5 rfl) (lv_at hl 1 rfl) hL 1 rfl (by omega) dL_law_1033 dL_law_1034 dL_law_1036 dL_law_1037 dL_law_1038 ?_
  have hP0 : va_P D vwCl (((od, OU cJ g1) :: W1) ++ WM ++ []) H := by rw [List.append_nil]; exact hP
  have hD0 : va_D (fun q => s.heap.size ≤ q) (((od, OU cJ g1) :: W1) ++ WM ++ []) := by rw [List.append_nil]; exact hD
  refine nd_callVW (As := [.int (xs (4 * k + 1))]) (rest := []) (st1 := [.int r]) hx hb hml hown hts hl ((od, OU cJ g1) :: W1) WM WM' [] hP0 hK1 hD0 hS (fun _ h => h) hN hM iv_X9_count wd_771 0 hqM rfl (sw.mm sw1) rfl ⟨Nat.le_of_ble_eq_true rfl, Nat.le_of_ble_eq_true rfl⟩ (Nat.le_of_ble_eq_true rfl) hf dL_law_1039 rfl rfl (fun H locs hP hD hS => ?_)
  rw [List.append_nil] at hP hD
  refine lv_istore (lv' := (6, .int r) :: (5, .int k0) :: lvL ad bd b od k) hx hb dL_law_1042 hl (by decide) rfl (fun ls hl => ?_)
  exact lw_tail (pc := 1044) (off := 208) X sw1 hP hD hS hl hv hf (by decide +kernel) (by decide) nx
set_option maxHeartbeats 4000000 in
set_option maxRecDepth 100000 in
theorem k_fits (X : LX p l s m args c D cI cJ b L xs) (hL : L ≤ 2048) (hk : 4 * k + 3 < L) (sw : SW ad bd cI WC WM mt) (hP : va_P D vwCl (((od, OU cJ g) :: WC) ++ WM) H) (hD : va_D (fun q => s.heap.size ≤ q) (((od, OU cJ g) :: WC) ++ WM)) (hS : va_S (fun q => s.heap.size ≤ q) s.heap H locs) (hl : lv_has ls 9 (lvL ad bd b od k)) (hf : cells + 1 ≤ 1059 ∧ slots + 6 ≤ 28332) (nx : NX p l e s m args below meth c Q D cI cJ ad bd b od k 1280 (cells + 1) (slots + 6)) : W p l e room_1 s m args below meth c H locs cells slots Q (F0 m 1075 ls []) := by
  obtain ⟨⟨hx, hb, hml, hown⟩, hts, hK, ⟨hN, hX, hY⟩, hXs, hbl, hnt⟩ := id X
  have hK1 : va_K D vwCl [(cI, .int)] s := hK.sub [0] rfl
  obtain ⟨fsC, hqC⟩ := sw.c0
  obtain ⟨fsM, hqM⟩ := sw.m0
  obtain ⟨k0, r, PX, WM', hH, hM, hfin⟩ := ua_fits sw hnt D cJ od g (xs (4 * k + 1)) (xs (4 * k + 2))
  refine lv_aload_n hx hb dL_law_1075 rfl (lv_at hl 3 rfl) ?_
  refine lw_ld X hS (lv_at hl 4 rfl) (lv_at hl 0 rfl) hL 1 rfl (by omega) dL_law_1076 dL_law_1077 dL_law_1079 dL_law_1080 dL_law_1081 ?_
  refine lw_ld X hS (lv_at hl 4 rfl) (lv_at hl 0 rfl) hL 2 rfl (by omega) dL_law_1082 dL_law_1083 dL_law_1085 dL_law_1086 dL_law_1087 ?_
  refine lv_aload_n hx hb dL_law_1088 rfl (lv_at hl 1 rfl) ?_
  refine nd_callH (n := 4) (As := [.ref (ad 0), .int (xs (4 * k + 1)), .int (xs (4 * k + 2)), .ref od]) (rest := []) hx hb hml hown hts hl WC WM hP hK hD hS (fun _ h => h) hN hX hY hH (by decide +kernel) wd_791 wd_792 wd_83 wd_793 rfl ⟨Nat.le_of_ble_eq_true rfl, Nat.le_of_ble_eq_true rfl⟩ (Nat.le_of_ble_eq_true rfl) hf dL_law_1089 rfl (fun W1 g1 H locs hw hP hD hS => ?_)
  obtain ⟨sw1, hv⟩ := hfin W1 g1 hw
  refine lv_istore (lv' := (5, .int k0) :: lvL ad bd b od k) hx hb dL_law_1092 hl (by decide) rfl (fun ls hl => ?_)
  refine lv_aload_n hx hb dL_law_1094 rfl (lv_at hl 3 rfl) ?_
  refine lw_ld X hS (lv_at hl 5 rfl) (lv_at hl 1 rfl) hL 1 rfl (by omega) dL_law_1095 dL_law_1096 dL_law_1098 dL_law_1099 dL_law_1100 ?_
  refine lw_ld X hS (lv_at hl 5 rfl) (lv_at hl 1 rfl) hL 2 rfl (by omega) dL_law_1101 dL_law_1102 dL_law_1104 dL_law_1105 dL_law_1106 ?_
  have hP0 : va_P D vwCl (((od, OU cJ g1) :: W1) ++ WM ++ []) H := by rw [List.append_nil]; exact hP
  have hD0 : va_D (fun q => s.heap.size ≤ q) (((od, OU cJ g1) :: W1) ++ WM ++ []) := by rw [List.append_nil]; exact hD
  refine nd_callVW (As := [.int (xs (4 * k + 1)), .int (xs (4 * k + 2))]) (rest := []) (st1 := [.int r]) hx hb hml hown hts hl ((od, OU cJ g1) :: W1) WM WM' [] hP0 hK1 hD0 hS (fun _ h => h) hN hM iv_X9_fits wd_798 0 hqM rfl (sw.mm sw1) rfl ⟨Nat.le_of_ble_eq_true rfl, Nat.le_of_ble_eq_true rfl⟩ (Nat.le_of_ble_eq_true rfl) hf dL_law_1107 rfl rfl (fun H locs hP hD hS => ?_)
  rw [List.append_nil] at hP hD
  refine lv_istore (lv' := (6, .int r) :: (5, .int k0) :: lvL ad bd b od k) hx hb dL_law_1110 hl (by decide) rfl (fun ls hl => ?_)
  exact lw_tail (pc := 1112) (off := 140) X sw1 hP hD hS hl hv hf (by decide +kernel) (by decide) nx
set_option maxHeartbeats 4000000 in
set_option maxRecDepth 100000 in
theorem k_longest (X : LX p l s m args c D cI cJ b L xs) (hL : L ≤ 2048) (hk : 4 * k + 3 < L) (sw : SW ad bd cI WC WM mt) (hP : va_P D vwCl (((od, OU cJ g) :: WC) ++ WM) H) (hD : va_D (fun q => s.heap.size ≤ q) (((od, OU cJ g) :: WC) ++ WM)) (hS : va_S (fun q => s.heap.size ≤ q) s.heap H locs) (hl : lv_has ls 9 (lvL ad bd b od k)) (hf : cells + 1 ≤ 1059 ∧ slots + 6 ≤ 28332) (nx : NX p l e s m args below meth c Q D cI cJ ad bd b od k 1280 (cells + 1) (slots + 6)) : W p l e room_1 s m args below meth c H locs cells slots Q (F0 m 1143 ls []) := by
  obtain ⟨⟨hx, hb, hml, hown⟩, hts, hK, ⟨hN, hX, hY⟩, hXs, hbl, hnt⟩ := id X
  have hK1 : va_K D vwCl [(cI, .int)] s := hK.sub [0] rfl
  obtain ⟨fsC, hqC⟩ := sw.c0
  obtain ⟨fsM, hqM⟩ := sw.m0
  obtain ⟨k0, r, PX, WM', hH, hM, hfin⟩ := ua_longest sw hnt D cJ od g (xs (4 * k + 1))
  refine lv_aload_n hx hb dL_law_1143 rfl (lv_at hl 3 rfl) ?_
  refine lw_ld X hS (lv_at hl 4 rfl) (lv_at hl 0 rfl) hL 1 rfl (by omega) dL_law_1144 dL_law_1145 dL_law_1147 dL_law_1148 dL_law_1149 ?_
  refine lv_aload_n hx hb dL_law_1150 rfl (lv_at hl 1 rfl) ?_
  refine nd_callH (n := 3) (As := [.ref (ad 0), .int (xs (4 * k + 1)), .ref od]) (rest := []) hx hb hml hown hts hl WC WM hP hK hD hS (fun _ h => h) hN hX hY hH (by decide +kernel) wd_802 wd_803 wd_83 wd_804 rfl ⟨Nat.le_of_ble_eq_true rfl, Nat.le_of_ble_eq_true rfl⟩ (Nat.le_of_ble_eq_true rfl) hf dL_law_1151 rfl (fun W1 g1 H locs hw hP hD hS => ?_)
  obtain ⟨sw1, hv⟩ := hfin W1 g1 hw
  refine lv_istore (lv' := (5, .int k0) :: lvL ad bd b od k) hx hb dL_law_1154 hl (by decide) rfl (fun ls hl => ?_)
  refine lv_aload_n hx hb dL_law_1156 rfl (lv_at hl 3 rfl) ?_
  refine lw_ld X hS (lv_at hl 5 rfl) (lv_at hl 1 rfl) hL 1 rfl (by omega) dL_law_1157 dL_law_1158 dL_law_1160 dL_law_1161 dL_law_1162 ?_
  have hP0 : va_P D vwCl (((od, OU cJ g1) :: W1) ++ WM ++ []) H := by rw [List.append_nil]; exact hP
  have hD0 : va_D (fun q => s.heap.size ≤ q) (((od, OU cJ g1) :: W1) ++ WM ++ []) := by rw [List.append_nil]; exact hD
  refine nd_callVW (As := [.int (xs (4 * k + 1))]) (rest := []) (st1 := [.int r]) hx hb hml hown hts hl ((od, OU cJ g1) :: W1) WM WM' [] hP0 hK1 hD0 hS (fun _ h => h) hN hM iv_X9_longest wd_856 0 hqM rfl (sw.mm sw1) rfl ⟨Nat.le_of_ble_eq_true rfl, Nat.le_of_ble_eq_true rfl⟩ (Nat.le_of_ble_eq_true rfl) hf dL_law_1163 rfl rfl (fun H locs hP hD hS => ?_)
  rw [List.append_nil] at hP hD
  refine lv_istore (lv' := (6, .int r) :: (5, .int k0) :: lvL ad bd b od k) hx hb dL_law_1166 hl (by decide) rfl (fun ls hl => ?_)
  exact lw_tail (pc := 1168) (off := 84) X sw1 hP hD hS hl hv hf (by decide +kernel) (by decide) nx
set_option maxHeartbeats 4000000 in
set_option maxRecDepth 100000 in
theorem k_hidden (X : LX p l s m args c D cI cJ b L xs) (hL : L ≤ 2048) (hk : 4 * k + 3 < L) (sw : SW ad bd cI WC WM mt) (hP : va_P D vwCl (((od, OU cJ g) :: WC) ++ WM) H) (hD : va_D (fun q => s.heap.size ≤ q) (((od, OU cJ g) :: WC) ++ WM)) (hS : va_S (fun q => s.heap.size ≤ q) s.heap H locs) (hl : lv_has ls 9 (lvL ad bd b od k)) (hf : cells + 1 ≤ 1059 ∧ slots + 6 ≤ 28332) (nx : NX p l e s m args below meth c Q D cI cJ ad bd b od k 1280 (cells + 1) (slots + 6)) : W p l e room_1 s m args below meth c H locs cells slots Q (F0 m 1199 ls []) := by
  obtain ⟨⟨hx, hb, hml, hown⟩, hts, hK, ⟨hN, hX, hY⟩, hXs, hbl, hnt⟩ := id X
  have hK1 : va_K D vwCl [(cI, .int)] s := hK.sub [0] rfl
  obtain ⟨fsC, hqC⟩ := sw.c0
  obtain ⟨fsM, hqM⟩ := sw.m0
  obtain ⟨r, WC', WM', k', hC, hM, sw'⟩ := v_hidden sw l D
  refine W.widen (k := cells + 1) (n := slots + 6) (by omega) (by omega) ?_
  refine lv_aload_n hx hb dL_law_1199 rfl (lv_at hl 3 rfl) ?_
  refine nd_callVW (As := []) (rest := []) (st1 := [.int r]) hx hb hml hown hts hl [(od, OU cJ g)] WC WC' WM hP hK1 hD hS (fun _ h => h) hN hC iv_X8_hidden wd_872 0 hqC rfl (sw.cc sw') rfl ⟨Nat.le_of_ble_eq_true rfl, Nat.le_of_ble_eq_true rfl⟩ (Nat.le_of_ble_eq_true rfl) hf dL_law_1200 rfl rfl (fun H locs hP hD hS => ?_)
  have hP0 : va_P D vwCl (((od, OU cJ g) :: WC') ++ WM ++ []) H := by rw [List.append_nil]; exact hP
  have hD0 : va_D (fun q => s.heap.size ≤ q) (((od, OU cJ g) :: WC') ++ WM ++ []) := by rw [List.append_nil]; exact hD
  refine lv_aload_n hx hb dL_law_1203 rfl (lv_at hl 2 rfl) ?_
  refine nd_callVW (As := []) (rest := [.int r]) (st1 := .int r :: [.int r]) hx hb hml hown hts hl ((od, OU cJ g) :: WC') WM WM' [] hP0 hK1 hD0 hS (fun _ h => h) hN hM iv_X9_hidden wd_879 0 hqM rfl (sw.mm sw') rfl ⟨Nat.le_of_ble_eq_true rfl, Nat.le_of_ble_eq_true rfl⟩ (Nat.le_of_ble_eq_true rfl) hf dL_law_1204 rfl rfl (fun H locs hP hD hS => ?_)
  rw [List.append_nil] at hP hD
  exact lv_icmp_eq (tgt := 1280) hx hb dL_law_1207 (by decide) (fun _ => nx H locs ls g WC' WM' k' sw' hP hD hS hl) (fun q => absurd rfl q)
set_option maxHeartbeats 4000000 in
set_option maxRecDepth 100000 in
theorem k_suspect (X : LX p l s m args c D cI cJ b L xs) (hL : L ≤ 2048) (hk : 4 * k + 3 < L) (sw : SW ad bd cI WC WM mt) (hP : va_P D vwCl (((od, OU cJ g) :: WC) ++ WM) H) (hD : va_D (fun q => s.heap.size ≤ q) (((od, OU cJ g) :: WC) ++ WM)) (hS : va_S (fun q => s.heap.size ≤ q) s.heap H locs) (hl : lv_has ls 9 (lvL ad bd b od k)) (hf : cells + 1 ≤ 1059 ∧ slots + 6 ≤ 28332) (nx : NX p l e s m args below meth c Q D cI cJ ad bd b od k 1280 (cells + 1) (slots + 6)) : W p l e room_1 s m args below meth c H locs cells slots Q (F0 m 1212 ls []) := by
  obtain ⟨⟨hx, hb, hml, hown⟩, hts, hK, ⟨hN, hX, hY⟩, hXs, hbl, hnt⟩ := id X
  have hK1 : va_K D vwCl [(cI, .int)] s := hK.sub [0] rfl
  obtain ⟨fsC, hqC⟩ := sw.c0
  obtain ⟨fsM, hqM⟩ := sw.m0
  obtain ⟨r, WC', WM', k', hC, hM, sw'⟩ := v_suspect sw l D
  refine W.widen (k := cells + 1) (n := slots + 6) (by omega) (by omega) ?_
  refine lv_aload_n hx hb dL_law_1212 rfl (lv_at hl 3 rfl) ?_
  refine nd_callVW (As := []) (rest := []) (st1 := [.int r]) hx hb hml hown hts hl [(od, OU cJ g)] WC WC' WM hP hK1 hD hS (fun _ h => h) hN hC iv_X8_suspect wd_890 0 hqC rfl (sw.cc sw') rfl ⟨Nat.le_of_ble_eq_true rfl, Nat.le_of_ble_eq_true rfl⟩ (Nat.le_of_ble_eq_true rfl) hf dL_law_1213 rfl rfl (fun H locs hP hD hS => ?_)
  have hP0 : va_P D vwCl (((od, OU cJ g) :: WC') ++ WM ++ []) H := by rw [List.append_nil]; exact hP
  have hD0 : va_D (fun q => s.heap.size ≤ q) (((od, OU cJ g) :: WC') ++ WM ++ []) := by rw [List.append_nil]; exact hD
  refine lv_aload_n hx hb dL_law_1216 rfl (lv_at hl 2 rfl) ?_
  refine nd_callVW (As := []) (rest := [.int r]) (st1 := .int r :: [.int r]) hx hb hml hown hts hl ((od, OU cJ g) :: WC') WM WM' [] hP0 hK1 hD0 hS (fun _ h => h) hN hM iv_X9_suspect wd_901 0 hqM rfl (sw.mm sw') rfl ⟨Nat.le_of_ble_eq_true rfl, Nat.le_of_ble_eq_true rfl⟩ (Nat.le_of_ble_eq_true rfl) hf dL_law_1217 rfl rfl (fun H locs hP hD hS => ?_)
  rw [List.append_nil] at hP hD
  exact lv_icmp_eq (tgt := 1280) hx hb dL_law_1220 (by decide) (fun _ => nx H locs ls g WC' WM' k' sw' hP hD hS hl) (fun q => absurd rfl q)
set_option maxHeartbeats 4000000 in
set_option maxRecDepth 100000 in
theorem k_rightShare (X : LX p l s m args c D cI cJ b L xs) (hL : L ≤ 2048) (hk : 4 * k + 3 < L) (sw : SW ad bd cI WC WM mt) (hP : va_P D vwCl (((od, OU cJ g) :: WC) ++ WM) H) (hD : va_D (fun q => s.heap.size ≤ q) (((od, OU cJ g) :: WC) ++ WM)) (hS : va_S (fun q => s.heap.size ≤ q) s.heap H locs) (hl : lv_has ls 9 (lvL ad bd b od k)) (hf : cells + 1 ≤ 1059 ∧ slots + 6 ≤ 28332) (nx : NX p l e s m args below meth c Q D cI cJ ad bd b od k 1280 (cells + 1) (slots + 6)) : W p l e room_1 s m args below meth c H locs cells slots Q (F0 m 1225 ls []) := by
  obtain ⟨⟨hx, hb, hml, hown⟩, hts, hK, ⟨hN, hX, hY⟩, hXs, hbl, hnt⟩ := id X
  have hK1 : va_K D vwCl [(cI, .int)] s := hK.sub [0] rfl
  obtain ⟨fsC, hqC⟩ := sw.c0
  obtain ⟨fsM, hqM⟩ := sw.m0
  obtain ⟨r, WC', WM', k', hC, hM, sw'⟩ := v_rightShare sw l D
  refine W.widen (k := cells + 1) (n := slots + 6) (by omega) (by omega) ?_
  refine lv_aload_n hx hb dL_law_1225 rfl (lv_at hl 3 rfl) ?_
  refine nd_callVW (As := []) (rest := []) (st1 := [.double r]) hx hb hml hown hts hl [(od, OU cJ g)] WC WC' WM hP hK1 hD hS (fun _ h => h) hN hC iv_X8_rightShare wd_909 0 hqC rfl (sw.cc sw') rfl ⟨Nat.le_of_ble_eq_true rfl, Nat.le_of_ble_eq_true rfl⟩ (Nat.le_of_ble_eq_true rfl) hf dL_law_1226 rfl rfl (fun H locs hP hD hS => ?_)
  have hP0 : va_P D vwCl (((od, OU cJ g) :: WC') ++ WM ++ []) H := by rw [List.append_nil]; exact hP
  have hD0 : va_D (fun q => s.heap.size ≤ q) (((od, OU cJ g) :: WC') ++ WM ++ []) := by rw [List.append_nil]; exact hD
  refine lv_dstore (lv' := (5, .double r) :: lvL ad bd b od k) hx hb dL_law_1229 hl (by decide) rfl (fun ls hl => ?_)
  refine lv_aload_n hx hb dL_law_1231 rfl (lv_at hl 3 rfl) ?_
  refine nd_callVW (As := []) (rest := []) (st1 := .double r :: []) hx hb hml hown hts hl ((od, OU cJ g) :: WC') WM WM' [] hP0 hK1 hD0 hS (fun _ h => h) hN hM iv_X9_rightShare wd_918 0 hqM rfl (sw.mm sw') rfl ⟨Nat.le_of_ble_eq_true rfl, Nat.le_of_ble_eq_true rfl⟩ (Nat.le_of_ble_eq_true rfl) hf dL_law_1232 rfl rfl (fun H locs hP hD hS => ?_)
  rw [List.append_nil] at hP hD
  refine lv_dstore (lv' := (7, .double r) :: (5, .double r) :: lvL ad bd b od k) hx hb dL_law_1235 hl (by decide) rfl (fun ls hl => ?_)
  have fin : W p l e room_1 s m args below meth c H locs (cells + 1) (slots + 6) Q (F0 m 1263 ls []) := lv_goto (tgt := 1280) hx hb dL_law_1263 (by decide) (nx H locs ls g WC' WM' k' sw' hP hD hS (lv_sub hl [2, 3, 4, 5, 6] rfl))
  refine lv_dload hx hb dL_law_1237 (lv_at hl 1 rfl) ?_
  refine lv_dload hx hb dL_law_1239 (lv_at hl 0 rfl) ?_
  refine lv_dcmp hx hb dL_law_1241 ?_
  refine lv_if_eq (tgt := 1263) hx hb dL_law_1242 (by decide) (fun _ => fin) (fun ne => ?_)
  refine lv_dload hx hb dL_law_1245 (lv_at hl 1 rfl) ?_
  refine lv_dload hx hb dL_law_1247 (lv_at hl 1 rfl) ?_
  refine lv_dcmp hx hb dL_law_1249 ?_
  refine lv_if_eq (tgt := 1261) hx hb dL_law_1250 (by decide) (fun q => absurd q ne) (fun _ => ?_)
  refine lv_dload hx hb dL_law_1253 (lv_at hl 0 rfl) ?_
  refine lv_dload hx hb dL_law_1255 (lv_at hl 0 rfl) ?_
  refine lv_dcmp hx hb dL_law_1257 ?_
  exact lv_if_ne (tgt := 1263) hx hb dL_law_1258 (by decide) (fun _ => fin) (fun q => absurd q ne)
set_option maxHeartbeats 4000000 in
set_option maxRecDepth 100000 in
theorem k_digest (X : LX p l s m args c D cI cJ b L xs) (hL : L ≤ 2048) (hk : 4 * k + 3 < L) (sw : SW ad bd cI WC WM mt) (hP : va_P D vwCl (((od, OU cJ g) :: WC) ++ WM) H) (hD : va_D (fun q => s.heap.size ≤ q) (((od, OU cJ g) :: WC) ++ WM)) (hS : va_S (fun q => s.heap.size ≤ q) s.heap H locs) (hl : lv_has ls 9 (lvL ad bd b od k)) (hf : cells + 1 ≤ 1059 ∧ slots + 6 ≤ 28332) (nx : NX p l e s m args below meth c Q D cI cJ ad bd b od k 1280 (cells + 1) (slots + 6)) : W p l e room_1 s m args below meth c H locs cells slots Q (F0 m 1266 ls []) := by
  obtain ⟨⟨hx, hb, hml, hown⟩, hts, hK, ⟨hN, hX, hY⟩, hXs, hbl, hnt⟩ := id X
  have hK1 : va_K D vwCl [(cI, .int)] s := hK.sub [0] rfl
  obtain ⟨fsC, hqC⟩ := sw.c0
  obtain ⟨fsM, hqM⟩ := sw.m0
  obtain ⟨r, WC', WM', k', hC, hM, sw'⟩ := v_digest sw l D
  refine W.widen (k := cells + 1) (n := slots + 6) (by omega) (by omega) ?_
  refine lv_aload_n hx hb dL_law_1266 rfl (lv_at hl 3 rfl) ?_
  refine nd_callVW (As := []) (rest := []) (st1 := [.long r]) hx hb hml hown hts hl [(od, OU cJ g)] WC WC' WM hP hK1 hD hS (fun _ h => h) hN hC iv_X8_digest wd_926 0 hqC rfl (sw.cc sw') rfl ⟨Nat.le_of_ble_eq_true rfl, Nat.le_of_ble_eq_true rfl⟩ (Nat.le_of_ble_eq_true rfl) hf dL_law_1267 rfl rfl (fun H locs hP hD hS => ?_)
  have hP0 : va_P D vwCl (((od, OU cJ g) :: WC') ++ WM ++ []) H := by rw [List.append_nil]; exact hP
  have hD0 : va_D (fun q => s.heap.size ≤ q) (((od, OU cJ g) :: WC') ++ WM ++ []) := by rw [List.append_nil]; exact hD
  refine lv_aload_n hx hb dL_law_1270 rfl (lv_at hl 2 rfl) ?_
  refine nd_callVW (As := []) (rest := [.long r]) (st1 := .long r :: [.long r]) hx hb hml hown hts hl ((od, OU cJ g) :: WC') WM WM' [] hP0 hK1 hD0 hS (fun _ h => h) hN hM iv_X9_digest wd_974 0 hqM rfl (sw.mm sw') rfl ⟨Nat.le_of_ble_eq_true rfl, Nat.le_of_ble_eq_true rfl⟩ (Nat.le_of_ble_eq_true rfl) hf dL_law_1271 rfl rfl (fun H locs hP hD hS => ?_)
  rw [List.append_nil] at hP hD
  refine W.lcmp hx hb dL_law_1274 ?_
  rw [lg_self]
  exact lv_if_eq (tgt := 1280) hx hb dL_law_1275 (by decide) (fun _ => nx H locs ls g WC' WM' k' sw' hP hD hS hl) (fun q => absurd rfl q)
end CASES
