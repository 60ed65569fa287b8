/-! The law's loop. -/
section CASES
variable {p : Program} {l : Launch} {e : Env} {s : State} {m : MethodId} {args : Array Value} {below : List Frame} {meth : Method} {c : Code} {H : Heap} {locs : List Loc} {cells slots : Nat} {Q : State → Prop}
variable {D : va_G} {cI cJ : ClassId} {b L od k : Nat} {xs : Nat → Int32} {ls : Array Slot} {ad bd : Nat → Nat} {WC WM : va_W} {g : Nat → Int64} {mt : Int32}
set_option maxHeartbeats 4000000 in
set_option maxRecDepth 100000 in
theorem lw_body (X : LX p l s m args c D cI cJ b L xs) (hL : L ≤ 2048) (hk : 4 * k + 3 < L) (sw : SW ad bd cI WC WM mt) (hP : va_P D vwCl (((od, OU cJ g) :: WC) ++ WM) H) (hD : va_D (fun q => s.heap.size ≤ q) (((od, OU cJ g) :: WC) ++ WM)) (hS : va_S (fun q => s.heap.size ≤ q) s.heap H locs) (hl : lv_has ls 9 (lvL ad bd b od k)) (hf : cells + 1 ≤ 1059 ∧ slots + 6 ≤ 28332) (nx : NX p l e s m args below meth c Q D cI cJ ad bd b od k 1280 (cells + 1) (slots + 6)) : W p l e room_1 s m args below meth c H locs cells slots Q (F0 m 32 ls []) := by
  obtain ⟨⟨hx, hb, hml, hown⟩, hts, hK, ⟨hN, hX, hY⟩, hXs, hbl, hnt⟩ := id X
  refine lv_aload_n hx hb dL_law_32 rfl (lv_at hl 4 rfl) ?_
  refine lv_iload hx hb dL_law_33 (lv_at hl 0 rfl) ?_
  refine va_sld hx hb hXs hbl (Nat.not_le.mpr hbl) hS (pk_in (4 * k) L (by omega) rfl (by omega)) dL_law_35 ?_
  refine lv_bipush (v := (31 : Int32)) hx hb dL_law_36 (by decide) ?_
  refine lv_iand hx hb dL_law_38 ?_
  obtain ⟨j, hj, e⟩ := pk_andE (xs (nI (4 * k)).toNatClampNeg) (m := (31 : Int32)) 5 (by decide)
  rw [e]
  by_cases hj23 : 23 ≤ j
  · refine lv_tableOut (tgt := 1280) hx hb dL_law_39 (Or.inr ?_) (by decide) ?_
    · rw [nI_toInt (by omega)]; omega
    · exact W.widen (k := cells + 1) (n := slots + 6) (by omega) (by omega) (nx H locs ls g WC WM mt sw hP hD hS hl)
  by_cases h0 : j = 0
  · subst h0
    exact lv_tableIn (off := 105) (tgt := 144) hx hb dL_law_39 (by decide) (by decide) rfl (by decide) (k_piece X hL hk sw hP hD hS hl hf nx)
  by_cases h1 : j = 1
  · subst h1
    exact lv_tableIn (off := 173) (tgt := 212) hx hb dL_law_39 (by decide) (by decide) rfl (by decide) (k_paste X hL hk sw hP hD hS hl hf nx)
  by_cases h2 : j = 2
  · subst h2
    exact lv_tableIn (off := 229) (tgt := 268) hx hb dL_law_39 (by decide) (by decide) rfl (by decide) (k_cut X hL hk sw hP hD hS hl hf nx)
  by_cases h3 : j = 3
  · subst h3
    exact lv_tableIn (off := 285) (tgt := 324) hx hb dL_law_39 (by decide) (by decide) rfl (by decide) (k_correct X hL hk sw hP hD hS hl hf nx)
  by_cases h4 : j = 4
  · subst h4
    exact lv_tableIn (off := 353) (tgt := 392) hx hb dL_law_39 (by decide) (by decide) rfl (by decide) (k_join X hL hk sw hP hD hS hl hf nx)
  by_cases h5 : j = 5
  · subst h5
    exact lv_tableIn (off := 421) (tgt := 460) hx hb dL_law_39 (by decide) (by decide) rfl (by decide) (k_part X hL hk sw hP hD hS hl hf nx)
  by_cases h6 : j = 6
  · subst h6
    exact lv_tableIn (off := 477) (tgt := 516) hx hb dL_law_39 (by decide) (by decide) rfl (by decide) (k_joinClear X hL hk sw hP hD hS hl hf nx)
  by_cases h7 : j = 7
  · subst h7
    exact lv_tableIn (off := 490) (tgt := 529) hx hb dL_law_39 (by decide) (by decide) rfl (by decide) (k_append X hL hk sw hP hD hS hl hf nx)
  by_cases h8 : j = 8
  · subst h8
    exact lv_tableIn (off := 546) (tgt := 585) hx hb dL_law_39 (by decide) (by decide) rfl (by decide) (k_clearBuffer X hL hk sw hP hD hS hl hf nx)
  by_cases h9 : j = 9
  · subst h9
    exact lv_tableIn (off := 559) (tgt := 598) hx hb dL_law_39 (by decide) (by decide) rfl (by decide) (k_firstError X hL hk sw hP hD hS hl hf nx)
  by_cases h10 : j = 10
  · subst h10
    exact lv_tableIn (off := 572) (tgt := 611) hx hb dL_law_39 (by decide) (by decide) rfl (by decide) (k_undo X hL hk sw hP hD hS hl hf nx)
  by_cases h11 : j = 11
  · subst h11
    exact lv_tableIn (off := 616) (tgt := 655) hx hb dL_law_39 (by decide) (by decide) rfl (by decide) (k_pieceOf X hL hk sw hP hD hS hl hf nx)
  by_cases h12 : j = 12
  · subst h12
    exact lv_tableIn (off := 684) (tgt := 723) hx hb dL_law_39 (by decide) (by decide) rfl (by decide) (k_receipt X hL hk sw hP hD hS hl hf nx)
  by_cases h13 : j = 13
  · subst h13
    exact lv_tableIn (off := 764) (tgt := 803) hx hb dL_law_39 (by decide) (by decide) rfl (by decide) (k_page X hL hk sw hP hD hS hl hf nx)
  by_cases h14 : j = 14
  · subst h14
    exact lv_tableIn (off := 832) (tgt := 871) hx hb dL_law_39 (by decide) (by decide) rfl (by decide) (k_line X hL hk sw hP hD hS hl hf nx)
  by_cases h15 : j = 15
  · subst h15
    exact lv_tableIn (off := 912) (tgt := 951) hx hb dL_law_39 (by decide) (by decide) rfl (by decide) (k_sum X hL hk sw hP hD hS hl hf nx)
  by_cases h16 : j = 16
  · subst h16
    exact lv_tableIn (off := 980) (tgt := 1019) hx hb dL_law_39 (by decide) (by decide) rfl (by decide) (k_count X hL hk sw hP hD hS hl hf nx)
  by_cases h17 : j = 17
  · subst h17
    exact lv_tableIn (off := 1036) (tgt := 1075) hx hb dL_law_39 (by decide) (by decide) rfl (by decide) (k_fits X hL hk sw hP hD hS hl hf nx)
  by_cases h18 : j = 18
  · subst h18
    exact lv_tableIn (off := 1104) (tgt := 1143) hx hb dL_law_39 (by decide) (by decide) rfl (by decide) (k_longest X hL hk sw hP hD hS hl hf nx)
  by_cases h19 : j = 19
  · subst h19
    exact lv_tableIn (off := 1160) (tgt := 1199) hx hb dL_law_39 (by decide) (by decide) rfl (by decide) (k_hidden X hL hk sw hP hD hS hl hf nx)
  by_cases h20 : j = 20
  · subst h20
    exact lv_tableIn (off := 1173) (tgt := 1212) hx hb dL_law_39 (by decide) (by decide) rfl (by decide) (k_suspect X hL hk sw hP hD hS hl hf nx)
  by_cases h21 : j = 21
  · subst h21
    exact lv_tableIn (off := 1186) (tgt := 1225) hx hb dL_law_39 (by decide) (by decide) rfl (by decide) (k_rightShare X hL hk sw hP hD hS hl hf nx)
  by_cases h22 : j = 22
  · subst h22
    exact lv_tableIn (off := 1227) (tgt := 1266) hx hb dL_law_39 (by decide) (by decide) rfl (by decide) (k_digest X hL hk sw hP hD hS hl hf nx)
  omega
set_option maxHeartbeats 4000000 in
theorem lw_loop (X : LX p l s m args c D cI cJ b L xs) (hL : L ≤ 2048) (hret : ∀ (H : Heap) (locs : List Loc) (ls : Array Slot) (cells slots : Nat), (∀ q ∈ locs, s.heap.size ≤ q.base) → cells ≤ 1059 → slots ≤ 28332 → W p l e room_1 s m args below meth c H locs cells slots Q (F0 m 1287 ls [.int 1])) : ∀ (d k : Nat), k + d = 512 → NX p l e s m args below meth c Q D cI cJ ad bd b od k 23 (22 + k) (20062 + 6 * k) := by
  obtain ⟨⟨hx, hb, hml, hown⟩, hts, hK, ⟨hN, hX, hY⟩, hXs, hbl, hnt⟩ := id X
  intro d
  induction d with
  | zero =>
    intro k hk H locs ls g WC WM mt sw hP hD hS hl
    refine lv_iload hx hb dL_law_23 (lv_at hl 0 rfl) ?_
    refine lv_aload_n hx hb dL_law_25 rfl (lv_at hl 4 rfl) ?_
    refine va_slen hx hb hXs hbl (Nat.not_le.mpr hbl) hS dL_law_26 ?_
    refine lv_iconst (v := (4 : Int32)) hx hb dL_law_27 (by decide) ?_
    refine lv_isub hx hb dL_law_28 ?_
    refine lv_icmp_gt (tgt := 1286) hx hb dL_law_29 (by decide) (fun _ => ?_) (fun q => ?_)
    · refine lv_iconst (v := (1 : Int32)) hx hb dL_law_1286 (by decide) ?_
      exact hret H locs ls _ _ hS.2.2 (by omega) (by omega)
    · refine absurd ?_ q
      show nI L - nI 4 < nI (4 * k)
      rw [Int32.lt_iff_toInt_lt, pk_sub_toInt (by omega) (by omega), nI_toInt (by omega)]
      omega
  | succ d ih =>
    intro k hk H locs ls g WC WM mt sw hP hD hS hl
    refine lv_iload hx hb dL_law_23 (lv_at hl 0 rfl) ?_
    refine lv_aload_n hx hb dL_law_25 rfl (lv_at hl 4 rfl) ?_
    refine va_slen hx hb hXs hbl (Nat.not_le.mpr hbl) hS dL_law_26 ?_
    refine lv_iconst (v := (4 : Int32)) hx hb dL_law_27 (by decide) ?_
    refine lv_isub hx hb dL_law_28 ?_
    refine lv_icmp_gt (tgt := 1286) hx hb dL_law_29 (by decide) (fun _ => ?_) (fun q => ?_)
    · refine lv_iconst (v := (1 : Int32)) hx hb dL_law_1286 (by decide) ?_
      exact hret H locs ls _ _ hS.2.2 (by omega) (by omega)
    · have q2 : ¬ (nI L - nI 4 < nI (4 * k)) := q
      rw [Int32.lt_iff_toInt_lt, pk_sub_toInt (by omega) (by omega), nI_toInt (by omega)] at q2
      refine lw_body X hL (by omega) sw hP hD hS hl ⟨by omega, by omega⟩ (fun H locs ls g WC WM mt sw hP hD hS hl => ?_)
      refine lv_iinc (k := 0) (v := nI (4 * (k + 1))) (lv' := lvL ad bd b od (k + 1)) hx hb dL_law_1280 hl rfl (nI_add (4 * k) 4) (by decide) rfl (fun ls hl => ?_)
      exact lv_goto (tgt := 23) hx hb dL_law_1283 (by decide) (ih (k + 1) (by omega) H locs ls g WC WM mt sw hP hD hS hl)
end CASES
