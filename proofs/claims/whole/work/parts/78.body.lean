/-! The law's body: the ground. -/
/-- what holds throughout the law's walk -/
def LX (p : Program) (l : Launch) (s : State) (m : MethodId) (args : Array Value) (c : Code) (D : va_G) (cI cJ : ClassId) (b L : Nat) (xs : Nat → Int32) : Prop :=
  (p.tables.exec = Jvm.exec ∧ c.code = cL_law ∧ c.maxLocals = 9 ∧ s.vm.findClass RL = some m.cls) ∧ (∀ w ∈ wsL_law, w.before args s = true) ∧ va_K D vwCl [(cI, .int), (cJ, .long)] s ∧ (nd_N s ∧ nd_X (fun q => s.heap.size ≤ q) s s.heap ∧ nd_Y s) ∧ va_X b L xs s s.heap ∧ b < s.heap.size ∧ l.stackTraces = false
/-- the locals in the loop -/
abbrev lvL (ad bd : Nat → Nat) (b od k : Nat) : List (Nat × Value) := [(4, .int (nI (4 * k))), (3, .ref od), (2, .ref (bd 0)), (1, .ref (ad 0)), (0, .ref b)]
/-- the law goes on from pc, whatever the two worlds are, as long as they tell the same -/
def NX (p : Program) (l : Launch) (e : Env) (s : State) (m : MethodId) (args : Array Value) (below : List Frame) (meth : Method) (c : Code) (Q : State → Prop) (D : va_G) (cI cJ : ClassId) (ad bd : Nat → Nat) (b od k pc cells slots : Nat) : Prop :=
  ∀ (H : Heap) (locs : List Loc) (ls : Array Slot) (g : Nat → Int64) (WC WM : va_W) (mt : Int32), SW ad bd cI WC WM mt → va_P D vwCl (((od, OU cJ g) :: WC) ++ WM) H → va_D (fun q => s.heap.size ≤ q) (((od, OU cJ g) :: WC) ++ WM) → va_S (fun q => s.heap.size ≤ q) s.heap H locs → lv_has ls 9 (lvL ad bd b od k) → W p l e room_1 s m args below meth c H locs cells slots Q (F0 m pc ls [])
theorem lg_self (x : Int64) : lg_cmp x x = 0 := by
  unfold lg_cmp
  simp
section BODY
variable {p : Program} {l : Launch} {e : Env} {R : Room} {s : State} {m : MethodId} {args : Array Value} {below : List Frame} {meth : Method} {c : Code} {H : Heap} {locs : List Loc} {cells slots : Nat} {Q : State → Prop}
variable {D : va_G} {cI cJ : ClassId} {b L od k pc : Nat} {xs : Nat → Int32} {ls : Array Slot} {rest : List Value} {ad bd : Nat → Nat} {WC WM : va_W} {g : Nat → Int64} {mt : Int32}
/-- script[i + j] -/
theorem lw_ld (X : LX p l s m args c D cI cJ b L xs) (hS : va_S (fun q => s.heap.size ≤ q) s.heap H locs) (h0 : ls[0]? = some (.val (.ref b))) (h4 : ls[4]? = some (.val (.int (nI (4 * k))))) (hL : L ≤ 2048) (j : Nat) {jz : Int} (hz : Int32.ofInt jz = nI j) (hin : 4 * k + j < L)
    (d0 : decode cL_law pc = .ok (.aload_n 0, 1)) (d1 : decode cL_law (pc + 1) = .ok (.iload 4, 2)) (d3 : decode cL_law (pc + 3) = .ok (.iconst jz, 1)) (d4 : decode cL_law (pc + 4) = .ok (.iadd, 1)) (d5 : decode cL_law (pc + 5) = .ok (.iaload, 1))
    (kk : W p l e R s m args below meth c H locs cells slots Q (F0 m (pc + 6) ls (.int (xs (4 * k + j)) :: rest))) : W p l e R s m args below meth c H locs cells slots Q (F0 m pc ls rest) := by
  obtain ⟨⟨hx, hb, hml, hown⟩, hts, hK, ⟨hN, hX, hY⟩, hXs, hbl, hnt⟩ := X
  refine lv_aload_n hx hb d0 rfl h0 ?_
  refine lv_iload hx hb d1 h4 ?_
  refine lv_iconst (v := nI j) hx hb d3 hz ?_
  refine lv_iadd hx hb d4 ?_
  rw [nI_add]
  refine va_sld hx hb hXs hbl (Nat.not_le.mpr hbl) hS (pk_in (4 * k + j) L hin rfl (by omega)) d5 ?_
  rw [nI_clamp (by omega)]
  exact kk
/-- the rows behind a helper's call and the reference's -/
abbrev tailT (pc : Nat) (off : Int) : List (Nat × Instr × Nat) := [(pc, .aload_n 2, 1), (pc + 1, .invokevirtual 77, 3), (pc + 4, .iload 5, 2), (pc + 6, .if_icmp .eq 5, 3), (pc + 11, .iload 5, 2), (pc + 13, .ifCond .ne 15, 3), (pc + 16, .aload_n 3, 1), (pc + 17, .iconst 0, 1), (pc + 18, .laload, 1), (pc + 19, .iload 6, 2), (pc + 21, .i2l, 1), (pc + 22, .lcmp, 1), (pc + 23, .ifCond .eq 5, 3), (pc + 28, .goto off, 3)]
theorem lw_tail {off : Int} {r kx : Int32} (X : LX p l s m args c D cI cJ b L xs) (sw : SW ad bd cI WC WM kx) (hP : va_P D vwCl (((od, OU cJ g) :: WC) ++ WM) H) (hD : va_D (fun q => s.heap.size ≤ q) (((od, OU cJ g) :: WC) ++ WM)) (hS : va_S (fun q => s.heap.size ≤ q) s.heap H locs) (hl : lv_has ls 9 ((6, .int r) :: (5, .int kx) :: lvL ad bd b od k)) (hv : kx = 0 → g 0 = r.toInt64) (hf : cells ≤ 1059 ∧ slots ≤ 28332)
    (dd : (tailT pc off).all (fun q => decide (decode cL_law q.1 = .ok q.2)) = true) (ht : ((pc + 28 : Nat) : Int) + off = (1280 : Nat))
    (nx : NX p l e s m args below meth c Q D cI cJ ad bd b od k 1280 cells slots) : W p l e room_1 s m args below meth c H locs cells slots Q (F0 m pc ls []) := by
  obtain ⟨⟨hx, hb, hml, hown⟩, hts, hK, ⟨hN, hX, hY⟩, hXs, hbl, hnt⟩ := X
  have hK1 : va_K D vwCl [(cI, .int)] s := hK.sub [0] rfl
  obtain ⟨fs, hq⟩ := sw.m0
  refine lv_aload_n hx hb (td dd 0 (q := (pc, .aload_n 2, 1)) rfl) rfl (lv_at hl 4 rfl) ?_
  have hP0 : va_P D vwCl (((od, OU cJ g) :: WC) ++ WM ++ []) H := by rw [List.append_nil]; exact hP
  have hD0 : va_D (fun q => s.heap.size ≤ q) (((od, OU cJ g) :: WC) ++ WM ++ []) := by rw [List.append_nil]; exact hD
  refine nd_callVW (As := []) (rest := []) (st1 := [.int kx]) hx hb hml hown hts hl ((od, OU cJ g) :: WC) WM WM [] hP0 hK1 hD0 hS (fun _ h => h) hN (sw.thr l D) iv_X9_thrown wd_143 0 hq rfl rfl rfl ⟨Nat.le_of_ble_eq_true rfl, Nat.le_of_ble_eq_true rfl⟩ (Nat.le_of_ble_eq_true rfl) hf (td dd 1 (q := (pc + 1, .invokevirtual 77, 3)) rfl) rfl rfl (fun H locs hP hD hS => ?_)
  rw [List.append_nil] at hP hD
  have fin : W p l e room_1 s m args below meth c H locs cells slots Q (F0 m (pc + 28) ls []) := lv_goto (tgt := 1280) hx hb (td dd 13 (q := (pc + 28, .goto off, 3)) rfl) ht (nx H locs ls g WC WM kx sw hP hD hS (lv_sub hl [2, 3, 4, 5, 6] rfl))
  refine lv_iload hx hb (td dd 2 (q := (pc + 4, .iload 5, 2)) rfl) (lv_at hl 1 rfl) ?_
  refine lv_icmp_eq (tgt := pc + 11) hx hb (td dd 3 (q := (pc + 6, .if_icmp .eq 5, 3)) rfl) (by omega) (fun _ => ?_) (fun q => absurd rfl q)
  refine lv_iload hx hb (td dd 4 (q := (pc + 11, .iload 5, 2)) rfl) (lv_at hl 1 rfl) ?_
  refine lv_if_ne (tgt := pc + 28) hx hb (td dd 5 (q := (pc + 13, .ifCond .ne 15, 3)) rfl) (by omega) (fun _ => fin) (fun q => ?_)
  have h0 : kx = 0 := q
  refine lv_aload_n hx hb (td dd 6 (q := (pc + 16, .aload_n 3, 1)) rfl) rfl (lv_at hl 3 rfl) ?_
  refine lv_iconst (v := (0 : Int32)) hx hb (td dd 7 (q := (pc + 17, .iconst 0, 1)) rfl) (by decide) ?_
  refine va_lald hx hb hK hP 0 1 rfl rfl in_01 (td dd 8 (q := (pc + 18, .laload, 1)) rfl) ?_
  refine lv_iload hx hb (td dd 9 (q := (pc + 19, .iload 6, 2)) rfl) (lv_at hl 0 rfl) ?_
  refine lv_i2l hx hb (td dd 10 (q := (pc + 21, .i2l, 1)) rfl) rfl ?_
  refine W.lcmp hx hb (td dd 11 (q := (pc + 22, .lcmp, 1)) rfl) ?_
  have e : lg_cmp (g (0 : Int32).toNatClampNeg) r.toInt64 = 0 := by
    rw [show (0 : Int32).toNatClampNeg = 0 from rfl, hv h0]
    exact lg_self _
  rw [e]
  exact lv_if_eq (tgt := pc + 28) hx hb (td dd 12 (q := (pc + 23, .ifCond .eq 5, 3)) rfl) (by omega) (fun _ => fin) (fun q => absurd rfl q)
end BODY
