/-! The law's helpers: the ground. -/
theorem mid_at {wl wc wr : va_W} {i : Nat} {q : Nat × va_E} (h : wc[i]? = some q) : (wl ++ wc ++ wr)[wl.length + i]? = some q := by
  have hi := (List.getElem?_eq_some_iff.mp h).1
  rw [List.append_assoc, List.getElem?_append_right (by omega), show wl.length + i - wl.length = i by omega, List.getElem?_append_left hi, h]
theorem mid_P {D : va_G} {wl wc wr : va_W} {H : Heap} (hP : va_P D vwCl (wl ++ wc ++ wr) H) : va_P D vwCl wc H := fun _ q h => hP _ q (mid_at h)
theorem mid_D {A : Nat → Prop} {wl wc wr : va_W} (hD : va_D A (wl ++ wc ++ wr)) : va_D A wc := ⟨fun i j p q hi hj e => by
  have := hD.1 _ _ p q (mid_at (wl := wl) (wr := wr) hi) (mid_at (wl := wl) (wr := wr) hj) e
  omega, fun _ q h => hD.2 _ q (mid_at h)⟩
theorem mid_f {A0 : Nat → Prop} {wl wc wr : va_W} {s : State} {H : Heap} {locs : List Loc} (hD : va_D A0 (wl ++ wc ++ wr)) (hS : va_S A0 s.heap H locs) (hA : ∀ q, s.heap.size ≤ q → A0 q) : ∀ q, va_A wc H.size q → A0 q := nd_free (mid_D hD) hS hA
theorem mid_keep {D : va_G} {A0 : Nat → Prop} {wl wc wr w1 : va_W} {H H1 : Heap} (hP : va_P D vwCl (wl ++ wc ++ wr) H) (hD : va_D A0 (wl ++ wc ++ wr)) (hk : ∀ q : Nat, q < H.size → ¬ va_A wc H.size q → H1[q]? = H[q]?) (hP1 : va_P D vwCl w1 H1) : va_P D vwCl (wl ++ w1 ++ wr) H1 := by
  have key : ∀ (k : Nat) (x : Nat × va_E), (wl ++ wc ++ wr)[k]? = some x → (k < wl.length ∨ wl.length + wc.length ≤ k) → H1[x.1]? = H[x.1]? := fun k x hx hk2 => hk _ (hP k x hx).lt (fun h => by
    rcases h with ⟨j, e, h⟩ | h
    · have h2 := mid_at (wl := wl) (wr := wr) h
      have h3 := hD.1 k _ x (x.1, e) hx h2 rfl
      have h4 := (List.getElem?_eq_some_iff.mp h).1
      omega
    · have := (hP k x hx).lt
      omega)
  have al : ∀ (k : Nat) (x : Nat × va_E), wl[k]? = some x → (wl ++ wc ++ wr)[k]? = some x ∧ k < wl.length := fun k x h => by
    have hi := (List.getElem?_eq_some_iff.mp h).1
    exact ⟨by rw [List.append_assoc, List.getElem?_append_left hi, h], hi⟩
  have ar : ∀ (k : Nat) (x : Nat × va_E), wr[k]? = some x → (wl ++ wc ++ wr)[wl.length + wc.length + k]? = some x := fun k x h => by
    rw [List.getElem?_append_right (by rw [List.length_append]; omega), List.length_append, show wl.length + wc.length + k - (wl.length + wc.length) = k by omega, h]
  have hl : va_P D vwCl wl H1 := va_P.kept (H := H) (fun k x h => hP k x (al k x h).1) (fun k x h => key k x (al k x h).1 (Or.inl (al k x h).2))
  have hr : va_P D vwCl wr H1 := va_P.kept (H := H) (fun k x h => hP _ x (ar k x h)) (fun k x h => key _ x (ar k x h) (Or.inr (by omega)))
  exact va_P.app (va_P.app hl hP1) hr
theorem mid_D1 {A : Nat → Prop} {wl wc wr w1 : va_W} (hD : va_D A (wl ++ wc ++ wr)) (h : w1.map (·.1) = wc.map (·.1)) : va_D A (wl ++ w1 ++ wr) := nd_D (by simp only [List.map_append, h]) hD
/-- classes that are no subclass of another -/
def nd_Y (U : State) : Prop := va_Nc "java/lang/IllegalStateException" "java/lang/IllegalArgumentException" U ∧ va_Nc "java/lang/IllegalArgumentException" "java/lang/IndexOutOfBoundsException" U ∧ va_Nc "java/lang/IllegalStateException" "java/lang/IndexOutOfBoundsException" U
theorem nd_Y.warm {s U : State} (hW : s.WarmedH U.vm) (h : nd_Y s) : nd_Y U := ⟨va_Nc.moved hW.alike h.1, va_Nc.moved hW.alike h.2.1, va_Nc.moved hW.alike h.2.2⟩
theorem nd_Y.same {s U : State} (hv : s.vm = U.vm) (h : nd_Y s) : nd_Y U := ⟨va_Nc.moved (hv ▸ Vm.Alike.refl s.vm) h.1, va_Nc.moved (hv ▸ Vm.Alike.refl s.vm) h.2.1, va_Nc.moved (hv ▸ Vm.Alike.refl s.vm) h.2.2⟩
def wyH (y : MethodName) (cc : ByteArray) (n : Nat) (hh : List (Nat × Nat × Nat × Nat)) : List Cond := .codeWith y cc n (some .int) hh :: wsL_law
theorem wyH_S {own : String} {idx : Nat} {y : MethodName} {cc : ByteArray} {n : Nat} {hh : List (Nat × Nat × Nat × Nat)} (h1 : Cond.methodLink own idx y ∈ wsL_law) (h2 : Cond.static y ∈ wsL_law) (h4 : Cond.initialized y.cls ∈ wsL_law) (h5 : Cond.codeWith y cc n (some .int) hh ∈ wsL_law) : GoodIn wsL_law (va_wsS own idx y (wyH y cc n hh)) := by
  intro w hw
  unfold va_wsS at hw
  rcases List.mem_append.mp hw with h | h
  · simp only [List.mem_cons, List.not_mem_nil, or_false] at h
    rcases h with rfl | rfl | rfl
    · exact aw_in h1
    · exact aw_in h2
    · exact aw_in h4
  · rcases List.mem_cons.mp h with rfl | h
    · exact aw_in h5
    · exact aw_in h
def nd_PH (D : va_G) (W0 : va_W) (tys : nd_T) (sz : Nat) (U : State) : Prop := nd_PX D W0 tys sz U ∧ nd_Y U
abbrev OU (cJ : ClassId) (g : Nat → Int64) : va_E := .inl (cJ, 1, .inr (.inl g))
def rmH : Room := ⟨9, 1, 6, 200⟩
/-- the contract of a helper of the law: it answers k -/
def nd_H (l : Launch) (y : MethodName) (cc : ByteArray) (n : Nat) (hh : List (Nat × Nat × Nat × Nat)) (D : va_G) (cI cJ : ClassId) (od : Nat) (g : Nat → Int64) (as : List Value) (W0 : va_W) (PX : va_W → (Nat → Int64) → Prop) (k : Int32) : Prop :=
  ∀ sz : Nat, Met l y (wyH y cc n hh) rmH (va_Pc as (nd_PH D ((od, OU cJ g) :: W0) [(cI, .int), (cJ, .long)] sz)) (va_Qi (fun r (u : va_W × (Nat → Int64)) => r = k ∧ PX u.1 u.2 ∧ u.1.map (·.1) = W0.map (·.1)) (fun u t => va_P D vwCl ((od, OU cJ u.2) :: u.1) t.heap) (va_A ((od, OU cJ g) :: W0) sz)) 1 6 (va_A ((od, OU cJ g) :: W0) sz)
theorem nd_blindH {as : List Value} {D : va_G} {W0 : va_W} {tys : nd_T} {sz : Nat} : FrameBlind (va_Pc as (nd_PH D W0 tys sz)) := fun a U g mk q => by
  obtain ⟨q0, q1, q2⟩ := q
  exact ⟨q0, (nd_blindX (as := as) a U g mk ⟨q0, q1⟩).2, nd_Y.same (s := U) (U := U.calling g mk a) rfl q2⟩
section NDH
variable {p : Program} {l : Launch} {e : Env} {R : Room} {s : State} {m : MethodId} {args : Array Value} {below : List Frame} {meth : Method} {c : Code} {H : Heap} {locs : List Loc} {cells slots : Nat} {Q : State → Prop}
variable {cc bytes : ByteArray} {nL maxL n idx fr lo : Nat} {ret : Option FieldType} {D : va_G} {tys : nd_T} {As rest st0 st1 : List Value} {W0 W1 wl wr : va_W} {v : Option Value} {own C : String} {y : MethodName} {b : Nat} {A0 : Nat → Prop} {pc k : Nat} {ls : Array Slot} {lv : List (Nat × Value)}
/-- behind a call that speaks of a part of the world -/
theorem nd_backW {a : Array Value} (hr : va_Run p l e R s m args below meth c H locs cells slots 0 0 (F0 m pc ls st0) rest (nd_Q D W0 W1 H.size v a) (va_A W0 H.size)) (hP : va_P D vwCl (wl ++ W0 ++ wr) H) (hD : va_D A0 (wl ++ W0 ++ wr)) (hS : va_S A0 s.heap H locs) (hA : ∀ q, s.heap.size ≤ q → A0 q) (hsame : W1.map (·.1) = W0.map (·.1)) (hst1 : st1 = v.toList ++ rest)
    (kk : ∀ (H1 : Heap) (locs1 : List Loc), va_P D vwCl (wl ++ W1 ++ wr) H1 → va_D A0 (wl ++ W1 ++ wr) → va_S A0 s.heap H1 locs1 → W p l e R s m args below meth c H1 locs1 cells slots Q (F0 m (pc + 3) ls st1)) : W p l e R s m args below meth c H locs cells slots Q (F0 m pc ls st0) := by
  intro T hT X
  obtain ⟨v', st₀, t, T', L, h0, X', hL, e1, e2, ⟨⟨hv, hp⟩, hz, hk⟩, st⟩ := hr T hT X
  cases hv
  rw [h0] at hz hk
  have hf := mid_f (wc := W0) hD hS hA
  subst hst1
  obtain ⟨t2, a1, b1⟩ := kk T'.heap (locs ++ L) (mid_keep hP hD (fun q h1 h2 => by rw [e1]; exact hk q h1 h2) (by rw [e1]; exact hp)) (mid_D1 hD hsame)
    ⟨Nat.le_trans hS.1 (by rw [e1]; exact hz), fun q h1 h2 => by rw [e1, hk q (Nat.lt_of_lt_of_le h1 hS.1) (fun z => h2 (hf q z))]; exact hS.2.1 q h1 h2, fun q hq => by
      rcases List.mem_append.mp hq with h | h
      · exact hS.2.2 q h
      · exact hf _ (hL q h)⟩ T' rfl X'
  exact ⟨t2, st t2 a1, b1⟩
theorem nd_callVW (hx : p.tables.exec = Jvm.exec) (hb : c.code = cc) (hml : c.maxLocals = nL) (hown : s.vm.findClass own = some m.cls) (hts : ∀ w ∈ wsL_law, w.before args s = true) (hl : lv_has ls nL lv) (wl W0 W1 wr : va_W) (hP : va_P D vwCl (wl ++ W0 ++ wr) H) (hK : va_K D vwCl tys s) (hD : va_D A0 (wl ++ W0 ++ wr)) (hS : va_S A0 s.heap H locs) (hA : ∀ q, s.heap.size ≤ q → A0 q) (hN : nd_N s)
    (hC : nd_C l y bytes maxL ret fr lo D tys (.ref b :: As) W0 W1 v) (cal : nd_iv y C bytes maxL ret n) (lk : Cond.methodLink own idx y ∈ wsL_law) (q0 : Nat) {ci : Nat} {fs : List Value} {T : u_T} {N : Nat} (hq : W0[q0]? = some (b, .inr (ci, fs))) (hc : vwCl[ci]? = some (C, T, N)) (hsame : W1.map (·.1) = W0.map (·.1)) (hn : As.length = n)
    (room : fr + 1 ≤ R.frames ∧ 8 + (maxL + 11) + lo ≤ R.locals) (hW : (rest.map fun v => v.category).sum ≤ 8) (hf : cells ≤ R.cells ∧ slots ≤ R.slots) (hdg : decode cc pc = .ok (.invokevirtual idx, 3)) (hst : st0 = As.reverse ++ .ref b :: rest) (hst1 : st1 = v.toList ++ rest)
    (kk : ∀ (H1 : Heap) (locs1 : List Loc), va_P D vwCl (wl ++ W1 ++ wr) H1 → va_D A0 (wl ++ W1 ++ wr) → va_S A0 s.heap H1 locs1 → W p l e R s m args below meth c H1 locs1 cells slots Q (F0 m (pc + 3) ls st1)) : W p l e R s m args below meth c H locs cells slots Q (F0 m pc ls st0) := by
  obtain ⟨hd, h2, h3, h4, h5⟩ := cal
  exact nd_backW (va_runV (Ts := wsL_law) (own := own) (C := C) (n := n) (As := As) (rest := rest) ⟨hx, hb, hml, hown, hts⟩ (hC H.size) (cwV (ws' := wsL_law) n hts (wy_V lk h2 h3 h4 h5) rfl rfl rfl hd room) ⟨nd_blind, va_recv hK (mid_P hP) hc hq, nd_pre (mid_P hP) hK (mid_D hD) hN⟩ rfl hn hl.1 hst (lv_room hW) hdg hf) hP hD hS hA hsame hst1 kk
/-- a call that throws, and is caught here -/
theorem nd_callXW {PW : va_W → Prop} (hx : p.tables.exec = Jvm.exec) (hb : c.code = cc) (hml : c.maxLocals = nL) (hown : s.vm.findClass own = some m.cls) (hts : ∀ w ∈ wsL_law, w.before args s = true) (hl : lv_has ls nL lv) (wl W0 wr : va_W) (hP : va_P D vwCl (wl ++ W0 ++ wr) H) (hK : va_K D vwCl tys s) (hD : va_D A0 (wl ++ W0 ++ wr)) (hS : va_S A0 s.heap H locs) (hA : ∀ q, s.heap.size ≤ q → A0 q) (hN : nd_N s) (hX : nd_X A0 s s.heap)
    (hC : nd_CX l y bytes maxL ret fr lo D tys (.ref b :: As) W0 PW k) (cal : nd_iv y C bytes maxL ret n) (lk : Cond.methodLink own idx y ∈ wsL_law) (q0 : Nat) {ci : Nat} {fs : List Value} {T : u_T} {N : Nat} (hq : W0[q0]? = some (b, .inr (ci, fs))) (hc : vwCl[ci]? = some (C, T, N)) (hn : As.length = n)
    (room : fr + 1 ≤ R.frames ∧ 8 + (maxL + 11) + lo ≤ R.locals) (hW : (rest.map fun v => v.category).sum ≤ 8) (hf : cells + 1 ≤ R.cells ∧ slots + 6 ≤ R.slots) (hdg : decode cc pc = .ok (.invokevirtual idx, 3)) (hst : st0 = As.reverse ++ .ref b :: rest)
    (pre : List ExceptionTableEntry) (x : ExceptionTableEntry) (suf : List ExceptionTableEntry) (hsplit : c.exceptionTable.toList = pre ++ x :: suf)
    (hpass : ∀ z ∈ pre, covers z pc = false ∨ (z.catchType ≠ 0 ∧ ∃ nm : String, (Cond.classLink own z.catchType nm).before args s = true ∧ va_Nc (exn k) nm s)) (hcov : covers x pc = true) (h0 : x.catchType ≠ 0)
    (hlink : (Cond.classLink own x.catchType (exn k)).before args s = true) (hcast : (Cond.castable (exn k) (exn k)).before args s = true)
    (kk : ∀ (q : Nat) (W1 : va_W) (H1 : Heap) (locs1 : List Loc), PW W1 → va_P D vwCl (wl ++ W1 ++ wr) H1 → va_S A0 s.heap H1 locs1 → W p l e R s m args below meth c H1 locs1 (cells + 1) (slots + 6) Q (F0 m x.handlerPc ls [.ref q])) : W p l e R s m args below meth c H locs cells slots Q (F0 m pc ls st0) := by
  obtain ⟨hd, h2, h3, h4, h5⟩ := cal
  have hf0 := mid_f (wc := W0) hD hS hA
  have hr := vx_runV (Ts := wsL_law) (own := own) (C := C) (n := n) (As := As) (rest := rest) (locs := locs) (cells := cells) (slots := slots) (H := H) (g := F0 m pc ls st0) (mc := 1) (ms := 6) (below := below) (e := e) (meth := meth) ⟨hx, hb, hml, hown, hts⟩ (hC H.size) (cwV (ws' := wsL_law) n hts (wy_V lk h2 h3 h4 h5) rfl rfl rfl hd room) ⟨nd_blindX, va_recv hK (mid_P hP) hc hq, fun U hU hW => ⟨rfl, (nd_pre (as := .ref b :: As) (mid_P hP) hK (mid_D hD) hN U hU hW).2, by rw [hU]; exact hX.warm hS.2.1 hW hf0⟩⟩ rfl hn hl.1 hst (lv_room hW) hdg hf
  intro T hT X
  rcases hr T hT X with ⟨v, st₀, t, T', L, h0, X', hL, e1, e2, hF, st⟩ | ⟨q, st₀, t, T', L, E, ce, h0', X', hL, e1, e2, ⟨⟨hE, W9, hw, hp⟩, hz, hk⟩, hce, hcv, hcl, st⟩
  · exact hF.elim
  · rw [h0'] at hz hk
    subst hE
    obtain ⟨t2, a1, b1⟩ := vx_catch (p := p) (l := l) (e := e) (R := R) (below := below) (meth := meth) (H := T'.heap) (locs := locs ++ L) (cells := cells + 1) (slots := slots + 6) (Q := Q) (pc := pc) (ls := ls) (rest := rest) hown pre x suf hsplit hpass hcov h0 hlink hcast (by rw [e1]; exact hce) hcv hcl
      (kk q W9 T'.heap (locs ++ L) hw (mid_keep hP hD (fun q h1 h2 => by rw [e1]; exact hk q h1 h2) (by rw [e1]; exact hp)) ⟨Nat.le_trans hS.1 (by rw [e1]; exact hz), fun q h1 h2 => by rw [e1, hk q (Nat.lt_of_lt_of_le h1 hS.1) (fun z => h2 (hf0 q z))]; exact hS.2.1 q h1 h2, fun z hz => by
        rcases List.mem_append.mp hz with h | h
        · exact hS.2.2 z h
        · exact hf0 _ (hL z h)⟩) T' rfl X'
    exact ⟨t2, st.trans a1, b1⟩
/-- a call of a helper -/
theorem nd_callH {hh : List (Nat × Nat × Nat × Nat)} {cI cJ : ClassId} {od : Nat} {g : Nat → Int64} {PX : va_W → (Nat → Int64) → Prop} {k : Int32} (hx : p.tables.exec = Jvm.exec) (hb : c.code = cc) (hml : c.maxLocals = nL) (hown : s.vm.findClass own = some m.cls) (hts : ∀ w ∈ wsL_law, w.before args s = true) (hl : lv_has ls nL lv) (W0 wr : va_W) (hP : va_P D vwCl (((od, OU cJ g) :: W0) ++ wr) H) (hK : va_K D vwCl [(cI, .int), (cJ, .long)] s) (hD : va_D A0 (((od, OU cJ g) :: W0) ++ wr)) (hS : va_S A0 s.heap H locs) (hA : ∀ q, s.heap.size ≤ q → A0 q) (hN : nd_N s) (hX : nd_X A0 s s.heap) (hY : nd_Y s)
    (hC : nd_H l y bytes maxL hh D cI cJ od g As W0 PX k) (hd : y.cls ≠ "java/lang/invoke/MethodHandle" ∧ y.cls ≠ "java/lang/invoke/VarHandle" ∧ (parseMethodDescriptor y.desc).map (fun d => d.parameters.length) = some n) (h1 : Cond.methodLink own idx y ∈ wsL_law) (h2 : Cond.static y ∈ wsL_law) (h4 : Cond.initialized y.cls ∈ wsL_law) (h5 : Cond.codeWith y bytes maxL (some .int) hh ∈ wsL_law) (hn : As.length = n)
    (room : 9 + 1 ≤ R.frames ∧ 8 + (maxL + 11) + 200 ≤ R.locals) (hW : (rest.map fun v => v.category).sum ≤ 8) (hf : cells + 1 ≤ R.cells ∧ slots + 6 ≤ R.slots) (hdg : decode cc pc = .ok (.invokestatic idx, 3)) (hst : st0 = As.reverse ++ rest)
    (kk : ∀ (W1 : va_W) (g1 : Nat → Int64) (H1 : Heap) (locs1 : List Loc), PX W1 g1 → va_P D vwCl (((od, OU cJ g1) :: W1) ++ wr) H1 → va_D A0 (((od, OU cJ g1) :: W1) ++ wr) → va_S A0 s.heap H1 locs1 → W p l e R s m args below meth c H1 locs1 (cells + 1) (slots + 6) Q (F0 m (pc + 3) ls (.int k :: rest))) : W p l e R s m args below meth c H locs cells slots Q (F0 m pc ls st0) := by
  have hP' : va_P D vwCl ([] ++ ((od, OU cJ g) :: W0) ++ wr) H := hP
  have hD' : va_D A0 ([] ++ ((od, OU cJ g) :: W0) ++ wr) := hD
  have hf0 := mid_f (wc := (od, OU cJ g) :: W0) hD' hS hA
  refine va_calli (vx_runSW (Ts := wsL_law) (own := own) (n := n) (As := As) (rest := rest) ⟨hx, hb, hml, hown, hts⟩ (hC H.size) (vx_cwSW (ws' := wsL_law) n hts (wyH_S h1 h2 h4 h5) rfl rfl rfl hd room) ⟨nd_blindH, fun U hU hW => ⟨rfl, ⟨(nd_pre (as := As) (mid_P hP') hK (mid_D hD') hN U hU hW).2, by rw [hU]; exact hX.warm hS.2.1 hW hf0⟩, hY.warm hW⟩⟩ rfl hn hl.1 hst (lv_room hW) hdg hf) hS (fun q _ h => hf0 q h) hf0 (fun r u t H1 locs1 ht hvm hw hB hz hk hS1 => ?_)
  obtain ⟨W1, g1⟩ := u
  obtain ⟨rfl, hw, hsame⟩ := hw
  exact kk W1 g1 H1 locs1 hw (mid_keep hP' hD' hk (by rw [← ht]; exact hB)) (mid_D1 (w1 := (od, OU cJ g1) :: W1) hD' (by simp only [List.map_cons, hsame])) hS1
end NDH
