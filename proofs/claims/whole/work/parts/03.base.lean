/-! The ground of the walks: one word list for all methods, one form of contract, one row a call. -/
section
theorem aw_good : wsL_law.all goodWord = true := by decide +kernel
end
def wy (y : MethodName) (cc : ByteArray) (n : Nat) (ret : Option FieldType) : List Cond := .code y cc n ret :: wsL_law
theorem aw_in {w : Cond} (h : w ∈ wsL_law) : w ∈ wsL_law ∧ ((w.onTables && w.keeps) = true ∨ ∃ ty, w = .arrayClass ty) := ⟨h, good_of_word (List.all_eq_true.mp aw_good w h)⟩
theorem wy_good {y : MethodName} {cc : ByteArray} {n : Nat} {ret : Option FieldType} (h : Cond.code y cc n ret ∈ wsL_law) : GoodIn wsL_law (wy y cc n ret) := fun w hw => (List.mem_cons.mp hw).elim (fun e => by rw [e]; exact aw_in h) (fun h => aw_in h)
theorem wy_V {own C : String} {idx : Nat} {y : MethodName} {cc : ByteArray} {n : Nat} {ret : Option FieldType} (h1 : Cond.methodLink own idx y ∈ wsL_law) (h2 : Cond.instanceMethod y ∈ wsL_law) (h3 : Cond.selects C y y ∈ wsL_law) (h4 : Cond.initialized C ∈ wsL_law) (h5 : Cond.code y cc n ret ∈ wsL_law) : GoodIn wsL_law (wsV own idx C y (wy y cc n ret)) := by
  intro w hw
  unfold wsV at hw
  rcases List.mem_append.mp hw with h | h
  · simp only [List.mem_cons, List.not_mem_nil, or_false] at h
    rcases h with rfl | rfl | rfl | rfl
    · exact aw_in h1
    · exact aw_in h2
    · exact aw_in h3
    · exact aw_in h4
  · exact wy_good h5 w h
theorem wy_S {own : String} {idx : Nat} {y : MethodName} {cc : ByteArray} {n : Nat} {ret : Option FieldType} (h1 : Cond.methodLink own idx y ∈ wsL_law) (h2 : Cond.static y ∈ wsL_law) (h4 : Cond.initialized y.cls ∈ wsL_law) (h5 : Cond.code y cc n ret ∈ wsL_law) : GoodIn wsL_law (va_wsS own idx y (wy y cc n ret)) := by
  intro w hw
  unfold va_wsS at hw
  rcases List.mem_append.mp hw with h | h
  · simp only [List.mem_cons, List.not_mem_nil, or_false] at h
    rcases h with rfl | rfl | rfl
    · exact aw_in h1
    · exact aw_in h2
    · exact aw_in h4
  · exact wy_good h5 w h
/-- links between nest mates -/
def nd_N (U : State) : Prop := va_Nw (.methodLinkNest "NightDiary$Joining" 42 yX8_lowestOf "NightDiary") U ∧ va_Nw (.methodLinkNest "NightDiary$LongestRow" 87 yX8_lowestOf "NightDiary") U
theorem nd_N.warm {s U : State} (hW : s.WarmedH U.vm) (h : nd_N s) : nd_N U := ⟨va_Nw.warmM hW h.1, va_Nw.warmM hW h.2⟩
theorem nd_N.same {s U : State} (hv : s.vm = U.vm) (h : nd_N s) : nd_N U := ⟨va_Nw.same rfl hv h.1, va_Nw.same rfl hv h.2⟩
abbrev nd_T : Type := List (ClassId × FieldType)
/-- a contract's start: the cells of the world, apart -/
def nd_P (D : va_G) (W0 : va_W) (tys : nd_T) (sz : Nat) (U : State) : Prop := U.heap.size = sz ∧ va_P D vwCl W0 U.heap ∧ va_K D vwCl tys U ∧ va_D (fun _ => True) W0 ∧ nd_N U
/-- a contract's end: the answer, the new world, nothing else changed -/
def nd_Q (D : va_G) (W0 W1 : va_W) (sz : Nat) (v : Option Value) : Array Value → State → Outcome → State → Prop := fun _ st o t => (o = .returned v ∧ va_P D vwCl W1 t.heap) ∧ va_F (va_A W0 sz) st t
/-- the contract of a method that returns: v and the world W1 -/
def nd_C (l : Launch) (y : MethodName) (cc : ByteArray) (n : Nat) (ret : Option FieldType) (fr lo : Nat) (D : va_G) (tys : nd_T) (as : List Value) (W0 W1 : va_W) (v : Option Value) : Prop :=
  ∀ sz : Nat, Met l y (wy y cc n ret) ({ frames := fr, cells := 0, slots := 0, locals := lo }) (va_Pc as (nd_P D W0 tys sz)) (nd_Q D W0 W1 sz v) 0 0 (va_A W0 sz)
theorem nd_blind {as : List Value} {D : va_G} {W0 : va_W} {tys : nd_T} {sz : Nat} : FrameBlind (va_Pc as (nd_P D W0 tys sz)) := fun a U g mk q => by
  obtain ⟨q0, q1, qP, qK, qD, qN⟩ := q
  exact ⟨q0, q1, qP, va_K.moved (u := U) (U := U.calling g mk a) (Vm.Alike.refl U.vm) qK, qD, nd_N.same (s := U) (U := U.calling g mk a) rfl qN⟩
theorem nd_pre {as : List Value} {D : va_G} {W0 : va_W} {tys : nd_T} {A0 : Nat → Prop} {s : State} {H : Heap} (hP : va_P D vwCl W0 H) (hK : va_K D vwCl tys s) (hD : va_D A0 W0) (hN : nd_N s) : ∀ U : State, U.heap = H → s.WarmedH U.vm → va_Pc as (nd_P D W0 tys H.size) as.toArray U := fun U hU hW =>
  ⟨rfl, by rw [hU], by rw [hU]; exact hP, va_K.moved hW.alike hK, hD.weaken (fun _ _ _ _ => trivial), nd_N.warm hW hN⟩
theorem nd_D {A : Nat → Prop} {W0 W1 : va_W} (h : W1.map (·.1) = W0.map (·.1)) (hD : va_D A W0) : va_D A W1 := by
  have key : ∀ (k : Nat) (q : Nat × va_E), W1[k]? = some q → ∃ e, W0[k]? = some (q.1, e) := by
    intro k q hk
    have h1 : (W1.map (·.1))[k]? = some q.1 := by rw [List.getElem?_map, hk]; rfl
    rw [h, List.getElem?_map] at h1
    cases hw : W0[k]? with
    | none => rw [hw] at h1; cases h1
    | some z =>
      rw [hw] at h1
      have : z.1 = q.1 := Option.some.inj h1
      exact ⟨z.2, by rw [← this]⟩
  refine ⟨fun i j p q hi hj hpq => ?_, fun k q hk => ?_⟩
  · obtain ⟨e1, h1⟩ := key i p hi
    obtain ⟨e2, h2⟩ := key j q hj
    exact hD.1 i j _ _ h1 h2 hpq
  · obtain ⟨e1, h1⟩ := key k q hk
    exact hD.2 k (q.1, e1) h1
theorem nd_DD {A : Nat → Prop} {W0 W1 : va_W} (hD : va_D A W0) (h : W1.map (·.1) = W0.map (·.1)) : va_D A W1 := nd_D h hD
section ND
variable {p : Program} {l : Launch} {e : Env} {R : Room} {s : State} {m : MethodId} {args : Array Value} {below : List Frame} {meth : Method} {c : Code} {H : Heap} {locs : List Loc} {cells slots : Nat} {Q : State → Prop}
variable {cc bytes : ByteArray} {nL maxL n idx fr lo : Nat} {ret : Option FieldType} {D : va_G} {tys : nd_T} {As rest st0 st1 : List Value} {W0 W1 : va_W} {v : Option Value} {own C : String} {y : MethodName} {b : Nat} {A0 : Nat → Prop} {pc : Nat} {ls : Array Slot} {lv : List (Nat × Value)}
theorem nd_free (hD : va_D A0 W0) (hS : va_S A0 s.heap H locs) (hA : ∀ q, s.heap.size ≤ q → A0 q) : ∀ q, va_A W0 H.size q → A0 q := by
  intro q h
  rcases h with ⟨k, e, h⟩ | h
  · exact hD.2 k (q, e) h
  · exact hA q (Nat.le_trans hS.1 h)
/-- behind a call -/
theorem nd_back {a : Array Value} (hr : va_Run p l e R s m args below meth c H locs cells slots 0 0 (F0 m pc ls st0) rest (nd_Q D W0 W1 H.size v a) (va_A W0 H.size)) (hP : va_P D vwCl W0 H) (hD : va_D A0 W0) (hS : va_S A0 s.heap H locs) (hA : ∀ q, s.heap.size ≤ q → A0 q) (hsame : W1.map (·.1) = W0.map (·.1)) (hst1 : st1 = v.toList ++ rest)
    (kk : ∀ (H1 : Heap) (locs1 : List Loc), va_P D vwCl W1 H1 → va_D A0 W1 → va_S A0 s.heap H1 locs1 → W p l e R s m args below meth c H1 locs1 cells slots Q (F0 m (pc + 3) ls st1)) : W p l e R s m args below meth c H locs cells slots Q (F0 m pc ls st0) := by
  intro T hT X
  obtain ⟨v', st₀, t, T', L, h0, X', hL, e1, e2, ⟨⟨hv, hp⟩, hz, hk⟩, st⟩ := hr T hT X
  cases hv
  rw [h0] at hz hk
  have hf := nd_free (W0 := W0) hD hS hA
  subst hst1
  obtain ⟨t2, a1, b1⟩ := kk T'.heap (locs ++ L) (by rw [e1]; exact hp) (nd_D hsame hD)
    ⟨Nat.le_trans hS.1 (by rw [e1]; exact hz), fun q h1 h2 => by rw [e1, hk q (Nat.lt_of_lt_of_le h1 hS.1) (fun z => h2 (hf q z))]; exact hS.2.1 q h1 h2, fun q hq => by
      rcases List.mem_append.mp hq with h | h
      · exact hS.2.2 q h
      · exact hf _ (hL q h)⟩ T' rfl X'
  exact ⟨t2, st t2 a1, b1⟩
/-- what a method is, for its callers -/
def nd_iv (y : MethodName) (C : String) (bytes : ByteArray) (maxL : Nat) (ret : Option FieldType) (n : Nat) : Prop :=
  (y.cls = C ∧ y.cls ≠ "java/lang/invoke/MethodHandle" ∧ y.cls ≠ "java/lang/invoke/VarHandle" ∧ (parseMethodDescriptor y.desc).map (fun d => d.parameters.length) = some n) ∧ Cond.instanceMethod y ∈ wsL_law ∧ Cond.selects C y y ∈ wsL_law ∧ Cond.initialized C ∈ wsL_law ∧ Cond.code y bytes maxL ret ∈ wsL_law
def nd_is (y : MethodName) (bytes : ByteArray) (maxL : Nat) (ret : Option FieldType) (n : Nat) : Prop :=
  (y.cls ≠ "java/lang/invoke/MethodHandle" ∧ y.cls ≠ "java/lang/invoke/VarHandle" ∧ (parseMethodDescriptor y.desc).map (fun d => d.parameters.length) = some n) ∧ Cond.static y ∈ wsL_law ∧ Cond.initialized y.cls ∈ wsL_law ∧ Cond.code y bytes maxL ret ∈ wsL_law
/-- a call of a method of an object -/
theorem nd_callV (hx : p.tables.exec = Jvm.exec) (hb : c.code = cc) (hml : c.maxLocals = nL) (hown : s.vm.findClass own = some m.cls) (hts : ∀ w ∈ wsL_law, w.before args s = true) (hl : lv_has ls nL lv) (hP : va_P D vwCl W0 H) (hK : va_K D vwCl tys s) (hD : va_D A0 W0) (hS : va_S A0 s.heap H locs) (hA : ∀ q, s.heap.size ≤ q → A0 q) (hN : nd_N s)
    (hC : nd_C l y bytes maxL ret fr lo D tys (.ref b :: As) W0 W1 v) (cal : nd_iv y C bytes maxL ret n) (lk : Cond.methodLink own idx y ∈ wsL_law) (q0 : Nat) {ci : Nat} {fs : List Value} {T : u_T} {N : Nat} (hq : W0[q0]? = some (b, .inr (ci, fs))) (hc : vwCl[ci]? = some (C, T, N)) (hsame : W1.map (·.1) = W0.map (·.1)) (hn : As.length = n)
    (room : fr + 1 ≤ R.frames ∧ 8 + (maxL + 11) + lo ≤ R.locals) (hW : (rest.map fun v => v.category).sum ≤ 8) (hf : cells ≤ R.cells ∧ slots ≤ R.slots) (hdg : decode cc pc = .ok (.invokevirtual idx, 3)) (hst : st0 = As.reverse ++ .ref b :: rest) (hst1 : st1 = v.toList ++ rest)
    (kk : ∀ (H1 : Heap) (locs1 : List Loc), va_P D vwCl W1 H1 → va_D A0 W1 → va_S A0 s.heap H1 locs1 → W p l e R s m args below meth c H1 locs1 cells slots Q (F0 m (pc + 3) ls st1)) : W p l e R s m args below meth c H locs cells slots Q (F0 m pc ls st0) := by
  obtain ⟨hd, h2, h3, h4, h5⟩ := cal
  exact nd_back (va_runV (Ts := wsL_law) (own := own) (C := C) (n := n) (As := As) (rest := rest) ⟨hx, hb, hml, hown, hts⟩ (hC H.size) (cwV (ws' := wsL_law) n hts (wy_V lk h2 h3 h4 h5) rfl rfl rfl hd room) ⟨nd_blind, va_recv hK hP hc hq, nd_pre hP hK hD hN⟩ rfl hn hl.1 hst (lv_room hW) hdg hf) hP hD hS hA hsame hst1 kk
/-- a call of a static method -/
theorem nd_callS (hx : p.tables.exec = Jvm.exec) (hb : c.code = cc) (hml : c.maxLocals = nL) (hown : s.vm.findClass own = some m.cls) (hts : ∀ w ∈ wsL_law, w.before args s = true) (hl : lv_has ls nL lv) (hP : va_P D vwCl W0 H) (hK : va_K D vwCl tys s) (hD : va_D A0 W0) (hS : va_S A0 s.heap H locs) (hA : ∀ q, s.heap.size ≤ q → A0 q) (hN : nd_N s)
    (hC : nd_C l y bytes maxL ret fr lo D tys As W0 W1 v) (cal : nd_is y bytes maxL ret n) (lk : Cond.methodLink own idx y ∈ wsL_law) (hsame : W1.map (·.1) = W0.map (·.1)) (hn : As.length = n)
    (room : fr + 1 ≤ R.frames ∧ 8 + (maxL + 11) + lo ≤ R.locals) (hW : (rest.map fun v => v.category).sum ≤ 8) (hf : cells ≤ R.cells ∧ slots ≤ R.slots) (hdg : decode cc pc = .ok (.invokestatic idx, 3)) (hst : st0 = As.reverse ++ rest) (hst1 : st1 = v.toList ++ rest)
    (kk : ∀ (H1 : Heap) (locs1 : List Loc), va_P D vwCl W1 H1 → va_D A0 W1 → va_S A0 s.heap H1 locs1 → W p l e R s m args below meth c H1 locs1 cells slots Q (F0 m (pc + 3) ls st1)) : W p l e R s m args below meth c H locs cells slots Q (F0 m pc ls st0) := by
  obtain ⟨hd, h2, h4, h5⟩ := cal
  exact nd_back (va_runS (Ts := wsL_law) (own := own) (n := n) (As := As) (rest := rest) ⟨hx, hb, hml, hown, hts⟩ (hC H.size) (va_cwS (ws' := wsL_law) n hts (wy_S lk h2 h4 h5) rfl rfl rfl hd room) ⟨nd_blind, nd_pre hP hK hD hN⟩ rfl hn hl.1 hst (lv_room hW) hdg hf) hP hD hS hA hsame hst1 kk
/-- a call of a nest mate's private static method -/
theorem nd_callN {host : String} (hx : p.tables.exec = Jvm.exec) (hb : c.code = cc) (hml : c.maxLocals = nL) (hown : s.vm.findClass own = some m.cls) (hts : ∀ w ∈ wsL_law, w.before args s = true) (hl : lv_has ls nL lv) (hP : va_P D vwCl W0 H) (hK : va_K D vwCl tys s) (hD : va_D A0 W0) (hS : va_S A0 s.heap H locs) (hA : ∀ q, s.heap.size ≤ q → A0 q) (hN : nd_N s)
    (hC : nd_C l y bytes maxL ret fr lo D tys As W0 W1 v) (cal : nd_is y bytes maxL ret n) (lk : va_Nw (.methodLinkNest own idx y host) s) (hsame : W1.map (·.1) = W0.map (·.1)) (hn : As.length = n)
    (room : fr + 1 ≤ R.frames ∧ 8 + (maxL + 11) + lo ≤ R.locals) (hW : (rest.map fun v => v.category).sum ≤ 8) (hf : cells ≤ R.cells ∧ slots ≤ R.slots) (hdg : decode cc pc = .ok (.invokestatic idx, 3)) (hst : st0 = As.reverse ++ rest) (hst1 : st1 = v.toList ++ rest)
    (kk : ∀ (H1 : Heap) (locs1 : List Loc), va_P D vwCl W1 H1 → va_D A0 W1 → va_S A0 s.heap H1 locs1 → W p l e R s m args below meth c H1 locs1 cells slots Q (F0 m (pc + 3) ls st1)) : W p l e R s m args below meth c H locs cells slots Q (F0 m pc ls st0) := by
  obtain ⟨hd, h2, h4, h5⟩ := cal
  exact nd_back (va_runSN (Ts := wsL_law) (own := own) (host := host) (n := n) (As := As) (rest := rest) ⟨hx, hb, hml, hown, hts⟩ (hC H.size) ⟨va_cnB (ws' := wsL_law) n hts (wy_good h5) rfl rfl rfl lk (hts _ h4) hd room, hts _ h2, trivial⟩ ⟨nd_blind, nd_pre hP hK hD hN⟩ rfl hn hl.1 hst (lv_room hW) hdg hf) hP hD hS hA hsame hst1 kk
end ND
theorem ob {α β : Type} {x : Option α} {f : α → Option β} {b : β} (h : Option.bind x f = some b) : ∃ a, x = some a ∧ f a = some b := by
  cases x with
  | none => cases h
  | some a => exact ⟨a, rfl, h⟩
theorem ite_t {α : Type} {c : Prop} [Decidable c] {a b r : α} (h : (if c then a else b) = r) (hc : c) : a = r := by rwa [if_pos hc] at h
theorem ite_f {α : Type} {c : Prop} [Decidable c] {a b r : α} (h : (if c then a else b) = r) (hc : ¬ c) : b = r := by rwa [if_neg hc] at h
theorem sw_ne {x v : Int32} (h : ¬ x = v) : x.toInt ≠ v.toInt := fun e => h (Int32.toInt_inj.mp e)
def LF : Nat := 20000
def aget (f : Nat → Int32) (n : Nat) (i : Int32) : Option Int32 := if i < 0 ∨ n ≤ i.toNatClampNeg then none else some (f i.toNatClampNeg)
theorem aget_e {f : Nat → Int32} {n : Nat} {i x : Int32} (h : aget f n i = some x) : vp_in i n ∧ f i.toNatClampNeg = x := by
  unfold aget at h
  by_cases hc : i < 0 ∨ n ≤ i.toNatClampNeg
  · rw [if_pos hc] at h; cases h
  · rw [if_neg hc] at h; exact ⟨hc, Option.some.inj h⟩
def aput (f : Nat → Int32) (n : Nat) (i x : Int32) : Option (Nat → Int32) := if i < 0 ∨ n ≤ i.toNatClampNeg then none else some (upd f i.toNatClampNeg x)
theorem aput_e {f g : Nat → Int32} {n : Nat} {i x : Int32} (h : aput f n i x = some g) : vp_in i n ∧ upd f i.toNatClampNeg x = g := by
  unfold aput at h
  by_cases hc : i < 0 ∨ n ≤ i.toNatClampNeg
  · rw [if_pos hc] at h; cases h
  · rw [if_neg hc] at h; exact ⟨hc, Option.some.inj h⟩
def jdiv (x y : Int32) : Option Int32 := if y = 0 then none else some (x / y)
def jrem (x y : Int32) : Option Int32 := if y = 0 then none else some (x - x / y * y)
def bz (v : Int32) : Option Unit := if v = 0 ∨ v = 1 then some () else none
theorem bz_e {v : Int32} {u : Unit} (h : bz v = some u) : v = 0 ∨ v = 1 := by
  unfold bz at h
  by_cases hc : v = 0 ∨ v = 1
  · exact hc
  · rw [if_neg hc] at h; cases h
def dok (r : UInt64) : Option UInt64 := if r &&& 0x7fffffffffffffff ≤ 0x7ff0000000000000 then some r else none
theorem dok_e {r t : UInt64} (h : dok r = some t) : vf_n64 r ∧ r = t := by
  unfold dok at h
  by_cases hc : r &&& 0x7fffffffffffffff ≤ 0x7ff0000000000000
  · rw [if_pos hc] at h; exact ⟨hc, Option.some.inj h⟩
  · rw [if_neg hc] at h; cases h
def acpy (f : Nat → Int32) (n0 : Nat) (g : Nat → Int32) (n1 : Nat) (sp dp n : Int32) : Option (Nat → Int32) :=
  if sp < 0 ∨ dp < 0 ∨ n < 0 ∨ n0 < sp.toNatClampNeg + n.toNatClampNeg ∨ n1 < dp.toNatClampNeg + n.toNatClampNeg then none else some (va_cpy f g sp.toNatClampNeg dp.toNatClampNeg n.toNatClampNeg)
theorem acpy_e {f g t : Nat → Int32} {n0 n1 : Nat} {sp dp n : Int32} (h : acpy f n0 g n1 sp dp n = some t) : (¬ sp < 0 ∧ ¬ dp < 0 ∧ ¬ n < 0 ∧ sp.toNatClampNeg + n.toNatClampNeg ≤ n0 ∧ dp.toNatClampNeg + n.toNatClampNeg ≤ n1) ∧ va_cpy f g sp.toNatClampNeg dp.toNatClampNeg n.toNatClampNeg = t := by
  unfold acpy at h
  by_cases hc : sp < 0 ∨ dp < 0 ∨ n < 0 ∨ n0 < sp.toNatClampNeg + n.toNatClampNeg ∨ n1 < dp.toNatClampNeg + n.toNatClampNeg
  · rw [if_pos hc] at h; cases h
  · rw [if_neg hc] at h
    simp only [not_or, Nat.not_lt] at hc
    exact ⟨hc, Option.some.inj h⟩
theorem td {c : ByteArray} {t : List (Nat × Instr × Nat)} (h : t.all (fun q => decide (decode c q.1 = .ok q.2)) = true) (k : Nat) {q : Nat × Instr × Nat} (hk : t[k]? = some q) : decode c q.1 = .ok q.2 := by
  have h1 := List.all_eq_true.mp h q (List.mem_of_getElem? hk)
  exact of_decide_eq_true h1
section NDR
variable {p : Program} {l : Launch} {e : Env} {R : Room} {s : State} {m : MethodId} {args : Array Value} {below : List Frame} {meth : Method} {c : Code} {H : Heap} {locs : List Loc} {cells slots : Nat} {Q : State → Prop} {D : va_G} {tys : nd_T} {ws : va_W} {cc : ByteArray} {A : Nat → Prop} {H0 : Heap} {pc a : Nat} {ls : Array Slot} {rest : List Value}
theorem nd_iald (hx : p.tables.exec = Jvm.exec) (hb : c.code = cc) (hK : va_K D vwCl tys s) (hP : va_P D vwCl ws H) (q0 t0 : Nat) {cA : ClassId} {n : Nat} {f : Nat → Int32} (ha : ws[q0]? = some (a, .inl (cA, n, .inl f))) (ht : tys[t0]? = some (cA, .int)) {i x : Int32} (h : aget f n i = some x) (hdg : decode cc pc = .ok (.iaload, 1)) (kk : W p l e R s m args below meth c H locs cells slots Q (F0 m (pc + 1) ls (.int x :: rest))) : W p l e R s m args below meth c H locs cells slots Q (F0 m pc ls (.int i :: .ref a :: rest)) := by
  obtain ⟨h1, rfl⟩ := aget_e h
  exact va_iald hx hb hK hP q0 t0 ha ht h1 hdg kk
theorem nd_iast (hx : p.tables.exec = Jvm.exec) (hb : c.code = cc) (hK : va_K D vwCl tys s) (hP : va_P D vwCl ws H) (hD : va_D A ws) (hS : va_S A H0 H locs) (q0 t0 : Nat) {cA : ClassId} {n : Nat} {f g : Nat → Int32} (ha : ws[q0]? = some (a, .inl (cA, n, .inl f))) (ht : tys[t0]? = some (cA, .int)) {i x : Int32} (h : aput f n i x = some g) (hdg : decode cc pc = .ok (.iastore, 1)) (kk : ∀ (H1 : Heap) (locs1 : List Loc), va_P D vwCl (ws.set q0 (a, .inl (cA, n, .inl g))) H1 → va_D A (ws.set q0 (a, .inl (cA, n, .inl g))) → va_S A H0 H1 locs1 → W p l e R s m args below meth c H1 locs1 cells slots Q (F0 m (pc + 1) ls rest)) : W p l e R s m args below meth c H locs cells slots Q (F0 m pc ls (.int x :: .int i :: .ref a :: rest)) := by
  obtain ⟨h1, rfl⟩ := aput_e h
  exact va_iast hx hb hK hP hD hS q0 t0 ha ht h1 hdg kk
theorem nd_idiv (hx : p.tables.exec = Jvm.exec) (hb : c.code = cc) {x y t : Int32} (hdg : decode cc pc = .ok (.idiv, 1)) (h : jdiv x y = some t) (kk : W p l e R s m args below meth c H locs cells slots Q (F0 m (pc + 1) ls (.int t :: rest))) : W p l e R s m args below meth c H locs cells slots Q (F0 m pc ls (.int y :: .int x :: rest)) := by
  unfold jdiv at h
  by_cases hy : y = 0
  · rw [if_pos hy] at h; cases h
  · rw [if_neg hy] at h; cases h
    exact lv_idiv hx hb hdg hy kk
theorem nd_irem (hx : p.tables.exec = Jvm.exec) (hb : c.code = cc) {x y t : Int32} (hdg : decode cc pc = .ok (.irem, 1)) (h : jrem x y = some t) (kk : W p l e R s m args below meth c H locs cells slots Q (F0 m (pc + 1) ls (.int t :: rest))) : W p l e R s m args below meth c H locs cells slots Q (F0 m pc ls (.int y :: .int x :: rest)) := by
  unfold jrem at h
  by_cases hy : y = 0
  · rw [if_pos hy] at h; cases h
  · rw [if_neg hy] at h; cases h
    exact lv_irem hx hb hdg hy kk
theorem nd_ddiv (hx : p.tables.exec = Jvm.exec) (hb : c.code = cc) {x y t : UInt64} (hdg : decode cc pc = .ok (.ddiv, 1)) (h : dok (FP.ddiv x y) = some t) (kk : W p l e R s m args below meth c H locs cells slots Q (F0 m (pc + 1) ls (.double t :: rest))) : W p l e R s m args below meth c H locs cells slots Q (F0 m pc ls (.double y :: .double x :: rest)) := by
  obtain ⟨h1, rfl⟩ := dok_e h
  exact lv_ddiv hx hb hdg h1 kk
theorem nd_dmul (hx : p.tables.exec = Jvm.exec) (hb : c.code = cc) {x y t : UInt64} (hdg : decode cc pc = .ok (.dmul, 1)) (h : dok (FP.dmul x y) = some t) (kk : W p l e R s m args below meth c H locs cells slots Q (F0 m (pc + 1) ls (.double t :: rest))) : W p l e R s m args below meth c H locs cells slots Q (F0 m pc ls (.double y :: .double x :: rest)) := by
  obtain ⟨h1, rfl⟩ := dok_e h
  exact lv_dmul hx hb hdg h1 kk
theorem nd_dsub (hx : p.tables.exec = Jvm.exec) (hb : c.code = cc) {x y t : UInt64} (hdg : decode cc pc = .ok (.dsub, 1)) (h : dok (FP.dsub x y) = some t) (kk : W p l e R s m args below meth c H locs cells slots Q (F0 m (pc + 1) ls (.double t :: rest))) : W p l e R s m args below meth c H locs cells slots Q (F0 m pc ls (.double y :: .double x :: rest)) := by
  obtain ⟨h1, rfl⟩ := dok_e h
  exact lv_dsub hx hb hdg h1 kk
theorem nd_copy (hx : p.tables.exec = Jvm.exec) (hb : c.code = cc) (hml : c.maxLocals = ls.size) {own : String} {index : Nat} (hown : s.vm.findClass own = some m.cls) (hlink : (Cond.methodLink own index arraycopyName).before args s = true) (hnat : (Cond.native arraycopyName).before args s = true) (hstat : (Cond.static arraycopyName).before args s = true) (hini : (Cond.initialized "java/lang/System").before args s = true)
    (hK : va_K D vwCl tys s) (hP : va_P D vwCl ws H) (hD : va_D A ws) (hS : va_S A H0 H locs) (q0 q1 t0 : Nat) {a0 n0 n1 : Nat} {c0 : ClassId} {f g t : Nat → Int32} (ha0 : ws[q0]? = some (a0, .inl (c0, n0, .inl f))) (ha1 : ws[q1]? = some (a, .inl (c0, n1, .inl g))) (ht0 : tys[t0]? = some (c0, .int)) {sp dp n : Int32} (h : acpy f n0 g n1 sp dp n = some t)
    (hframes : 1 ≤ R.frames) (hlocals : (rest.map fun v => v.category).sum + (nativeFrameWords "java/lang/System" "arraycopy" 5 + 11) ≤ R.locals) (hdg : decode cc pc = .ok (.invokestatic index, 3))
    (kk : ∀ (H1 : Heap) (locs1 : List Loc), va_P D vwCl (ws.set q1 (a, .inl (c0, n1, .inl t))) H1 → va_D A (ws.set q1 (a, .inl (c0, n1, .inl t))) → va_S A H0 H1 locs1 → W p l e R s m args below meth c H1 locs1 cells slots Q (F0 m (pc + 3) ls rest)) : W p l e R s m args below meth c H locs cells slots Q (F0 m pc ls (.int n :: .int dp :: .ref a :: .int sp :: .ref a0 :: rest)) := by
  obtain ⟨⟨h1, h2, h3, h4, h5⟩, rfl⟩ := acpy_e h
  exact va_copyi hx hb hml hown hlink hnat hstat hini hK hP hD hS q0 q1 t0 t0 ha0 ha1 ht0 ht0 rfl h1 h2 h3 h4 h5 (fun _ _ => rfl) hframes hlocals hdg kk
end NDR
section NDE
variable {l : Launch} {y : MethodName} {cc : ByteArray} {n : Nat} {ret : Option FieldType} {fr lo : Nat} {D : va_G} {tys : nd_T} {as : List Value} {W0 W1 : va_W} {v : Option Value}
theorem nd_ofC (hy : plainName y.cls = true) (hn : (lg_sl as).length ≤ n)
    (body : ∀ (p : Program) (e : Env) (s : State) (m : MethodId) (args : Array Value) (below : List Frame) (meth : Method) (c : Code) (ls : Array Slot) (A : Nat → Prop), p.tables.exec = Jvm.exec → c.code = cc → c.maxLocals = n → s.vm.findClass y.cls = some m.cls → (∀ w ∈ wsL_law, w.before args s = true) → lv_has ls n (lv_args 0 as) → va_P D vwCl W0 s.heap → va_K D vwCl tys s → va_D A W0 → va_S A s.heap s.heap [] → (∀ q, s.heap.size ≤ q → A q) → nd_N s → meth.sig.returnType = ret → meth.locks = false → A = va_A W0 s.heap.size →
      W p l e ⟨fr, 0, 0, lo⟩ s m args below meth c s.heap [] 0 0 (MQ below (nd_Q D W0 W1 s.heap.size v) args s 0 0 A) (F0 m 0 ls [])) : nd_C l y cc n ret fr lo D tys as W0 W1 v := by
  intro sz
  refine Met.ofW (cc := cc) (maxL := n) (ret := ret) hy rfl ?_
  intro p e s m args below meth c s₁ B hml hv
  obtain ⟨rfl, hsz, hP, hK, hD0, hN⟩ := hv
  subst hsz
  have hts := atoms_spec (ws := wy y cc n ret) B.pre
  have hts : ∀ w ∈ wsL_law, w.before as.toArray s = true := fun w h => hts w (List.mem_cons_of_mem _ h)
  have hl := lv_entry as hn
  rw [lg_entry_eq]
  exact body p e s m _ below meth c _ (va_A W0 s.heap.size) B.exec B.bytes hml (findClass_of_methodNamed B.named) hts hl hP hK hD0.self va_S.rf (fun q h => Or.inr h) hN B.returns B.notSynchronized rfl
theorem nd_ofCi {r : Int32} (hy : plainName y.cls = true) (hn : (lg_sl as).length ≤ n)
    (body : ∀ (p : Program) (e : Env) (s : State) (m : MethodId) (args : Array Value) (below : List Frame) (meth : Method) (c : Code) (ls : Array Slot) (A : Nat → Prop) (Q : State → Prop), p.tables.exec = Jvm.exec → c.code = cc → c.maxLocals = n → s.vm.findClass y.cls = some m.cls → (∀ w ∈ wsL_law, w.before args s = true) → lv_has ls n (lv_args 0 as) → va_P D vwCl W0 s.heap → va_K D vwCl tys s → va_D A W0 → va_S A s.heap s.heap [] → (∀ q, s.heap.size ≤ q → A q) → nd_N s →
      (∀ {H : Heap} {locs : List Loc} {pc : Nat} {ls : Array Slot}, va_P D vwCl W1 H → va_S A s.heap H locs → decode cc pc = .ok (.ireturn, 1) → W p l e ⟨fr, 0, 0, lo⟩ s m args below meth c H locs 0 0 Q (F0 m pc ls [.int r])) →
      W p l e ⟨fr, 0, 0, lo⟩ s m args below meth c s.heap [] 0 0 Q (F0 m 0 ls [])) : nd_C l y cc n (some .int) fr lo D tys as W0 W1 (some (.int r)) :=
  nd_ofC hy hn (fun p e s m args below meth c ls A hx hb hml hown hts hl hP hK hD hS hA hN hr hlocks hAe => body p e s m args below meth c ls A _ hx hb hml hown hts hl hP hK hD hS hA hN (fun {H locs pc ls} hP hS hdg => W.iret hx hb hr (fun t ht _ => ⟨⟨rfl, by rw [ht]; exact hP⟩, hAe ▸ hS.F ht⟩) hS.2.2 hdg hlocks))
theorem nd_ofCz {r : Int32} (hy : plainName y.cls = true) (hn : (lg_sl as).length ≤ n)
    (body : ∀ (p : Program) (e : Env) (s : State) (m : MethodId) (args : Array Value) (below : List Frame) (meth : Method) (c : Code) (ls : Array Slot) (A : Nat → Prop) (Q : State → Prop), p.tables.exec = Jvm.exec → c.code = cc → c.maxLocals = n → s.vm.findClass y.cls = some m.cls → (∀ w ∈ wsL_law, w.before args s = true) → lv_has ls n (lv_args 0 as) → va_P D vwCl W0 s.heap → va_K D vwCl tys s → va_D A W0 → va_S A s.heap s.heap [] → (∀ q, s.heap.size ≤ q → A q) → nd_N s →
      (∀ {H : Heap} {locs : List Loc} {pc : Nat} {ls : Array Slot}, (r = 0 ∨ r = 1) → va_P D vwCl W1 H → va_S A s.heap H locs → decode cc pc = .ok (.ireturn, 1) → W p l e ⟨fr, 0, 0, lo⟩ s m args below meth c H locs 0 0 Q (F0 m pc ls [.int r])) →
      W p l e ⟨fr, 0, 0, lo⟩ s m args below meth c s.heap [] 0 0 Q (F0 m 0 ls [])) : nd_C l y cc n (some .boolean) fr lo D tys as W0 W1 (some (.int r)) :=
  nd_ofC hy hn (fun p e s m args below meth c ls A hx hb hml hown hts hl hP hK hD hS hA hN hr hlocks hAe => body p e s m args below meth c ls A _ hx hb hml hown hts hl hP hK hD hS hA hN (fun {H locs pc ls} hz hP hS hdg => W.zret hx hb hr (by rcases hz with h | h <;> rw [h] <;> rfl) (fun t ht _ => ⟨⟨rfl, by rw [ht]; exact hP⟩, hAe ▸ hS.F ht⟩) hS.2.2 hdg hlocks))
theorem nd_ofCl {r : Int64} (hy : plainName y.cls = true) (hn : (lg_sl as).length ≤ n)
    (body : ∀ (p : Program) (e : Env) (s : State) (m : MethodId) (args : Array Value) (below : List Frame) (meth : Method) (c : Code) (ls : Array Slot) (A : Nat → Prop) (Q : State → Prop), p.tables.exec = Jvm.exec → c.code = cc → c.maxLocals = n → s.vm.findClass y.cls = some m.cls → (∀ w ∈ wsL_law, w.before args s = true) → lv_has ls n (lv_args 0 as) → va_P D vwCl W0 s.heap → va_K D vwCl tys s → va_D A W0 → va_S A s.heap s.heap [] → (∀ q, s.heap.size ≤ q → A q) → nd_N s →
      (∀ {H : Heap} {locs : List Loc} {pc : Nat} {ls : Array Slot}, va_P D vwCl W1 H → va_S A s.heap H locs → decode cc pc = .ok (.lreturn, 1) → W p l e ⟨fr, 0, 0, lo⟩ s m args below meth c H locs 0 0 Q (F0 m pc ls [.long r])) →
      W p l e ⟨fr, 0, 0, lo⟩ s m args below meth c s.heap [] 0 0 Q (F0 m 0 ls [])) : nd_C l y cc n (some .long) fr lo D tys as W0 W1 (some (.long r)) :=
  nd_ofC hy hn (fun p e s m args below meth c ls A hx hb hml hown hts hl hP hK hD hS hA hN hr hlocks hAe => body p e s m args below meth c ls A _ hx hb hml hown hts hl hP hK hD hS hA hN (fun {H locs pc ls} hP hS hdg => W.lret hx hb hr (fun t ht _ => ⟨⟨rfl, by rw [ht]; exact hP⟩, hAe ▸ hS.F ht⟩) hS.2.2 hdg hlocks))
theorem nd_ofCd {r : UInt64} (hy : plainName y.cls = true) (hn : (lg_sl as).length ≤ n)
    (body : ∀ (p : Program) (e : Env) (s : State) (m : MethodId) (args : Array Value) (below : List Frame) (meth : Method) (c : Code) (ls : Array Slot) (A : Nat → Prop) (Q : State → Prop), p.tables.exec = Jvm.exec → c.code = cc → c.maxLocals = n → s.vm.findClass y.cls = some m.cls → (∀ w ∈ wsL_law, w.before args s = true) → lv_has ls n (lv_args 0 as) → va_P D vwCl W0 s.heap → va_K D vwCl tys s → va_D A W0 → va_S A s.heap s.heap [] → (∀ q, s.heap.size ≤ q → A q) → nd_N s →
      (∀ {H : Heap} {locs : List Loc} {pc : Nat} {ls : Array Slot}, va_P D vwCl W1 H → va_S A s.heap H locs → decode cc pc = .ok (.dreturn, 1) → W p l e ⟨fr, 0, 0, lo⟩ s m args below meth c H locs 0 0 Q (F0 m pc ls [.double r])) →
      W p l e ⟨fr, 0, 0, lo⟩ s m args below meth c s.heap [] 0 0 Q (F0 m 0 ls [])) : nd_C l y cc n (some .double) fr lo D tys as W0 W1 (some (.double r)) :=
  nd_ofC hy hn (fun p e s m args below meth c ls A hx hb hml hown hts hl hP hK hD hS hA hN hr hlocks hAe => body p e s m args below meth c ls A _ hx hb hml hown hts hl hP hK hD hS hA hN (fun {H locs pc ls} hP hS hdg => W.dret hx hb hr (fun t ht _ => ⟨⟨rfl, by rw [ht]; exact hP⟩, hAe ▸ hS.F ht⟩) hS.2.2 hdg hlocks))
theorem nd_ofCv (hy : plainName y.cls = true) (hn : (lg_sl as).length ≤ n)
    (body : ∀ (p : Program) (e : Env) (s : State) (m : MethodId) (args : Array Value) (below : List Frame) (meth : Method) (c : Code) (ls : Array Slot) (A : Nat → Prop) (Q : State → Prop), p.tables.exec = Jvm.exec → c.code = cc → c.maxLocals = n → s.vm.findClass y.cls = some m.cls → (∀ w ∈ wsL_law, w.before args s = true) → lv_has ls n (lv_args 0 as) → va_P D vwCl W0 s.heap → va_K D vwCl tys s → va_D A W0 → va_S A s.heap s.heap [] → (∀ q, s.heap.size ≤ q → A q) → nd_N s →
      (∀ {H : Heap} {locs : List Loc} {pc : Nat} {ls : Array Slot}, va_P D vwCl W1 H → va_S A s.heap H locs → decode cc pc = .ok (.return_, 1) → W p l e ⟨fr, 0, 0, lo⟩ s m args below meth c H locs 0 0 Q (F0 m pc ls [])) →
      W p l e ⟨fr, 0, 0, lo⟩ s m args below meth c s.heap [] 0 0 Q (F0 m 0 ls [])) : nd_C l y cc n none fr lo D tys as W0 W1 none :=
  nd_ofC hy hn (fun p e s m args below meth c ls A hx hb hml hown hts hl hP hK hD hS hA hN hr hlocks hAe => body p e s m args below meth c ls A _ hx hb hml hown hts hl hP hK hD hS hA hN (fun {H locs pc ls} hP hS hdg => W.vret hx hb hr (fun t ht _ => ⟨⟨rfl, by rw [ht]; exact hP⟩, hAe ▸ hS.F ht⟩) hS.2.2 hdg hlocks))
end NDE
/-! Throwing. -/
def exn (k : Nat) : String := if k = 1 then "java/lang/IllegalArgumentException" else if k = 2 then "java/lang/IllegalStateException" else "java/lang/IndexOutOfBoundsException"
def xs {α β : Type} (q : Nat ⊕ α) (k : α → Option (Nat ⊕ β)) : Option (Nat ⊕ β) := match q with
  | .inl c => some (.inl c)
  | .inr a => k a
theorem xs_r {α β : Type} {q : Nat ⊕ α} {k : α → Option (Nat ⊕ β)} {r : β} (h : xs q k = some (.inr r)) : ∃ a, q = .inr a ∧ k a = some (.inr r) := by
  cases q with
  | inl c => cases h
  | inr a => exact ⟨a, rfl, h⟩
theorem xs_l {α β : Type} {q : Nat ⊕ α} {k : α → Option (Nat ⊕ β)} {c : Nat} (h : xs q k = some (.inl c)) : q = .inl c ∨ ∃ a, q = .inr a ∧ k a = some (.inl c) := by
  cases q with
  | inl c' => cases h; exact Or.inl rfl
  | inr a => exact Or.inr ⟨a, rfl, h⟩
theorem xob_r {α β : Type} {x : Option (Nat ⊕ α)} {k : α → Option (Nat ⊕ β)} {r : β} (h : Option.bind x (fun q => xs q k) = some (.inr r)) : ∃ a, x = some (.inr a) ∧ k a = some (.inr r) := by
  obtain ⟨q, h1, h2⟩ := ob h
  obtain ⟨a, h3, h4⟩ := xs_r h2
  exact ⟨a, by rw [h1, h3], h4⟩
theorem xob_l {α β : Type} {x : Option (Nat ⊕ α)} {k : α → Option (Nat ⊕ β)} {c : Nat} (h : Option.bind x (fun q => xs q k) = some (.inl c)) : x = some (.inl c) ∨ ∃ a, x = some (.inr a) ∧ k a = some (.inl c) := by
  obtain ⟨q, h1, h2⟩ := ob h
  rcases xs_l h2 with h3 | ⟨a, h3, h4⟩
  · exact Or.inl (by rw [h1, h3])
  · exact Or.inr ⟨a, by rw [h1, h3], h4⟩
def nd_Str : List (Nat × String) := [(50, "a seam is not 0 to 99"), (61, "there are 10 pieces"), (79, "the buffer does not tell receipts"), (91, "the piece has no receipt"), (115, "the pieces cannot be joined"), (123, "the piece is not joined to one below"), (132, "the code is not 33 to 126"), (137, "the buffer has 60 characters"), (148, "there is no saved state"), (167, "the line is below 0"), (246, "an argument is out of range"), (250, "there is no such piece"), (253, "there is no such receipt")]
def nd_exs : List String := ["java/lang/IllegalArgumentException", "java/lang/IllegalStateException", "java/lang/IndexOutOfBoundsException"]
def nd_ups : List String := ["java/lang/RuntimeException", "java/lang/Exception", "java/lang/Throwable"]
/-- what a throw needs -/
def nd_X (A : Nat → Prop) (U : State) (H : Heap) : Prop := vx_Zq Bundle.tN "UNASSIGNED_STACK" Bundle.steD A U H ∧ vx_Zq Bundle.tN "SUPPRESSED_SENTINEL" Bundle.listD A U H ∧ (∀ q ∈ nd_Str, ∃ a, vk_R "NightDiary" q.1 q.2 a U) ∧ (∀ E ∈ nd_exs, va_Nw (.castable E E) U) ∧ (∀ E ∈ nd_ups, va_Nw (.declares (Bundle.initS E)) U)
theorem nd_X.warm {A B : Nat → Prop} {s U : State} {H : Heap} (h : nd_X A s s.heap) (hq : ∀ a : Nat, a < s.heap.size → ¬ A a → H[a]? = s.heap[a]?) (hW : s.WarmedH U.vm) (hAB : ∀ q, B q → A q) : nd_X B U H :=
  ⟨((h.1.kept hq).moved hW.alike).narrow hAB, ((h.2.1.kept hq).moved hW.alike).narrow hAB, fun q hq => by obtain ⟨a, ha⟩ := h.2.2.1 q hq; exact ⟨a, vk_R.warm hW ha⟩, fun E hE => va_Nw.warmC hW (h.2.2.2.1 E hE), fun E hE => va_Nw.warmD hW (h.2.2.2.2 E hE)⟩
def nd_PX (D : va_G) (W0 : va_W) (tys : nd_T) (sz : Nat) (U : State) : Prop := nd_P D W0 tys sz U ∧ nd_X (va_A W0 sz) U U.heap
def nd_XC (D : va_G) (PW : va_W → Prop) (A : Nat → Prop) (k : Nat) : String → State → State → Prop := fun E st t => (E = exn k ∧ ∃ W1, PW W1 ∧ va_P D vwCl W1 t.heap) ∧ va_F A st t
/-- the contract of a method that throws the k-th exception, the world as before -/
def nd_CX (l : Launch) (y : MethodName) (cc : ByteArray) (n : Nat) (ret : Option FieldType) (fr lo : Nat) (D : va_G) (tys : nd_T) (as : List Value) (W0 : va_W) (PW : va_W → Prop) (k : Nat) : Prop :=
  ∀ sz : Nat, vx_Met l y (wy y cc n ret) ({ frames := fr, cells := 1, slots := 6, locals := lo }) (va_Pc as (nd_PX D W0 tys sz)) (fun _ _ _ _ => False) (nd_XC D PW (va_A W0 sz) k) 1 6 (va_A W0 sz)
theorem nd_blindX {as : List Value} {D : va_G} {W0 : va_W} {tys : nd_T} {sz : Nat} : FrameBlind (va_Pc as (nd_PX D W0 tys sz)) := fun a U g mk q => by
  obtain ⟨q0, qq, qZ, qZ2, qs, qc, qd⟩ := q
  exact ⟨q0, (nd_blind (as := as) a U g mk ⟨q0, qq⟩).2, vx_Zq.moved (u := U) (U := U.calling g mk a) (Vm.Alike.refl U.vm) qZ, vx_Zq.moved (u := U) (U := U.calling g mk a) (Vm.Alike.refl U.vm) qZ2, fun q hq => by obtain ⟨b, hb⟩ := qs q hq; exact ⟨b, vk_R.same (u := U) rfl hb⟩, fun E hE => va_Nw.same rfl rfl (qc E hE), fun E hE => va_Nw.same rfl rfl (qd E hE)⟩
section NDX
variable {p : Program} {l : Launch} {e : Env} {R : Room} {s : State} {m : MethodId} {args : Array Value} {below : List Frame} {meth : Method} {c : Code} {H : Heap} {locs : List Loc} {cells slots : Nat} {Q : State → Prop}
variable {cc bytes : ByteArray} {nL maxL n idx fr lo : Nat} {ret : Option FieldType} {D : va_G} {tys : nd_T} {As rest st0 st1 : List Value} {W0 W1 : va_W} {v : Option Value} {own C : String} {y : MethodName} {b : Nat} {A0 : Nat → Prop} {pc k : Nat} {ls : Array Slot} {lv : List (Nat × Value)} {Qc : Array Value → State → Outcome → State → Prop}
theorem nd_preX {as : List Value} (hP : va_P D vwCl W0 H) (hK : va_K D vwCl tys s) (hD : va_D A0 W0) (hN : nd_N s) (hX : nd_X A0 s s.heap) (hS : va_S A0 s.heap H locs) (hA : ∀ q, s.heap.size ≤ q → A0 q) : ∀ U : State, U.heap = H → s.WarmedH U.vm → va_Pc as (nd_PX D W0 tys H.size) as.toArray U := fun U hU hW =>
  ⟨rfl, (nd_pre (as := as) hP hK hD hN U hU hW).2, by rw [hU]; exact hX.warm hS.2.1 hW (nd_free hD hS hA)⟩
theorem nd_backX {PW PW' : va_W → Prop} {V0 : va_W} (hPW : ∀ W1, PW' W1 → PW W1) (hr : vx_Run p l e R s m args below meth c H locs 0 0 1 6 (F0 m pc ls st0) rest (fun _ _ _ => False) (nd_XC D PW' (va_A W0 H.size) k) (va_A W0 H.size)) (hD : va_D A0 W0) (hS : va_S A0 s.heap H locs) (hA : ∀ q, s.heap.size ≤ q → A0 q) (hxt : ∀ x ∈ c.exceptionTable.toList, False) (hlocks : meth.locks = false) (hAe : A0 = va_A V0 s.heap.size) :
    W p l e R s m args below meth c H locs 0 0 (vx_MQ below Qc (nd_XC D PW (va_A V0 s.heap.size) k) args s 1 6 A0) (F0 m pc ls st0) := by
  intro T hT X
  rcases hr T hT X with ⟨v, st₀, t, T', L, h0, X', hL, e1, e2, hF, st⟩ | ⟨q, st₀, t, T', L, E, ce, h0, X', hL, e1, e2, ⟨⟨hE, W9, hw, hp⟩, hz, hk⟩, hce, hcv, hcl, st⟩
  · exact hF.elim
  · rw [h0] at hz hk
    have hf := nd_free (W0 := W0) hD hS hA
    obtain ⟨t2, a1, b1⟩ := vx_out (below := below) (free := A0) (Qc := Qc) (XC := nd_XC D PW (va_A V0 s.heap.size) k) (pc := pc) (ls := ls) (rest := rest) (H := T'.heap) (mc := 1) (ms := 6) (fun x hx => (hxt x hx).elim) hlocks (by rw [e1]; exact hce) hcv hcl
      (fun t' ht' _ => ⟨⟨hE, W9, hPW _ hw, by rw [ht', e1]; exact hp⟩, Nat.le_trans hS.1 (by rw [ht', e1]; exact hz), fun q h1 h2 => by rw [ht', e1, hk q (Nat.lt_of_lt_of_le h1 hS.1) (fun z => h2 (hAe ▸ hf q z))]; exact hS.2.1 q h1 (fun z => h2 (hAe ▸ z))⟩)
      (fun z hz => by
        rcases List.mem_append.mp hz with h | h
        · exact hS.2.2 z h
        · exact hf _ (hL z h)) (Nat.le_refl _) (Nat.le_refl _) T' rfl X'
    exact ⟨t2, st.trans a1, b1⟩
theorem nd_callXV {PW PW' : va_W → Prop} {V0 : va_W} (hPW : ∀ W1, PW' W1 → PW W1) (hx : p.tables.exec = Jvm.exec) (hb : c.code = cc) (hml : c.maxLocals = nL) (hown : s.vm.findClass own = some m.cls) (hts : ∀ w ∈ wsL_law, w.before args s = true) (hl : lv_has ls nL lv) (hP : va_P D vwCl W0 H) (hK : va_K D vwCl tys s) (hD : va_D A0 W0) (hS : va_S A0 s.heap H locs) (hA : ∀ q, s.heap.size ≤ q → A0 q) (hN : nd_N s) (hX : nd_X A0 s s.heap) (hxt : ∀ x ∈ c.exceptionTable.toList, False) (hlocks : meth.locks = false) (hAe : A0 = va_A V0 s.heap.size)
    (hC : nd_CX l y bytes maxL ret fr lo D tys (.ref b :: As) W0 PW' k) (cal : nd_iv y C bytes maxL ret n) (lk : Cond.methodLink own idx y ∈ wsL_law) (q0 : Nat) {ci : Nat} {fs : List Value} {T : u_T} {N : Nat} (hq : W0[q0]? = some (b, .inr (ci, fs))) (hc : vwCl[ci]? = some (C, T, N)) (hn : As.length = n)
    (room : fr + 1 ≤ R.frames ∧ 8 + (maxL + 11) + lo ≤ R.locals) (hf : 0 + 1 ≤ R.cells ∧ 0 + 6 ≤ R.slots) (hW : (rest.map fun v => v.category).sum ≤ 8) (hdg : decode cc pc = .ok (.invokevirtual idx, 3)) (hst : st0 = As.reverse ++ .ref b :: rest) : W p l e R s m args below meth c H locs 0 0 (vx_MQ below Qc (nd_XC D PW (va_A V0 s.heap.size) k) args s 1 6 A0) (F0 m pc ls st0) := by
  obtain ⟨hd, h2, h3, h4, h5⟩ := cal
  exact nd_backX hPW (vx_runV (Ts := wsL_law) (own := own) (C := C) (n := n) (As := As) (rest := rest) ⟨hx, hb, hml, hown, hts⟩ (hC H.size) (cwV (ws' := wsL_law) n hts (wy_V lk h2 h3 h4 h5) rfl rfl rfl hd room) ⟨nd_blindX, va_recv hK hP hc hq, nd_preX hP hK hD hN hX hS hA⟩ rfl hn hl.1 hst (lv_room hW) hdg hf) hD hS hA hxt hlocks hAe
theorem nd_callXS {PW PW' : va_W → Prop} {V0 : va_W} (hPW : ∀ W1, PW' W1 → PW W1) (hx : p.tables.exec = Jvm.exec) (hb : c.code = cc) (hml : c.maxLocals = nL) (hown : s.vm.findClass own = some m.cls) (hts : ∀ w ∈ wsL_law, w.before args s = true) (hl : lv_has ls nL lv) (hP : va_P D vwCl W0 H) (hK : va_K D vwCl tys s) (hD : va_D A0 W0) (hS : va_S A0 s.heap H locs) (hA : ∀ q, s.heap.size ≤ q → A0 q) (hN : nd_N s) (hX : nd_X A0 s s.heap) (hxt : ∀ x ∈ c.exceptionTable.toList, False) (hlocks : meth.locks = false) (hAe : A0 = va_A V0 s.heap.size)
    (hC : nd_CX l y bytes maxL ret fr lo D tys As W0 PW' k) (cal : nd_is y bytes maxL ret n) (lk : Cond.methodLink own idx y ∈ wsL_law) (hn : As.length = n)
    (room : fr + 1 ≤ R.frames ∧ 8 + (maxL + 11) + lo ≤ R.locals) (hf : 0 + 1 ≤ R.cells ∧ 0 + 6 ≤ R.slots) (hW : (rest.map fun v => v.category).sum ≤ 8) (hdg : decode cc pc = .ok (.invokestatic idx, 3)) (hst : st0 = As.reverse ++ rest) : W p l e R s m args below meth c H locs 0 0 (vx_MQ below Qc (nd_XC D PW (va_A V0 s.heap.size) k) args s 1 6 A0) (F0 m pc ls st0) := by
  obtain ⟨hd, h2, h4, h5⟩ := cal
  exact nd_backX hPW (vx_runS (Ts := wsL_law) (own := own) (n := n) (As := As) (rest := rest) ⟨hx, hb, hml, hown, hts⟩ (hC H.size) (va_cwS (ws' := wsL_law) n hts (wy_S lk h2 h4 h5) rfl rfl rfl hd room) ⟨nd_blindX, nd_preX hP hK hD hN hX hS hA⟩ rfl hn hl.1 hst (lv_room hW) hdg hf) hD hS hA hxt hlocks hAe
/-- throw new E(text) -/
theorem nd_thr {PW : va_W → Prop} {V0 : va_W} {E : String} {ik is ic : Nat} {text : String} (hx : p.tables.exec = Jvm.exec) (hb : c.code = cc) (hnt : l.stackTraces = false) (hown : s.vm.findClass "NightDiary" = some m.cls) (hX : nd_X A0 s s.heap) (hS : va_S A0 s.heap H locs) (hsize : ls.size = c.maxLocals)
    (hE : E = exn k) (hfit : Bundle.fit E = true) (hk : (Cond.classLink "NightDiary" ik E).before args s = true) (hini : (Cond.initialized E).before args s = true) (hat : ∀ w ∈ vx_atS "NightDiary" ic E ["java/lang/RuntimeException", "java/lang/Exception"], w.before args s = true) (hgood : (Cond.classLink "NightDiary" ik E :: Cond.initialized E :: vx_atS "NightDiary" ic E ["java/lang/RuntimeException", "java/lang/Exception"]).all vx_ot = true)
    (hq : (is, text) ∈ nd_Str) (d0 : decode cc pc = .ok (.new ik, 3)) (d3 : decode cc (pc + 3) = .ok (.dup, 1)) (d4 : decode cc (pc + 4) = .ok (.ldc is, 2)) (d6 : decode cc (pc + 6) = .ok (.invokespecial ic, 3)) (d9 : decode cc (pc + 9) = .ok (.athrow, 1))
    (hxt : ∀ x ∈ c.exceptionTable.toList, False) (hlocks : meth.locks = false) (hPW : PW W0) (hP : va_P D vwCl W0 H) (hAe : A0 = va_A V0 s.heap.size) (hfr : 5 < R.frames) (hlo : 82 ≤ R.locals) (hRc : 0 + 1 ≤ R.cells) (hRs : 0 + 6 ≤ R.slots) :
    W p l e R s m args below meth c H locs 0 0 (vx_MQ below Qc (nd_XC D PW (va_A V0 s.heap.size) k) args s 1 6 A0) (F0 m pc ls []) := by
  obtain ⟨sa, hstr⟩ := hX.2.2.1 _ hq
  refine vx_throwS (A := A0) (names := ["java/lang/RuntimeException", "java/lang/Exception"]) hx hb hnt hown hfit (by decide) hk hini hstr hat (List.all_eq_true.mp hgood) hX.1 hX.2.1 hS hsize d0 d3 d4 d6 d9 (fun x hx => (hxt x hx).elim) hfr hlo hRc hRs hlocks ?_ hS.2.2 (Nat.le_refl _) (Nat.le_refl _)
  intro t _ hz hk
  refine ⟨⟨hE, W0, hPW, fun i q hi => (hP i q hi).kept (hk q.1 (hP i q hi).lt)⟩, Nat.le_trans hS.1 hz, fun q h1 h2 => ?_⟩
  rw [hk q (Nat.lt_of_lt_of_le h1 hS.1)]
  exact hS.2.1 q h1 (fun z => h2 (hAe ▸ z))
end NDX
theorem nd_ofX {l : Launch} {y : MethodName} {cc : ByteArray} {n : Nat} {ret : Option FieldType} {fr lo : Nat} {D : va_G} {tys : nd_T} {as : List Value} {W0 : va_W} {PW : va_W → Prop} {k : Nat} (hy : plainName y.cls = true) (hn : (lg_sl as).length ≤ n)
    (body : ∀ (p : Program) (e : Env) (s : State) (m : MethodId) (args : Array Value) (below : List Frame) (meth : Method) (c : Code) (ls : Array Slot) (A : Nat → Prop), p.tables.exec = Jvm.exec → c.code = cc → c.maxLocals = n → s.vm.findClass y.cls = some m.cls → (∀ w ∈ wsL_law, w.before args s = true) → lv_has ls n (lv_args 0 as) → va_P D vwCl W0 s.heap → va_K D vwCl tys s → va_D A W0 → va_S A s.heap s.heap [] → (∀ q, s.heap.size ≤ q → A q) → nd_N s → nd_X A s s.heap → (∀ x ∈ c.exceptionTable.toList, False) → meth.locks = false → A = va_A W0 s.heap.size →
      W p l e ⟨fr, 1, 6, lo⟩ s m args below meth c s.heap [] 0 0 (vx_MQ below (fun _ _ _ _ => False) (nd_XC D PW (va_A W0 s.heap.size) k) args s 1 6 A) (F0 m 0 ls [])) : nd_CX l y cc n ret fr lo D tys as W0 PW k := by
  intro sz
  refine vx_ofW (cc := cc) (maxL := n) (ret := ret) hy rfl ?_
  intro p e s m args below meth c s₁ B hml hxt hv
  obtain ⟨rfl, ⟨hsz, hP, hK, hD0, hN⟩, hX⟩ := hv
  subst hsz
  have hts := atoms_spec (ws := wy y cc n ret) B.pre
  have hts : ∀ w ∈ wsL_law, w.before as.toArray s = true := fun w h => hts w (List.mem_cons_of_mem _ h)
  have hl := lv_entry as hn
  rw [lg_entry_eq]
  exact body p e s m _ below meth c _ (va_A W0 s.heap.size) B.exec B.bytes hml (findClass_of_methodNamed B.named) hts hl hP hK hD0.self va_S.rf (fun q h => Or.inr h) hN hX hxt B.notSynchronized rfl
