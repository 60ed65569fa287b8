/-! One receipt, read both ways. -/
def T7 (mb : Nat → Int32) (ml mm x2 : Int32) (mr : Nat → Int32) (mat mw : Int32) : Option ((Nat → Int32) × Int32 × Int32 × Int32) :=
  Option.bind (aput mr 96 (((8 : Int32) * mm) + (2 : Int32)) x2) (fun c27 => Option.bind (fX9_takes mb ml mat mw (61 : Int32)) (fun q28 => Option.bind (bz q28.1) (fun _ => Option.bind (fX9_number mb ml q28.2 q28.1 (0 : Int32) (9999 : Int32)) (fun q30 => Option.bind (aput c27 96 (((8 : Int32) * mm) + (7 : Int32)) q30.1) (fun c31 => if q30.2.2 = 0 then some (c31, q30.2.1, q30.2.2, mm + (0 : Int32)) else some (c31, q30.2.1, q30.2.2, mm + (1 : Int32)))))))
def TC (mb : Nat → Int32) (ml mm : Int32) (mr : Nat → Int32) (mat mw : Int32) : Option ((Nat → Int32) × Int32 × Int32 × Int32) :=
  Option.bind (fX9_takes mb ml mat mw (58 : Int32)) (fun q12 => Option.bind (bz q12.1) (fun _ => Option.bind (fX9_number mb ml q12.2 q12.1 (1 : Int32) (999 : Int32)) (fun q14 => Option.bind (aput mr 96 (((8 : Int32) * mm) + (3 : Int32)) q14.1) (fun c15 => fX9_readsReceipt_100 (fun a b c d => T7 mb ml mm a b c d) mb ml ((8 : Int32) * mm) LF (1 : Int32) c15 q14.2.1 q14.2.2))))
def TB (mb : Nat → Int32) (ml mm : Int32) (mr : Nat → Int32) (mat mw : Int32) : Option ((Nat → Int32) × Int32 × Int32 × Int32) :=
  Option.bind (fX9_takes mb ml mat mw (64 : Int32)) (fun q8 => Option.bind (bz q8.1) (fun _ => Option.bind (fX9_number mb ml q8.2 q8.1 (0 : Int32) (9 : Int32)) (fun q10 => Option.bind (aput mr 96 (((8 : Int32) * mm) + (1 : Int32)) q10.1) (fun c11 => TC mb ml mm c11 q10.2.1 q10.2.2))))
def TA (mb : Nat → Int32) (ml mm : Int32) (mr : Nat → Int32) (mat mw : Int32) : Option ((Nat → Int32) × Int32 × Int32 × Int32) :=
  Option.bind (fX9_number mb ml mat mw (0 : Int32) (9999 : Int32)) (fun q6 => Option.bind (aput mr 96 (((8 : Int32) * mm) + (0 : Int32)) q6.1) (fun c7 => TB mb ml mm c7 q6.2.1 q6.2.2))
theorem rr_eq {mb mr : Nat → Int32} {ml mat mw mm : Int32} : fX9_readsReceipt mb mr ml mat mw mm = fX9_readsReceipt_10 (fun m => TA mb ml mm m mat mw) ((8 : Int32) * mm) LF (0 : Int32) mr := rfl
def SO (mm : Nat) (mr' mr : Nat → Int32) : Prop := ∀ j, (j < 8 * mm ∨ 8 * mm + 8 ≤ j) → mr' j = mr j
theorem SO_tr {mm : Nat} {a b c : Nat → Int32} (h : SO mm a b) (h2 : SO mm b c) : SO mm a c := fun j hj => by rw [h j hj, h2 j hj]
theorem SO_upd {mm k : Nat} {x : Int32} {a : Nat → Int32} (hk : k < 8) : SO mm (upd a (8 * mm + k) x) a := fun j hj => pk_un (by omega)
theorem SO_rf {mm : Nat} {a : Nat → Int32} : SO mm a a := fun _ _ => rfl
def aft (b : Nat → Nat) (len i : Nat) (T : RS) : Prop := i = len ∨ ¬ dig (b i) ∨ stp b len i T
def OE (b : Nat → Nat) (len i : Nat) (S : RS) (mm : Nat) (mr : Nat → Int32) (res : Option ((Nat → Int32) × Int32 × Int32 × Int32)) : Prop :=
  ∃ (n : Nat) (mr' : Nat → Int32) (T : RS), i + n ≤ len ∧ res = some (mr', nI (i + n), (0 : Int32), nI mm) ∧ SO mm mr' mr ∧ rn b n i S T ∧ (∀ j, i ≤ j → j < i + n → b j ≠ 59) ∧ stp b len (i + n) T ∧ (T.2.1 ≠ (3 : Int32) ∨ T.2.2.2.1 = 0)
/-- what is read of a receipt -/
def RR (mm : Nat) (mr kit : Nat → Int32) (v : Nat) (r3 r4 : Int32) (c : Nat) : Prop :=
  r3 = mr (8 * mm) ∧ r4 = mr (8 * mm + 1) ∧ nI v = mr (8 * mm + 7) ∧ nI c = mr (8 * mm + 2) ∧ (1 ≤ c ∧ c ≤ 4) ∧ (∃ t : Nat, t ≤ 9999 ∧ r3 = nI t) ∧ (∃ z : Nat, z ≤ 9 ∧ r4 = nI z) ∧ ∀ k, k < c → ∃ x : Nat, 1 ≤ x ∧ x ≤ 999 ∧ kit k = nI x ∧ mr (8 * mm + 3 + k) = nI x
def OG (L : Nat) (b : Nat → Nat) (len i : Nat) (S : RS) (mm : Nat) (mr : Nat → Int32) (res : Option ((Nat → Int32) × Int32 × Int32 × Int32)) : Prop :=
  ∃ (n : Nat) (mr' kit' : Nat → Int32) (v d c : Nat) (r3 r4 : Int32), L ≤ n ∧ i + n ≤ len ∧ res = some (mr', nI (i + n), (1 : Int32), nI (mm + 1)) ∧ SO mm mr' mr ∧ rn b n i S (kit', nI 3, nI v, nI d, r3, r4, nI c) ∧ (∀ j, i ≤ j → j < i + n → b j ≠ 59) ∧ aft b len (i + n) (kit', nI 3, nI v, nI d, r3, r4, nI c) ∧ DN v d ∧ RR mm mr' kit' v r3 r4 c
def Out (L : Nat) (b : Nat → Nat) (len i : Nat) (S : RS) (mm : Nat) (mr : Nat → Int32) (res : Option ((Nat → Int32) × Int32 × Int32 × Int32)) : Prop := OE b len i S mm mr res ∨ OG L b len i S mm mr res
theorem out_tr {L L' : Nat} {b : Nat → Nat} {len i n mm : Nat} {S S' : RS} {mr mr1 : Nat → Int32} {res : Option ((Nat → Int32) × Int32 × Int32 × Int32)} (h1 : rn b n i S S') (h2 : ∀ j, i ≤ j → j < i + n → b j ≠ 59) (h3 : SO mm mr1 mr) (hL : L' ≤ n + L) (h : Out L b len (i + n) S' mm mr1 res) : Out L' b len i S mm mr res := by
  rcases h with ⟨m, mr', T, q1, q2, q3, q4, q5, q6, q7⟩ | ⟨m, mr', kit', v, d, c, r3, r4, q0, q1, q2, q3, q4, q5, q6, q7, q8⟩
  · refine Or.inl ⟨n + m, mr', T, by omega, ?_, SO_tr q3 h3, rn_add n m i S S' T h1 q4, fun j a1 a2 => ?_, ?_, q7⟩
    · rw [← Nat.add_assoc]; exact q2
    · rcases Nat.lt_or_ge j (i + n) with a | a
      · exact h2 j a1 a
      · exact q5 j a (by omega)
    · rw [← Nat.add_assoc]; exact q6
  · refine Or.inr ⟨n + m, mr', kit', v, d, c, r3, r4, by omega, by omega, ?_, SO_tr q3 h3, rn_add n m i S S' _ h1 q4, fun j a1 a2 => ?_, ?_, q7, q8⟩
    · rw [← Nat.add_assoc]; exact q2
    · rcases Nat.lt_or_ge j (i + n) with a | a
      · exact h2 j a1 a
      · exact q5 j a (by omega)
    · rw [← Nat.add_assoc]; exact q6
theorem dn_b {v d : Nat} (h : DN v d) : v ≤ 9999 ∧ 1 ≤ d ∧ d ≤ 4 := by unfold DN at h; omega
theorem i00 : (0 : Int32) + (1 : Int32) = nI 1 := rfl
section Marks
variable {kit : Nat → Int32} {r1 r3 r4 r5 : Int32} {d g c : Nat}
theorem mk_ (r0 : Int32) (hd : 1 ≤ d ∧ d ≤ 4) (hg : g ≤ 126) (hn : ¬ dig g) : acc (kit, r0, r1, nI d, r3, r4, r5) (nI g) = Option.bind (fX6_acceptMark kit r0 r1 (nI d) r3 r4 r5 (nI g)) (fun q => if q.1 = 0 then some ((0 : Int32), q.2) else some ((1 : Int32), q.2)) := by
  rw [ac_mark hg hn, if_neg (nI_nle (by omega) (by omega))]
theorem mk0 (hd : 1 ≤ d ∧ d ≤ 4) : acc (kit, nI 0, r1, nI d, r3, r4, r5) (nI 64) = some ((1 : Int32), (kit, nI 1, 0, 0, r1, r4, r5)) := by
  rw [mk_ _ hd (by omega) (by unfold dig; omega)]; rfl
theorem mk1 (hd : 1 ≤ d ∧ d ≤ 4) : acc (kit, nI 1, r1, nI d, r3, r4, r5) (nI 58) = some ((1 : Int32), (kit, nI 2, 0, 0, r3, r1, r5)) := by
  rw [mk_ _ hd (by omega) (by unfold dig; omega)]; rfl
theorem mk3 (hd : 1 ≤ d ∧ d ≤ 4) : acc (kit, nI 3, r1, nI d, r3, r4, r5) (nI 59) = some ((1 : Int32), (kit, nI 0, 0, 0, r3, r4, 0)) := by
  rw [mk_ _ hd (by omega) (by unfold dig; omega)]; rfl
theorem endI (r0 r2 x : Int32) (hc : c < 4) : fX6_endItem kit r0 r1 r2 (nI c) x = some ((1 : Int32), upd kit c r1, x, 0, 0, nI (c + 1)) := by
  unfold fX6_endItem
  rw [if_neg (nI_pos (by omega)), li 4, if_neg (nI_ge hc (by omega)), aput_n hc (by omega), sb, ia]
  rfl
theorem mk2e (hd : 1 ≤ d ∧ d ≤ 4) (hc : c < 4) : acc (kit, nI 2, r1, nI d, r3, r4, nI c) (nI 61) = some ((1 : Int32), (upd kit c r1, nI 3, 0, 0, r3, r4, nI (c + 1))) := by
  rw [mk_ _ hd (by omega) (by unfold dig; omega)]
  unfold fX6_acceptMark
  rw [if_neg (show ¬ nI 2 = (0 : Int32) by decide), if_neg (show ¬ nI 2 = (1 : Int32) by decide), if_pos (show nI 2 = (2 : Int32) from rfl), if_pos (show nI 61 = (61 : Int32) from rfl), endI _ _ _ hc, sb, if_neg one_n, sb, if_neg one_n]
  rfl
theorem mk2p (hd : 1 ≤ d ∧ d ≤ 4) (hc : c + 1 < 4) : acc (kit, nI 2, r1, nI d, r3, r4, nI c) (nI 43) = some ((1 : Int32), (upd kit c r1, nI 2, 0, 0, r3, r4, nI (c + 1))) := by
  rw [mk_ _ hd (by omega) (by unfold dig; omega)]
  unfold fX6_acceptMark
  rw [if_neg (show ¬ nI 2 = (0 : Int32) by decide), if_neg (show ¬ nI 2 = (1 : Int32) by decide), if_pos (show nI 2 = (2 : Int32) from rfl), if_neg (show ¬ nI 43 = (61 : Int32) by decide), if_pos (show nI 43 = (43 : Int32) from rfl), ia, li 4, if_neg (nI_ge hc (by omega)), endI _ _ _ (by omega), sb, if_neg one_n, sb, if_neg one_n]
  rfl
theorem no0 (hd : 1 ≤ d ∧ d ≤ 4) (hg : g ≤ 126) (hn : ¬ dig g) (h : g ≠ 64) : acc (kit, nI 0, r1, nI d, r3, r4, r5) (nI g) = some ((0 : Int32), (kit, nI 0, r1, nI d, r3, r4, r5)) := by
  rw [mk_ _ hd hg hn]
  unfold fX6_acceptMark
  rw [if_pos (show nI 0 = (0 : Int32) from rfl), li 64, if_neg (by rw [nI_eq (by omega) (by omega)]; exact h), sb, if_pos rfl]
theorem no1 (hd : 1 ≤ d ∧ d ≤ 4) (hg : g ≤ 126) (hn : ¬ dig g) (h : g ≠ 58) : acc (kit, nI 1, r1, nI d, r3, r4, r5) (nI g) = some ((0 : Int32), (kit, nI 1, r1, nI d, r3, r4, r5)) := by
  rw [mk_ _ hd hg hn]
  unfold fX6_acceptMark
  rw [if_neg (show ¬ nI 1 = (0 : Int32) by decide), if_pos (show nI 1 = (1 : Int32) from rfl), li 58, if_neg (by rw [nI_eq (by omega) (by omega)]; exact h), sb, if_pos rfl]
theorem no3 (hd : 1 ≤ d ∧ d ≤ 4) (hg : g ≤ 126) (hn : ¬ dig g) (h : g ≠ 59) : acc (kit, nI 3, r1, nI d, r3, r4, r5) (nI g) = some ((0 : Int32), (kit, nI 3, r1, nI d, r3, r4, r5)) := by
  rw [mk_ _ hd hg hn]
  unfold fX6_acceptMark
  rw [if_neg (show ¬ nI 3 = (0 : Int32) by decide), if_neg (show ¬ nI 3 = (1 : Int32) by decide), if_neg (show ¬ nI 3 = (2 : Int32) by decide), li 59, if_neg (by rw [nI_eq (by omega) (by omega)]; exact h), sb, if_pos rfl]
theorem no2 (hd : 1 ≤ d ∧ d ≤ 4) (hg : g ≤ 126) (hn : ¬ dig g) (hc : c < 4) (h : g ≠ 61) (h2 : g = 43 → c = 3) : acc (kit, nI 2, r1, nI d, r3, r4, nI c) (nI g) = some ((0 : Int32), (kit, nI 2, r1, nI d, r3, r4, nI c)) := by
  rw [mk_ _ hd hg hn]
  unfold fX6_acceptMark
  rw [if_neg (show ¬ nI 2 = (0 : Int32) by decide), if_neg (show ¬ nI 2 = (1 : Int32) by decide), if_pos (show nI 2 = (2 : Int32) from rfl), li 61, if_neg (by rw [nI_eq (by omega) (by omega)]; exact h)]
  by_cases e : g = 43
  · have := h2 e
    subst this
    rw [e, if_pos (show nI 43 = (43 : Int32) from rfl), if_pos (show (4 : Int32) ≤ nI 3 + 1 by decide), sb, if_pos rfl]
  · rw [li 43, if_neg (by rw [nI_eq (by omega) (by omega)]; exact e), sb, if_pos rfl]
end Marks
section Stages
variable {b : Nat → Nat} {len : Nat} {mb : Nat → Int32}
theorem ap8 {mr : Nat → Int32} {mm k : Nat} {x : Int32} (hm : mm ≤ 7) (hk : k < 8) : aput mr 96 ((8 : Int32) * nI mm + nI k) x = some (upd mr (8 * mm + k) x) := by
  rw [li 8, pk_mul, nI_add, aput_n (by omega) (by omega)]
theorem T7_0 (hb : BF b len mb) {i mm : Nat} (hm : mm ≤ 7) (hi : i ≤ len) (x2 : Int32) (mr : Nat → Int32) : ∃ mr', T7 mb (nI len) (nI mm) x2 mr (nI i) (0 : Int32) = some (mr', nI i, (0 : Int32), nI mm) ∧ SO mm mr' mr := by
  obtain ⟨g, hg⟩ := num0 hb hi (0 : Int32) (9999 : Int32)
  refine ⟨upd (upd mr (8 * mm + 2) x2) (8 * mm + 7) g, ?_, SO_tr (SO_upd (by omega)) (SO_upd (by omega))⟩
  unfold T7
  rw [li 2, ap8 hm (by omega), sb, tk0, sb, bz0, sb]
  dsimp only
  rw [hg, sb, li 7, ap8 hm (by omega), sb, if_pos rfl, i_0]
theorem rx_0 {i c n : Nat} (hc : c ≤ 4) (K : Int32 → (Nat → Int32) → Int32 → Int32 → Option ((Nat → Int32) × Int32 × Int32 × Int32)) (x1 : Int32) (mr : Nat → Int32) : fX9_readsReceipt_100 K mb (nI len) x1 (n + 1) (nI c) mr (nI i) (0 : Int32) = K (nI c) mr (nI i) (0 : Int32) := by
  rw [fX9_readsReceipt_100]
  by_cases h : c = 4
  · rw [h, if_pos (show (4 : Int32) ≤ nI 4 by decide)]
  · rw [li 4, if_neg (nI_ge (by omega) (by omega)), tk0, sb, if_pos rfl]
theorem TC_0 (hb : BF b len mb) {i mm : Nat} (hm : mm ≤ 7) (hi : i ≤ len) (mr : Nat → Int32) : ∃ mr', TC mb (nI len) (nI mm) mr (nI i) (0 : Int32) = some (mr', nI i, (0 : Int32), nI mm) ∧ SO mm mr' mr := by
  obtain ⟨g, hg⟩ := num0 hb hi (1 : Int32) (999 : Int32)
  obtain ⟨mr', h1, h2⟩ := T7_0 hb hm hi (nI 1) (upd mr (8 * mm + 3) g)
  refine ⟨mr', ?_, SO_tr h2 (SO_upd (by omega))⟩
  unfold TC
  rw [tk0, sb, bz0, sb]
  dsimp only
  rw [hg, sb, li 3, ap8 hm (by omega), sb, LF_eq, show (1 : Int32) = nI 1 from rfl, rx_0 (by omega)]
  exact h1
theorem TB_0 (hb : BF b len mb) {i mm : Nat} (hm : mm ≤ 7) (hi : i ≤ len) (mr : Nat → Int32) : ∃ mr', TB mb (nI len) (nI mm) mr (nI i) (0 : Int32) = some (mr', nI i, (0 : Int32), nI mm) ∧ SO mm mr' mr := by
  obtain ⟨g, hg⟩ := num0 hb hi (0 : Int32) (9 : Int32)
  obtain ⟨mr', h1, h2⟩ := TC_0 hb hm hi (upd mr (8 * mm + 1) g)
  refine ⟨mr', ?_, SO_tr h2 (SO_upd (by omega))⟩
  unfold TB
  rw [tk0, sb, bz0, sb]
  dsimp only
  rw [hg, sb, show ((8 : Int32) * nI mm + (1 : Int32)) = (8 : Int32) * nI mm + nI 1 from rfl, ap8 hm (by omega), sb]
  exact h1
theorem d59 {g : Nat} (h : dig g) : g ≠ 59 := by unfold dig at h; omega
theorem T7_ok (hb : BF b len mb) {i mm c v d : Nat} {kit mr : Nat → Int32} {r3 r4 : Int32} (hm : mm ≤ 7) (hi : i ≤ len) (hc : c ≤ 3) (hv : DN v d) (h1 : 1 ≤ v) (h2 : v ≤ 999) (ha : aft b len i (kit, nI 2, nI v, nI d, r3, r4, nI c)) (hp : i < len → b i = 43 → c = 3)
    (m0 : r3 = mr (8 * mm)) (m1 : r4 = mr (8 * mm + 1)) (mt : ∃ t : Nat, t ≤ 9999 ∧ r3 = nI t) (mz : ∃ z : Nat, z ≤ 9 ∧ r4 = nI z) (mk : ∀ k, k < c → ∃ x : Nat, 1 ≤ x ∧ x ≤ 999 ∧ kit k = nI x ∧ mr (8 * mm + 3 + k) = nI x) (mv : mr (8 * mm + 3 + c) = nI v) :
    Out 2 b len i (kit, nI 2, nI v, nI d, r3, r4, nI c) mm mr (T7 mb (nI len) (nI mm) (nI (c + 1)) mr (nI i) (1 : Int32)) := by
  have hdn := dn_b hv
  unfold T7
  rw [li 2, ap8 hm (by omega), sb]
  by_cases he : i < len ∧ b i = 61
  · obtain ⟨hil, h61⟩ := he
    have h61' : b i = 61 := h61
    rw [li 61, tk1 hb hil h61', sb, bz1, sb]
    dsimp only
    have step : rn b 1 i (kit, nI 2, nI v, nI d, r3, r4, nI c) (upd kit c (nI v), nI 3, 0, 0, r3, r4, nI (c + 1)) := ⟨_, by rw [h61]; exact mk2e hdn.2 (by omega), rfl⟩
    rcases num_E hb (show PH 3 0 4 from by unfold PH; omega) (kit := upd kit c (nI v)) (r3 := r3) (r4 := r4) (r5 := nI (c + 1)) (show i + 1 ≤ len from hil) (x1 := (0 : Int32)) (x2 := (9999 : Int32)) rfl rfl with ⟨g, hg, hst⟩ | ⟨m, v', d', q1, q2, q3, q4, q5, q6, q7, q8, q9⟩
    · rw [hg, sb, li 7, ap8 hm (by omega), sb, if_pos rfl, i_0]
      exact Or.inl ⟨1, _, _, hil, rfl, SO_tr (SO_upd (by omega)) (SO_upd (by omega)), step, fun j a1 a2 => by rw [show j = i by omega, h61]; omega, hst, Or.inr rfl⟩
    · have hdn' := dn_b q3
      rw [q6, sb, li 7, ap8 hm (by omega), sb, if_neg one_n, ia]
      refine Or.inr ⟨1 + m, upd (upd mr (8 * mm + 2) (nI (c + 1))) (8 * mm + 7) (nI v'), upd kit c (nI v), v', d', c + 1, r3, r4, by omega, by omega, by rw [← Nat.add_assoc], SO_tr (SO_upd (by omega)) (SO_upd (by omega)), rn_add 1 m i _ _ _ step q7, fun j a1 a2 => ?_, by rw [← Nat.add_assoc]; exact q9, q3, ?_⟩
      · rcases Nat.lt_or_ge j (i + 1) with a | a
        · rw [show j = i by omega, h61]; omega
        · exact d59 (q8 j a (by omega))
      · refine ⟨?_, ?_, pk_us.symm, ?_, by omega, mt, mz, fun k hk => ?_⟩
        · rw [pk_un (by omega), pk_un (by omega)]; exact m0
        · rw [pk_un (by omega), pk_un (by omega)]; exact m1
        · rw [pk_un (by omega), pk_us]
        · by_cases e : k = c
          · subst e
            exact ⟨v, h1, h2, pk_us, by rw [pk_un (by omega), pk_un (by omega)]; exact mv⟩
          · obtain ⟨x, x1, x2, x3, x4⟩ := mk k (by omega)
            exact ⟨x, x1, x2, by rw [pk_un e]; exact x3, by rw [pk_un (by omega), pk_un (by omega)]; exact x4⟩
  · rw [li 61, tkn hb hi ⟨by omega, by omega⟩ (by omega), sb, bz0, sb]
    dsimp only
    obtain ⟨g, hg⟩ := num0 hb hi (0 : Int32) (9999 : Int32)
    rw [hg, sb, li 7, ap8 hm (by omega), sb, if_pos rfl, i_0]
    refine Or.inl ⟨0, _, _, hi, rfl, SO_tr (SO_upd (by omega)) (SO_upd (by omega)), rfl, fun j a1 a2 => by omega, ?_, Or.inl (by show nI 2 ≠ (3 : Int32); decide)⟩
    rcases ha with e | e | e
    · exact Or.inl e
    · rcases Nat.lt_or_ge i len with hil | hil
      · exact Or.inr ⟨hil, _, no2 hdn.2 ((hb.2 i hil).2.2) e (by omega) (fun x => he ⟨hil, x⟩) (hp hil)⟩
      · exact Or.inl (show i = len by omega)
    · exact e
theorem TD_ok (hb : BF b len mb) {mm : Nat} {r3 r4 : Int32} (hm : mm ≤ 7) (mt : ∃ t : Nat, t ≤ 9999 ∧ r3 = nI t) (mz : ∃ z : Nat, z ≤ 9 ∧ r4 = nI z) : ∀ (f c i v d n : Nat) (kit mr : Nat → Int32), c + f = 3 → f + 1 < n → i ≤ len → DN v d → 1 ≤ v → v ≤ 999 → aft b len i (kit, nI 2, nI v, nI d, r3, r4, nI c) →
    r3 = mr (8 * mm) → r4 = mr (8 * mm + 1) → (∀ k, k < c → ∃ x : Nat, 1 ≤ x ∧ x ≤ 999 ∧ kit k = nI x ∧ mr (8 * mm + 3 + k) = nI x) → mr (8 * mm + 3 + c) = nI v →
    Out 2 b len i (kit, nI 2, nI v, nI d, r3, r4, nI c) mm mr (fX9_readsReceipt_100 (fun a b c d => T7 mb (nI len) (nI mm) a b c d) mb (nI len) ((8 : Int32) * nI mm) n (nI (c + 1)) mr (nI i) (1 : Int32)) := by
  intro f
  induction f with
  | zero =>
    intro c i v d n kit mr hcf hn hi hv h1 h2 ha m0 m1 mk mv
    obtain ⟨n, rfl⟩ : ∃ k, n = k + 1 := ⟨n - 1, by omega⟩
    have hc3 : c = 3 := by omega
    rw [fX9_readsReceipt_100, if_pos (by rw [hc3]; decide)]
    exact T7_ok hb hm hi (by omega) hv h1 h2 ha (fun _ _ => hc3) m0 m1 mt mz mk mv
  | succ f ih =>
    intro c i v d n kit mr hcf hn hi hv h1 h2 ha m0 m1 mk mv
    obtain ⟨n, rfl⟩ : ∃ k, n = k + 1 := ⟨n - 1, by omega⟩
    have hdn := dn_b hv
    rw [fX9_readsReceipt_100, li 4, if_neg (nI_ge (by omega) (by omega))]
    by_cases he : i < len ∧ b i = 43
    · obtain ⟨hil, h43⟩ := he
      rw [li 43, tk1 hb hil h43, sb, if_neg one_n]
      dsimp only
      have step : rn b 1 i (kit, nI 2, nI v, nI d, r3, r4, nI c) (upd kit c (nI v), nI 2, 0, 0, r3, r4, nI (c + 1)) := ⟨_, by rw [h43]; exact mk2p hdn.2 (by omega), rfl⟩
      have no : ∀ j, i ≤ j → j < i + 1 → b j ≠ 59 := fun j a1 a2 => by rw [show j = i by omega, h43]; omega
      have ap : ∀ x : Int32, aput mr 96 ((8 : Int32) * nI mm + (3 : Int32) + nI (c + 1)) x = some (upd mr (8 * mm + (3 + (c + 1))) x) := fun x => by rw [li 8, li 3, pk_mul, nI_add, nI_add, aput_n (by omega) (by omega), show 8 * mm + 3 + (c + 1) = 8 * mm + (3 + (c + 1)) by omega]
      rcases num_E hb (show PH 2 1 3 from by unfold PH; omega) (kit := upd kit c (nI v)) (r3 := r3) (r4 := r4) (r5 := nI (c + 1)) (show i + 1 ≤ len from hil) (x1 := (1 : Int32)) (x2 := (999 : Int32)) rfl rfl with ⟨g, hg, hst⟩ | ⟨m, v', d', q1, q2, q3, q4, q5, q6, q7, q8, q9⟩
      · obtain ⟨n, rfl⟩ : ∃ k, n = k + 1 := ⟨n - 1, by omega⟩
        rw [hg, sb, ap, sb]
        dsimp only
        rw [ia, rx_0 (by omega)]
        obtain ⟨mr', z1, z2⟩ := T7_0 hb hm (show i + 1 ≤ len from hil) (nI (c + 1 + 1)) (upd mr (8 * mm + (3 + (c + 1))) g)
        exact Or.inl ⟨1, mr', _, hil, z1, SO_tr z2 (SO_upd (by omega)), step, no, hst, Or.inl (by show nI 2 ≠ (3 : Int32); decide)⟩
      · rw [q6, sb, ap, sb]
        dsimp only
        rw [ia]
        have q59 : ∀ j, i ≤ j → j < i + (1 + m) → b j ≠ 59 := fun j a1 a2 => by
          rcases Nat.lt_or_ge j (i + 1) with a | a
          · exact no j a1 a
          · exact d59 (q8 j a (by omega))
        have h999 : v' ≤ 999 := by unfold DN at q3; omega
        refine out_tr (n := 1 + m) (L := 2) (rn_add 1 m i _ _ _ step q7) q59 (SO_upd (k := 3 + (c + 1)) (x := nI v') (by omega)) (by omega) ?_
        rw [show i + (1 + m) = i + 1 + m by omega]
        refine ih (c + 1) (i + 1 + m) v' d' n _ _ (by omega) (by omega) q2 q3 q5 h999 q9 ?_ ?_ (fun k hk => ?_) ?_
        · rw [pk_un (by omega)]; exact m0
        · rw [pk_un (by omega)]; exact m1
        · by_cases e : k = c
          · subst e
            exact ⟨v, h1, h2, pk_us, by rw [pk_un (by omega)]; exact mv⟩
          · obtain ⟨x, x1, x2, x3, x4⟩ := mk k (by omega)
            exact ⟨x, x1, x2, by rw [pk_un e]; exact x3, by rw [pk_un (by omega)]; exact x4⟩
        · rw [show 8 * mm + 3 + (c + 1) = 8 * mm + (3 + (c + 1)) by omega, pk_us]
    · rw [li 43, tkn hb hi ⟨by omega, by omega⟩ (by omega), sb, if_pos rfl]
      exact T7_ok hb hm hi (by omega) hv h1 h2 ha (fun a1 a2 => absurd ⟨a1, a2⟩ he) m0 m1 mt mz mk mv
end Stages
