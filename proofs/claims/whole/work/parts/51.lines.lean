/-! Lines of the pages. -/
theorem fo_cn (P : Nat → Bool) : ∀ c, fo (fun z s => if P z = true then s + 1 else s) c 0 (0 : Int32) = nI (cnN P c)
  | 0 => rfl
  | c + 1 => by
    rw [fo_add _ c 1, fo_cn P c, Nat.zero_add]
    show (if P c = true then nI (cnN P c) + 1 else nI (cnN P c)) = nI (cnN P c + (if P c = true then 1 else 0))
    by_cases h : P c = true
    · rw [if_pos h, if_pos h, ia]
    · rw [if_neg h, if_neg h, Nat.add_zero]
section Lines
variable {ms kc : Nat → Int32}
def usB (ms : Nat → Int32) (z : Nat) : Bool := decide (z % 6 < gc ms (z / 6))
theorem NF_s {σ : Type} (w : WF ms) (st : Nat → Nat → σ → σ) (s : σ) : NF ms st s = fo (fun z s => if z % 6 < gc ms (z / 6) then st (z / 6) (z % 6) s else s) 60 0 s := by
  obtain ⟨⟨-, h10⟩, hp, hz, -⟩ := w
  rw [show 60 = 6 * 10 from rfl, fo_slots st (gc ms) 10 (fun p hp' => (hp p hp').1.2)]
  unfold NF
  have e2 := fo_add (fun p s => fo (fun r s => st p r s) (gc ms p) 0 s) (gn ms) (10 - gn ms) 0 s
  rw [show gn ms + (10 - gn ms) = 10 by omega] at e2
  rw [e2]
  refine (fo_id (10 - gn ms) (0 + gn ms) _ (fun j s h1 h2 => ?_)).symm
  rw [(hz j (by omega) (by omega)).1]
  rfl
theorem NF_cn (w : WF ms) (B : Nat → Nat → Bool) : NF ms (fun p r s => if B p r = true then s + 1 else s) (0 : Int32) = nI (cnN (fun z => usB ms z && B (z / 6) (z % 6)) 60) := by
  rw [NF_s w, ← fo_cn]
  refine fo_congr _ _ _ (fun z s _ _ => ?_)
  unfold usB
  by_cases h : z % 6 < gc ms (z / 6) <;> simp [h]
/-- the time of a receipt -/
def tmP (ms : Nat → Int32) (p r : Nat) : Nat := (ms (pl p r)).toNatClampNeg
theorem tm_n {p r : Nat} (v : RV ms p r) : ms (pl p r) = nI (tmP ms p r) ∧ tmP ms p r ≤ 9999 := by
  obtain ⟨⟨t, ht, e⟩, -⟩ := v
  unfold tmP
  rw [e, nN (by omega)]
  exact ⟨rfl, ht⟩
def lsB (ms : Nat → Int32) (p0 r0 p r : Nat) : Bool := decide (tmP ms p r < tmP ms p0 r0 ∨ (tmP ms p r = tmP ms p0 r0 ∧ (p < p0 ∨ (p = p0 ∧ r < r0)))) && decide (pgI ms p r = pgI ms p0 r0)
theorem sub_pos {a b : Nat} (ha : a ≤ 9999) (hb : b ≤ 9999) : ((0 : Int32) < nI a - nI b ↔ b < a) ∧ (nI a - nI b = 0 ↔ b = a) := by
  have e := pk_sub_toInt (a := a) (b := b) (by omega) (by omega)
  constructor
  · rw [Int32.lt_iff_toInt_lt, e, show (0 : Int32).toInt = 0 from rfl]
    omega
  · rw [← Int32.toInt_inj, e, show (0 : Int32).toInt = 0 from rfl]
    omega
theorem m_rank (w : WF ms) {p0 r0 : Nat} (hp0 : p0 < gn ms) (hr0 : r0 < gc ms p0) : fX9_rankOf ms (nI p0) (nI r0) = some (NF ms (fun p r s => if lsB ms p0 r0 p r = true then s + 1 else s) 0) := by
  unfold fX9_rankOf
  have h10 := p10 w hp0
  have h6 := r6 w hp0 hr0
  refine m_loop2 w (fun n s p => fX9_rankOf_5 (fun u => some u) ms (nI p0) (nI r0) n s (nI p)) (fun k p n s r => fX9_rankOf_19 k ms (nI p0) (nI r0) (nI p) n s (nI r)) (fun u => some u) _ (fun n s => ?_) (fun n s p hp => ?_) (fun k p m s hp => ?_) (fun k p m s r hp hr => ?_) 0
  · show fX9_rankOf_5 _ _ _ _ (n + 1) s _ = _
    rw [fX9_rankOf_5, m_n w, sb, mNe w]
  · show fX9_rankOf_5 _ _ _ _ (n + 1) s _ = _
    rw [fX9_rankOf_5, m_n w, sb, mN w hp, ia]
    rfl
  · show fX9_rankOf_19 _ _ _ _ _ (m + 1) s _ = _
    rw [fX9_rankOf_19, m_cnt w (p10 w hp), sb, mCe w hp]
  · have hp' := p10 w hp
    have hr' := r6 w hp hr
    obtain ⟨t1, t2⟩ := tm_n (rv w hp hr)
    obtain ⟨u1, u2⟩ := tm_n (rv w hp0 hr0)
    obtain ⟨s1, s2⟩ := sub_pos u2 t2
    show fX9_rankOf_19 _ _ _ _ _ (m + 1) s _ = _
    rw [fX9_rankOf_19, m_cnt w hp', sb, mC w hp hr, m_time h10 h6, sb, m_time hp' hr', sb, m_page hp' hr', m_page h10 h6]
    simp only [sb, ia, i_0, t1, u1, s1, s2, nI_ltI (show p < 2 ^ 31 by omega) (show p0 < 2 ^ 31 by omega), nI_eq (show p < 2 ^ 31 by omega) (show p0 < 2 ^ 31 by omega), nI_leI (show r0 < 2 ^ 31 by omega) (show r < 2 ^ 31 by omega)]
    unfold lsB
    by_cases a : tmP ms p r < tmP ms p0 r0
    · by_cases g : pgI ms p r = pgI ms p0 r0 <;> simp [a, g]
    · by_cases e : tmP ms p r = tmP ms p0 r0
      · by_cases c1 : p < p0
        · by_cases g : pgI ms p r = pgI ms p0 r0 <;> simp [e, c1, g]
        · by_cases c2 : p = p0
          · subst c2
            by_cases c3 : r0 ≤ r
            · simp [e, c3, show ¬ r < r0 by omega]
            · by_cases g : pgI ms p r = pgI ms p r0 <;> simp [e, c3, show r < r0 by omega, g]
          · simp [e, c1, c2]
      · simp [a, e]
/-! the class's order -/
def tz (ms : Nat → Int32) (z : Nat) : Nat := tmP ms (z / 6) (z % 6)
/-- the first n places hold the used slots below e, in order -/
def OR (ms : Nat → Int32) (a : Nat → Nat) (n e : Nat) : Prop :=
  n ≤ e ∧ (∀ j, j < n → a j < e ∧ a j % 6 < gc ms (a j / 6)) ∧ (∀ i j, i < j → j < n → tz ms (a i) < tz ms (a j) ∨ (tz ms (a i) = tz ms (a j) ∧ a i < a j)) ∧ (∀ z, z < e → z % 6 < gc ms (z / 6) → ∃ j, j < n ∧ a j = z)
def LN (kln : Nat → Int32) (a : Nat → Nat) (n : Nat) : Prop := ∀ j, j < n → kln j = nI (a j)
theorem c_tz (h : RC ms kc) (w : WF ms) {z : Nat} (hz : z < 60) (hu : z % 6 < gc ms (z / 6)) : fX0_get kc ((51 : Int32) + nI z) = some (nI (tz ms z)) ∧ tz ms z ≤ 9999 := by
  have v := tm_n (wfr w hz hu)
  rw [c_time h hz hu, v.1]
  exact ⟨rfl, v.2⟩
theorem c_at {kln : Nat → Int32} {j : Nat} (h : j < 60) : fX4_slotInOrder kln (nI j) = some (kln j) := by
  unfold fX4_slotInOrder
  rw [if_neg (nI_pos (by omega)), li 60, if_neg (nI_ge h (by omega)), aget_n h (by omega), sb]
theorem c_put {kln : Nat → Int32} {j : Nat} {x : Int32} (h : j < 60) : fX4_put kln (nI j) x = some (upd kln j x) := by
  unfold fX4_put
  rw [if_neg (nI_pos (by omega)), li 60, if_neg (nI_ge h (by omega)), aput_n h (by omega), sb]
/-- where a slot goes -/
def insA (a : Nat → Nat) (q z : Nat) : Nat → Nat := fun j => if j < q then a j else if j = q then z else a (j - 1)
theorem ins_l (h : RC ms kc) (w : WF ms) {a : Nat → Nat} {n z : Nat} (hz : z < 60) (hu : z % 6 < gc ms (z / 6)) (o : OR ms a n z) (K : Int32 → (Nat → Int32) → Option ((Nat → Int32) × Int32)) : ∀ (q m : Nat) (s : Nat → Int32), q < m → q ≤ n → (∀ j, j < q → s j = nI (a j)) → (∀ j, q < j → j ≤ n → s j = nI (a (j - 1))) → (∀ j, q ≤ j → j < n → tz ms z < tz ms (a j)) →
    ∃ (t : Nat) (s' : Nat → Int32), t ≤ n ∧ fX4_insert_15 K kc (nI z) (nI (tz ms z)) m (nI q) s = K (nI t) s' ∧ (∀ j, j < t → s' j = nI (a j)) ∧ (∀ j, t < j → j ≤ n → s' j = nI (a (j - 1))) ∧ (∀ j, t ≤ j → j < n → tz ms z < tz ms (a j)) ∧ (∀ j, j < t → tz ms (a j) ≤ tz ms z) := by
  obtain ⟨o0, o1, o2, o3⟩ := o
  intro q
  induction q with
  | zero =>
    intro m s hm hq h1 h2 h3
    obtain ⟨m, rfl⟩ : ∃ k, m = k + 1 := ⟨m - 1, by omega⟩
    refine ⟨0, s, by omega, ?_, h1, h2, h3, fun j hj => by omega⟩
    rw [fX4_insert_15, if_pos (show nI 0 ≤ 0 by decide)]
  | succ q ih =>
    intro m s hm hq h1 h2 h3
    obtain ⟨m, rfl⟩ : ∃ k, m = k + 1 := ⟨m - 1, by omega⟩
    obtain ⟨b1, b2⟩ := o1 q (by omega)
    obtain ⟨g1, g2⟩ := c_tz h w (show a q < 60 by omega) b2
    obtain ⟨-, g3⟩ := c_tz h w hz hu
    rw [fX4_insert_15, if_neg (nI_nle (by omega) (by omega)), nI_pred, c_at (by omega), sb, h1 q (by omega), g1, sb]
    by_cases hle : tz ms (a q) ≤ tz ms z
    · rw [if_pos (nI_le hle (by omega))]
      refine ⟨q + 1, s, hq, rfl, h1, h2, h3, fun j hj => ?_⟩
      by_cases e : j = q
      · rw [e]; exact hle
      · have := o2 j q (by omega) (by omega)
        omega
    · rw [if_neg (nI_ge (by omega) (by omega)), sb, c_put (by omega), sb, show nI (q + 1) + (-1 : Int32) = nI q from pk_m1 q]
      refine ih m _ (by omega) (by omega) (fun j hj => by rw [pk_un (by omega)]; exact h1 j (by omega)) (fun j hj hn => ?_) (fun j hj hn => ?_)
      · by_cases e : j = q + 1
        · rw [e, pk_us]; rfl
        · rw [pk_un e]; exact h2 j (by omega) hn
      · by_cases e : j = q
        · rw [e]; omega
        · exact h3 j (by omega) hn
theorem ins_ok (h : RC ms kc) (w : WF ms) {a : Nat → Nat} {n z : Nat} {kln : Nat → Int32} (hz : z < 60) (hu : z % 6 < gc ms (z / 6)) (o : OR ms a n z) (l : LN kln a n) : ∃ (a' : Nat → Nat) (kln' : Nat → Int32), fX4_insert kc kln (nI n) (nI z) = some (kln', nI (n + 1)) ∧ OR ms a' (n + 1) (z + 1) ∧ LN kln' a' (n + 1) := by
  have ho := o
  obtain ⟨o0, o1, o2, o3⟩ := ho
  obtain ⟨g1, g2⟩ := c_tz h w hz hu
  unfold fX4_insert
  rw [g1, sb]
  obtain ⟨t, s', t1, t2, t3, t4, t5, t6⟩ := ins_l h w hz hu o (fun u4_8 kln_u8 => Option.bind (fX4_put kln_u8 u4_8 (nI z)) (fun q15 => some (q15, nI n + (1 : Int32)))) n LF kln (by rw [LF_eq]; omega) (Nat.le_refl _) l (fun j h1 h2 => by omega) (fun j h1 h2 => by omega)
  refine ⟨insA a t z, upd s' t (nI z), ?_, ⟨by omega, fun j hj => ?_, fun i j hij hj => ?_, fun x hx hux => ?_⟩, fun j hj => ?_⟩
  · rw [t2, c_put (by omega), sb, ia]
  · unfold insA
    by_cases c1 : j < t
    · rw [if_pos c1]; have := o1 j (by omega); exact ⟨by omega, this.2⟩
    · rw [if_neg c1]
      by_cases c2 : j = t
      · rw [if_pos c2]; exact ⟨by omega, hu⟩
      · rw [if_neg c2]; have := o1 (j - 1) (by omega); exact ⟨by omega, this.2⟩
  · unfold insA
    by_cases c1 : j < t
    · rw [if_pos c1, if_pos (show i < t by omega)]; exact o2 i j hij (by omega)
    · rw [if_neg c1]
      by_cases c2 : j = t
      · rw [if_pos c2, if_pos (show i < t by omega)]
        have b1 := t6 i (by omega)
        have b2 := (o1 i (by omega)).1
        omega
      · rw [if_neg c2]
        by_cases d1 : i < t
        · rw [if_pos d1]
          exact o2 i (j - 1) (by omega) (by omega)
        · rw [if_neg d1]
          by_cases d2 : i = t
          · rw [if_pos d2]
            exact Or.inl (t5 (j - 1) (by omega) (by omega))
          · rw [if_neg d2]
            exact o2 (i - 1) (j - 1) (by omega) (by omega)
  · by_cases e : x = z
    · refine ⟨t, by omega, ?_⟩
      unfold insA
      rw [if_neg (by omega), if_pos rfl, e]
    · obtain ⟨j, hj, hja⟩ := o3 x (by omega) hux
      by_cases c1 : j < t
      · refine ⟨j, by omega, ?_⟩
        unfold insA
        rw [if_pos c1, hja]
      · refine ⟨j + 1, by omega, ?_⟩
        unfold insA
        rw [if_neg (by omega), if_neg (by omega), Nat.add_sub_cancel, hja]
  · unfold insA
    by_cases c1 : j < t
    · rw [if_pos c1, pk_un (by omega)]; exact t3 j c1
    · rw [if_neg c1]
      by_cases c2 : j = t
      · rw [if_pos c2, c2, pk_us]
      · rw [if_neg c2, pk_un c2]; exact t4 j (by omega) (by omega)
theorem sort_ok (h : RC ms kc) (w : WF ms) (kln : Nat → Int32) (klr : Int32) : ∃ (a : Nat → Nat) (n : Nat) (kln' : Nat → Int32), fX4_sort kc kln klr = some (kln', nI n) ∧ OR ms a n 60 ∧ LN kln' a n := by
  have key : ∀ (c z m : Nat) (s : Nat → Int32) (a : Nat → Nat) (n : Nat), z + c = 60 → c < m → OR ms a n z → LN s a n → ∃ (a' : Nat → Nat) (n' : Nat) (s' : Nat → Int32), fX4_sort_7 (fun x y => some (x, y)) kc m (nI z) s (nI n) = some (s', nI n') ∧ OR ms a' n' 60 ∧ LN s' a' n' := by
    intro c
    induction c with
    | zero =>
      intro z m s a n hz hm o l
      obtain ⟨m, rfl⟩ : ∃ k, m = k + 1 := ⟨m - 1, by omega⟩
      have e : z = 60 := by omega
      subst e
      rw [fX4_sort_7, c60e]
      exact ⟨a, n, s, rfl, o, l⟩
    | succ c ih =>
      intro z m s a n hz hm o l
      obtain ⟨m, rfl⟩ : ∃ k, m = k + 1 := ⟨m - 1, by omega⟩
      have hz' : z < 60 := by omega
      rw [fX4_sort_7, c60 hz']
      by_cases hu : z % 6 < gc ms (z / 6)
      · rw [cu1 h w hz' hu, sb, if_neg one_ne]
        obtain ⟨a', s', i1, i2, i3⟩ := ins_ok h w hz' hu o l
        rw [i1, sb, ia]
        exact ih (z + 1) m s' a' (n + 1) (by omega) (by omega) i2 i3
      · rw [cu0 h w hz' hu, sb, if_pos rfl, ia]
        obtain ⟨o0, o1, o2, o3⟩ := o
        refine ih (z + 1) m s a n (by omega) (by omega) ⟨by omega, fun j hj => ⟨by have := (o1 j hj).1; omega, (o1 j hj).2⟩, o2, fun x hx hux => ?_⟩ l
        have : x ≠ z := fun e => hu (by rw [← e]; exact hux)
        exact o3 x (by omega) hux
  unfold fX4_sort
  exact key 60 0 LF kln (fun _ => 0) 0 (by omega) (by rw [LF_eq]; omega) ⟨by omega, fun j hj => by omega, fun i j _ hj => by omega, fun z hz => by omega⟩ (fun j hj => by omega)
end Lines
