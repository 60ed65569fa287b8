/-! Lines, the same on both sides. -/
theorem cn_one {P : Nat → Bool} {z0 : Nat} : ∀ N, z0 < N → P z0 = true → cnN P N = cnN (fun z => P z && decide (z ≠ z0)) N + 1
  | 0, h, _ => by omega
  | N + 1, h, hp => by
    show cnN P N + (if P N = true then 1 else 0) = cnN (fun z => P z && decide (z ≠ z0)) N + (if (P N && decide (N ≠ z0)) = true then 1 else 0) + 1
    by_cases e : N = z0
    · subst e
      have same : ∀ M, M ≤ N → cnN P M = cnN (fun z => P z && decide (z ≠ N)) M := by
        intro M
        induction M with
        | zero => intro _; rfl
        | succ M ih =>
          intro hM
          show cnN P M + (if P M = true then 1 else 0) = cnN (fun z => P z && decide (z ≠ N)) M + (if (P M && decide (M ≠ N)) = true then 1 else 0)
          rw [ih (by omega)]
          have : M ≠ N := by omega
          simp [this]
      rw [same N (Nat.le_refl _), hp]
      simp
    · rw [cn_one N (by omega) hp]
      simp [e]
      omega
theorem cn_0 {P : Nat → Bool} : ∀ N, (∀ z, z < N → P z = false) → cnN P N = 0
  | 0, _ => rfl
  | N + 1, h => by
    show cnN P N + (if P N = true then 1 else 0) = 0
    rw [cn_0 N (fun z hz => h z (by omega)), h N (by omega)]
    rfl
theorem cn_im {a : Nat → Nat} {R : Nat → Bool} {N : Nat} : ∀ (c : Nat) (P : Nat → Bool), (∀ j, j < c → a j < N) → (∀ i j, i < c → j < c → a i = a j → i = j) → (∀ z, z < N → (P z = true ↔ ∃ j, j < c ∧ a j = z ∧ R j = true)) → cnN P N = cnN R c
  | 0, P, _, _, h => by
    rw [cn_0 N (fun z hz => by
      cases hP : P z with
      | false => rfl
      | true => obtain ⟨j, hj, -⟩ := (h z hz).mp hP; omega)]
    rfl
  | c + 1, P, h1, h2, h3 => by
    show _ = cnN R c + (if R c = true then 1 else 0)
    by_cases hR : R c = true
    · rw [if_pos hR, cn_one (z0 := a c) N (h1 c (by omega)) ((h3 _ (h1 c (by omega))).mpr ⟨c, by omega, rfl, hR⟩)]
      rw [cn_im c _ (fun j hj => h1 j (by omega)) (fun i j hi hj e => h2 i j (by omega) (by omega) e) (fun z hz => ?_)]
      simp only [Bool.and_eq_true, decide_eq_true_eq]
      rw [h3 z hz]
      constructor
      · rintro ⟨⟨j, hj, e, r⟩, ne⟩
        refine ⟨j, ?_, e, r⟩
        have : j ≠ c := fun x => ne (by rw [← e, x])
        omega
      · rintro ⟨j, hj, e, r⟩
        refine ⟨⟨j, by omega, e, r⟩, fun x => ?_⟩
        have := h2 j c (by omega) (by omega) (by rw [e, x])
        omega
    · rw [if_neg hR, Nat.add_zero]
      refine cn_im c P (fun j hj => h1 j (by omega)) (fun i j hi hj e => h2 i j (by omega) (by omega) e) (fun z hz => ?_)
      rw [h3 z hz]
      constructor
      · rintro ⟨j, hj, e, r⟩
        refine ⟨j, ?_, e, r⟩
        have : j ≠ c := fun x => hR (by rw [← x]; exact r)
        omega
      · rintro ⟨j, hj, e, r⟩
        exact ⟨j, by omega, e, r⟩
section Lines2
variable {ms kc : Nat → Int32} {a : Nat → Nat} {n : Nat}
def pgz (ms : Nat → Int32) (z : Nat) : Int32 := pgI ms (z / 6) (z % 6)
def rkN (ms : Nat → Int32) (p0 r0 : Nat) : Nat := cnN (fun z => usB ms z && lsB ms p0 r0 (z / 6) (z % 6)) 60
def plN (ms : Nat → Int32) (a : Nat → Nat) (pg : Int32) (c : Nat) : Nat := cnN (fun j => decide (pgz ms (a j) = pg)) c
theorem plN_s (pg : Int32) (c : Nat) : plN ms a pg (c + 1) = plN ms a pg c + (if pgz ms (a c) = pg then 1 else 0) := by
  unfold plN
  show _ + (if decide (pgz ms (a c) = pg) = true then 1 else 0) = _
  simp only [decide_eq_true_eq]
theorem plN_up {pg : Int32} {u : Nat} : ∀ k, plN ms a pg u ≤ plN ms a pg (u + k)
  | 0 => Nat.le_refl _
  | k + 1 => by
    have := plN_up (pg := pg) (u := u) k
    rw [← Nat.add_assoc, plN_s]
    omega
theorem plN_mono {pg : Int32} {u v : Nat} (h : u < v) (hu : pgz ms (a u) = pg) : plN ms a pg u < plN ms a pg v := by
  have h1 := plN_up (ms := ms) (a := a) (pg := pg) (u := u + 1) (v - (u + 1))
  rw [show u + 1 + (v - (u + 1)) = v by omega, plN_s, if_pos hu] at h1
  omega
theorem or_inj (o : OR ms a n 60) {i j : Nat} (hi : i < n) (hj : j < n) (e : a i = a j) : i = j := by
  obtain ⟨-, o1, o2, -⟩ := o
  rcases Nat.lt_trichotomy i j with c | c | c
  · have := o2 i j c hj; rw [e] at this; omega
  · exact c
  · have := o2 j i c hi; rw [e] at this; omega
theorem rk_pl (o : OR ms a n 60) {x : Nat} (hx : x < n) : rkN ms (a x / 6) (a x % 6) = plN ms a (pgz ms (a x)) x := by
  have ho := o
  obtain ⟨o0, o1, o2, o3⟩ := ho
  unfold rkN plN
  refine cn_im x _ (fun j hj => (o1 j (by omega)).1) (fun i j hi hj e => or_inj o (by omega) (by omega) e) (fun z hz => ?_)
  unfold usB lsB
  simp only [Bool.and_eq_true, decide_eq_true_eq]
  constructor
  · rintro ⟨hu, hlt, hpg⟩
    obtain ⟨j, hj, e⟩ := o3 z hz hu
    refine ⟨j, ?_, e, ?_⟩
    · rcases Nat.lt_trichotomy j x with c | c | c
      · exact c
      · subst c
        rw [← e] at hlt
        omega
      · have := o2 x j c hj
        rw [e] at this
        unfold tz at this
        omega
    · unfold pgz
      rw [e]
      exact hpg
  · rintro ⟨j, hj, e, hpg⟩
    have := o2 j x hj hx
    have b := (o1 j (by omega)).2
    rw [e] at this b hpg
    unfold tz at this
    exact ⟨b, by omega, hpg⟩
theorem m_rk (w : WF ms) {p r : Nat} (hp : p < gn ms) (hr : r < gc ms p) : fX9_rankOf ms (nI p) (nI r) = some (nI (rkN ms p r)) := by
  rw [m_rank w hp hr, NF_cn w]
  rfl
theorem rk_le {p r : Nat} : rkN ms p r ≤ 60 := cnN_le _ _
def vl (ms : Nat → Int32) (x3 : Int32) (p r : Nat) : Int32 := if x3 = 0 then nI p else if x3 = (1 : Int32) then nI r else sI ms p r
def wn (ms : Nat → Int32) (pg : Int32) (L p r : Nat) : Prop := pgI ms p r = pg ∧ rkN ms p r = L
theorem tl_s (w : WF ms) {K : Unit → Option Int32} {pg x3 : Int32} {L p r m : Nat} (hL : L < 2 ^ 31) (hp : p < gn ms) (hr : r < gc ms p) : (wn ms pg L p r → fX9_tellsLine_17 K ms pg (nI L) x3 (nI p) (m + 1) (nI r) = some (vl ms x3 p r)) ∧ (¬ wn ms pg L p r → fX9_tellsLine_17 K ms pg (nI L) x3 (nI p) (m + 1) (nI r) = fX9_tellsLine_17 K ms pg (nI L) x3 (nI p) m (nI (r + 1))) := by
  have hk := rk_le (ms := ms) (p := p) (r := r)
  have e0 : fX9_tellsLine_17 K ms pg (nI L) x3 (nI p) (m + 1) (nI r) = if pgI ms p r = pg then (if rkN ms p r = L then some (vl ms x3 p r) else fX9_tellsLine_17 K ms pg (nI L) x3 (nI p) m (nI (r + 1))) else fX9_tellsLine_17 K ms pg (nI L) x3 (nI p) m (nI (r + 1)) := by
    rw [fX9_tellsLine_17, m_cnt w (p10 w hp), sb, mC w hp hr, m_page (p10 w hp) (r6 w hp hr), sb, m_rk w hp hr, sb, ms_sum w hp hr, sb, ia]
    simp only [nI_eq (show rkN ms p r < 2 ^ 31 by omega) hL]
    unfold vl
    by_cases c1 : pgI ms p r = pg <;> by_cases c2 : rkN ms p r = L <;> by_cases c3 : x3 = 0 <;> by_cases c4 : x3 = (1 : Int32) <;> simp [c1, c2, c3, c4]
  unfold wn
  constructor
  · rintro ⟨h1, h2⟩
    rw [e0, if_pos h1, if_pos h2]
  · intro h
    rw [e0]
    by_cases c1 : pgI ms p r = pg
    · rw [if_pos c1, if_neg (fun c2 => h ⟨c1, c2⟩)]
    · rw [if_neg c1]
theorem tl_in (w : WF ms) {K : Unit → Option Int32} {pg x3 : Int32} {L p : Nat} (hL : L < 2 ^ 31) (hp : p < gn ms) : ∀ (c r m : Nat), r + c = gc ms p → c < m →
    ((∀ r', r ≤ r' → r' < gc ms p → ¬ wn ms pg L p r') → fX9_tellsLine_17 K ms pg (nI L) x3 (nI p) m (nI r) = K ()) ∧
    (∀ r0, r ≤ r0 → r0 < gc ms p → wn ms pg L p r0 → (∀ r', r' < gc ms p → wn ms pg L p r' → r' = r0) → fX9_tellsLine_17 K ms pg (nI L) x3 (nI p) m (nI r) = some (vl ms x3 p r0))
  | 0, r, m, hr, hm => by
    obtain ⟨m, rfl⟩ : ∃ k, m = k + 1 := ⟨m - 1, by omega⟩
    refine ⟨fun _ => ?_, fun r0 h1 h2 => by omega⟩
    rw [fX9_tellsLine_17, m_cnt w (p10 w hp), sb, show r = gc ms p by omega, mCe w hp]
  | c + 1, r, m, hr, hm => by
    obtain ⟨m, rfl⟩ : ∃ k, m = k + 1 := ⟨m - 1, by omega⟩
    obtain ⟨s1, s2⟩ := tl_s w (K := K) (pg := pg) (x3 := x3) (m := m) hL hp (show r < gc ms p by omega)
    obtain ⟨i1, i2⟩ := tl_in w (K := K) (pg := pg) (x3 := x3) hL hp c (r + 1) m (by omega) (by omega)
    refine ⟨fun h => ?_, fun r0 h1 h2 h3 h4 => ?_⟩
    · rw [s2 (h r (Nat.le_refl _) (by omega))]
      exact i1 (fun r' a b => h r' (by omega) b)
    · by_cases e : r = r0
      · subst e
        exact s1 h3
      · rw [s2 (fun x => e (h4 r (by omega) x))]
        exact i2 r0 (by omega) h2 h3 h4
theorem m_tells (w : WF ms) {pg x3 : Int32} {L : Nat} (hL : L < 2 ^ 31) :
    ((∀ p r, p < gn ms → r < gc ms p → ¬ wn ms pg L p r) → fX9_tellsLine ms pg (nI L) x3 = some (-1 : Int32)) ∧
    (∀ p0 r0, p0 < gn ms → r0 < gc ms p0 → wn ms pg L p0 r0 → (∀ p r, p < gn ms → r < gc ms p → wn ms pg L p r → p = p0 ∧ r = r0) → fX9_tellsLine ms pg (nI L) x3 = some (vl ms x3 p0 r0)) := by
  have h10 := w.1.2
  have key : ∀ (c p m : Nat), p + c = gn ms → c < m →
      ((∀ p' r, p ≤ p' → p' < gn ms → r < gc ms p' → ¬ wn ms pg L p' r) → fX9_tellsLine_3 (fun _ => some (-1 : Int32)) ms pg (nI L) x3 m (nI p) = some (-1 : Int32)) ∧
      (∀ p0 r0, p ≤ p0 → p0 < gn ms → r0 < gc ms p0 → wn ms pg L p0 r0 → (∀ p r, p < gn ms → r < gc ms p → wn ms pg L p r → p = p0 ∧ r = r0) → fX9_tellsLine_3 (fun _ => some (-1 : Int32)) ms pg (nI L) x3 m (nI p) = some (vl ms x3 p0 r0)) := by
    intro c
    induction c with
    | zero =>
      intro p m hp hm
      obtain ⟨m, rfl⟩ : ∃ k, m = k + 1 := ⟨m - 1, by omega⟩
      refine ⟨fun _ => ?_, fun p0 r0 h1 h2 => by omega⟩
      rw [fX9_tellsLine_3, m_n w, sb, show p = gn ms by omega, mNe w]
    | succ c ih =>
      intro p m hp hm
      obtain ⟨m, rfl⟩ : ∃ k, m = k + 1 := ⟨m - 1, by omega⟩
      have hpl : p < gn ms := by omega
      have h6 := gc_b w (p10 w hpl)
      obtain ⟨j1, j2⟩ := ih (p + 1) m (by omega) (by omega)
      have un : fX9_tellsLine_3 (fun _ => some (-1 : Int32)) ms pg (nI L) x3 (m + 1) (nI p) = fX9_tellsLine_17 (fun _ => fX9_tellsLine_3 (fun _ => some (-1 : Int32)) ms pg (nI L) x3 m (nI (p + 1))) ms pg (nI L) x3 (nI p) LF (nI 0) := by
        rw [fX9_tellsLine_3, m_n w, sb, mN w hpl, ia]
        rfl
      obtain ⟨i1, i2⟩ := tl_in w (K := fun _ => fX9_tellsLine_3 (fun _ => some (-1 : Int32)) ms pg (nI L) x3 m (nI (p + 1))) (pg := pg) (x3 := x3) hL hpl (gc ms p) 0 LF (by omega) (by rw [LF_eq]; omega)
      rw [un]
      refine ⟨fun h => ?_, fun p0 r0 h1 h2 h3 h4 h5 => ?_⟩
      · rw [i1 (fun r' _ b => h p r' (Nat.le_refl _) hpl b)]
        exact j1 (fun p' r x y z => h p' r (by omega) y z)
      · by_cases e : p = p0
        · subst e
          exact i2 r0 (by omega) h3 h4 (fun r' a b => (h5 p r' hpl a b).2)
        · rw [i1 (fun r' _ b x => e (h5 p r' hpl b x).1)]
          exact j2 p0 r0 (by omega) h2 h3 h4 h5
  unfold fX9_tellsLine
  obtain ⟨k1, k2⟩ := key (gn ms) 0 LF (by omega) (by rw [LF_eq]; omega)
  exact ⟨fun h => k1 (fun p' r _ y z => h p' r y z), fun p0 r0 h2 h3 h4 h5 => k2 p0 r0 (by omega) h2 h3 h4 h5⟩
/-- a line of a page, by its place -/
theorem m_line (w : WF ms) (o : OR ms a n 60) {pg x3 : Int32} {L : Nat} (hL : L < 2 ^ 31) :
    ((∀ y, y < n → ¬ (pgz ms (a y) = pg ∧ plN ms a pg y = L)) → fX9_tellsLine ms pg (nI L) x3 = some (-1 : Int32)) ∧
    (∀ y, y < n → pgz ms (a y) = pg → plN ms a pg y = L → fX9_tellsLine ms pg (nI L) x3 = some (vl ms x3 (a y / 6) (a y % 6))) := by
  obtain ⟨t1, t2⟩ := m_tells w (pg := pg) (x3 := x3) hL
  have ho := o
  obtain ⟨o0, o1, o2, o3⟩ := ho
  have at_ : ∀ p r, p < gn ms → r < gc ms p → ∃ j, j < n ∧ a j = 6 * p + r := fun p r hp hr => by
    have := p10 w hp
    have := r6 w hp hr
    have hd : (6 * p + r) / 6 = p := by omega
    have hm : (6 * p + r) % 6 = r := by omega
    exact o3 (6 * p + r) (by omega) (by rw [hd, hm]; exact hr)
  have wy' : ∀ y, y < n → wn ms pg L (a y / 6) (a y % 6) → pgz ms (a y) = pg ∧ plN ms a pg y = L := fun y hy h => by
    obtain ⟨h1, h2⟩ := h
    rw [rk_pl o hy] at h2
    have h1' : pgz ms (a y) = pg := h1
    rw [h1'] at h2
    exact ⟨h1', h2⟩
  constructor
  · intro h
    refine t1 (fun p r hp hr hw => ?_)
    obtain ⟨j, hj, e⟩ := at_ p r hp hr
    have b1 := r6 w hp hr
    refine h j hj (wy' j hj ?_)
    rw [e, show (6 * p + r) / 6 = p by omega, show (6 * p + r) % 6 = r by omega]
    exact hw
  · intro y hy hpg hpl
    obtain ⟨b1, b2⟩ := o1 y hy
    have hgn : a y / 6 < gn ms := by
      rcases Nat.lt_or_ge (a y / 6) (gn ms) with c | c
      · exact c
      · have := (w.2.2.1 (a y / 6) (by omega) c).1
        omega
    refine t2 _ _ hgn b2 ⟨hpg, by rw [rk_pl o hy, hpg]; exact hpl⟩ (fun p r hp hr hw => ?_)
    obtain ⟨j, hj, e⟩ := at_ p r hp hr
    have c1 := r6 w hp hr
    have hj2 := wy' j hj (by rw [e, show (6 * p + r) / 6 = p by omega, show (6 * p + r) % 6 = r by omega]; exact hw)
    have same : j = y := by
      rcases Nat.lt_trichotomy j y with c | c | c
      · have := plN_mono (ms := ms) (a := a) c hj2.1; omega
      · exact c
      · have := plN_mono (ms := ms) (a := a) c hpg; omega
    rw [same] at e
    rw [e]
    omega
theorem c_slotAt (h : RC ms kc) (w : WF ms) (o : OR ms a n 60) {kln : Nat → Int32} (l : LN kln a n) {pg : Int32} {L : Nat} (hL : L < 2 ^ 31) :
    ((∀ y, y < n → ¬ (pgz ms (a y) = pg ∧ plN ms a pg y = L)) ∧ fX4_slotAt kc kln (nI n) pg (nI L) = some (-1 : Int32)) ∨ (∃ y, y < n ∧ pgz ms (a y) = pg ∧ plN ms a pg y = L ∧ fX4_slotAt kc kln (nI n) pg (nI L) = some (nI (a y))) := by
  have ho := o
  obtain ⟨o0, o1, o2, o3⟩ := ho
  have key : ∀ (c x m : Nat), x + c = n → c < m → (∀ y, y < x → ¬ (pgz ms (a y) = pg ∧ plN ms a pg y = L)) →
      ((∀ y, y < n → ¬ (pgz ms (a y) = pg ∧ plN ms a pg y = L)) ∧ fX4_slotAt_6 (fun _ => some (-1 : Int32)) kc kln (nI n) pg (nI L) m (nI (plN ms a pg x)) (nI x) = some (-1 : Int32)) ∨ (∃ y, y < n ∧ pgz ms (a y) = pg ∧ plN ms a pg y = L ∧ fX4_slotAt_6 (fun _ => some (-1 : Int32)) kc kln (nI n) pg (nI L) m (nI (plN ms a pg x)) (nI x) = some (nI (a y))) := by
    intro c
    induction c with
    | zero =>
      intro x m hx hm hno
      obtain ⟨m, rfl⟩ : ∃ k, m = k + 1 := ⟨m - 1, by omega⟩
      left
      rw [fX4_slotAt_6, show x = n by omega, if_pos (nI_le (Nat.le_refl _) (by omega))]
      exact ⟨fun y hy => hno y (by omega), rfl⟩
    | succ c ih =>
      intro x m hx hm hno
      obtain ⟨m, rfl⟩ : ∃ k, m = k + 1 := ⟨m - 1, by omega⟩
      obtain ⟨b1, b2⟩ := o1 x (by omega)
      have hle : plN ms a pg x ≤ x := cnN_le _ _
      rw [fX4_slotAt_6, if_neg (nI_ge (by omega) (by omega)), c_at (by omega), sb, l x (by omega), c_page h b1 b2, sb, ia, ia]
      by_cases c1 : pgI ms (a x / 6) (a x % 6) = pg
      · rw [if_pos c1]
        by_cases c2 : plN ms a pg x = L
        · right
          rw [if_pos (by rw [c2])]
          exact ⟨x, by omega, c1, c2, rfl⟩
        · rw [if_neg (by rw [nI_eq (by omega) hL]; exact c2)]
          have := ih (x + 1) m (by omega) (by omega) (fun y hy hh => by
            by_cases e : y = x
            · rw [e] at hh; exact c2 hh.2
            · exact hno y (by omega) hh)
          rw [plN_s, if_pos (show pgz ms (a x) = pg from c1)] at this
          exact this
      · rw [if_neg c1]
        have := ih (x + 1) m (by omega) (by omega) (fun y hy hh => by
          by_cases e : y = x
          · rw [e] at hh; exact c1 hh.1
          · exact hno y (by omega) hh)
        rw [plN_s, if_neg (show ¬ pgz ms (a x) = pg from c1), Nat.add_zero] at this
        exact this
  unfold fX4_slotAt
  exact key n 0 LF (by omega) (by rw [LF_eq]; omega) (fun y hy => by omega)
end Lines2
