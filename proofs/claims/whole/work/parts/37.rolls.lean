/-! Rolls. -/
def cnN (P : Nat → Bool) : Nat → Nat
  | 0 => 0
  | n + 1 => cnN P n + (if P n = true then 1 else 0)
theorem cnN_le (P : Nat → Bool) : ∀ n, cnN P n ≤ n
  | 0 => Nat.le_refl _
  | n + 1 => by have := cnN_le P n; unfold cnN; split <;> omega
theorem cnN_mono {P Q : Nat → Bool} : ∀ n, (∀ x, x < n → P x = true → Q x = true) → cnN P n ≤ cnN Q n
  | 0, _ => Nat.le_refl _
  | n + 1, h => by
    have h1 := cnN_mono n (fun x hx => h x (by omega))
    have h2 := h n (by omega)
    unfold cnN
    by_cases a : P n = true
    · rw [if_pos a, if_pos (h2 a)]; omega
    · rw [if_neg a]; split <;> omega
theorem cnN_lt {P Q : Nat → Bool} : ∀ n, (∀ x, x < n → P x = true → Q x = true) → (∃ x, x < n ∧ P x = false ∧ Q x = true) → cnN P n < cnN Q n
  | 0, _, h => by obtain ⟨x, h1, _⟩ := h; omega
  | n + 1, h, hx => by
    have h1 := cnN_mono n (fun x hx => h x (by omega))
    have h2 := h n (by omega)
    obtain ⟨x, hx1, hx2, hx3⟩ := hx
    unfold cnN
    rcases Nat.lt_or_ge x n with hl | hl
    · have h3 := cnN_lt n (fun x hx => h x (by omega)) ⟨x, hl, hx2, hx3⟩
      by_cases a : P n = true
      · rw [if_pos a, if_pos (h2 a)]; omega
      · rw [if_neg a]; split <;> omega
    · have e : x = n := by omega
      subst e
      rw [hx3, hx2]
      simp
      omega
theorem cnN_all (P : Nat → Bool) {n x : Nat} (hx : x < n) (h : P x = false) : cnN P n < n := by
  have := cnN_lt (P := P) (Q := fun _ => true) n (fun _ _ _ => rfl) ⟨x, hx, h, rfl⟩
  have := cnN_le (fun _ => true) n
  omega
/-- ranks below n -/
theorem wf_rank {ms : Nat → Int32} (w : WF ms) : ∃ ρ : Nat → Nat, (∀ p, p < gn ms → ρ p < gn ms) ∧ ∀ p q, p < gn ms → gu ms p = q + 1 → ρ q < ρ p := by
  obtain ⟨ρ, h⟩ := w.2.2.2.2.1
  refine ⟨fun p => cnN (fun x => decide (ρ x < ρ p)) (gn ms), fun p hp => cnN_all _ hp (decide_eq_false (by omega)), fun p q hp hq => ?_⟩
  have h1 := h p q hp hq
  have h2 := (w.2.1 p (p10 w hp)).2.1.2
  refine cnN_lt _ (fun x _ hx => ?_) ⟨q, by omega, decide_eq_false (by omega), decide_eq_true h1⟩
  have := of_decide_eq_true hx
  exact decide_eq_true (by omega)
def hop (f : Nat → Nat) : Nat → Nat → Nat
  | 0, p => p
  | k + 1, p => if f p = 0 then p else hop f k (f p - 1)
theorem hop_lt {f : Nat → Nat} {n : Nat} (hf : ∀ p, p < n → f p ≤ n) : ∀ k p, p < n → hop f k p < n
  | 0, _, h => h
  | k + 1, p, h => by
    unfold hop
    have := hf p h
    by_cases a : f p = 0
    · rw [if_pos a]; exact h
    · rw [if_neg a]; exact hop_lt hf k _ (by omega)
theorem hop_end {f μ : Nat → Nat} {n : Nat} (hf : ∀ p, p < n → f p ≤ n) (hμ : ∀ p q, p < n → f p = q + 1 → μ q < μ p) : ∀ k p, p < n → μ p ≤ k → f (hop f k p) = 0
  | 0, p, h, hk => by
    unfold hop
    cases e : f p with
    | zero => rfl
    | succ q => have := hμ p q h e; omega
  | k + 1, p, h, hk => by
    unfold hop
    have := hf p h
    by_cases a : f p = 0
    · rw [if_pos a]; exact a
    · rw [if_neg a]
      have := hμ p (f p - 1) h (by omega)
      exact hop_end hf hμ k _ (by omega) (by omega)
section Rolls
variable {ms kc : Nat → Int32}
theorem gu_le (w : WF ms) : ∀ p, p < gn ms → gu ms p ≤ gn ms := fun p hp => (w.2.1 p (p10 w hp)).2.1.2
theorem gl_le (w : WF ms) : ∀ p, p < gn ms → gl ms p ≤ gn ms := fun p hp => (w.2.1 p (p10 w hp)).2.2.2
def root (ms : Nat → Int32) (p : Nat) : Nat := hop (gu ms) 10 p
theorem root_lt (w : WF ms) {p : Nat} (hp : p < gn ms) : root ms p < gn ms := hop_lt (gu_le w) 10 p hp
theorem root_top (w : WF ms) {p : Nat} (hp : p < gn ms) : gu ms (root ms p) = 0 := by
  obtain ⟨ρ, h1, h2⟩ := wf_rank w
  have := h1 p hp
  have := w.1.2
  exact hop_end (gu_le w) h2 10 p hp (by omega)
theorem c_first (h : RC ms kc) (w : WF ms) {p : Nat} (hp : p < gn ms) : fX0_firstOfRoll kc (nI p) = some (nI (root ms p)) := by
  unfold fX0_firstOfRoll
  have key : ∀ (c i n p : Nat), p < gn ms → i + c = 10 → c < n → fX0_firstOfRoll_4 (fun (u : Int32) => some u) kc n (nI p) (nI i) = some (nI (hop (gu ms) c p)) := by
    intro c
    induction c with
    | zero =>
      intro i n p hp hi hn
      obtain ⟨m, rfl⟩ : ∃ m, n = m + 1 := ⟨n - 1, by omega⟩
      rw [fX0_firstOfRoll_4, li 10, show i = 10 by omega, if_pos (nI_le (Nat.le_refl _) (by omega))]
      rfl
    | succ c ih =>
      intro i n p hp hi hn
      obtain ⟨m, rfl⟩ : ∃ m, n = m + 1 := ⟨n - 1, by omega⟩
      rw [fX0_firstOfRoll_4, li 10, if_neg (nI_ge (show i < 10 by omega) (by omega)), c_up h w hp, sb]
      simp only [oI_m1 (gu_b w hp), ia]
      have := gu_le w p hp
      unfold hop
      by_cases a : gu ms p = 0
      · simp only [a, if_true]
      · simp only [a, if_false]
        rw [show oI (gu ms p) = nI (gu ms p - 1) by rw [← oI_s, show gu ms p - 1 + 1 = gu ms p by omega]]
        exact ih (i + 1) m _ (by omega) (by omega) (by omega)
  exact key 10 0 LF p hp rfl (by rw [LF_eq]; omega)
theorem m_first (w : WF ms) {p : Nat} (hp : p < gn ms) : fX9_firstOf ms (nI p) = some (nI (root ms p)) := by
  unfold fX9_firstOf
  obtain ⟨ρ, h1, h2⟩ := wf_rank w
  have key : ∀ (c n p : Nat), p < gn ms → ρ p ≤ c → c < n → fX9_firstOf_2 (fun (u : Int32) => some u) ms n (nI p) = some (nI (hop (gu ms) (c + 1) p)) := by
    intro c
    induction c with
    | zero =>
      intro n p hp hr hn
      obtain ⟨m, rfl⟩ : ∃ m, n = m + 1 := ⟨n - 1, by omega⟩
      rw [fX9_firstOf_2, m_up w (p10 w hp), sb]
      have a : gu ms p = 0 := by
        cases e : gu ms p with
        | zero => rfl
        | succ q => have := h2 p q hp e; omega
      rw [a, if_pos oI_0]
      unfold hop
      rw [if_pos a]
    | succ c ih =>
      intro n p hp hr hn
      obtain ⟨m, rfl⟩ : ∃ m, n = m + 1 := ⟨n - 1, by omega⟩
      rw [fX9_firstOf_2, m_up w (p10 w hp), sb, sb]
      simp only [oI_m1 (gu_b w hp)]
      have := gu_le w p hp
      unfold hop
      by_cases a : gu ms p = 0
      · simp only [a, if_true]
      · simp only [a, if_false]
        rw [show oI (gu ms p) = nI (gu ms p - 1) by rw [← oI_s, show gu ms p - 1 + 1 = gu ms p by omega]]
        have := h2 p (gu ms p - 1) hp (by omega)
        exact ih m _ (by omega) (by omega) (by omega)
  have := h1 p hp
  have := w.1.2
  exact key 9 LF p hp (by omega) (by rw [LF_eq]; omega)
theorem root_self {p : Nat} (h : gu ms p = 0) : root ms p = p := by
  unfold root hop
  rw [if_pos h]
/-! the last time above, the first time below -/
def ltF (ms : Nat → Int32) : Nat → Nat → Int32
  | 0, _ => (-1 : Int32)
  | _ + 1, 0 => (-1 : Int32)
  | k + 1, p + 1 => if gc ms p = 0 then ltF ms k (gu ms p) else ms (pl p (gc ms p - 1))
def ftF (ms : Nat → Int32) : Nat → Nat → Option Int32
  | 0, _ => none
  | _ + 1, 0 => none
  | k + 1, p + 1 => if gc ms p = 0 then ftF ms k (gl ms p) else some (ms (pl p 0))
theorem gc_b (w : WF ms) {p : Nat} (hp : p < 10) : gc ms p ≤ 6 := (w.2.1 p hp).1.2
theorem nI_le0 {n : Nat} (h : n < 2 ^ 31) : nI n ≤ 0 ↔ n = 0 := by
  constructor
  · intro e
    rcases Nat.eq_zero_or_pos n with q | q
    · exact q
    · exact absurd e (nI_nle q h)
  · intro e; rw [e]; exact nI_le (a := 0) (b := 0) (Nat.le_refl _) (by omega)
theorem c_ltk (h : RC ms kc) (w : WF ms) : ∀ (c i n u : Nat), u ≤ gn ms → i + c = 10 → c < n → fX0_lastTimeUpTo_4 (fun _ => some (-1 : Int32)) kc n (oI u) (nI i) = some (ltF ms c u) := by
  intro c
  induction c with
  | zero =>
    intro i n u hu hi hn
    obtain ⟨m, rfl⟩ : ∃ m, n = m + 1 := ⟨n - 1, by omega⟩
    rw [fX0_lastTimeUpTo_4, li 10, show i = 10 by omega, if_pos (nI_le (Nat.le_refl _) (by omega))]
    rfl
  | succ c ih =>
    intro i n u hu hi hn
    obtain ⟨m, rfl⟩ : ∃ m, n = m + 1 := ⟨n - 1, by omega⟩
    rw [fX0_lastTimeUpTo_4, li 10, if_neg (nI_ge (show i < 10 by omega) (by omega))]
    cases u with
    | zero => rw [if_pos oI_0]; rfl
    | succ p =>
      have hp : p < gn ms := hu
      have h6 := gc_b w (p10 w hp)
      have h10 := p10 w hp
      rw [oI_s, if_neg (nI_m1 (by omega)), c_cnt h w h10, sb]
      simp only [nI_le0 (show gc ms p < 2 ^ 31 by omega), ia]
      unfold ltF
      by_cases a : gc ms p = 0
      · simp only [a, if_true]
        rw [c_up h w hp, sb]
        exact ih (i + 1) m _ (gu_le w p hp) (by omega) (by omega)
      · simp only [a, if_false]
        have e := c_time h (z := 6 * p + (gc ms p - 1)) (by omega) (by rw [show (6 * p + (gc ms p - 1)) % 6 = gc ms p - 1 by omega, show (6 * p + (gc ms p - 1)) / 6 = p by omega]; omega)
        rw [show (6 * p + (gc ms p - 1)) % 6 = gc ms p - 1 by omega, show (6 * p + (gc ms p - 1)) / 6 = p by omega] at e
        rw [show (51 : Int32) + nI p * (6 : Int32) + nI (gc ms p) - (1 : Int32) = (51 : Int32) + nI (6 * p + (gc ms p - 1)) by
          rw [li 6, pk_mul, li 51, nI_add, nI_add, nI_add, li 1, pk_sub (by omega)]
          congr 1
          omega, e]
        rfl
theorem c_last (h : RC ms kc) (w : WF ms) {p : Nat} (hp : p < gn ms) : fX0_lastTimeUpTo kc (nI p) = some (ltF ms 10 (p + 1)) := by
  unfold fX0_lastTimeUpTo
  have e := c_ltk h w 10 0 LF (p + 1) hp rfl (by rw [LF_eq]; omega)
  rw [oI_s] at e
  exact e
theorem c_ftk (h : RC ms kc) (w : WF ms) : ∀ (c i n u : Nat), u ≤ gn ms → i + c = 10 → c < n → fX0_firstTimeFrom_4 (fun _ => some (10000 : Int32)) kc n (oI u) (nI i) = some ((ftF ms c u).getD 10000) := by
  intro c
  induction c with
  | zero =>
    intro i n u hu hi hn
    obtain ⟨m, rfl⟩ : ∃ m, n = m + 1 := ⟨n - 1, by omega⟩
    rw [fX0_firstTimeFrom_4, show (10 : Int32) = nI 10 from rfl, show i = 10 by omega, if_pos (nI_le (Nat.le_refl _) (by omega))]
    rfl
  | succ c ih =>
    intro i n u hu hi hn
    obtain ⟨m, rfl⟩ : ∃ m, n = m + 1 := ⟨n - 1, by omega⟩
    rw [fX0_firstTimeFrom_4, show (10 : Int32) = nI 10 from rfl, if_neg (nI_ge (show i < 10 by omega) (by omega))]
    cases u with
    | zero => rw [if_pos oI_0]; rfl
    | succ p =>
      have hp : p < gn ms := hu
      have h6 := gc_b w (p10 w hp)
      have h10 := p10 w hp
      rw [oI_s, if_neg (nI_m1 (by omega)), c_cnt h w h10, sb]
      simp only [nI_le0 (show gc ms p < 2 ^ 31 by omega), ia]
      unfold ftF
      by_cases a : gc ms p = 0
      · simp only [a, if_true]
        rw [c_lo h w hp, sb]
        exact ih (i + 1) m _ (gl_le w p hp) (by omega) (by omega)
      · simp only [a, if_false]
        have e := c_time h (z := 6 * p) (by omega) (by rw [show (6 * p) % 6 = 0 by omega, show (6 * p) / 6 = p by omega]; omega)
        rw [show (6 * p) % 6 = 0 by omega, show (6 * p) / 6 = p by omega] at e
        rw [show (51 : Int32) + nI p * (6 : Int32) = (51 : Int32) + nI (6 * p) by
          rw [show (6 : Int32) = nI 6 from rfl, pk_mul, Nat.mul_comm], e]
        rfl
theorem c_firstT (h : RC ms kc) (w : WF ms) {u : Nat} (hu : u ≤ gn ms) : fX0_firstTimeFrom kc (oI u) = some ((ftF ms 10 u).getD 10000) := c_ftk h w 10 0 LF u hu rfl (by rw [LF_eq]; omega)
theorem m_last (w : WF ms) {p : Nat} (hp : p < gn ms) : fX9_lastTime ms (nI p) = some (ltF ms 10 (p + 1)) := by
  unfold fX9_lastTime
  obtain ⟨ρ, h1, h2⟩ := wf_rank w
  have key : ∀ (c n u : Nat), u ≤ gn ms → (∀ p, u = p + 1 → ρ p < c) → c < n → fX9_lastTime_2 (fun _ => some (-1 : Int32)) ms n (oI u) = some (ltF ms c u) := by
    intro c
    induction c with
    | zero =>
      intro n u hu hr hn
      obtain ⟨m, rfl⟩ : ∃ m, n = m + 1 := ⟨n - 1, by omega⟩
      cases u with
      | zero => rw [fX9_lastTime_2, if_pos oI_0]; rfl
      | succ p => have := hr p rfl; omega
    | succ c ih =>
      intro n u hu hr hn
      obtain ⟨m, rfl⟩ : ∃ m, n = m + 1 := ⟨n - 1, by omega⟩
      cases u with
      | zero => rw [fX9_lastTime_2, if_pos oI_0]; rfl
      | succ p =>
        have hp : p < gn ms := hu
        have h6 := gc_b w (p10 w hp)
        have h10 := p10 w hp
        have hrp := hr p rfl
        rw [fX9_lastTime_2, oI_s, if_neg (nI_m1 (by omega)), m_cnt w h10, sb]
        simp only [nI_le0 (show gc ms p < 2 ^ 31 by omega)]
        unfold ltF
        by_cases a : gc ms p = 0
        · simp only [a, if_true]
          rw [m_up w h10, sb]
          exact ih m _ (gu_le w p hp) (fun q hq => by have := h2 p q hp hq; omega) (by omega)
        · simp only [a, if_false]
          rw [sb, li 1, pk_sub (by omega), m_time h10 (by omega)]
          rfl
  have := w.1.2
  have e := key 10 LF (p + 1) hp (fun q hq => by have := h1 q (by omega); omega) (by rw [LF_eq]; omega)
  rw [oI_s] at e
  exact e
theorem wf_down (w : WF ms) : ∃ ρ : Nat → Nat, (∀ p, p < gn ms → ρ p < 10) ∧ ∀ p q, p < gn ms → gl ms p = q + 1 → ρ q < ρ p := by
  obtain ⟨ρ, h1, h2⟩ := wf_rank w
  have h10 := w.1.2
  refine ⟨fun p => gn ms - 1 - ρ p, fun p hp => by show gn ms - 1 - ρ p < 10; omega, fun p q hp hq => ?_⟩
  have hq' : q < gn ms := by have := gl_le w p hp; omega
  have e := (w.2.2.2.1 p q hp hq').mp hq
  have e2 := h2 q p hq' e
  have e3 := h1 q hq'
  show gn ms - 1 - ρ q < gn ms - 1 - ρ p
  omega
theorem m_firstT (w : WF ms) {u : Nat} (hu : u ≤ gn ms) : fX9_firstTime ms (oI u) = some ((ftF ms 10 u).getD (-1)) := by
  unfold fX9_firstTime
  obtain ⟨ρ, h1, h2⟩ := wf_down w
  have key : ∀ (c n u : Nat), u ≤ gn ms → (∀ p, u = p + 1 → ρ p < c) → c < n → fX9_firstTime_2 (fun _ => some (-1 : Int32)) ms n (oI u) = some ((ftF ms c u).getD (-1)) := by
    intro c
    induction c with
    | zero =>
      intro n u hu hr hn
      obtain ⟨m, rfl⟩ : ∃ m, n = m + 1 := ⟨n - 1, by omega⟩
      cases u with
      | zero => rw [fX9_firstTime_2, if_pos oI_0]; rfl
      | succ p => have := hr p rfl; omega
    | succ c ih =>
      intro n u hu hr hn
      obtain ⟨m, rfl⟩ : ∃ m, n = m + 1 := ⟨n - 1, by omega⟩
      cases u with
      | zero => rw [fX9_firstTime_2, if_pos oI_0]; rfl
      | succ p =>
        have hp : p < gn ms := hu
        have h6 := gc_b w (p10 w hp)
        have h10 := p10 w hp
        have hrp := hr p rfl
        rw [fX9_firstTime_2, oI_s, if_neg (nI_m1 (by omega)), m_cnt w h10, sb]
        simp only [nI_le0 (show gc ms p < 2 ^ 31 by omega)]
        unfold ftF
        by_cases a : gc ms p = 0
        · simp only [a, if_true]
          rw [m_lo w h10, sb]
          exact ih m _ (gl_le w p hp) (fun q hq => by have := h2 p q hp hq; omega) (by omega)
        · simp only [a, if_false]
          rw [show (0 : Int32) = nI 0 from rfl, m_time h10 (by omega)]
          rfl
  exact key 10 LF u hu (fun q hq => h1 q (by omega)) (by rw [LF_eq]; omega)
end Rolls
