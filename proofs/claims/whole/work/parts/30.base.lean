/-! Numbers, folds, and what the two states have in common. -/
theorem li (n : Nat) : (OfNat.ofNat n : Int32) = nI n := rfl
theorem nbig {a b : Nat} (h : a + b < 2 ^ 31) : a < 2 ^ 31 := by omega
/-- a fold over i, i + 1, .., c of them -/
def fo {σ : Type} (st : Nat → σ → σ) : Nat → Nat → σ → σ
  | 0, _, s => s
  | c + 1, i, s => fo st c (i + 1) (st i s)
theorem fo_succ {σ : Type} (st : Nat → σ → σ) (c i : Nat) (s : σ) : fo st (c + 1) i s = fo st c (i + 1) (st i s) := rfl
theorem fo_add {σ : Type} (st : Nat → σ → σ) : ∀ (a b i : Nat) (s : σ), fo st (a + b) i s = fo st b (i + a) (fo st a i s)
  | 0, b, i, s => by rw [Nat.zero_add]; rfl
  | a + 1, b, i, s => by rw [show a + 1 + b = (a + b) + 1 by omega, fo_succ, fo_add st a b, fo_succ, show i + 1 + a = i + (a + 1) by omega]
theorem fo_congr {σ : Type} {st st' : Nat → σ → σ} : ∀ (c i : Nat) (s : σ), (∀ j s, i ≤ j → j < i + c → st j s = st' j s) → fo st c i s = fo st' c i s
  | 0, _, _, _ => rfl
  | c + 1, i, s, h => by
    rw [fo_succ, fo_succ, h i s (Nat.le_refl _) (by omega)]
    exact fo_congr c (i + 1) _ (fun j s h1 h2 => h j s (by omega) (by omega))
theorem fo_id {σ : Type} {st : Nat → σ → σ} : ∀ (c i : Nat) (s : σ), (∀ j s, i ≤ j → j < i + c → st j s = s) → fo st c i s = s
  | 0, _, _, _ => rfl
  | c + 1, i, s, h => by
    rw [fo_succ, h i s (Nat.le_refl _) (by omega)]
    exact fo_id c (i + 1) _ (fun j s h1 h2 => h j s (by omega) (by omega))
/-- shifted -/
theorem fo_shift {σ : Type} (st : Nat → σ → σ) (d : Nat) : ∀ (c i : Nat) (s : σ), fo st c (d + i) s = fo (fun j s => st (d + j) s) c i s
  | 0, _, _ => rfl
  | c + 1, i, s => by rw [fo_succ, fo_succ, show d + i + 1 = d + (i + 1) by omega, fo_shift st d c]
/-- the slots of all pieces: pieces by receipts -/
theorem fo_slots {σ : Type} (st : Nat → Nat → σ → σ) (cnt : Nat → Nat) : ∀ (n : Nat), (∀ p, p < n → cnt p ≤ 6) → ∀ (s : σ), fo (fun z s => if z % 6 < cnt (z / 6) then st (z / 6) (z % 6) s else s) (6 * n) 0 s = fo (fun p s => fo (fun r s => st p r s) (cnt p) 0 s) n 0 s
  | 0, _, _ => rfl
  | n + 1, h, s => by
    rw [show 6 * (n + 1) = 6 * n + 6 by omega, fo_add, fo_slots st cnt n (fun p hp => h p (by omega)), fo_add _ n 1, Nat.zero_add]
    generalize fo (fun p s => fo (fun r s => st p r s) (cnt p) 0 s) n 0 s = s1
    show _ = fo (fun r s => st (0 + n) r s) (cnt (0 + n)) 0 s1
    rw [Nat.zero_add]
    have e := fo_shift (fun z s => if z % 6 < cnt (z / 6) then st (z / 6) (z % 6) s else s) (6 * n) 6 0 s1
    rw [Nat.add_zero] at e
    rw [e]
    have h6 : cnt n ≤ 6 := h n (by omega)
    have e0 := fo_add (fun j s => if (6 * n + j) % 6 < cnt ((6 * n + j) / 6) then st ((6 * n + j) / 6) ((6 * n + j) % 6) s else s) (cnt n) (6 - cnt n) 0 s1
    rw [show cnt n + (6 - cnt n) = 6 by omega] at e0
    have e1 : fo (fun j s => if (6 * n + j) % 6 < cnt ((6 * n + j) / 6) then st ((6 * n + j) / 6) ((6 * n + j) % 6) s else s) (cnt n) 0 s1 = fo (fun r s => st n r s) (cnt n) 0 s1 := by
      refine fo_congr _ _ _ (fun j s _ hj => ?_)
      have hj : j < cnt n := by omega
      rw [show (6 * n + j) % 6 = j by omega, show (6 * n + j) / 6 = n by omega, if_pos hj]
    have e2 : ∀ s2 : σ, fo (fun j s => if (6 * n + j) % 6 < cnt ((6 * n + j) / 6) then st ((6 * n + j) / 6) ((6 * n + j) % 6) s else s) (6 - cnt n) (0 + cnt n) s2 = s2 := by
      intro s2
      refine fo_id _ _ _ (fun j s h1 hj => ?_)
      have hj : cnt n ≤ j := by omega
      rw [show (6 * n + j) % 6 = j by omega, show (6 * n + j) / 6 = n by omega, if_neg (by omega)]
    rw [e0, e2, e1]
/-- a loop that counts up to e is its fold -/
theorem loop_fo {σ R : Type} (F : Nat → σ → Nat → Option R) (e : Nat) (k : σ → Option R) (st : Nat → σ → σ) (hx : ∀ n s, F (n + 1) s e = k s) (hs : ∀ n s i, i < e → F (n + 1) s i = F n (st i s) (i + 1)) : ∀ (c i n : Nat) (s : σ), i + c = e → c < n → F n s i = k (fo st c i s)
  | 0, i, n, s, hi, hn => by
    obtain ⟨m, rfl⟩ : ∃ m, n = m + 1 := ⟨n - 1, by omega⟩
    rw [show i = e by omega]
    exact hx m s
  | c + 1, i, n, s, hi, hn => by
    obtain ⟨m, rfl⟩ : ∃ m, n = m + 1 := ⟨n - 1, by omega⟩
    rw [hs m s i (by omega), fo_succ]
    exact loop_fo F e k st hx hs c (i + 1) m _ (by omega) (by omega)
theorem nI_lit (n : Nat) : nI n = Int32.ofNat n := rfl
theorem aget_n {f : Nat → Int32} {n i : Nat} (h : i < n) (hn : n < 2 ^ 31) : aget f n (nI i) = some (f i) := by
  unfold aget
  rw [if_neg (nI_in h hn), nI_clamp (by omega)]
theorem aput_n {f : Nat → Int32} {n i : Nat} {x : Int32} (h : i < n) (hn : n < 2 ^ 31) : aput f n (nI i) x = some (upd f i x) := by
  unfold aput
  rw [if_neg (nI_in h hn), nI_clamp (by omega)]
theorem c_get {kc : Nat → Int32} {i : Nat} (h : i < 531) : fX0_get kc (nI i) = some (kc i) := by
  unfold fX0_get
  rw [if_neg (nI_pos (by omega)), li 531, if_neg (nI_ge h (by omega)), aget_n h (by omega)]
  rfl
theorem c_set {kc : Nat → Int32} {i : Nat} {x : Int32} (h : i < 531) : fX0_set kc (nI i) x = some (upd kc i x) := by
  unfold fX0_set
  rw [if_neg (nI_pos (by omega)), li 531, if_neg (nI_ge h (by omega)), aput_n h (by omega)]
  rfl
theorem sb {α β : Type} (a : α) (f : α → Option β) : Option.bind (some a) f = f a := rfl
theorem ia (a : Nat) : nI a + (1 : Int32) = nI (a + 1) := nI_add a 1
theorem sw_c {f : Nat → Int32} {i n : Nat} {a b : Int32} (e : a = nI i) (h : i < n) (hn : n < 2 ^ 31) : aget f n a = some (f i) := by rw [e]; exact aget_n h hn
def gn (ms : Nat → Int32) : Nat := (ms 0).toNatClampNeg
def gc (ms : Nat → Int32) (p : Nat) : Nat := (ms (5 * p + 3)).toNatClampNeg
def gu (ms : Nat → Int32) (p : Nat) : Nat := (ms (5 * p + 4)).toNatClampNeg
def gl (ms : Nat → Int32) (p : Nat) : Nat := (ms (5 * p + 5)).toNatClampNeg
def pl (p r : Nat) : Nat := 51 + 8 * (6 * p + r)
def gi (ms : Nat → Int32) (p r : Nat) : Nat := (ms (pl p r + 2)).toNatClampNeg
/-- what a receipt is -/
def RV (ms : Nat → Int32) (p r : Nat) : Prop := (∃ t : Nat, t ≤ 9999 ∧ ms (pl p r) = nI t) ∧ (∃ z : Nat, z ≤ 9 ∧ ms (pl p r + 1) = nI z) ∧ (ms (pl p r + 2) = nI (gi ms p r) ∧ 1 ≤ gi ms p r ∧ gi ms p r ≤ 4) ∧ (∀ k, k < gi ms p r → ∃ v : Nat, 1 ≤ v ∧ v ≤ 999 ∧ ms (pl p r + 3 + k) = nI v) ∧ (∃ z : Nat, z ≤ 9999 ∧ ms (pl p r + 7) = nI z)
/-- what a state of the reference is -/
def WF (ms : Nat → Int32) : Prop :=
  (ms 0 = nI (gn ms) ∧ gn ms ≤ 10) ∧
  (∀ p, p < 10 → (ms (5 * p + 3) = nI (gc ms p) ∧ gc ms p ≤ 6) ∧ (ms (5 * p + 4) = nI (gu ms p) ∧ gu ms p ≤ gn ms) ∧ (ms (5 * p + 5) = nI (gl ms p) ∧ gl ms p ≤ gn ms)) ∧
  (∀ p, p < 10 → gn ms ≤ p → gc ms p = 0 ∧ gu ms p = 0 ∧ gl ms p = 0) ∧
  (∀ p q, p < gn ms → q < gn ms → (gl ms p = q + 1 ↔ gu ms q = p + 1)) ∧
  (∃ ρ : Nat → Nat, ∀ p q, p < gn ms → gu ms p = q + 1 → ρ q < ρ p) ∧
  (∀ p r, p < 10 → r < gc ms p → RV ms p r)
/-- a state of the class is one of the reference -/
def RC (ms kc : Nat → Int32) : Prop :=
  kc 0 = ms 0 ∧ (∀ p, p < 10 → kc (41 + p) = ms (5 * p + 3)) ∧
  (∀ p, p < gn ms → kc (1 + p) = ms (5 * p + 1) ∧ kc (11 + p) = ms (5 * p + 2) ∧ kc (21 + p) = ms (5 * p + 4) - 1 ∧ kc (31 + p) = ms (5 * p + 5) - 1) ∧
  (∀ p r, p < 10 → r < gc ms p → kc (51 + (6 * p + r)) = ms (pl p r) ∧ kc (111 + (6 * p + r)) = ms (pl p r + 1) ∧ kc (171 + (6 * p + r)) = ms (pl p r + 7) ∧ kc (231 + (6 * p + r)) = ms (pl p r + 2) ∧ ∀ k, k < gi ms p r → kc (291 + 4 * (6 * p + r) + k) = ms (pl p r + 3 + k))
/-- the fold over all receipts -/
def NF {σ : Type} (ms : Nat → Int32) (st : Nat → Nat → σ → σ) (s : σ) : σ := fo (fun p s => fo (fun r s => st p r s) (gc ms p) 0 s) (gn ms) 0 s
theorem LF_eq : LF = 20000 := rfl
theorem c_loop60 {σ R : Type} {ms : Nat → Int32} (w : WF ms) (F : Nat → σ → Nat → Option R) (k : σ → Option R) (st : Nat → Nat → σ → σ) (hx : ∀ n s, F (n + 1) s 60 = k s) (hs1 : ∀ n s z, z < 60 → z % 6 < gc ms (z / 6) → F (n + 1) s z = F n (st (z / 6) (z % 6) s) (z + 1)) (hs0 : ∀ n s z, z < 60 → ¬ z % 6 < gc ms (z / 6) → F (n + 1) s z = F n s (z + 1)) (s : σ) : F LF s 0 = k (NF ms st s) := by
  obtain ⟨⟨-, h10⟩, hp, hz, -⟩ := w
  have e := loop_fo F 60 k (fun z s => if z % 6 < gc ms (z / 6) then st (z / 6) (z % 6) s else s) hx (fun n s z h => by
    by_cases hu : z % 6 < gc ms (z / 6)
    · rw [hs1 n s z h hu, if_pos hu]
    · rw [hs0 n s z h hu, if_neg hu]) 60 0 LF s rfl (by rw [LF_eq]; omega)
  rw [e, show 60 = 6 * 10 from rfl, fo_slots st (gc ms) 10 (fun p hp' => (hp p hp').1.2)]
  unfold NF
  have e2 := fo_add (fun p s => fo (fun r s => st p r s) (gc ms p) 0 s) (gn ms) (10 - gn ms) 0 s
  rw [show gn ms + (10 - gn ms) = 10 by omega] at e2
  rw [e2, fo_id]
  intro j s h1 h2
  rw [(hz j (by omega) (by omega)).1]
  rfl
theorem m_loop1 {σ R : Type} (e : Nat) (he : e ≤ 10240) (F : Nat → σ → Nat → Option R) (k : σ → Option R) (st : Nat → σ → σ) (hx : ∀ n s, F (n + 1) s e = k s) (hs : ∀ n s i, i < e → F (n + 1) s i = F n (st i s) (i + 1)) (s : σ) : F LF s 0 = k (fo st e 0 s) := loop_fo F e k st hx hs e 0 LF s (by omega) (by rw [LF_eq]; omega)
theorem m_loop2 {σ R : Type} {ms : Nat → Int32} (w : WF ms) (G : Nat → σ → Nat → Option R) (J : (σ → Option R) → Nat → Nat → σ → Nat → Option R) (k : σ → Option R) (st : Nat → Nat → σ → σ)
    (hx : ∀ n s, G (n + 1) s (gn ms) = k s) (ho : ∀ n s p, p < gn ms → G (n + 1) s p = J (fun s' => G n s' (p + 1)) p LF s 0)
    (hjx : ∀ k' p m s, p < gn ms → J k' p (m + 1) s (gc ms p) = k' s) (hjs : ∀ k' p m s r, p < gn ms → r < gc ms p → J k' p (m + 1) s r = J k' p m (st p r s) (r + 1)) (s : σ) : G LF s 0 = k (NF ms st s) := by
  obtain ⟨⟨-, h10⟩, hp, -⟩ := w
  refine m_loop1 (gn ms) (by omega) G k (fun p s => fo (fun r s => st p r s) (gc ms p) 0 s) hx (fun n s p hpn => ?_) s
  rw [ho n s p hpn]
  have h6 := (hp p (by omega)).1.2
  exact m_loop1 (gc ms p) (by omega) (fun m s r => J (fun s' => G n s' (p + 1)) p m s r) (fun s' => G n s' (p + 1)) (fun r s => st p r s) (fun m s => hjx _ p m s hpn) (fun m s r hr => hjs _ p m s r hpn hr) s
