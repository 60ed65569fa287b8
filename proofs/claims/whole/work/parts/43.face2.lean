/-! More calls that change pieces. -/
section Face2
variable {ms msv kc ksv : Nat → Int32} {ns : Nat}
theorem f_correct (S : ST ms msv kc ksv ns) (mt x y : Int32) : AN [(3, 1)] ms msv ns (fX8_correct kc ksv (nI ns) x y) (fX9_correct ms msv mt (nI ns) x y) := by
  obtain ⟨w, c, h6, hs⟩ := S
  unfold fX8_correct fX9_correct
  rcases g_rec w c x y with ⟨h1, h2⟩ | ⟨p, r, hp, hr, rfl, rfl, h1, h2⟩
  · rw [h1, h2, sb, sb, if_pos rfl]
    exact Or.inl ⟨3, 1, by simp, rfl, rfl⟩
  · have hp10 := p10 w hp
    have hr6 := r6 w hp hr
    have hb := pl_b hp10 hr6
    have hz : 6 * p + r < 60 := by omega
    have hd : (6 * p + r) / 6 = p := by omega
    have hm : (6 * p + r) % 6 = r := by omega
    have hu : (6 * p + r) % 6 < gc ms ((6 * p + r) / 6) := by rw [hd, hm]; exact hr
    obtain ⟨msv', ksv', n', e1, e2, e3, -, e5⟩ := save_ok w c hs h6
    have v := rv w hp hr
    have v4 := v.2.2.1.2.2
    obtain ⟨d1, d2, d3, d4, d5⟩ := c.2.2.2 p r hp10 hr
    rw [h1, h2, sb, sb, if_neg one_n]
    unfold xs
    rw [c_slotOf, sb, c_tot c hz hu, sb, e1, e2, sb, sb, c_sum c w hz hu, sb, li 171, c_sa (by omega), sb, m_tot hp10 hr6, sb, m_place, sb, ms_sum w hp hr, sb, li 7, nI_add, aput_n (by omega) (by omega), sb, hd, hm]
    have eg : gi (upd ms (pl p r + 7) (sI ms p r)) p r = gi ms p r := by unfold gi; rw [pk_un (by omega)]
    obtain ⟨sn1, sn2, sn3⟩ := sum_n v
    obtain ⟨v1, v2, v3, vk, v5⟩ := v
    have ok := rec_ok (ms' := upd ms (pl p r + 7) (sI ms p r)) (kc' := upd kc (171 + (6 * p + r)) (sI ms p r)) w c hp (n := gc ms p) (t := r) (gc_b w hp10) hr6 (by rw [pk_un (by omega)]; exact (w.2.1 p hp10).1.1)
      (fun j hj h h' => pk_un (by omega)) (fun r' hr' hne => hr') (fun _ => ⟨⟨by rw [pk_un (by omega)]; exact v1, by rw [pk_un (by omega)]; exact v2, by rw [pk_un (by omega), eg]; exact v3, fun k hk => by
        rw [eg] at hk
        rw [pk_un (by omega)]; exact vk k hk, ⟨sN ms p r, by omega, by rw [pk_us]; exact sn1⟩⟩, by rw [pk_un (by omega), pk_un (by omega), d1], by rw [pk_un (by omega), pk_un (by omega), d2], by rw [pk_us, pk_us], by rw [pk_un (by omega), pk_un (by omega), d4], fun k hk => by
        rw [eg] at hk
        rw [pk_un (by omega), pk_un (by omega), d5 k hk]⟩) (by rw [pk_un (by omega), c.2.1 p hp10]; exact (w.2.1 p hp10).1.1) (fun j hj h _ _ h' _ _ => pk_un h')
    exact Or.inr ⟨ms (pl p r + 7), _, msv', _, ksv', n', rfl, rfl, ok.1, ok.2, e3, e5⟩
theorem ft_0 {p q : Nat} (h : ftI ms p q = 0) : gl ms p = 0 ∧ gu ms q = 0 ∧ root ms p ≠ q := by
  unfold ftI at h
  by_cases h1 : ms (5 * p + 2) + ms (5 * q + 1) = (99 : Int32)
  · rw [if_pos h1] at h
    by_cases h2 : gl ms p = 0
    · rw [if_pos h2] at h
      by_cases h3 : gu ms q = 0
      · rw [if_pos h3] at h
        by_cases h4 : root ms p = q
        · rw [if_pos h4] at h; exact absurd h (by decide)
        · exact ⟨h2, h3, h4⟩
      · rw [if_neg h3] at h; exact absurd h (by decide)
    · rw [if_neg h2] at h; exact absurd h (by decide)
  · rw [if_neg h1] at h; exact absurd h (by decide)
def prF (ms : Nat → Int32) : Nat → Nat → Int32 → Int32
  | 0, _, s => s
  | _ + 1, 0, s => s
  | k + 1, p + 1, s => prF ms k (gl ms p) (s + 1)
theorem c_pr (h : RC ms kc) (w : WF ms) {p : Nat} (hp : p < gn ms) : fX0_piecesOfRoll kc (nI p) = some (prF ms 10 (root ms p + 1) 0) := by
  unfold fX0_piecesOfRoll
  have key : ∀ (c i n u : Nat) (s : Int32), u ≤ gn ms → i + c = 10 → c < n → fX0_piecesOfRoll_11 (fun u2_5 => some u2_5) kc n s (oI u) (nI i) = some (prF ms c u s) := by
    intro c
    induction c with
    | zero =>
      intro i n u s hu hi hn
      obtain ⟨m, rfl⟩ : ∃ m, n = m + 1 := ⟨n - 1, by omega⟩
      rw [fX0_piecesOfRoll_11, li 10, show i = 10 by omega, if_pos (nI_le (Nat.le_refl _) (by omega))]
      rfl
    | succ c ih =>
      intro i n u s hu hi hn
      obtain ⟨m, rfl⟩ : ∃ m, n = m + 1 := ⟨n - 1, by omega⟩
      rw [fX0_piecesOfRoll_11, li 10, if_neg (nI_ge (show i < 10 by omega) (by omega))]
      cases u with
      | zero => rw [if_pos oI_0]; rfl
      | succ q =>
        have hq : q < gn ms := hu
        have h10 := p10 w hq
        rw [oI_s, if_neg (nI_m1 (by omega)), c_lo h w hq, sb, ia]
        exact ih (i + 1) m _ _ (gl_le w q hq) (by omega) (by omega)
  rw [c_first h w hp, sb, ← oI_s]
  exact key 10 0 LF _ 0 (root_lt w hp) rfl (by rw [LF_eq]; omega)
theorem m_pr (w : WF ms) {p : Nat} (hp : p < gn ms) : fX9_piecesOfRoll ms (nI p) = some (prF ms 10 (root ms p + 1) 0) := by
  unfold fX9_piecesOfRoll
  obtain ⟨ρ, h1, h2⟩ := wf_down w
  have key : ∀ (c n u : Nat) (s : Int32), u ≤ gn ms → (∀ p, u = p + 1 → ρ p < c) → c < n → fX9_piecesOfRoll_8 (fun u2_4 => some u2_4) ms n s (oI u) = some (prF ms c u s) := by
    intro c
    induction c with
    | zero =>
      intro n u s hu hr hn
      obtain ⟨m, rfl⟩ : ∃ m, n = m + 1 := ⟨n - 1, by omega⟩
      cases u with
      | zero => rw [fX9_piecesOfRoll_8, if_pos oI_0]; rfl
      | succ p => have := hr p rfl; omega
    | succ c ih =>
      intro n u s hu hr hn
      obtain ⟨m, rfl⟩ : ∃ m, n = m + 1 := ⟨n - 1, by omega⟩
      cases u with
      | zero => rw [fX9_piecesOfRoll_8, if_pos oI_0]; rfl
      | succ p =>
        have hp : p < gn ms := hu
        have h10 := p10 w hp
        have hrp := hr p rfl
        rw [fX9_piecesOfRoll_8, oI_s, if_neg (nI_m1 (by omega)), m_lo w h10, sb]
        exact ih m _ _ (gl_le w p hp) (fun q hq => by have := h2 p q hp hq; omega) (by omega)
  rw [m_first w hp, sb, ← oI_s]
  exact key 10 LF _ 0 (root_lt w hp) (fun q hq => h1 q (by have := root_lt w hp; omega)) (by rw [LF_eq]; omega)
theorem lk_n {u l : Nat} {x y : Int32} : gn (lkM ms u l x y) = gn ms := by unfold gn; rw [lk_e (by omega) (by omega)]
theorem f_join (S : ST ms msv kc ksv ns) (mt x y : Int32) : AN [(3, 1), (2, 2)] ms msv ns (fX8_join kc ksv (nI ns) x y) (fX9_join ms msv mt (nI ns) x y) := by
  obtain ⟨w, c, h6, hs⟩ := S
  unfold fX8_join fX9_join
  rcases g_piece w c x with ⟨h1, h2⟩ | ⟨p, hp, rfl, h1, h2⟩
  · rw [h1, h2, sb, sb, if_pos rfl]
    exact Or.inl ⟨3, 1, by simp, rfl, rfl⟩
  · rw [h1, h2, sb, sb, if_neg one_n]
    unfold xs
    rcases g_piece w c y with ⟨h1, h2⟩ | ⟨q, hq, rfl, h1, h2⟩
    · rw [h1, h2, sb, sb, if_pos rfl]
      exact Or.inl ⟨3, 1, by simp, rfl, rfl⟩
    · rw [h1, h2, sb, sb, if_neg one_n, m_fit w hp hq, sb]
      dsimp only
      rw [c_fit c w hp hq, sb]
      by_cases h0 : ftI ms p q = 0
      · obtain ⟨b1, b2, b3⟩ := ft_0 h0
        obtain ⟨msv', ksv', n', e1, e2, e3, -, e5⟩ := save_ok w c hs h6
        have ok := link_ok w c hp hq b1 b2 b3
        rw [if_pos h0, if_pos h0, e1, e2, sb, sb, c_link (p10 w hp) (p10 w hq), sb, m_joins (p10 w hp) (p10 w hq), sb, c_pr ok.2 ok.1 (by rw [lk_n]; exact hp), m_pr ok.1 (by rw [lk_n]; exact hp), sb, sb]
        exact Or.inr ⟨_, _, msv', _, ksv', n', rfl, rfl, ok.1, ok.2, e3, e5⟩
      · rw [if_neg h0, if_neg h0]
        exact Or.inl ⟨2, 2, by simp, rfl, rfl⟩
theorem f_part (S : ST ms msv kc ksv ns) (mt x : Int32) : AN [(3, 1), (2, 2)] ms msv ns (fX8_part kc ksv (nI ns) x) (fX9_part ms msv mt (nI ns) x) := by
  obtain ⟨w, c, h6, hs⟩ := S
  unfold fX8_part fX9_part
  rcases g_piece w c x with ⟨h1, h2⟩ | ⟨p, hp, rfl, h1, h2⟩
  · rw [h1, h2, sb, sb, if_pos rfl]
    exact Or.inl ⟨3, 1, by simp, rfl, rfl⟩
  · have hb := gl_b w hp
    have hle := gl_le w p hp
    have h10 := w.1.2
    rw [h1, h2, sb, sb, if_neg one_n, m_lo w (p10 w hp), sb]
    unfold xs
    rw [c_lo c w hp, sb]
    by_cases h0 : gl ms p = 0
    · rw [h0, if_pos oI_0, if_pos oI_0]
      exact Or.inl ⟨2, 2, by simp, rfl, rfl⟩
    · obtain ⟨l, hl⟩ : ∃ l, gl ms p = l + 1 := ⟨gl ms p - 1, by omega⟩
      have hlt : l < gn ms := by omega
      obtain ⟨msv', ksv', n', e1, e2, e3, -, e5⟩ := save_ok w c hs h6
      have ok := part_ok w c hp hlt hl
      rw [hl, oI_s, if_neg (nI_m1 (by omega)), if_neg (nI_m1 (by omega)), e1, e2, sb, sb, c_unlink (p10 w hp) (by omega), sb, li 4, m_lay (by have := p10 w hp; omega), sb, li 3, m_lay (by omega), sb]
      refine Or.inr ⟨nI l, _, msv', _, ksv', n', rfl, ?_, ok.1, ok.2, e3, e5⟩
      unfold lkM
      rw [show 1 + 5 * p + 4 = 5 * p + 5 by omega, show 1 + 5 * l + 3 = 5 * l + 4 by omega]
      rfl
/-- how many pieces have none below -/
def frN (ms : Nat → Int32) : Nat := cnN (fun p => decide (gl ms p = 0)) (gn ms)
theorem cl_F : ∀ (c i : Nat), clF ms c i = (-1 : Int32) ∨ ∃ p, i ≤ p ∧ p < i + c ∧ clF ms c i = nI p ∧ clP ms p = true
  | 0, i => Or.inl rfl
  | c + 1, i => by
    rw [show clF ms (c + 1) i = if clP ms i = true then nI i else clF ms c (i + 1) from rfl]
    by_cases h : clP ms i = true
    · rw [if_pos h]; exact Or.inr ⟨i, by omega, by omega, rfl, h⟩
    · rw [if_neg h]
      rcases cl_F c (i + 1) with e | ⟨p, h1, h2, h3, h4⟩
      · exact Or.inl e
      · exact Or.inr ⟨p, by omega, by omega, h3, h4⟩
/-- a clear piece and its lower one -/
theorem cl_go (w : WF ms) {p : Nat} (h : clP ms p = true) : mkN (belP ms p) (gn ms) ≠ 0 ∧ ∃ l, l < gn ms ∧ lwN (mkN (belP ms p) (gn ms)) = l ∧ gl ms p = 0 ∧ gu ms l = 0 ∧ root ms p ≠ l := by
  have hne : mkN (belP ms p) (gn ms) ≠ 0 := fun e => by
    unfold clP at h
    rw [e] at h
    simp only [Bool.and_eq_true, decide_eq_true_eq] at h
    exact pcI_0 h.1
  obtain ⟨h1, h2⟩ := lw_in w hne
  unfold belP at h2
  rw [decide_eq_true_eq] at h2
  exact ⟨hne, _, h1, rfl, ft_0 h2⟩
theorem fr_lk (w : WF ms) {u l : Nat} (hu : u < gn ms) (hl : l < gn ms) (h : gl ms u = 0) : frN (lkM ms u l (nI (l + 1)) (nI (u + 1))) < frN ms := by
  have h10 := w.1.2
  unfold frN
  rw [lk_n]
  have e : ∀ x, x ≠ u → gl (lkM ms u l (nI (l + 1)) (nI (u + 1))) x = gl ms x := fun x hx => by unfold gl; rw [lk_e (by omega) (by omega)]
  have e2 : gl (lkM ms u l (nI (l + 1)) (nI (u + 1))) u = l + 1 := by
    unfold gl lkM
    rw [pk_un (by omega), pk_us, nN (by omega)]
  refine cnN_lt _ (fun x hx hq => ?_) ⟨u, hu, ?_, ?_⟩
  · by_cases hx' : x = u
    · subst hx'
      rw [e2] at hq
      simp at hq
    · rw [e x hx'] at hq; exact hq
  · rw [e2]; simp
  · rw [h]; simp
theorem jc_all : ∀ (c i n m : Nat) (ms kc : Nat → Int32) (x1 : Int32) (K : Int32 → (Nat → Int32) → Option (Int32 × (Nat → Int32) × (Nat → Int32) × Int32 × Int32)), WF ms → RC ms kc → frN ms ≤ c → i + c = 10 → c < n → c < m →
    ∃ (v : Int32) (ms' kc' : Nat → Int32), fX3_joinAllClear_4 (fun a b => some (a, b)) n x1 (nI i) kc = some (v, kc') ∧ fX9_joinClear_16 K m x1 (clF ms (gn ms) 0) ms = K v ms' ∧ WF ms' ∧ RC ms' kc' := by
  intro c
  induction c with
  | zero =>
    intro i n m ms kc x1 K w h hf hi hn hm
    obtain ⟨n, rfl⟩ : ∃ k, n = k + 1 := ⟨n - 1, by omega⟩
    obtain ⟨m, rfl⟩ : ∃ k, m = k + 1 := ⟨m - 1, by omega⟩
    rw [fX3_joinAllClear_4, fX9_joinClear_16, li 10, show i = 10 by omega, if_pos (nI_le (Nat.le_refl _) (by omega))]
    rcases cl_F (ms := ms) (gn ms) 0 with e | ⟨p, h1, h2, h3, h4⟩
    · rw [if_pos e]
      exact ⟨x1, ms, kc, rfl, rfl, w, h⟩
    · obtain ⟨-, l, hl, -, hg, -⟩ := cl_go w h4
      have := fr_lk w (show p < gn ms by omega) hl hg
      omega
  | succ c ih =>
    intro i n m ms kc x1 K w h hf hi hn hm
    obtain ⟨n, rfl⟩ : ∃ k, n = k + 1 := ⟨n - 1, by omega⟩
    obtain ⟨m, rfl⟩ : ∃ k, m = k + 1 := ⟨m - 1, by omega⟩
    rw [fX3_joinAllClear_4, fX9_joinClear_16, li 10, if_neg (nI_ge (show i < 10 by omega) (by omega)), c_clear h w, sb]
    rcases cl_F (ms := ms) (gn ms) 0 with e | ⟨p, h1, h2, h3, h4⟩
    · rw [if_pos e, if_pos e]
      exact ⟨x1, ms, kc, rfl, rfl, w, h⟩
    · have hp : p < gn ms := by omega
      have hp10 := p10 w hp
      obtain ⟨hne, l, hl, hlw, hg, hg2, hg3⟩ := cl_go w h4
      have hlt := fr_lk w hp hl hg
      have ok := link_ok w h hp hl hg hg2 hg3
      have hb := mkN_b10 (belP ms p) w.1.2
      rw [h3, if_neg (nI_m1 (by omega)), if_neg (nI_m1 (by omega)), c_lowers h w hp, sb, c_lw _ hb hne, sb, hlw, c_link hp10 (p10 w hl), sb, m_below w hp, sb, m_lw _ hb hne, sb, hlw, m_joins hp10 (p10 w hl), sb, m_clear ok.1, sb, ia]
      exact ih (i + 1) n m _ _ _ K ok.1 ok.2 (by omega) (by omega) (by omega) (by omega)
theorem f_joinClear (S : ST ms msv kc ksv ns) (mt : Int32) : ∃ (v : Int32) (ms' msv' kc' ksv' : Nat → Int32) (ns' : Nat), fX8_joinClear kc ksv (nI ns) = some (v, kc', ksv', nI ns') ∧ fX9_joinClear ms msv mt (nI ns) = some (v, ms', msv', (0 : Int32), nI ns') ∧ ST ms' msv' kc' ksv' ns' := by
  obtain ⟨w, c, h6, hs⟩ := S
  obtain ⟨msv', ksv', n', e1, e2, e3, -, e5⟩ := save_ok w c hs h6
  unfold fX8_joinClear fX9_joinClear
  have hfr : frN ms ≤ 10 := Nat.le_trans (cnN_le _ _) w.1.2
  obtain ⟨v, ms', kc', j1, j2, j3, j4⟩ := jc_all 10 0 LF LF ms kc 0 (fun (u1_8 : Int32) (ms_u8 : (Nat → Int32)) => (some (u1_8, ms_u8, msv', (0 : Int32), nI n'))) w c hfr rfl (by rw [LF_eq]; omega) (by rw [LF_eq]; omega)
  refine ⟨v, ms', msv', kc', ksv', n', ?_, ?_, j3, j4, e3, e5⟩
  · rw [e2, sb]
    unfold fX3_joinAllClear
    rw [show fX3_joinAllClear_4 (fun u1_7 kc_u7 => some (u1_7, kc_u7)) LF 0 0 kc = some (v, kc') from j1, sb]
  · rw [e1, sb, m_clear w, sb]
    exact j2
theorem f_undo (S : ST ms msv kc ksv ns) (mt : Int32) : (fX8_undo kc ksv (nI ns) = some (.inl 2) ∧ fX9_undo ms msv mt (nI ns) = some ((0 : Int32), ms, (1 : Int32), nI ns)) ∨
    ∃ (v : Int32) (ms' kc' : Nat → Int32) (n : Nat), fX8_undo kc ksv (nI ns) = some (.inr (v, kc', nI n)) ∧ fX9_undo ms msv mt (nI ns) = some (v, ms', (0 : Int32), nI n) ∧ ST ms' msv kc' ksv n := by
  obtain ⟨w, c, h6, hs⟩ := S
  cases ns with
  | zero =>
    left
    refine ⟨rfl, ?_⟩
    unfold fX9_undo
    rw [if_pos (show nI 0 = (0 : Int32) from rfl)]
    rfl
  | succ n =>
    right
    obtain ⟨ms', kc', u1, u2, u3, u4, u5⟩ := undo_ok (ms := ms) (kc := kc) hs (by omega) mt
    refine ⟨nI n, ms', kc', n, ?_, u1, u3, u4, by omega, u5⟩
    unfold fX8_undo fX0_savedStates
    rw [sb, if_neg (nI_ne0 (by omega) (by omega)), u2, sb, sb]
end Face2
