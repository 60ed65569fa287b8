/-! What changes keep. -/
theorem pl_b {p r : Nat} (hp : p < 10) (hr : r < 6) : 51 ≤ pl p r ∧ pl p r + 8 ≤ 531 := by unfold pl; omega
theorem hop_more {f : Nat → Nat} : ∀ k p, f (hop f k p) = 0 → hop f (k + 1) p = hop f k p
  | 0, p, h => by
    have h : f p = 0 := h
    show (if f p = 0 then p else _) = p
    rw [if_pos h]
  | k + 1, p, h => by
    by_cases a : f p = 0
    · have e : ∀ m, hop f (m + 1) p = p := fun m => by show (if f p = 0 then p else _) = p; rw [if_pos a]
      rw [e, e]
    · have e : ∀ m, hop f (m + 1) p = hop f m (f p - 1) := fun m => by show (if f p = 0 then p else _) = _; rw [if_neg a]
      rw [e, e]
      rw [e] at h
      exact hop_more k _ h
section State
variable {ms ms' kc kc' : Nat → Int32}
theorem root_step (w : WF ms) {p q : Nat} (hp : p < gn ms) (h : gu ms p = q + 1) : root ms p = root ms q := by
  obtain ⟨ρ, h1, h2⟩ := wf_rank w
  have := gu_le w p hp
  have hq : q < gn ms := by omega
  have e : root ms p = hop (gu ms) 9 q := by
    show (if gu ms p = 0 then p else hop (gu ms) 9 (gu ms p - 1)) = _
    rw [if_neg (by omega), h]
    rfl
  rw [e]
  have h3 := h1 q hq
  have h10 := w.1.2
  exact (hop_more 9 q (hop_end (gu_le w) h2 9 q hq (by omega))).symm
/-- only the first 531 cells count -/
theorem WF_congr (h : ∀ j, j < 531 → ms' j = ms j) (w : WF ms) : WF ms' := by
  have a0 : gn ms' = gn ms := by unfold gn; rw [h 0 (by omega)]
  have a1 : ∀ p, p < 10 → gc ms' p = gc ms p := fun p hp => by unfold gc; rw [h _ (by omega)]
  have a2 : ∀ p, p < 10 → gu ms' p = gu ms p := fun p hp => by unfold gu; rw [h _ (by omega)]
  have a3 : ∀ p, p < 10 → gl ms' p = gl ms p := fun p hp => by unfold gl; rw [h _ (by omega)]
  have a4 : ∀ p r, p < 10 → r < 6 → gi ms' p r = gi ms p r := fun p r hp hr => by have := pl_b hp hr; unfold gi; rw [h _ (by omega)]
  obtain ⟨⟨w0, w1⟩, w2, w3, w4, ⟨ρ, w5⟩, w6⟩ := w
  refine ⟨⟨by rw [h 0 (by omega), a0, w0], by rw [a0]; exact w1⟩, fun p hp => ?_, fun p hp hn => ?_, fun p q hp hq => ?_, ⟨ρ, fun p q hp hq => ?_⟩, fun p r hp hr => ?_⟩
  · rw [h _ (by omega), h _ (by omega), h _ (by omega), a0, a1 p hp, a2 p hp, a3 p hp]; exact w2 p hp
  · rw [a1 p hp, a2 p hp, a3 p hp]; rw [a0] at hn; exact w3 p hp hn
  · rw [a0] at hp hq
    rw [a3 p (by omega), a2 q (by omega)]; exact w4 p q hp hq
  · rw [a0] at hp
    rw [a2 p (by omega)] at hq
    exact w5 p q hp hq
  · rw [a1 p hp] at hr
    have h6 := (w2 p hp).1.2
    have hb := pl_b hp (show r < 6 by omega)
    obtain ⟨v1, v2, v3, v4, v5⟩ := w6 p r hp hr
    refine ⟨?_, ?_, ?_, ?_, ?_⟩
    · rw [h _ (by omega)]; exact v1
    · rw [h _ (by omega)]; exact v2
    · rw [h _ (by omega), a4 p r hp (by omega)]; exact v3
    · rw [a4 p r hp (by omega)]
      intro k hk
      rw [h _ (by omega)]; exact v4 k hk
    · rw [h _ (by omega)]; exact v5
theorem RC_congr (w : WF ms) (h : ∀ j, j < 531 → ms' j = ms j) (h2 : ∀ j, j < 531 → kc' j = kc j) (c : RC ms kc) : RC ms' kc' := by
  have a0 : gn ms' = gn ms := by unfold gn; rw [h 0 (by omega)]
  have a1 : ∀ p, p < 10 → gc ms' p = gc ms p := fun p hp => by unfold gc; rw [h _ (by omega)]
  have a4 : ∀ p r, p < 10 → r < 6 → gi ms' p r = gi ms p r := fun p r hp hr => by have := pl_b hp hr; unfold gi; rw [h _ (by omega)]
  have h10 := w.1.2
  obtain ⟨c1, c2, c3, c4⟩ := c
  refine ⟨by rw [h _ (by omega), h2 _ (by omega), c1], fun p hp => by rw [h _ (by omega), h2 _ (by omega), c2 p hp], fun p hp => ?_, fun p r hp hr => ?_⟩
  · rw [a0] at hp
    rw [h _ (by omega), h _ (by omega), h _ (by omega), h _ (by omega), h2 _ (by omega), h2 _ (by omega), h2 _ (by omega), h2 _ (by omega)]
    exact c3 p hp
  · rw [a1 p hp] at hr
    have h6 := (w.2.1 p hp).1.2
    have hb := pl_b hp (show r < 6 by omega)
    have v := w.2.2.2.2.2 p r hp hr
    have v4 := v.2.2.1.2.2
    obtain ⟨d1, d2, d3, d4, d5⟩ := c4 p r hp hr
    rw [a4 p r hp (by omega)]
    rw [h _ (by omega), h _ (by omega), h _ (by omega), h _ (by omega), h2 _ (by omega), h2 _ (by omega), h2 _ (by omega), h2 _ (by omega)]
    refine ⟨d1, d2, d3, d4, fun k hk => ?_⟩
    rw [h _ (by omega), h2 _ (by omega)]
    exact d5 k hk
theorem nN {n : Nat} (h : n < 2 ^ 31) : (nI n).toNatClampNeg = n := nI_clamp h
/-! a new piece -/
def addM (ms : Nat → Int32) (a b : Int32) : Nat → Int32 := upd (upd (upd ms (5 * gn ms + 1) a) (5 * gn ms + 2) b) 0 (nI (gn ms + 1))
def addC (ms kc : Nat → Int32) (a b : Int32) : Nat → Int32 := upd (upd (upd (upd (upd (upd kc (1 + gn ms) a) (11 + gn ms) b) (21 + gn ms) (-1)) (31 + gn ms) (-1)) (41 + gn ms) 0) 0 (nI (gn ms + 1))
theorem add_e {a b : Int32} {j : Nat} (h : j ≠ 0) (h1 : j ≠ 5 * gn ms + 1) (h2 : j ≠ 5 * gn ms + 2) : addM ms a b j = ms j := by
  unfold addM
  rw [pk_un h, pk_un h2, pk_un h1]
theorem add_ok (w : WF ms) (c : RC ms kc) (h9 : gn ms < 10) (a b : Int32) : WF (addM ms a b) ∧ RC (addM ms a b) (addC ms kc a b) := by
  have e0 : addM ms a b 0 = nI (gn ms + 1) := by unfold addM; rw [pk_us]
  have a0 : gn (addM ms a b) = gn ms + 1 := by
    show (addM ms a b 0).toNatClampNeg = _
    rw [e0, nN (by omega)]
  have a1 : ∀ p, gc (addM ms a b) p = gc ms p := fun p => by unfold gc; rw [add_e (by omega) (by omega) (by omega)]
  have a2 : ∀ p, gu (addM ms a b) p = gu ms p := fun p => by unfold gu; rw [add_e (by omega) (by omega) (by omega)]
  have a3 : ∀ p, gl (addM ms a b) p = gl ms p := fun p => by unfold gl; rw [add_e (by omega) (by omega) (by omega)]
  have a5 : ∀ p r k, addM ms a b (pl p r + k) = ms (pl p r + k) := fun p r k => add_e (by unfold pl; omega) (by unfold pl; omega) (by unfold pl; omega)
  have a6 : ∀ p r, addM ms a b (pl p r) = ms (pl p r) := fun p r => a5 p r 0
  have a4 : ∀ p r, gi (addM ms a b) p r = gi ms p r := fun p r => by unfold gi; rw [a5]
  have a7 : ∀ p r k, addM ms a b (pl p r + 3 + k) = ms (pl p r + 3 + k) := fun p r k => by rw [show pl p r + 3 + k = pl p r + (3 + k) by omega, a5]
  obtain ⟨⟨w0, w1⟩, w2, w3, w4, ⟨ρ, w5⟩, w6⟩ := w
  obtain ⟨n1, n2, n3⟩ := w3 (gn ms) h9 (Nat.le_refl _)
  refine ⟨⟨⟨by rw [e0, a0], by omega⟩, fun p hp => ?_, fun p hp hn => ?_, fun p q hp hq => ?_, ⟨ρ, fun p q hp hq => ?_⟩, fun p r hp hr => ?_⟩, ?_, fun p hp => ?_, fun p hp => ?_, fun p r hp hr => ?_⟩
  · have := w2 p hp
    rw [add_e (by omega) (by omega) (by omega), add_e (by omega) (by omega) (by omega), add_e (by omega) (by omega) (by omega), a0, a1, a2, a3]
    exact ⟨this.1, ⟨this.2.1.1, by omega⟩, this.2.2.1, by omega⟩
  · rw [a0] at hn
    rw [a1, a2, a3]; exact w3 p hp (by omega)
  · rw [a0] at hp hq
    rw [a2, a3]
    have b1 := (w2 p (by omega)).2.2.2
    have b2 := (w2 q (by omega)).2.1.2
    rcases Nat.lt_or_ge p (gn ms) with c1 | c1
    · rcases Nat.lt_or_ge q (gn ms) with c2 | c2
      · exact w4 p q c1 c2
      · have : q = gn ms := by omega
        subst this
        rw [n2]
        exact ⟨fun _ => by omega, fun _ => by omega⟩
    · have : p = gn ms := by omega
      subst this
      rw [n3]
      exact ⟨fun _ => by omega, fun _ => by omega⟩
  · rw [a0] at hp
    rw [a2] at hq
    rcases Nat.lt_or_ge p (gn ms) with c1 | c1
    · exact w5 p q c1 hq
    · have : p = gn ms := by omega
      subst this
      omega
  · rw [a1] at hr
    obtain ⟨v1, v2, v3, v4, v5⟩ := w6 p r hp hr
    refine ⟨by rw [a6]; exact v1, by rw [a5]; exact v2, by rw [a5, a4]; exact v3, fun k hk => ?_, by rw [a5]; exact v5⟩
    rw [a4] at hk
    rw [a7]
    exact v4 k hk
  · rw [e0]; unfold addC; rw [pk_us]
  · rw [add_e (by omega) (by omega) (by omega)]
    unfold addC
    by_cases e : p = gn ms
    · subst e
      rw [pk_un (by omega), pk_us, (w2 _ hp).1.1, n1]
      rfl
    · rw [pk_un (by omega), pk_un (by omega), pk_un (by omega), pk_un (by omega), pk_un (by omega), pk_un (by omega)]
      exact c.2.1 p hp
  · rw [a0] at hp
    unfold addC
    rcases Nat.lt_or_ge p (gn ms) with c1 | c1
    · rw [add_e (by omega) (by omega) (by omega), add_e (by omega) (by omega) (by omega), add_e (by omega) (by omega) (by omega), add_e (by omega) (by omega) (by omega)]
      have := c.2.2.1 p c1
      refine ⟨?_, ?_, ?_, ?_⟩
      · rw [pk_un (by omega), pk_un (by omega), pk_un (by omega), pk_un (by omega), pk_un (by omega), pk_un (by omega)]; exact this.1
      · rw [pk_un (by omega), pk_un (by omega), pk_un (by omega), pk_un (by omega), pk_un (by omega), pk_un (by omega)]; exact this.2.1
      · rw [pk_un (by omega), pk_un (by omega), pk_un (by omega), pk_un (by omega), pk_un (by omega), pk_un (by omega)]; exact this.2.2.1
      · rw [pk_un (by omega), pk_un (by omega), pk_un (by omega), pk_un (by omega), pk_un (by omega), pk_un (by omega)]; exact this.2.2.2
    · have : p = gn ms := by omega
      subst this
      have b := (w2 (gn ms) h9).2
      rw [n2, n3] at b
      refine ⟨?_, ?_, ?_, ?_⟩
      · rw [pk_un (by omega), pk_un (by omega), pk_un (by omega), pk_un (by omega), pk_un (by omega), pk_us]
        unfold addM
        rw [pk_un (by omega), pk_un (by omega), pk_us]
      · rw [pk_un (by omega), pk_un (by omega), pk_un (by omega), pk_un (by omega), pk_us]
        unfold addM
        rw [pk_un (by omega), pk_us]
      · rw [pk_un (by omega), pk_un (by omega), pk_un (by omega), pk_us, add_e (by omega) (by omega) (by omega), b.1.1]
        rfl
      · rw [pk_un (by omega), pk_un (by omega), pk_us, add_e (by omega) (by omega) (by omega), b.2.1]
        rfl
  · rw [a1] at hr
    have h6 := (w2 p hp).1.2
    unfold addC
    rw [a6, a5, a5, a5, a4]
    obtain ⟨d1, d2, d3, d4, d5⟩ := c.2.2.2 p r hp hr
    refine ⟨?_, ?_, ?_, ?_, fun k hk => ?_⟩
    · rw [pk_un (by omega), pk_un (by omega), pk_un (by omega), pk_un (by omega), pk_un (by omega), pk_un (by omega)]; exact d1
    · rw [pk_un (by omega), pk_un (by omega), pk_un (by omega), pk_un (by omega), pk_un (by omega), pk_un (by omega)]; exact d2
    · rw [pk_un (by omega), pk_un (by omega), pk_un (by omega), pk_un (by omega), pk_un (by omega), pk_un (by omega)]; exact d3
    · rw [pk_un (by omega), pk_un (by omega), pk_un (by omega), pk_un (by omega), pk_un (by omega), pk_un (by omega)]; exact d4
    · rw [a7, pk_un (by omega), pk_un (by omega), pk_un (by omega), pk_un (by omega), pk_un (by omega), pk_un (by omega)]; exact d5 k hk
/-! joining and parting -/
def lkM (ms : Nat → Int32) (u l : Nat) (x y : Int32) : Nat → Int32 := upd (upd ms (5 * u + 5) x) (5 * l + 4) y
def lkC (kc : Nat → Int32) (u l : Nat) (x y : Int32) : Nat → Int32 := upd (upd kc (31 + u) x) (21 + l) y
theorem lk_e {u l : Nat} {x y : Int32} {j : Nat} (h1 : j ≠ 5 * u + 5) (h2 : j ≠ 5 * l + 4) : lkM ms u l x y j = ms j := by
  unfold lkM
  rw [pk_un h2, pk_un h1]
theorem lk_rc (w : WF ms) (c : RC ms kc) {u l : Nat} (hu : u < gn ms) (hl : l < gn ms) (x y : Int32) : RC (lkM ms u l x y) (lkC kc u l (x - 1) (y - 1)) := by
  have h10 := w.1.2
  have a0 : gn (lkM ms u l x y) = gn ms := by unfold gn; rw [lk_e (by omega) (by omega)]
  have a1 : ∀ p, gc (lkM ms u l x y) p = gc ms p := fun p => by unfold gc; rw [lk_e (by omega) (by omega)]
  have a5 : ∀ p r k, lkM ms u l x y (pl p r + k) = ms (pl p r + k) := fun p r k => lk_e (by unfold pl; omega) (by unfold pl; omega)
  have a6 : ∀ p r, lkM ms u l x y (pl p r) = ms (pl p r) := fun p r => a5 p r 0
  have a4 : ∀ p r, gi (lkM ms u l x y) p r = gi ms p r := fun p r => by unfold gi; rw [a5]
  have a7 : ∀ p r k, lkM ms u l x y (pl p r + 3 + k) = ms (pl p r + 3 + k) := fun p r k => by rw [show pl p r + 3 + k = pl p r + (3 + k) by omega, a5]
  obtain ⟨c1, c2, c3, c4⟩ := c
  refine ⟨?_, fun p hp => ?_, fun p hp => ?_, fun p r hp hr => ?_⟩
  · rw [lk_e (by omega) (by omega)]; unfold lkC; rw [pk_un (by omega), pk_un (by omega), c1]
  · rw [lk_e (by omega) (by omega)]; unfold lkC; rw [pk_un (by omega), pk_un (by omega), c2 p hp]
  · rw [a0] at hp
    obtain ⟨d1, d2, d3, d4⟩ := c3 p hp
    rw [lk_e (by omega) (by omega), lk_e (by omega) (by omega)]
    unfold lkC lkM
    refine ⟨?_, ?_, ?_, ?_⟩
    · rw [pk_un (by omega), pk_un (by omega), d1]
    · rw [pk_un (by omega), pk_un (by omega), d2]
    · by_cases e : p = l
      · subst e; rw [pk_us, pk_us]
      · rw [pk_un (by omega), pk_un (by omega), pk_un (by omega), pk_un (by omega), d3]
    · by_cases e : p = u
      · subst e; rw [pk_un (by omega), pk_us, pk_un (by omega), pk_us]
      · rw [pk_un (by omega), pk_un (by omega), pk_un (by omega), pk_un (by omega), d4]
  · rw [a1] at hr
    have h6 := (w.2.1 p hp).1.2
    obtain ⟨d1, d2, d3, d4, d5⟩ := c4 p r hp hr
    rw [a6, a5, a5, a5, a4]
    unfold lkC
    refine ⟨by rw [pk_un (by omega), pk_un (by omega), d1], by rw [pk_un (by omega), pk_un (by omega), d2], by rw [pk_un (by omega), pk_un (by omega), d3], by rw [pk_un (by omega), pk_un (by omega), d4], fun k hk => by rw [a7, pk_un (by omega), pk_un (by omega), d5 k hk]⟩
theorem lk_wf (w : WF ms) {u l x y : Nat} (hu : u < gn ms) (hl : l < gn ms) (hx : x ≤ gn ms) (hy : y ≤ gn ms)
    (h4 : ∀ p q, p < gn ms → q < gn ms → ((if p = u then x else gl ms p) = q + 1 ↔ (if q = l then y else gu ms q) = p + 1))
    (h5 : ∃ ρ : Nat → Nat, ∀ p q, p < gn ms → (if p = l then y else gu ms p) = q + 1 → ρ q < ρ p) : WF (lkM ms u l (nI x) (nI y)) := by
  have h10 := w.1.2
  have a0 : gn (lkM ms u l (nI x) (nI y)) = gn ms := by unfold gn; rw [lk_e (by omega) (by omega)]
  have a1 : ∀ p, gc (lkM ms u l (nI x) (nI y)) p = gc ms p := fun p => by unfold gc; rw [lk_e (by omega) (by omega)]
  have a2 : ∀ p, gu (lkM ms u l (nI x) (nI y)) p = if p = l then y else gu ms p := fun p => by
    unfold gu lkM
    by_cases e : p = l
    · subst e; rw [pk_us, if_pos rfl, nN (by omega)]
    · rw [pk_un (by omega), pk_un (by omega), if_neg e]
  have a3 : ∀ p, gl (lkM ms u l (nI x) (nI y)) p = if p = u then x else gl ms p := fun p => by
    unfold gl lkM
    rw [pk_un (by omega)]
    by_cases e : p = u
    · subst e; rw [pk_us, if_pos rfl, nN (by omega)]
    · rw [pk_un (by omega), if_neg e]
  have a5 : ∀ p r k, lkM ms u l (nI x) (nI y) (pl p r + k) = ms (pl p r + k) := fun p r k => lk_e (by unfold pl; omega) (by unfold pl; omega)
  have a6 : ∀ p r, lkM ms u l (nI x) (nI y) (pl p r) = ms (pl p r) := fun p r => a5 p r 0
  have a4 : ∀ p r, gi (lkM ms u l (nI x) (nI y)) p r = gi ms p r := fun p r => by unfold gi; rw [a5]
  have a7 : ∀ p r k, lkM ms u l (nI x) (nI y) (pl p r + 3 + k) = ms (pl p r + 3 + k) := fun p r k => by rw [show pl p r + 3 + k = pl p r + (3 + k) by omega, a5]
  obtain ⟨⟨w0, w1⟩, w2, w3, w4, w5, w6⟩ := w
  refine ⟨⟨by rw [lk_e (by omega) (by omega), a0, w0], by rw [a0]; exact w1⟩, fun p hp => ?_, fun p hp hn => ?_, fun p q hp hq => ?_, ?_, fun p r hp hr => ?_⟩
  · obtain ⟨b1, b2, b3⟩ := w2 p hp
    rw [a0, a1, a2, a3]
    refine ⟨⟨by rw [lk_e (by omega) (by omega)]; exact b1.1, b1.2⟩, ⟨?_, ?_⟩, ⟨?_, ?_⟩⟩
    · unfold lkM
      by_cases e : p = l
      · subst e; rw [pk_us, if_pos rfl]
      · rw [pk_un (by omega), pk_un (by omega), if_neg e, b2.1]
    · split
      · exact hy
      · exact b2.2
    · unfold lkM
      rw [pk_un (by omega)]
      by_cases e : p = u
      · subst e; rw [pk_us, if_pos rfl]
      · rw [pk_un (by omega), if_neg e, b3.1]
    · split
      · exact hx
      · exact b3.2
  · rw [a0] at hn
    rw [a1, a2, a3, if_neg (by omega), if_neg (by omega)]; exact w3 p hp hn
  · rw [a0] at hp hq
    rw [a2, a3]; exact h4 p q hp hq
  · obtain ⟨ρ, h5⟩ := h5
    refine ⟨ρ, fun p q hp hq => ?_⟩
    rw [a0] at hp
    rw [a2] at hq
    exact h5 p q hp hq
  · rw [a1] at hr
    obtain ⟨v1, v2, v3, v4, v5⟩ := w6 p r hp hr
    refine ⟨by rw [a6]; exact v1, by rw [a5]; exact v2, by rw [a5, a4]; exact v3, fun k hk => ?_, by rw [a5]; exact v5⟩
    rw [a4] at hk
    rw [a7]
    exact v4 k hk
theorem link_wf (w : WF ms) {u l : Nat} (hu : u < gn ms) (hl : l < gn ms) (h1 : gl ms u = 0) (h2 : gu ms l = 0) (h3 : root ms u ≠ l) : WF (lkM ms u l (nI (l + 1)) (nI (u + 1))) := by
  refine lk_wf w hu hl (by omega) (by omega) (fun p q hp hq => ?_) ?_
  · have e := w.2.2.2.1 p q hp hq
    by_cases c1 : p = u <;> by_cases c2 : q = l
    · rw [if_pos c1, if_pos c2]; omega
    · rw [if_pos c1, if_neg c2]
      subst c1
      rw [h1] at e
      omega
    · rw [if_neg c1, if_pos c2]
      subst c2
      rw [h2] at e
      omega
    · rw [if_neg c1, if_neg c2]; exact e
  · obtain ⟨ρ, h⟩ := w.2.2.2.2.1
    refine ⟨fun x => if root ms x = l then ρ x + ρ u + 1 else ρ x, fun p q hp hq => ?_⟩
    by_cases c1 : p = l
    · rw [if_pos c1] at hq
      have : q = u := by omega
      subst this
      subst c1
      show (if root ms q = p then ρ q + ρ q + 1 else ρ q) < (if root ms p = p then ρ p + ρ q + 1 else ρ p)
      rw [if_neg h3, if_pos (root_self h2)]
      omega
    · rw [if_neg c1] at hq
      have e1 := root_step w hp hq
      have e2 := h p q hp hq
      show (if root ms q = l then ρ q + ρ u + 1 else ρ q) < (if root ms p = l then ρ p + ρ u + 1 else ρ p)
      rw [e1]
      split <;> omega
theorem part_wf (w : WF ms) {u l : Nat} (hu : u < gn ms) (hl : l < gn ms) (h1 : gl ms u = l + 1) : WF (lkM ms u l (nI 0) (nI 0)) := by
  have h2 := (w.2.2.2.1 u l hu hl).mp h1
  refine lk_wf w hu hl (by omega) (by omega) (fun p q hp hq => ?_) ?_
  · have e := w.2.2.2.1 p q hp hq
    by_cases c1 : p = u <;> by_cases c2 : q = l
    · rw [if_pos c1, if_pos c2]; omega
    · rw [if_pos c1, if_neg c2]
      subst c1
      omega
    · rw [if_neg c1, if_pos c2]
      subst c2
      omega
    · rw [if_neg c1, if_neg c2]; exact e
  · obtain ⟨ρ, h⟩ := w.2.2.2.2.1
    refine ⟨ρ, fun p q hp hq => ?_⟩
    by_cases c1 : p = l
    · rw [if_pos c1] at hq; omega
    · rw [if_neg c1] at hq; exact h p q hp hq
end State
