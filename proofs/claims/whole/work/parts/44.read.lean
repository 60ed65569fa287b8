/-! Reading a receipt, a character at a time and by parts. -/
abbrev RS := (Nat → Int32) × Int32 × Int32 × Int32 × Int32 × Int32 × Int32
def acc (S : RS) (x : Int32) : Option (Int32 × RS) := fX6_accept S.1 S.2.1 S.2.2.1 S.2.2.2.1 S.2.2.2.2.1 S.2.2.2.2.2.1 S.2.2.2.2.2.2 x
/-- the reader goes on over some characters -/
def rn (b : Nat → Nat) : Nat → Nat → RS → RS → Prop
  | 0, _, S, T => S = T
  | c + 1, i, S, T => ∃ S', acc S (nI (b i)) = some ((1 : Int32), S') ∧ rn b c (i + 1) S' T
theorem rn_add {b : Nat → Nat} : ∀ (c d i : Nat) (S T U : RS), rn b c i S T → rn b d (i + c) T U → rn b (c + d) i S U
  | 0, d, i, S, T, U, h, h2 => by
    rw [Nat.zero_add]
    have e : S = T := h
    rw [e]
    exact h2
  | c + 1, d, i, S, T, U, h, h2 => by
    obtain ⟨S', h3, h4⟩ := h
    rw [show c + 1 + d = (c + d) + 1 by omega]
    exact ⟨S', h3, rn_add c d (i + 1) S' T U h4 (by rw [show i + 1 + c = i + (c + 1) by omega]; exact h2)⟩
def stp (b : Nat → Nat) (len i : Nat) (T : RS) : Prop := i = len ∨ (i < len ∧ ∃ T', acc T (nI (b i)) = some ((0 : Int32), T'))
def dig (g : Nat) : Prop := 48 ≤ g ∧ g ≤ 57
/-- the buffer -/
def BF (b : Nat → Nat) (len : Nat) (mb : Nat → Int32) : Prop := len ≤ 60 ∧ ∀ j, j < len → mb j = nI (b j) ∧ 33 ≤ b j ∧ b j ≤ 126
theorem ac_mark {kit : Nat → Int32} {r0 r1 r2 r3 r4 r5 : Int32} {g : Nat} (hg : g ≤ 126) (hd : ¬ dig g) : acc (kit, r0, r1, r2, r3, r4, r5) (nI g) = if r2 ≤ 0 then some ((0 : Int32), (kit, r0, r1, r2, r3, r4, r5)) else Option.bind (fX6_acceptMark kit r0 r1 r2 r3 r4 r5 (nI g)) (fun q => if q.1 = 0 then some ((0 : Int32), q.2) else some ((1 : Int32), q.2)) := by
  unfold acc fX6_accept dig at *
  dsimp only
  by_cases h : g < 48
  · rw [li 48, if_pos (nI_lt h (by omega))]
  · rw [li 48, if_neg (nI_nlt (by omega) (by omega)), li 57, if_pos (nI_lt (by omega) (by omega))]
theorem ac_dig {kit : Nat → Int32} {r0 r1 r2 r3 r4 r5 : Int32} {g : Nat} (h1 : 48 ≤ g) (h2 : g ≤ 57) : acc (kit, r0, r1, r2, r3, r4, r5) (nI g) = Option.bind (fX6_acceptDigit r0 r1 r2 (nI (g - 48))) (fun q9 => Option.bind (bz q9.1) (fun _ => some (q9.1, (kit, r0, q9.2.1, q9.2.2, r3, r4, r5)))) := by
  unfold acc fX6_accept
  dsimp only
  rw [li 48, if_neg (nI_nlt (by omega) (by omega)), li 57, if_neg (nI_nlt (by omega) (by omega)), pk_sub (by omega)]
/-- what a phase reads -/
def PH (ph lo most : Nat) : Prop := (ph = 0 ∧ lo = 0 ∧ most = 4) ∨ (ph = 1 ∧ lo = 0 ∧ most = 1) ∨ (ph = 2 ∧ lo = 1 ∧ most = 3) ∨ (ph = 3 ∧ lo = 0 ∧ most = 4)
theorem ph_most {ph lo most : Nat} (h : PH ph lo most) : fX6_mostDigits (nI ph) = some (nI most) := by
  rcases h with ⟨rfl, rfl, rfl⟩ | ⟨rfl, rfl, rfl⟩ | ⟨rfl, rfl, rfl⟩ | ⟨rfl, rfl, rfl⟩ <;> rfl
/-- so many digits a number has -/
def DN (v d : Nat) : Prop := (d = 1 ∧ v ≤ 9) ∨ (d = 2 ∧ 10 ≤ v ∧ v ≤ 99) ∨ (d = 3 ∧ 100 ≤ v ∧ v ≤ 999) ∨ (d = 4 ∧ 1000 ≤ v ∧ v ≤ 9999)
theorem bz1 : bz (1 : Int32) = some () := rfl
theorem bz0 : bz (0 : Int32) = some () := rfl
section Read
variable {b : Nat → Nat} {len : Nat} {mb : Nat → Int32}
theorem sg (hb : BF b len mb) {i : Nat} (h : i < len) : fX9_sign mb (nI len) (nI i) = some (nI (b i)) := by
  have := hb.1
  unfold fX9_sign
  rw [if_neg (nI_ge h (by omega)), aget_n (by omega) (by omega), sb, (hb.2 i h).1]
theorem sg_end (hb : BF b len mb) : fX9_sign mb (nI len) (nI len) = some (nI 0) := by
  have := hb.1
  unfold fX9_sign
  rw [if_pos (nI_le (Nat.le_refl _) (by omega))]
  rfl
theorem inN {x a c : Nat} (hx : x < 2 ^ 31) (ha : a < 2 ^ 31) (hc : c < 2 ^ 31) : fX9_in (nI x) (nI a) (nI c) = some (if a ≤ x ∧ x ≤ c then 1 else 0) := by
  unfold fX9_in
  by_cases h1 : x < a
  · rw [if_pos (nI_lt h1 ha), if_neg (by omega)]
  · rw [if_neg (nI_nlt (by omega) hx)]
    by_cases h2 : c < x
    · rw [if_pos (nI_lt h2 hx), if_neg (by omega)]
    · rw [if_neg (nI_nlt (by omega) hc), if_pos (by omega)]
theorem inY {x a c : Nat} (hx : x < 2 ^ 31) (ha : a < 2 ^ 31) (hc : c < 2 ^ 31) (h : a ≤ x ∧ x ≤ c) : fX9_in (nI x) (nI a) (nI c) = some 1 := by rw [inN hx ha hc, if_pos h]
theorem inZ {x a c : Nat} (hx : x < 2 ^ 31) (ha : a < 2 ^ 31) (hc : c < 2 ^ 31) (h : ¬ (a ≤ x ∧ x ≤ c)) : fX9_in (nI x) (nI a) (nI c) = some 0 := by rw [inN hx ha hc, if_neg h]
/-- digits go on -/
theorem num_go (hb : BF b len mb) {ph lo most : Nat} (hp : PH ph lo most) {kit : Nat → Int32} {r3 r4 r5 : Int32} (k : Int32 → Int32 → Option (Int32 × Int32 × Int32)) : ∀ (c i v d n : Nat), i + c = len → c < n → DN v d → d ≤ most →
    ∃ (m v' d' : Nat), i + m ≤ len ∧ DN v' d' ∧ d' ≤ most ∧ v ≤ v' ∧ fX9_number_61a k mb (nI len) (nI (10 ^ most - 1)) n (nI v) (nI i) = k (nI v') (nI (i + m)) ∧ rn b m i (kit, nI ph, nI v, nI d, r3, r4, r5) (kit, nI ph, nI v', nI d', r3, r4, r5) ∧ (∀ j, i ≤ j → j < i + m → dig (b j)) ∧
      (i + m = len ∨ ¬ dig (b (i + m)) ∨ stp b len (i + m) (kit, nI ph, nI v', nI d', r3, r4, r5)) := by
  intro c
  induction c with
  | zero =>
    intro i v d n hi hn hv hd
    obtain ⟨n, rfl⟩ : ∃ k, n = k + 1 := ⟨n - 1, by omega⟩
    refine ⟨0, v, d, by omega, hv, hd, Nat.le_refl _, ?_, rfl, fun j _ _ => by omega, Or.inl (by omega)⟩
    rw [fX9_number_61a]
    by_cases h0 : v = 0
    · rw [h0, if_pos (show nI 0 ≤ 0 by decide), Nat.add_zero]
    · have hv2 : v < 2 ^ 31 := by unfold DN at hv; omega
      rw [if_neg (nI_nle (by omega) hv2), show i = len by omega, sg_end hb, sb, li 48, li 57, inZ (by omega) (by omega) (by omega) (by omega), sb, if_pos rfl, Nat.add_zero]
  | succ c ih =>
    intro i v d n hi hn hv hd
    obtain ⟨n, rfl⟩ : ∃ k, n = k + 1 := ⟨n - 1, by omega⟩
    have hil : i < len := by omega
    have hbi := (hb.2 i hil).2
    have hl := hb.1
    have hv2 : v ≤ 9999 := by unfold DN at hv; omega
    by_cases h0 : v = 0
    · subst h0
      have hd1 : d = 1 := by unfold DN at hv; omega
      subst hd1
      refine ⟨0, 0, 1, by omega, hv, hd, Nat.le_refl _, ?_, rfl, fun j _ _ => by omega, ?_⟩
      · rw [fX9_number_61a, if_pos (show nI 0 ≤ 0 by decide), Nat.add_zero]
      · by_cases hg : dig (b i)
        · refine Or.inr (Or.inr (Or.inr ⟨hil, (kit, nI ph, nI 0, nI 1, r3, r4, r5), ?_⟩))
          rw [Nat.add_zero, ac_dig hg.1 hg.2]
          unfold fX6_acceptDigit
          rw [if_neg (show ¬ nI 1 = 0 by decide), if_pos (show nI 0 ≤ 0 by decide), sb, bz0, sb]
        · exact Or.inr (Or.inl hg)
    · by_cases hg : dig (b i)
      · obtain ⟨g1, g2⟩ := hg
        have hmost : most ≤ 4 ∧ 1 ≤ most := by unfold PH at hp; omega
        by_cases hm : d = most
        · refine ⟨0, v, d, by omega, hv, hd, Nat.le_refl _, ?_, rfl, fun j _ _ => by omega, ?_⟩
          · rw [fX9_number_61a, if_neg (nI_nle (by omega) (by omega)), sg hb hil, sb, li 48, li 57, inY (by omega) (by omega) (by omega) (by omega), sb, if_neg one_n, sb, li 10, pk_mul, nI_add, pk_sub (by omega), if_pos, Nat.add_zero]
            refine nI_lt ?_ (by omega)
            subst hm
            rcases hv with ⟨rfl, _⟩ | ⟨rfl, _⟩ | ⟨rfl, _⟩ | ⟨rfl, _⟩ <;> omega
          · refine Or.inr (Or.inr (Or.inr ⟨hil, (kit, nI ph, nI v, nI d, r3, r4, r5), ?_⟩))
            rw [Nat.add_zero, ac_dig g1 g2]
            unfold fX6_acceptDigit
            rw [if_neg (nI_ne0 (by omega) (by omega)), if_neg (nI_nle (by omega) (by omega)), ph_most hp, sb, hm, if_pos (nI_le (Nat.le_refl _) (by omega)), sb, bz0, sb]
        · have hdl : d < most := by omega
          have hd1 : 1 ≤ d := by unfold DN at hv; omega
          have hv' : DN (10 * v + (b i - 48)) (d + 1) := by unfold DN at hv ⊢; omega
          have hle : 10 * v + (b i - 48) ≤ 10 ^ most - 1 := by
            have : most = 2 ∨ most = 3 ∨ most = 4 := by omega
            rcases this with rfl | rfl | rfl <;> unfold DN at hv' <;> omega
          have hbig : 10 ^ most - 1 < 2 ^ 31 := by
            have : most = 2 ∨ most = 3 ∨ most = 4 := by omega
            rcases this with rfl | rfl | rfl <;> decide
          obtain ⟨m, v', d', q1, q2, q3, q4, q5, q6, q7, q8⟩ := ih (i + 1) (10 * v + (b i - 48)) (d + 1) n (by omega) (by omega) hv' hdl
          have ei : i + 1 + m = i + (m + 1) := by omega
          rw [ei] at q1 q5 q7 q8
          refine ⟨m + 1, v', d', q1, q2, q3, by omega, ?_, ⟨_, ?_, q6⟩, fun j h1 h2 => ?_, q8⟩
          · rw [fX9_number_61a, if_neg (nI_nle (by omega) (by omega)), sg hb hil, sb, li 48, li 57, inY (by omega) (by omega) (by omega) (by omega), sb, if_neg one_n, sb, li 10, pk_mul, nI_add, pk_sub (by omega), if_neg (nI_nlt (by omega) hbig), sb, nI_add, pk_sub (by omega), ia]
            rw [show 10 * v + b i - 48 = 10 * v + (b i - 48) by omega]
            exact q5
          · rw [ac_dig g1 g2]
            unfold fX6_acceptDigit
            rw [if_neg (nI_ne0 (by omega) (by omega)), if_neg (nI_nle (by omega) (by omega)), ph_most hp, sb, if_neg (nI_ge hdl (by omega)), sb, bz1, sb, ia, li 10, pk_mul, nI_add, Nat.mul_comm v 10]
          · by_cases e : j = i
            · rw [e]; exact ⟨g1, g2⟩
            · exact q7 j (by omega) h2
      · refine ⟨0, v, d, by omega, hv, hd, Nat.le_refl _, ?_, rfl, fun j _ _ => by omega, Or.inr (Or.inl hg)⟩
        unfold dig at hg
        rw [fX9_number_61a, if_neg (nI_nle (by omega) (by omega)), sg hb hil, sb, li 48, li 57, inZ (by omega) (by omega) (by omega) hg, sb, if_pos rfl, Nat.add_zero]
theorem num0 (hb : BF b len mb) {i : Nat} (hi : i ≤ len) (lo mx : Int32) : ∃ g, fX9_number mb (nI len) (nI i) (0 : Int32) lo mx = some (g, nI i, (0 : Int32)) := by
  unfold fX9_number
  rw [if_pos rfl]
  have key : ∀ x : Int32, fX9_number_61 (fun u3_11 mat_u11 => some (u3_11, mat_u11, (0 : Int32))) mb (nI len) mx LF x (nI i + (0 : Int32)) = some (x, nI i, (0 : Int32)) := by
    intro x
    rw [LF_eq, fX9_number_61, i_0]
  rcases Nat.lt_or_ge i len with h | h
  · rw [sg hb h, sb, key]; exact ⟨_, rfl⟩
  · rw [show i = len by omega, sg_end hb, sb]
    rw [show i = len by omega] at key
    rw [key]; exact ⟨_, rfl⟩
theorem num_ok (hb : BF b len mb) {ph lo most : Nat} (hp : PH ph lo most) {kit : Nat → Int32} {r3 r4 r5 : Int32} {i : Nat} (hi : i ≤ len) :
    (∃ g, fX9_number mb (nI len) (nI i) (1 : Int32) (nI lo) (nI (10 ^ most - 1)) = some (g, nI i, (0 : Int32)) ∧ stp b len i (kit, nI ph, 0, 0, r3, r4, r5)) ∨
    (∃ (m v d : Nat), 1 ≤ m ∧ i + m ≤ len ∧ DN v d ∧ d ≤ most ∧ lo ≤ v ∧ fX9_number mb (nI len) (nI i) (1 : Int32) (nI lo) (nI (10 ^ most - 1)) = some (nI v, nI (i + m), (1 : Int32)) ∧ rn b m i (kit, nI ph, 0, 0, r3, r4, r5) (kit, nI ph, nI v, nI d, r3, r4, r5) ∧ (∀ j, i ≤ j → j < i + m → dig (b j)) ∧
      (i + m = len ∨ ¬ dig (b (i + m)) ∨ stp b len (i + m) (kit, nI ph, nI v, nI d, r3, r4, r5))) := by
  have hl := hb.1
  have hlo : lo ≤ 1 := by unfold PH at hp; omega
  have dead : ∀ x : Int32, fX9_number_61 (fun u3_11 mat_u11 => some (u3_11, mat_u11, (0 : Int32))) mb (nI len) (nI (10 ^ most - 1)) LF x (nI i + (0 : Int32)) = some (x, nI i, (0 : Int32)) := by
    intro x
    rw [LF_eq, fX9_number_61, i_0]
  rcases Nat.lt_or_ge i len with h | h
  · have hbi := (hb.2 i h).2
    by_cases hg : 48 + lo ≤ b i ∧ b i ≤ 57
    · right
      have hgo := num_go hb hp (kit := kit) (r3 := r3) (r4 := r4) (r5 := r5) (fun u3 mat => some (u3, mat, (1 : Int32))) (len - (i + 1)) (i + 1) (b i - 48) 1 LF (by omega) (by rw [LF_eq]; omega) (Or.inl ⟨rfl, by omega⟩) (by unfold PH at hp; omega)
      obtain ⟨m, v', d', q1, q2, q3, q4, q5, q6, q7, q8⟩ := hgo
      have ei : i + 1 + m = i + (m + 1) := by omega
      rw [ei] at q1 q5 q7 q8
      refine ⟨m + 1, v', d', by omega, q1, q2, q3, by omega, ?_, ⟨_, ?_, q6⟩, fun j h1 h2 => ?_, q8⟩
      · unfold fX9_number
        rw [if_neg one_n, sg hb h, sb, li 48, nI_add, li 57, inY (by omega) (by omega) (by omega) hg, sb, if_neg one_n, sb, pk_sub (by omega), ia]
        exact q5
      · rw [ac_dig (by omega) (by omega)]
        unfold fX6_acceptDigit
        rw [if_pos rfl]
        have e1 : (0 : Int32) * (10 : Int32) + nI (b i - 48) = nI (b i - 48) := by
          rw [show (0 : Int32) * (10 : Int32) = nI 0 from rfl, nI_add, Nat.zero_add]
        rw [e1, show (0 : Int32) + (1 : Int32) = nI 1 from rfl]
        by_cases h48 : b i = 48
        · have : ph ≠ 2 := by unfold PH at hp; omega
          have hph : ph < 2 ^ 31 := by unfold PH at hp; omega
          rw [h48, if_neg (show ¬ 0 < nI (48 - 48) by decide), li 2, if_neg (by rw [nI_eq hph (by omega)]; exact this), sb, bz1, sb]
        · rw [if_pos (show (0 : Int32) < nI (b i - 48) from by rw [show (0 : Int32) = nI 0 from rfl]; exact nI_lt (by omega) (by omega)), sb, bz1, sb]
      · by_cases e : j = i
        · rw [e]; exact ⟨by omega, by omega⟩
        · exact q7 j (by omega) h2
    · left
      refine ⟨nI (b i) - nI 48, ?_, ?_⟩
      · unfold fX9_number
        rw [if_neg one_n, sg hb h, sb, li 48, nI_add, li 57, inZ (by omega) (by omega) (by omega) hg, sb, if_pos rfl, sb, dead]
      · refine Or.inr ⟨h, ?_⟩
        by_cases hd : dig (b i)
        · have h48 : b i = 48 := by unfold dig at hd; omega
          have hph : ph = 2 := by unfold PH at hp; omega
          refine ⟨(kit, nI ph, 0, 0, r3, r4, r5), ?_⟩
          rw [ac_dig hd.1 hd.2]
          unfold fX6_acceptDigit
          rw [if_pos rfl, h48, if_neg (show ¬ 0 < nI (48 - 48) by decide), hph, if_pos (show nI 2 = (2 : Int32) from rfl), sb, bz0, sb]
        · exact ⟨_, by rw [ac_mark hbi.2 hd, if_pos (show (0 : Int32) ≤ 0 by decide)]⟩
  · left
    rw [show i = len by omega] at dead ⊢
    refine ⟨nI 0 - (48 : Int32), ?_, Or.inl rfl⟩
    unfold fX9_number
    rw [if_neg one_n, sg_end hb, sb, li 48, nI_add, li 57, inZ (by omega) (by omega) (by omega) (by omega), sb, if_pos rfl, sb, dead]
theorem num_E (hb : BF b len mb) {ph lo most : Nat} (hp : PH ph lo most) {kit : Nat → Int32} {r3 r4 r5 : Int32} {i : Nat} (hi : i ≤ len) {x1 x2 : Int32} (e1 : x1 = nI lo) (e2 : x2 = nI (10 ^ most - 1)) :
    (∃ g, fX9_number mb (nI len) (nI i) (1 : Int32) x1 x2 = some (g, nI i, (0 : Int32)) ∧ stp b len i (kit, nI ph, 0, 0, r3, r4, r5)) ∨
    (∃ (m v d : Nat), 1 ≤ m ∧ i + m ≤ len ∧ DN v d ∧ d ≤ most ∧ lo ≤ v ∧ fX9_number mb (nI len) (nI i) (1 : Int32) x1 x2 = some (nI v, nI (i + m), (1 : Int32)) ∧ rn b m i (kit, nI ph, 0, 0, r3, r4, r5) (kit, nI ph, nI v, nI d, r3, r4, r5) ∧ (∀ j, i ≤ j → j < i + m → dig (b j)) ∧
      (i + m = len ∨ ¬ dig (b (i + m)) ∨ stp b len (i + m) (kit, nI ph, nI v, nI d, r3, r4, r5))) := by
  subst e1 e2
  exact num_ok hb hp hi
theorem tk0 (i : Nat) (m : Int32) : fX9_takes mb (nI len) (nI i) (0 : Int32) m = some ((0 : Int32), nI i) := by
  unfold fX9_takes
  rw [if_pos rfl, i_0]
theorem tk1 (hb : BF b len mb) {i m : Nat} (hi : i < len) (h : b i = m) : fX9_takes mb (nI len) (nI i) (1 : Int32) (nI m) = some ((1 : Int32), nI (i + 1)) := by
  unfold fX9_takes
  rw [if_neg one_n, sg hb hi, sb, h, if_pos rfl, ia]
theorem tkn (hb : BF b len mb) {i m : Nat} (hi : i ≤ len) (hm : 0 < m ∧ m < 2 ^ 31) (h : i = len ∨ b i ≠ m) : fX9_takes mb (nI len) (nI i) (1 : Int32) (nI m) = some ((0 : Int32), nI i) := by
  unfold fX9_takes
  rw [if_neg one_n]
  rcases Nat.lt_or_ge i len with h1 | h1
  · have := (hb.2 i h1).2
    rw [sg hb h1, sb, if_neg (by rw [nI_eq (by omega) hm.2]; omega), i_0]
  · rw [show i = len by omega, sg_end hb, sb, if_neg (by rw [nI_eq (by omega) hm.2]; omega), i_0]
end Read
