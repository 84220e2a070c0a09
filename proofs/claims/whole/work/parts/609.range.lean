/-! RANGES of what lines take, trip, are seen by -/
theorem div_i {a : Int32} {d : Nat} (h0 : 0 ≤ a.toInt) (hd : 1 < d) (hd2 : d < 2147483648) : (a / nI d).toInt = a.toInt / d := by
  have e : (nI d).toInt = d := nI_toInt hd2
  rw [Int32.toInt_div_of_ne_right _ _ (fun q => by have := congrArg Int32.toInt q; rw [e, im1] at this; omega), e, Int.tdiv_eq_ediv_of_nonneg h0]
theorem mul_i {a b : Int32} {x y : Int} (ha : 0 ≤ a.toInt ∧ a.toInt ≤ x) (hb : 0 ≤ b.toInt ∧ b.toInt ≤ y) (hx : x * y < 2147483648) : (a * b).toInt = a.toInt * b.toInt ∧ 0 ≤ a.toInt * b.toInt ∧ a.toInt * b.toInt ≤ x * y := by
  have h1 : 0 ≤ a.toInt * b.toInt := Int.mul_nonneg ha.1 hb.1
  have h2 : a.toInt * b.toInt ≤ x * y := Int.mul_le_mul ha.2 hb.2 hb.1 (by omega)
  exact ⟨fb_mulI (by omega) (by omega), h1, h2⟩
theorem add_i {a b : Int32} (h1 : 0 ≤ a.toInt) (h2 : 0 ≤ b.toInt) (h3 : a.toInt + b.toInt < 2147483648) : (a + b).toInt = a.toInt + b.toInt := fb_addI (by omega) h3
theorem lit_i {k : Nat} (h : k < 2147483648) : (OfNat.ofNat k : Int32).toInt = k := nI_toInt (n := k) h
theorem takes_rng {a0 a1 a2 a3 : Int32} (h1 : 0 ≤ a1.toInt ∧ a1.toInt ≤ 20) (h2 : 0 ≤ a2.toInt ∧ a2.toInt ≤ 9) (h3 : 1 ≤ a3.toInt ∧ a3.toInt ≤ 99) : (0 ≤ (p_takes a0 a1 a2 a3).toInt ∧ (p_takes a0 a1 a2 a3).toInt ≤ 2100) ∧ (1 ≤ a1.toInt → 1 ≤ (p_takes a0 a1 a2 a3).toInt) := by
  obtain ⟨m1, m2, m3⟩ := mul_i (a := a1) (b := a3) (x := 20) (y := 99) h1 ⟨by omega, h3.2⟩ (by decide)
  obtain ⟨f1, f2, f3⟩ := mul_i (a := 5) (b := a2) (x := 5) (y := 9) ⟨by decide, by decide⟩ h2 (by decide)
  have e5 : (5 : Int32).toInt = 5 := rfl
  have e10 : (10 : Int32).toInt = 10 := rfl
  rw [e5] at f1 f2 f3
  have s1 : (a1 * a3 + a2).toInt = a1.toInt * a3.toInt + a2.toInt := by rw [add_i (by omega) (by omega) (by omega), m1]
  have s2 : (a1 * a3 + 5 * a2).toInt = a1.toInt * a3.toInt + 5 * a2.toInt := by rw [add_i (by omega) (by omega) (by omega), m1, f1]
  have s3 : (a1 * a3 + 5 * a2 + 10).toInt = a1.toInt * a3.toInt + 5 * a2.toInt + 10 := by rw [add_i (by omega) (by omega) (by omega), s2, e10]
  have d1 : (a2 / 2).toInt = a2.toInt / 2 := div_i (d := 2) h2.1 (by decide) (by decide)
  have d2 : ((a1 * a3 + 5 * a2 + 10) / 2).toInt = (a1.toInt * a3.toInt + 5 * a2.toInt + 10) / 2 := by
    have := div_i (a := a1 * a3 + 5 * a2 + 10) (d := 2) (by omega) (by decide) (by decide)
    rw [s3] at this
    exact this
  have s4 : (a1 * a3 + a2 + a2 / 2).toInt = a1.toInt * a3.toInt + a2.toInt + a2.toInt / 2 := by rw [add_i (by omega) (by omega) (by omega), s1, d1]
  have p1 : 1 ≤ a1.toInt → 1 ≤ a1.toInt * a3.toInt := fun q => by
    have := Int.mul_le_mul q h3.1 (by omega) (by omega)
    omega
  have sb : (a1 * a3 - 1).toInt = a1.toInt * a3.toInt - 1 := by rw [fb_subI (by rw [m1, i1]; omega) (by rw [m1, i1]; omega), m1, i1]
  unfold p_takes
  by_cases c1 : a0 = 1
  · rw [if_pos c1]
    by_cases q : (1 : Int32) < a1 * a3 - 1
    · rw [if_pos q]
      rw [fa_lt, i1] at q
      omega
    · rw [if_neg q, i1]
      omega
  · rw [if_neg c1]
    by_cases c2 : a0 = 2
    · rw [if_pos c2]; omega
    · rw [if_neg c2]
      by_cases c3 : a0 = 3
      · rw [if_pos c3]; omega
      · rw [if_neg c3]
        by_cases c4 : a0 = 4
        · rw [if_pos c4]; omega
        · rw [if_neg c4]
          by_cases c5 : a0 = 5
          · rw [if_pos c5]; omega
          · rw [if_neg c5]
            by_cases c6 : a0 = 6
            · rw [if_pos c6]; omega
            · rw [if_neg c6]; omega
theorem plain_rng {h l a : Int32} (h1 : 0 ≤ h.toInt ∧ h.toInt ≤ 9) (h2 : 0 ≤ l.toInt ∧ l.toInt ≤ 9) (h3 : 0 ≤ a.toInt ∧ a.toInt ≤ 9) : 0 ≤ (p_plain h l a).toInt ∧ (p_plain h l a).toInt ≤ 9 := by
  have e : ((h - a) - l).toInt = h.toInt - a.toInt - l.toInt := by
    have e1 : (h - a).toInt = h.toInt - a.toInt := fb_subI (by omega) (by omega)
    rw [fb_subI (by omega) (by omega), e1]
  unfold p_plain
  by_cases q : (0 : Int32) < (h - a) - l
  · rw [if_pos q]
    rw [fa_lt, i0] at q
    omega
  · rw [if_neg q, i0]
    omega
theorem trips_rng {k h l a : Int32} (h1 : 0 ≤ h.toInt ∧ h.toInt ≤ 9) (h2 : 0 ≤ l.toInt ∧ l.toInt ≤ 9) (h3 : 0 ≤ a.toInt ∧ a.toInt ≤ 9) : 0 ≤ (p_trips k h l a).toInt ∧ (p_trips k h l a).toInt ≤ 20 := by
  have p := plain_rng h1 h2 h3
  have s1 : (p_plain h l a + 1).toInt = (p_plain h l a).toInt + 1 := by rw [add_i (by omega) (by decide) (by rw [i1]; omega), i1]
  have s2 : (2 * (p_plain h l a + 1)).toInt = 2 * ((p_plain h l a).toInt + 1) := by
    have := (mul_i (a := 2) (b := p_plain h l a + 1) (x := 2) (y := 10) ⟨by decide, by decide⟩ (by omega) (by decide)).1
    rw [this, s1]
    rfl
  have s3 : (p_plain h l a + h).toInt = (p_plain h l a).toInt + h.toInt := add_i (by omega) (by omega) (by omega)
  have d : ((p_plain h l a + h) / 2).toInt = ((p_plain h l a).toInt + h.toInt) / 2 := by
    have := div_i (a := p_plain h l a + h) (d := 2) (by omega) (by decide) (by decide)
    rw [s3] at this
    exact this
  unfold p_trips
  by_cases c2 : k = 2
  · rw [if_pos c2]; omega
  · rw [if_neg c2]
    by_cases c3 : k = 3
    · rw [if_pos c3]; omega
    · rw [if_neg c3]
      by_cases c4 : k = 4
      · rw [if_pos c4]; omega
      · rw [if_neg c4]
        by_cases c5 : k = 5
        · rw [if_pos c5]; omega
        · rw [if_neg c5]
          by_cases c6 : k = 6
          · rw [if_pos c6]; omega
          · rw [if_neg c6]; omega
theorem seen_rng {k l a : Int32} (h2 : 0 ≤ l.toInt ∧ l.toInt ≤ 9) (h3 : 0 ≤ a.toInt ∧ a.toInt ≤ 9) : 0 ≤ (p_seen k l a).toInt ∧ (p_seen k l a).toInt ≤ 20 := by
  have s0 : (2 * l).toInt = 2 * l.toInt := (mul_i (a := 2) (b := l) (x := 2) (y := 9) ⟨by decide, by decide⟩ h2 (by decide)).1
  have s1 : (a + 2 * l).toInt = a.toInt + 2 * l.toInt := by rw [add_i (by omega) (by omega) (by omega), s0]
  have d : (p_eyes l a).toInt = (a.toInt + 2 * l.toInt) / 3 := by
    have := div_i (a := a + 2 * l) (d := 3) (by omega) (by decide) (by decide)
    rw [s1] at this
    exact this
  have e2 : (2 : Int32).toInt = 2 := rfl
  have e3 : (3 : Int32).toInt = 3 := rfl
  have e5 : (5 : Int32).toInt = 5 := rfl
  have t2 : (p_eyes l a + 2).toInt = (p_eyes l a).toInt + 2 := by rw [add_i (by omega) (by omega) (by omega), e2]
  have t3 : (p_eyes l a + 3).toInt = (p_eyes l a).toInt + 3 := by rw [add_i (by omega) (by omega) (by omega), e3]
  have tm : (p_eyes l a - 1).toInt = (p_eyes l a).toInt - 1 := by rw [fb_subI (by rw [i1]; omega) (by rw [i1]; omega), i1]
  unfold p_seen
  by_cases c1 : k = 1
  · rw [if_pos c1]
    by_cases q : (0 : Int32) < p_eyes l a - 1
    · rw [if_pos q]
      rw [fa_lt, i0] at q
      omega
    · rw [if_neg q, i0]
      omega
  · rw [if_neg c1]
    by_cases c2 : k = 2
    · rw [if_pos c2]; omega
    · rw [if_neg c2]
      by_cases c3 : k = 3
      · rw [if_pos c3]; omega
      · rw [if_neg c3]
        by_cases c6 : k = 6
        · rw [if_pos c6]; omega
        · rw [if_neg c6]; omega
theorem tk_rng {N : Row} {l : Nat} {p : Int32} (hD : D2 N) (hl : l < 12) (hp : 1 ≤ p.toInt ∧ p.toInt ≤ 99) : (0 ≤ (tk N l p).toInt ∧ (tk N l p).toInt ≤ 2100) ∧ (1 ≤ (N (26 + 3 * l + 1)).toInt → 1 ≤ (tk N l p).toInt) := takes_rng (hD l hl).2.1 (hD l hl).2.2 hp
theorem tr_rng {N : Row} {l : Nat} (hD : D2 N) (h3 : D3 N) (hl : l < 12) : 0 ≤ (tr N l).toInt ∧ (tr N l).toInt ≤ 20 := trips_rng (hD l hl).2.2 ⟨by have := h3.2.2.2.1; omega, by have := h3.2.2.2.1; omega⟩ h3.2.2.1
theorem se_rng {N : Row} {l : Nat} (h3 : D3 N) : 0 ≤ (se N l).toInt ∧ (se N l).toInt ≤ 20 := seen_rng ⟨by have := h3.2.2.2.1; omega, by have := h3.2.2.2.1; omega⟩ h3.2.2.1
theorem PI_rng {P : Row} (h : 1 ≤ (P 6).toInt ∧ (P 6).toInt ≤ 99) : ∀ m, 1 ≤ (PI m P 6).toInt ∧ (PI m P 6).toInt ≤ 99
  | 0 => h
  | m + 1 => (turn_rng (PI m P)).1
theorem PI_rng7 {P : Row} (h : 1 ≤ (P 7).toInt ∧ (P 7).toInt ≤ 99) : ∀ m, 1 ≤ (PI m P 7).toInt ∧ (PI m P 7).toInt ≤ 99
  | 0 => h
  | m + 1 => (turn_rng (PI m P)).2
theorem pS_rng {N P : Row} {a : Nat} (hD : D2 N) (hp : 1 ≤ (P 6).toInt ∧ (P 6).toInt ≤ 99) : ∀ m, a + m ≤ 12 → 0 ≤ (pS N P a m).toInt ∧ (pS N P a m).toInt ≤ 2100 * m
  | 0, _ => ⟨by show (0 : Int) ≤ (0 : Int32).toInt; decide, by show (0 : Int32).toInt ≤ _; rw [i0]; omega⟩
  | m + 1, hm => by
    have ih := pS_rng (a := a) hD hp m (by omega)
    have t := (tk_rng hD (l := a + m) (by omega) (PI_rng hp m)).1
    rw [pS, add_i (by omega) (by omega) (by omega)]
    omega
/-- a row without its clock -/
def DX (N : Row) : Prop := D0 N ∧ D2 N ∧ D3 N
theorem DX.read {N : Row} {a n : Nat} (x : DX N) (h0 : N 0 = nI a) (h4 : N 4 = nI n) (ha : a < n) (hn : n ≤ 12) : DX (n_read N) := by
  refine ⟨?_, D2.cong x.2.1 (fun i hi => by rw [read_hi N i (by omega), turnO N (by omega) (by omega)]), ?_⟩
  · obtain ⟨b, m, h1, h2, h3, h5, h6, h7⟩ := x.1
    have e : m = n := (nI_eq (by omega) (by omega)).mp (h5.symm.trans h4)
    subst e
    refine ⟨a + 1, m, ha, hn, by rw [read0, h0, nI_1], by rw [read_hi N 4 (by decide), turnO N (by decide) (by decide)]; exact h4, fun l hl => ?_, fun j hj => ?_⟩
    · rw [read_hi N _ (by omega), turnO N (by omega) (by omega)]; exact h6 l hl
    · rw [read_hi N _ (by omega), turnO N (by omega) (by omega)]; exact h7 j hj
  · have t := turn_rng N
    have y := x.2.2
    unfold D3
    rw [read_hi N 6 (by decide), read_hi N 7 (by decide), read_hi N 12 (by decide), read_hi N 13 (by decide), read_hi N 14 (by decide), read_hi N 15 (by decide), turnO N (i := 12) (by decide) (by decide), turnO N (i := 13) (by decide) (by decide), turnO N (i := 14) (by decide) (by decide), turnO N (i := 15) (by decide) (by decide)]
    exact ⟨t.1, t.2, y.2.2⟩
theorem NR_4 (N : Row) (m : Nat) : NR m N 4 = N 4 := by rw [NR_hi N m 4 (by decide), PI_O N (by decide) (by decide)]
theorem DX.NR {N : Row} {a n : Nat} (x : DX N) (h0 : N 0 = nI a) (h4 : N 4 = nI n) (hn : n ≤ 12) : ∀ m, a + m ≤ n → DX (NR m N)
  | 0, _ => x
  | m + 1, hm => (DX.NR x h0 h4 hn m (by omega)).read (NR_0 h0 m) (by rw [NR_4]; exact h4) (by omega) hn
theorem NR_1 {N : Row} : ∀ m, NR m N 1 = N 1 + tS N m
  | 0 => (Int32.add_zero _).symm
  | m + 1 => by rw [NR, read1, NR_1 m, tS, Int32.add_assoc]
