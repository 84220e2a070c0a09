/-! LINES: what one takes, where it trips, how eyes are seen -/
def p_takes (a0 a1 a2 a3 : Int32) : Int32 := if a0 = 1 then (if (1 : Int32) < a1 * a3 - (1 : Int32) then a1 * a3 - (1 : Int32) else (1 : Int32)) else if a0 = 2 then a1 * a3 + a2 else if a0 = 3 then (a1 * a3 + a2) + (a2 / (2 : Int32)) else if a0 = 4 then a1 * a3 + ((5 : Int32) * a2) else if a0 = 5 then (a1 * a3 + ((5 : Int32) * a2)) + (10 : Int32) else if a0 = 6 then ((a1 * a3 + ((5 : Int32) * a2)) + (10 : Int32)) / (2 : Int32) else a1 * a3
def p_plain (hard letters ahead : Int32) : Int32 := if (0 : Int32) < (hard - ahead) - letters then (hard - ahead) - letters else (0 : Int32)
def p_trips (a0 a1 a2 a3 : Int32) : Int32 := if a0 = 2 then p_plain a1 a2 a3 + (1 : Int32) else if a0 = 3 then (2 : Int32) * (p_plain a1 a2 a3 + (1 : Int32)) else if a0 = 4 then p_plain a1 a2 a3 + a1 else if a0 = 5 then (p_plain a1 a2 a3 + a1) / (2 : Int32) else if a0 = 6 then (p_plain a1 a2 a3 + a1) / (2 : Int32) else p_plain a1 a2 a3
def p_eyes (letters ahead : Int32) : Int32 := (ahead + ((2 : Int32) * letters)) / (3 : Int32)
def p_seen (a0 a1 a2 : Int32) : Int32 := if a0 = 1 then (if (0 : Int32) < p_eyes a1 a2 - (1 : Int32) then p_eyes a1 a2 - (1 : Int32) else (0 : Int32)) else if a0 = 2 then p_eyes a1 a2 + (2 : Int32) else if a0 = 3 then p_eyes a1 a2 + (3 : Int32) else if a0 = 6 then (5 : Int32) else p_eyes a1 a2
def tk (N : Row) (l : Nat) (p : Int32) : Int32 := p_takes (N (26 + 3 * l)) (N (26 + 3 * l + 1)) (N (26 + 3 * l + 2)) p
def tr (N : Row) (l : Nat) : Int32 := p_trips (N (26 + 3 * l)) (N (26 + 3 * l + 2)) (N 13) (N 12)
def se (N : Row) (l : Nat) : Int32 := p_seen (N (26 + 3 * l)) (N 13) (N 12)
theorem s_takes9 {a b c d : Int32} {h : Mem} {Q : Int32 → Mem → Prop} (k : Q (p_takes a b c d) h) : f_X0_takes a b c d h Q := by
  unfold f_X0_takes
  intro v e
  subst e
  unfold p_takes at k
  repeat' split
  all_goals (try intro v3 e3; subst e3)
  all_goals simp_all
theorem s_trips9 {a b c d : Int32} {h : Mem} {Q : Int32 → Mem → Prop} (k : Q (p_trips a b c d) h) : f_X0_tripsBy a b c d h Q := by
  unfold f_X0_tripsBy
  intro v e
  replace e : v = p_plain b c d := e
  subst e
  unfold p_trips at k
  repeat' split
  all_goals simp_all
theorem s_seen9 {a b c : Int32} {h : Mem} {Q : Int32 → Mem → Prop} (k : Q (p_seen a b c) h) : f_X0_seenBy a b c h Q := by
  unfold f_X0_seenBy
  intro v e
  replace e : v = p_eyes b c := e
  subst e
  unfold p_seen at k
  repeat' split
  all_goals (try intro v3 e3; subst e3)
  all_goals simp_all
theorem s_takesOf {k0 l : Nat} {p : Int32} {h : Mem} {N : Row} {Q : Int32 → Mem → Prop} (hA : A9 h k0 N) (hl : l < 12) (k : Q (tk N l p) h) : f_X6_takesOf k0 (nI l) p h Q := by
  unfold f_X6_takesOf
  refine ⟨vi hl (by decide), vi hl (by decide), vi hl (by decide), s_takes9 ?_⟩
  obtain ⟨d0, d1, d2⟩ := hA.2.2.2 l hl
  rw [cl (by omega), d0, d1, d2]
  exact k
theorem s_tripsOf {k0 l : Nat} {h : Mem} {N : Row} {Q : Int32 → Mem → Prop} (hA : A9 h k0 N) (hl : l < 12) (k : Q (tr N l) h) : f_X6_tripsOf k0 (nI l) h Q := by
  unfold f_X6_tripsOf
  refine ⟨vi hl (by decide), vi hl (by decide), s_trips9 ?_⟩
  obtain ⟨d0, d1, d2⟩ := hA.2.2.2 l hl
  rw [cl (by omega), d0, d2, hA.2.1 7 (by decide), hA.2.1 6 (by decide)]
  exact k
theorem s_seenOf {k0 l : Nat} {h : Mem} {N : Row} {Q : Int32 → Mem → Prop} (hA : A9 h k0 N) (hl : l < 12) (k : Q (se N l) h) : f_X6_seenOf k0 (nI l) h Q := by
  unfold f_X6_seenOf
  refine ⟨vi hl (by decide), s_seen9 ?_⟩
  obtain ⟨d0, d1, d2⟩ := hA.2.2.2 l hl
  rw [cl (by omega), d0, hA.2.1 7 (by decide), hA.2.1 6 (by decide)]
  exact k
theorem at_nI {l f : Nat} : ((26 : Int32) + ((3 : Int32) * nI l)) + nI f = nI (26 + 3 * l + f) := by
  show (nI 26 + nI 3 * nI l) + nI f = _
  rw [pk_mul, nI_add, nI_add]
theorem s_lineIs {l f : Nat} {h : Mem} {N : Row} {Q : Int32 → Mem → Prop} (hA : A10 h 44 N) (hl : l < 12) (hf : f < 3) (k : Q (N (26 + 3 * l + f)) h) : f_X10_lineIs (nI l) (nI f) h Q := by
  unfold f_X10_lineIs f_X10_at
  rw [at_nI]
  refine ⟨vi (by omega) (by decide), ?_⟩
  rw [cl (by omega), hA _ (by omega)]
  exact k
theorem s_takes10 {l : Nat} {h : Mem} {N : Row} {Q : Int32 → Mem → Prop} (hA : A10 h 44 N) (hl : l < 12) (k : Q (tk N l (N 6)) h) : f_X10_takes (nI l) h Q := by
  unfold f_X10_takes
  refine s_lineIs (f := 1) hA hl (by decide) ?_
  intro v e
  rw [hA 6 (by decide)] at e
  subst e
  refine s_lineIs (f := 2) hA hl (by decide) ?_
  refine s_lineIs (f := 0) hA hl (by decide) ?_
  unfold tk p_takes at k
  rw [Nat.add_zero]
  repeat' split
  all_goals (try intro v3 e3; subst e3)
  all_goals simp_all
theorem s_trips10 {l : Nat} {h : Mem} {N : Row} {Q : Int32 → Mem → Prop} (hA : A10 h 44 N) (hl : l < 12) (k : Q (tr N l) h) : f_X10_trips (nI l) h Q := by
  unfold f_X10_trips
  refine s_lineIs (f := 2) hA hl (by decide) ?_
  intro v e
  rw [hA 12 (by decide), hA 13 (by decide)] at e
  replace e : v = p_plain (N (26 + 3 * l + 2)) (N 13) (N 12) := e
  subst e
  refine s_lineIs (f := 0) hA hl (by decide) ?_
  unfold tr p_trips at k
  rw [Nat.add_zero]
  repeat' split
  all_goals simp_all
theorem s_seen10 {l : Nat} {h : Mem} {N : Row} {Q : Int32 → Mem → Prop} (hA : A10 h 44 N) (hl : l < 12) (k : Q (se N l) h) : f_X10_seen (nI l) h Q := by
  unfold f_X10_seen
  intro v e
  rw [hA 12 (by decide), hA 13 (by decide)] at e
  replace e : v = p_eyes (N 13) (N 12) := e
  subst e
  refine s_lineIs (f := 0) hA hl (by decide) ?_
  unfold se p_seen at k
  rw [Nat.add_zero]
  repeat' split
  all_goals (try intro v3 e3; subst e3)
  all_goals simp_all
