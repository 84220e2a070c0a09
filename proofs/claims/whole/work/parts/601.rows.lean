/-! ROWS: what a studio holds, on both sides -/
def A9 (h : Mem) (k : Nat) (N : Row) : Prop := (h k 6 = N 0 ∧ h k 7 = N 1 ∧ h k 8 = N 2 ∧ h k 9 = N 3 ∧ h k 5 = N 4 ∧ h k 10 = N 5) ∧ (∀ j, j < 10 → h (k + 4) j = N (6 + j)) ∧ (∀ j, j < 10 → h (k + 5) j = N (16 + j)) ∧ ∀ l, l < 12 → h (k + 1) l = N (26 + 3 * l) ∧ h (k + 2) l = N (26 + 3 * l + 1) ∧ h (k + 3) l = N (26 + 3 * l + 2)
def A10 (h : Mem) (k : Nat) (N : Row) : Prop := ∀ i, i < 62 → h k i = N i
theorem A9.fr {h h' : Mem} {k : Nat} {N : Row} (x : A9 h k N) (e : ∀ a, k ≤ a → a ≤ k + 5 → h' a = h a) : A9 h' k N := by
  obtain ⟨⟨a0, a1, a2, a3, a4, a5⟩, b, c, d⟩ := x
  have e0 := e k (by omega) (by omega)
  have e1 := e (k + 1) (by omega) (by omega)
  have e2 := e (k + 2) (by omega) (by omega)
  have e3 := e (k + 3) (by omega) (by omega)
  have e4 := e (k + 4) (by omega) (by omega)
  have e5 := e (k + 5) (by omega) (by omega)
  refine ⟨?_, fun j hj => ?_, fun j hj => ?_, fun l hl => ?_⟩
  · rw [e0]; exact ⟨a0, a1, a2, a3, a4, a5⟩
  · rw [e4]; exact b j hj
  · rw [e5]; exact c j hj
  · rw [e1, e2, e3]; exact d l hl
theorem A9.same {h : Mem} {k : Nat} {N M : Row} (x : A9 h k N) (e : ∀ i, i < 62 → M i = N i) : A9 h k M := by
  obtain ⟨⟨a0, a1, a2, a3, a4, a5⟩, b, c, d⟩ := x
  refine ⟨?_, fun j hj => ?_, fun j hj => ?_, fun l hl => ?_⟩
  · rw [e 0 (by decide), e 1 (by decide), e 2 (by decide), e 3 (by decide), e 4 (by decide), e 5 (by decide)]; exact ⟨a0, a1, a2, a3, a4, a5⟩
  · rw [e _ (by omega)]; exact b j hj
  · rw [e _ (by omega)]; exact c j hj
  · rw [e _ (by omega), e _ (by omega), e _ (by omega)]; exact d l hl
theorem A10.fr {h h' : Mem} {k : Nat} {N : Row} (x : A10 h k N) (e : h' k = h k) : A10 h' k N := fun i hi => by rw [e]; exact x i hi
theorem A10.st {h : Mem} {k j : Nat} {N : Row} {v : Int32} (x : A10 h k N) : A10 (gm_st h k j v) k (upd N j v) := fun i hi => by
  rw [st_row]
  unfold upd
  by_cases e : i = j
  · rw [if_pos e, if_pos e]
  · rw [if_neg e, if_neg e]; exact x i hi
theorem A10.same {h : Mem} {k : Nat} {N M : Row} (x : A10 h k N) (e : ∀ i, i < 62 → M i = N i) : A10 h k M := fun i hi => by rw [e i hi]; exact x i hi
/-- the fields of a studio, one written -/
theorem A9.clock {h : Mem} {k : Nat} {N : Row} {v : Int32} (x : A9 h k N) : A9 (gm_st h k 7 v) k (upd N 1 v) := by
  obtain ⟨⟨a0, a1, a2, a3, a4, a5⟩, b, c, d⟩ := x
  refine ⟨⟨?_, ?_, ?_, ?_, ?_, ?_⟩, fun j hj => ?_, fun j hj => ?_, fun l hl => ?_⟩
  · rw [st_j (by decide), up_n (by decide)]; exact a0
  · rw [st_s, up_s]
  · rw [st_j (by decide), up_n (by decide)]; exact a2
  · rw [st_j (by decide), up_n (by decide)]; exact a3
  · rw [st_j (by decide), up_n (by decide)]; exact a4
  · rw [st_j (by decide), up_n (by decide)]; exact a5
  · rw [st_k (by omega), up_n (by omega)]; exact b j hj
  · rw [st_k (by omega), up_n (by omega)]; exact c j hj
  · rw [st_k (by omega), st_k (by omega), st_k (by omega), up_n (by omega), up_n (by omega), up_n (by omega)]; exact d l hl
theorem A9.at_ {h : Mem} {k : Nat} {N : Row} {v : Int32} (x : A9 h k N) : A9 (gm_st h k 6 v) k (upd N 0 v) := by
  obtain ⟨⟨a0, a1, a2, a3, a4, a5⟩, b, c, d⟩ := x
  refine ⟨⟨?_, ?_, ?_, ?_, ?_, ?_⟩, fun j hj => ?_, fun j hj => ?_, fun l hl => ?_⟩
  · rw [st_s, up_s]
  · rw [st_j (by decide), up_n (by decide)]; exact a1
  · rw [st_j (by decide), up_n (by decide)]; exact a2
  · rw [st_j (by decide), up_n (by decide)]; exact a3
  · rw [st_j (by decide), up_n (by decide)]; exact a4
  · rw [st_j (by decide), up_n (by decide)]; exact a5
  · rw [st_k (by omega), up_n (by omega)]; exact b j hj
  · rw [st_k (by omega), up_n (by omega)]; exact c j hj
  · rw [st_k (by omega), st_k (by omega), st_k (by omega), up_n (by omega), up_n (by omega), up_n (by omega)]; exact d l hl
theorem A9.tripped {h : Mem} {k : Nat} {N : Row} {v : Int32} (x : A9 h k N) : A9 (gm_st h k 8 v) k (upd N 2 v) := by
  obtain ⟨⟨a0, a1, a2, a3, a4, a5⟩, b, c, d⟩ := x
  refine ⟨⟨?_, ?_, ?_, ?_, ?_, ?_⟩, fun j hj => ?_, fun j hj => ?_, fun l hl => ?_⟩
  · rw [st_j (by decide), up_n (by decide)]; exact a0
  · rw [st_j (by decide), up_n (by decide)]; exact a1
  · rw [st_s, up_s]
  · rw [st_j (by decide), up_n (by decide)]; exact a3
  · rw [st_j (by decide), up_n (by decide)]; exact a4
  · rw [st_j (by decide), up_n (by decide)]; exact a5
  · rw [st_k (by omega), up_n (by omega)]; exact b j hj
  · rw [st_k (by omega), up_n (by omega)]; exact c j hj
  · rw [st_k (by omega), st_k (by omega), st_k (by omega), up_n (by omega), up_n (by omega), up_n (by omega)]; exact d l hl
theorem A9.looked {h : Mem} {k : Nat} {N : Row} {v : Int32} (x : A9 h k N) : A9 (gm_st h k 9 v) k (upd N 3 v) := by
  obtain ⟨⟨a0, a1, a2, a3, a4, a5⟩, b, c, d⟩ := x
  refine ⟨⟨?_, ?_, ?_, ?_, ?_, ?_⟩, fun j hj => ?_, fun j hj => ?_, fun l hl => ?_⟩
  · rw [st_j (by decide), up_n (by decide)]; exact a0
  · rw [st_j (by decide), up_n (by decide)]; exact a1
  · rw [st_j (by decide), up_n (by decide)]; exact a2
  · rw [st_s, up_s]
  · rw [st_j (by decide), up_n (by decide)]; exact a4
  · rw [st_j (by decide), up_n (by decide)]; exact a5
  · rw [st_k (by omega), up_n (by omega)]; exact b j hj
  · rw [st_k (by omega), up_n (by omega)]; exact c j hj
  · rw [st_k (by omega), st_k (by omega), st_k (by omega), up_n (by omega), up_n (by omega), up_n (by omega)]; exact d l hl
theorem A9.lines {h : Mem} {k : Nat} {N : Row} {v : Int32} (x : A9 h k N) : A9 (gm_st h k 5 v) k (upd N 4 v) := by
  obtain ⟨⟨a0, a1, a2, a3, a4, a5⟩, b, c, d⟩ := x
  refine ⟨⟨?_, ?_, ?_, ?_, ?_, ?_⟩, fun j hj => ?_, fun j hj => ?_, fun l hl => ?_⟩
  · rw [st_j (by decide), up_n (by decide)]; exact a0
  · rw [st_j (by decide), up_n (by decide)]; exact a1
  · rw [st_j (by decide), up_n (by decide)]; exact a2
  · rw [st_j (by decide), up_n (by decide)]; exact a3
  · rw [st_s, up_s]
  · rw [st_j (by decide), up_n (by decide)]; exact a5
  · rw [st_k (by omega), up_n (by omega)]; exact b j hj
  · rw [st_k (by omega), up_n (by omega)]; exact c j hj
  · rw [st_k (by omega), st_k (by omega), st_k (by omega), up_n (by omega), up_n (by omega), up_n (by omega)]; exact d l hl
theorem A9.z {h : Mem} {k : Nat} {N : Row} {v : Int32} (x : A9 h k N) : A9 (gm_st h k 10 v) k (upd N 5 v) := by
  obtain ⟨⟨a0, a1, a2, a3, a4, a5⟩, b, c, d⟩ := x
  refine ⟨⟨?_, ?_, ?_, ?_, ?_, ?_⟩, fun j hj => ?_, fun j hj => ?_, fun l hl => ?_⟩
  · rw [st_j (by decide), up_n (by decide)]; exact a0
  · rw [st_j (by decide), up_n (by decide)]; exact a1
  · rw [st_j (by decide), up_n (by decide)]; exact a2
  · rw [st_j (by decide), up_n (by decide)]; exact a3
  · rw [st_j (by decide), up_n (by decide)]; exact a4
  · rw [st_s, up_s]
  · rw [st_k (by omega), up_n (by omega)]; exact b j hj
  · rw [st_k (by omega), up_n (by omega)]; exact c j hj
  · rw [st_k (by omega), st_k (by omega), st_k (by omega), up_n (by omega), up_n (by omega), up_n (by omega)]; exact d l hl
theorem A9.rule {h : Mem} {k i : Nat} {N : Row} {v : Int32} (x : A9 h k N) (hi : i < 10) : A9 (gm_st h (k + 4) i v) k (upd N (6 + i) v) := by
  obtain ⟨⟨a0, a1, a2, a3, a4, a5⟩, b, c, d⟩ := x
  refine ⟨⟨?_, ?_, ?_, ?_, ?_, ?_⟩, fun j hj => ?_, fun j hj => ?_, fun l hl => ?_⟩
  · rw [st_k (by omega), up_n (by omega)]; exact a0
  · rw [st_k (by omega), up_n (by omega)]; exact a1
  · rw [st_k (by omega), up_n (by omega)]; exact a2
  · rw [st_k (by omega), up_n (by omega)]; exact a3
  · rw [st_k (by omega), up_n (by omega)]; exact a4
  · rw [st_k (by omega), up_n (by omega)]; exact a5
  · by_cases e : j = i
    · subst e; rw [st_s, up_s]
    · rw [st_j e, up_n (by omega)]; exact b j hj
  · rw [st_k (by omega), up_n (by omega)]; exact c j hj
  · rw [st_k (by omega), st_k (by omega), st_k (by omega), up_n (by omega), up_n (by omega), up_n (by omega)]; exact d l hl
theorem A9.spot {h : Mem} {k i : Nat} {N : Row} {v : Int32} (x : A9 h k N) (hi : i < 10) : A9 (gm_st h (k + 5) i v) k (upd N (16 + i) v) := by
  obtain ⟨⟨a0, a1, a2, a3, a4, a5⟩, b, c, d⟩ := x
  refine ⟨⟨?_, ?_, ?_, ?_, ?_, ?_⟩, fun j hj => ?_, fun j hj => ?_, fun l hl => ?_⟩
  · rw [st_k (by omega), up_n (by omega)]; exact a0
  · rw [st_k (by omega), up_n (by omega)]; exact a1
  · rw [st_k (by omega), up_n (by omega)]; exact a2
  · rw [st_k (by omega), up_n (by omega)]; exact a3
  · rw [st_k (by omega), up_n (by omega)]; exact a4
  · rw [st_k (by omega), up_n (by omega)]; exact a5
  · rw [st_k (by omega), up_n (by omega)]; exact b j hj
  · by_cases e : j = i
    · subst e; rw [st_s, up_s]
    · rw [st_j e, up_n (by omega)]; exact c j hj
  · rw [st_k (by omega), st_k (by omega), st_k (by omega), up_n (by omega), up_n (by omega), up_n (by omega)]; exact d l hl
theorem A9.feature {h : Mem} {k i f : Nat} {N : Row} {v : Int32} (x : A9 h k N) (hi : i < 12) (hf : f < 3) : A9 (gm_st h (k + 1 + f) i v) k (upd N (26 + 3 * i + f) v) := by
  obtain ⟨⟨a0, a1, a2, a3, a4, a5⟩, b, c, d⟩ := x
  refine ⟨⟨?_, ?_, ?_, ?_, ?_, ?_⟩, fun j hj => ?_, fun j hj => ?_, fun l hl => ?_⟩
  · rw [st_k (by omega), up_n (by omega)]; exact a0
  · rw [st_k (by omega), up_n (by omega)]; exact a1
  · rw [st_k (by omega), up_n (by omega)]; exact a2
  · rw [st_k (by omega), up_n (by omega)]; exact a3
  · rw [st_k (by omega), up_n (by omega)]; exact a4
  · rw [st_k (by omega), up_n (by omega)]; exact a5
  · rw [st_k (by omega), up_n (by omega)]; exact b j hj
  · rw [st_k (by omega), up_n (by omega)]; exact c j hj
  · obtain ⟨d0, d1, d2⟩ := d l hl
    simp only [st_at, up_at]
    refine ⟨?_, ?_, ?_⟩
    · by_cases e : f = 0 ∧ l = i
      · rw [if_pos (by omega), if_pos (by omega)]
      · rw [if_neg (by omega), if_neg (by omega)]; exact d0
    · by_cases e : f = 1 ∧ l = i
      · rw [if_pos (by omega), if_pos (by omega)]
      · rw [if_neg (by omega), if_neg (by omega)]; exact d1
    · by_cases e : f = 2 ∧ l = i
      · rw [if_pos (by omega), if_pos (by omega)]
      · rw [if_neg (by omega), if_neg (by omega)]; exact d2
/-! what else stands: the kept studio, the tape, the findings, the sheets -/
def Dom (N : Row) : Prop := (∃ a n : Nat, a ≤ n ∧ n ≤ 12 ∧ N 0 = nI a ∧ N 4 = nI n ∧ (∀ l, l < n → 1 ≤ (N (26 + 3 * l + 1)).toInt) ∧ ∀ j, j < 10 → (N (16 + j)).toInt < n) ∧ (0 ≤ (N 1).toInt ∧ (N 1).toInt ≤ 9999999) ∧ (∀ l, l < 12 → (0 ≤ (N (26 + 3 * l)).toInt ∧ (N (26 + 3 * l)).toInt ≤ 6) ∧ (0 ≤ (N (26 + 3 * l + 1)).toInt ∧ (N (26 + 3 * l + 1)).toInt ≤ 20) ∧ (0 ≤ (N (26 + 3 * l + 2)).toInt ∧ (N (26 + 3 * l + 2)).toInt ≤ 9)) ∧ ((1 ≤ (N 6).toInt ∧ (N 6).toInt ≤ 99) ∧ (1 ≤ (N 7).toInt ∧ (N 7).toInt ≤ 99) ∧ (0 ≤ (N 12).toInt ∧ (N 12).toInt ≤ 9) ∧ (1 ≤ (N 13).toInt ∧ (N 13).toInt ≤ 6) ∧ (0 ≤ (N 14).toInt ∧ (N 14).toInt ≤ 10) ∧ (0 ≤ (N 15).toInt ∧ (N 15).toInt ≤ 99999))
def IRk (h : Mem) : Prop := h 0 11 = h 43 3 ∧ (¬ h 43 3 = 0 → ∃ M : Row, Dom M ∧ A9 h 7 M ∧ A10 h 45 M)
def IRt (h : Mem) : Prop := ∃ t : Nat, t ≤ 120 ∧ h 30 1 = nI t ∧ h 43 14 = nI t ∧ ∀ i, i < 120 → h 50 i = h 31 i ∧ 0 ≤ (h 31 i).toInt
def IRf (h : Mem) : Prop := (∀ c, c < 7 → h 47 (c + 1) = h 34 c) ∧ h 47 0 = h 34 0 + h 34 1 + h 34 2 + h 34 3 + h 34 4 + h 34 5 + h 34 6
def IRs (h : Mem) : Prop := ∀ s, s < 4 → h 53 s = h (35 + 2 * s) 1 ∧ h 54 s = h (35 + 2 * s) 2 ∧ (∃ z : Nat, z ≤ 40 ∧ h (35 + 2 * s) 2 = nI z) ∧ ∀ i, i < 40 → h 55 (40 * s + i) = h (35 + 2 * s + 1) i
def IQ (h : Mem) : Prop := IRk h ∧ IRt h ∧ IRs h
def IR (h : Mem) : Prop := IQ h ∧ IRf h
def IV (h : Mem) (N : Row) : Prop := Dom N ∧ A9 h 1 N ∧ A10 h 44 N ∧ IR h
def Inv (h : Mem) : Prop := ∃ N : Row, IV h N
/-- the class's side has changed the studio and what is scratch, the reference's side its row and what is scratch -/
def G9 (h h' : Mem) : Prop := ∀ a, a = 0 ∨ (7 ≤ a ∧ a ≤ 12) ∨ a = 30 ∨ a = 31 ∨ 33 ≤ a → h' a = h a
def G10 (h h' : Mem) : Prop := (∀ a, a < 43 ∨ a = 45 ∨ a = 47 ∨ a = 50 ∨ a = 53 ∨ a = 54 ∨ a = 55 → h' a = h a) ∧ h' 43 3 = h 43 3 ∧ h' 43 14 = h 43 14
theorem G9.rf {h : Mem} : G9 h h := fun _ _ => rfl
theorem G9.tr {h h1 h2 : Mem} (x : G9 h h1) (y : G9 h1 h2) : G9 h h2 := fun a e => (y a e).trans (x a e)
theorem G10.rf {h : Mem} : G10 h h := ⟨fun _ _ => rfl, rfl, rfl⟩
theorem G10.tr {h h1 h2 : Mem} (x : G10 h h1) (y : G10 h1 h2) : G10 h h2 := ⟨fun a e => (y.1 a e).trans (x.1 a e), y.2.1.trans x.2.1, y.2.2.trans x.2.2⟩
/-- of the four that stand, each by what it reads -/
theorem IRk.fr {h h' : Mem} (x : IRk h) (e0 : h' 0 11 = h 0 11) (e1 : h' 43 3 = h 43 3) (e2 : ∀ a, 7 ≤ a → a ≤ 12 → h' a = h a) (e3 : h' 45 = h 45) : IRk h' := by
  refine ⟨by rw [e0, e1]; exact x.1, fun q => ?_⟩
  obtain ⟨M, m1, m2, m3⟩ := x.2 (by rw [← e1]; exact q)
  exact ⟨M, m1, m2.fr e2, m3.fr e3⟩
theorem IRt.fr {h h' : Mem} (x : IRt h) (e0 : h' 30 1 = h 30 1) (e1 : h' 43 14 = h 43 14) (e2 : h' 31 = h 31) (e3 : h' 50 = h 50) : IRt h' := by
  obtain ⟨t, t1, t2, t3, t4⟩ := x
  exact ⟨t, t1, by rw [e0]; exact t2, by rw [e1]; exact t3, by rw [e2, e3]; exact t4⟩
theorem IRf.fr {h h' : Mem} (x : IRf h) (e0 : h' 34 = h 34) (e1 : h' 47 = h 47) : IRf h' := by unfold IRf at *; rw [e0, e1]; exact x
theorem IRs.fr {h h' : Mem} (x : IRs h) (e0 : ∀ a, 35 ≤ a → a ≤ 42 → h' a = h a) (e1 : h' 53 = h 53) (e2 : h' 54 = h 54) (e3 : h' 55 = h 55) : IRs h' := fun s hs => by
  have y := x s hs
  rw [e1, e2, e3, e0 (35 + 2 * s) (by omega) (by omega), e0 (35 + 2 * s + 1) (by omega) (by omega)]
  exact y
theorem IQ.g9 {h h' : Mem} (x : IQ h) (g : G9 h h') : IQ h' :=
  ⟨x.1.fr (by rw [g 0 (by omega)]) (by rw [g 43 (by omega)]) (fun a h1 h2 => g a (by omega)) (g 45 (by omega)), x.2.1.fr (by rw [g 30 (by omega)]) (by rw [g 43 (by omega)]) (g 31 (by omega)) (g 50 (by omega)), x.2.2.fr (fun a h1 h2 => g a (by omega)) (g 53 (by omega)) (g 54 (by omega)) (g 55 (by omega))⟩
theorem IQ.g10 {h h' : Mem} (x : IQ h) (g : G10 h h') : IQ h' :=
  ⟨x.1.fr (by rw [g.1 0 (by omega)]) g.2.1 (fun a h1 h2 => g.1 a (by omega)) (g.1 45 (by omega)), x.2.1.fr (by rw [g.1 30 (by omega)]) g.2.2 (g.1 31 (by omega)) (g.1 50 (by omega)), x.2.2.fr (fun a h1 h2 => g.1 a (by omega)) (g.1 53 (by omega)) (g.1 54 (by omega)) (g.1 55 (by omega))⟩
theorem IQ.ff {h h' : Mem} (x : IQ h) (g : ∀ a, a ≠ 34 → a ≠ 47 → h' a = h a) : IQ h' :=
  ⟨x.1.fr (by rw [g 0 (by omega) (by omega)]) (by rw [g 43 (by omega) (by omega)]) (fun a h1 h2 => g a (by omega) (by omega)) (g 45 (by omega) (by omega)), x.2.1.fr (by rw [g 30 (by omega) (by omega)]) (by rw [g 43 (by omega) (by omega)]) (g 31 (by omega) (by omega)) (g 50 (by omega) (by omega)), x.2.2.fr (fun a h1 h2 => g a (by omega) (by omega)) (g 53 (by omega) (by omega)) (g 54 (by omega) (by omega)) (g 55 (by omega) (by omega))⟩
theorem IR.g9 {h h' : Mem} (x : IR h) (g : G9 h h') : IR h' := ⟨x.1.g9 g, x.2.fr (g 34 (by omega)) (g 47 (by omega))⟩
theorem IR.g10 {h h' : Mem} (x : IR h) (g : G10 h h') : IR h' := ⟨x.1.g10 g, x.2.fr (g.1 34 (by omega)) (g.1 47 (by omega))⟩
theorem A10.g9 {h h' : Mem} {N : Row} (x : A10 h 44 N) (g : G9 h h') : A10 h' 44 N := x.fr (g 44 (by omega))
theorem A9.g10 {h h' : Mem} {N : Row} (x : A9 h 1 N) (g : G10 h h') : A9 h' 1 N := x.fr (fun a _ _ => g.1 a (by omega))
/-- a call that answers, the studio becoming N' on both sides -/
theorem pr_ok {α : Type} {f9 f10 : Mem → (α → Mem → Prop) → Prop} {r : α} {N N' : Row} {h : Mem} (hI : IV h N) (hD : Dom N') (h9 : ∀ Q : α → Mem → Prop, (∀ h', A9 h' 1 N' → G9 h h' → Q r h') → f9 h Q) (h10 : ∀ (h : Mem) (Q : α → Mem → Prop), A10 h 44 N → IQ h → (∀ h', A10 h' 44 N' → G10 h h' → Q r h') → f10 h Q) : f9 h (fun r h1 => f10 h1 (fun r2 h2 => r = r2 ∧ Inv h2)) := by
  obtain ⟨d, a9, a10, ir⟩ := hI
  refine h9 _ (fun h1 b9 g9 => ?_)
  refine h10 h1 _ (a10.g9 g9) (ir.g9 g9).1 (fun h2 b10 g10 => ⟨rfl, N', hD, b9.g10 g10, b10, (ir.g9 g9).g10 g10⟩)
/-- a call that is refused -/
theorem s_find9 {c : Nat} {h : Mem} {Q : Int32 → Mem → Prop} (hc : c < 7) (k : Q ((-1000001 : Int32) - nI c) (gm_st h 34 c (h 34 c + 1))) : f_X9_finding (nI c) h Q := by
  unfold f_X9_finding
  refine ⟨vi hc (by decide), vi hc (by decide), fun h3 e3 => ?_⟩
  rw [cl (by omega)] at e3
  subst e3
  exact k
theorem fcode : ∀ c, c < 7 → (((-1000001 : Int32) - ((-1000001 : Int32) - nI c)) + (1 : Int32)) = nI (c + 1) := by decide +kernel
theorem s_find10 {c : Nat} {h : Mem} {Q : Int32 → Mem → Prop} (hc : c < 7) (k : Q ((-1000001 : Int32) - nI c) (gm_st (gm_st h 47 (c + 1) (h 47 (c + 1) + 1)) 47 0 (h 47 0 + 1))) : f_X10_finding ((-1000001 : Int32) - nI c) h Q := by
  unfold f_X10_finding
  rw [fcode c hc]
  refine ⟨vi (by omega) (by decide), vi (by omega) (by decide), fun h3 e3 h4 e4 => ?_⟩
  rw [cl (by omega)] at e3
  subst e3
  rw [st_j (by omega)] at e4
  subst e4
  exact k
theorem i_sw (a b : Int32) : (a + 1) + b = (a + b) + 1 := by rw [Int32.add_assoc, Int32.add_comm 1 b, ← Int32.add_assoc]
theorem sum7 (a0 a1 a2 a3 a4 a5 a6 : Int32) : ∀ c, c < 7 → a0 + a1 + a2 + a3 + a4 + a5 + a6 + 1 = (if (0 : Nat) = c then a0 + 1 else a0) + (if 1 = c then a1 + 1 else a1) + (if 2 = c then a2 + 1 else a2) + (if 3 = c then a3 + 1 else a3) + (if 4 = c then a4 + 1 else a4) + (if 5 = c then a5 + 1 else a5) + (if 6 = c then a6 + 1 else a6) := by
  intro c hc
  have : c = 0 ∨ c = 1 ∨ c = 2 ∨ c = 3 ∨ c = 4 ∨ c = 5 ∨ c = 6 := by omega
  rcases this with rfl | rfl | rfl | rfl | rfl | rfl | rfl <;> simp [i_sw, ← Int32.add_assoc]
theorem IRf.inc {h : Mem} {c : Nat} (x : IRf h) (hc : c < 7) : ∀ h', h' 34 = upd (h 34) c (h 34 c + 1) → h' 47 = upd (upd (h 47) (c + 1) (h 47 (c + 1) + 1)) 0 (h 47 0 + 1) → IRf h' := by
  intro h' e1 e2
  unfold IRf
  rw [e1, e2]
  refine ⟨fun i hi => ?_, ?_⟩
  · rw [up_n (by omega)]
    by_cases q : i = c
    · subst q; rw [up_s, up_s, x.1 i hi]
    · rw [up_n (by omega), up_n q]; exact x.1 i hi
  · rw [up_s, x.2, sum7 _ _ _ _ _ _ _ c hc]
    simp only [up_at]
    have : c = 0 ∨ c = 1 ∨ c = 2 ∨ c = 3 ∨ c = 4 ∨ c = 5 ∨ c = 6 := by omega
    rcases this with rfl | rfl | rfl | rfl | rfl | rfl | rfl <;> simp
theorem pr_no {α : Type} {f9 f10 : Mem → (α → Mem → Prop) → Prop} {w : Int32 → α} {N : Row} {h : Mem} (c : Nat) (hc : c < 7) (hI : IV h N) (h9 : ∀ Q : α → Mem → Prop, (∀ h', A9 h' 1 N → G9 h h' → f_X9_finding (nI c) h' (fun r h2 => Q (w r) h2)) → f9 h Q) (h10 : ∀ (h : Mem) (Q : α → Mem → Prop), A10 h 44 N → IQ h → (∀ h', A10 h' 44 N → G10 h h' → f_X10_finding ((-1000001 : Int32) - nI c) h' (fun r h2 => Q (w r) h2)) → f10 h Q) : f9 h (fun r h1 => f10 h1 (fun r2 h2 => r = r2 ∧ Inv h2)) := by
  obtain ⟨d, a9, a10, ir⟩ := hI
  refine h9 _ (fun h1 b9 g9 => ?_)
  refine s_find9 hc ?_
  have ir1 := ir.g9 g9
  generalize eh : gm_st h1 34 c (h1 34 c + 1) = h2
  have hr : h2 34 = upd (h1 34) c (h1 34 c + 1) := by rw [← eh, st_row]
  have hf : ∀ a, a ≠ 34 → h2 a = h1 a := fun a q => by rw [← eh, st_k q]
  refine h10 h2 _ ((a10.g9 g9).fr (hf 44 (by decide))) (ir1.1.ff (fun a q _ => hf a q)) (fun h3 b10 g10 => ?_)
  refine s_find10 hc ⟨rfl, N, d, ?_, ?_, ?_, ?_⟩
  · exact ((b9.fr (fun a _ _ => hf a (by omega))).g10 g10).fr (fun a _ _ => by rw [st_k (by omega), st_k (by omega)])
  · exact b10.fr (by rw [st_k (by omega), st_k (by omega)])
  · exact ((ir1.1.ff (fun a q _ => hf a q)).g10 g10).ff (fun a _ q => by rw [st_k q, st_k q])
  · refine ir1.2.inc hc _ ?_ ?_
    · rw [st_k (by omega), st_k (by omega), g10.1 34 (by omega), hr]
    · rw [st_row, st_row, g10.1 47 (by omega), hf 47 (by omega)]
