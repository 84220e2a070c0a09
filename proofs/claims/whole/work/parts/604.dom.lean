/-! DOMAINS under writes -/
def D0 (N : Row) : Prop := ∃ a n : Nat, a ≤ n ∧ n ≤ 12 ∧ N 0 = nI a ∧ N 4 = nI n ∧ (∀ l, l < n → 1 ≤ (N (26 + 3 * l + 1)).toInt) ∧ ∀ j, j < 10 → (N (16 + j)).toInt < n
def D1 (N : Row) : Prop := 0 ≤ (N 1).toInt ∧ (N 1).toInt ≤ 9999999
def D2 (N : Row) : Prop := ∀ l, l < 12 → (0 ≤ (N (26 + 3 * l)).toInt ∧ (N (26 + 3 * l)).toInt ≤ 6) ∧ (0 ≤ (N (26 + 3 * l + 1)).toInt ∧ (N (26 + 3 * l + 1)).toInt ≤ 20) ∧ (0 ≤ (N (26 + 3 * l + 2)).toInt ∧ (N (26 + 3 * l + 2)).toInt ≤ 9)
def D3 (N : Row) : Prop := (1 ≤ (N 6).toInt ∧ (N 6).toInt ≤ 99) ∧ (1 ≤ (N 7).toInt ∧ (N 7).toInt ≤ 99) ∧ (0 ≤ (N 12).toInt ∧ (N 12).toInt ≤ 9) ∧ (1 ≤ (N 13).toInt ∧ (N 13).toInt ≤ 6) ∧ (0 ≤ (N 14).toInt ∧ (N 14).toInt ≤ 10) ∧ (0 ≤ (N 15).toInt ∧ (N 15).toInt ≤ 99999)
theorem Dom_iff {N : Row} : Dom N ↔ D0 N ∧ D1 N ∧ D2 N ∧ D3 N := Iff.rfl
theorem D0.cong {N M : Row} (x : D0 N) (e0 : M 0 = N 0) (e4 : M 4 = N 4) (e : ∀ i, 16 ≤ i → M i = N i) : D0 M := by
  obtain ⟨a, n, h1, h2, h3, h4, h5, h6⟩ := x
  refine ⟨a, n, h1, h2, by rw [e0]; exact h3, by rw [e4]; exact h4, fun l hl => ?_, fun j hj => ?_⟩
  · rw [e _ (by omega)]; exact h5 l hl
  · rw [e _ (by omega)]; exact h6 j hj
theorem D1.cong {N M : Row} (x : D1 N) (e : M 1 = N 1) : D1 M := by unfold D1; rw [e]; exact x
theorem D2.cong {N M : Row} (x : D2 N) (e : ∀ i, 26 ≤ i → M i = N i) : D2 M := fun l hl => by
  rw [e _ (by omega), e _ (by omega), e _ (by omega)]
  exact x l hl
theorem D3.cong {N M : Row} (x : D3 N) (e6 : M 6 = N 6) (e7 : M 7 = N 7) (e : ∀ i, 12 ≤ i → i ≤ 15 → M i = N i) : D3 M := by
  unfold D3
  rw [e6, e7, e 12 (by decide) (by decide), e 13 (by decide) (by decide), e 14 (by decide) (by decide), e 15 (by decide) (by decide)]
  exact x
theorem Dom.free {N : Row} {j : Nat} {v : Int32} (x : Dom N) (hj : j = 2 ∨ j = 3 ∨ j = 5 ∨ (8 ≤ j ∧ j ≤ 11)) : Dom (upd N j v) :=
  ⟨D0.cong x.1 (up_n (by omega)) (up_n (by omega)) (fun i _ => up_n (by omega)), D1.cong x.2.1 (up_n (by omega)), D2.cong x.2.2.1 (fun i _ => up_n (by omega)), D3.cong x.2.2.2 (up_n (by omega)) (up_n (by omega)) (fun i _ _ => up_n (by omega))⟩
theorem Dom.at_ {N : Row} {a n : Nat} (x : Dom N) (h4 : N 4 = nI n) (ha : a ≤ n) (hn : n ≤ 12) : Dom (upd N 0 (nI a)) := by
  refine ⟨?_, D1.cong x.2.1 (up_n (by omega)), D2.cong x.2.2.1 (fun i _ => up_n (by omega)), D3.cong x.2.2.2 (up_n (by omega)) (up_n (by omega)) (fun i _ _ => up_n (by omega))⟩
  obtain ⟨b, m, h1, h2, h3, h5, h6, h7⟩ := x.1
  have e : m = n := (nI_eq (by omega) (by omega)).mp (h5.symm.trans h4)
  subst e
  refine ⟨a, m, ha, hn, up_s, by rw [up_n (by decide)]; exact h4, fun l hl => ?_, fun j hj => ?_⟩
  · rw [up_n (by omega)]; exact h6 l hl
  · rw [up_n (by omega)]; exact h7 j hj
theorem Dom.clock {N : Row} {v : Int32} (x : Dom N) (h1 : 0 ≤ v.toInt) (h2 : v.toInt ≤ 9999999) : Dom (upd N 1 v) :=
  ⟨D0.cong x.1 (up_n (by omega)) (up_n (by omega)) (fun i _ => up_n (by omega)), by rw [up_s]; exact ⟨h1, h2⟩, D2.cong x.2.2.1 (fun i _ => up_n (by omega)), D3.cong x.2.2.2 (up_n (by omega)) (up_n (by omega)) (fun i _ _ => up_n (by omega))⟩
theorem Dom.spot {N : Row} {j n : Nat} {v : Int32} (x : Dom N) (h4 : N 4 = nI n) (hn : n ≤ 12) (hj : j < 10) (hv : v.toInt < n) : Dom (upd N (16 + j) v) := by
  refine ⟨?_, D1.cong x.2.1 (up_n (by omega)), D2.cong x.2.2.1 (fun i _ => up_n (by omega)), D3.cong x.2.2.2 (up_n (by omega)) (up_n (by omega)) (fun i _ _ => up_n (by omega))⟩
  obtain ⟨b, m, h1, h2, h3, h5, h6, h7⟩ := x.1
  have e : m = n := (nI_eq (by omega) (by omega)).mp (h5.symm.trans h4)
  subst e
  refine ⟨b, m, h1, hn, by rw [up_n (by omega)]; exact h3, by rw [up_n (by omega)]; exact h4, fun l hl => ?_, fun i hi => ?_⟩
  · rw [up_n (by omega)]; exact h6 l hl
  · by_cases q : i = j
    · subst q; rw [up_s]; exact hv
    · rw [up_n (by omega)]; exact h7 i hi
theorem Dom.kind {N : Row} {l : Nat} {v : Int32} (x : Dom N) (h1 : 0 ≤ v.toInt) (h2 : v.toInt ≤ 6) : Dom (upd N (26 + 3 * l) v) := by
  refine ⟨?_, D1.cong x.2.1 (up_n (by omega)), ?_, D3.cong x.2.2.2 (up_n (by omega)) (up_n (by omega)) (fun i _ _ => up_n (by omega))⟩
  · obtain ⟨b, m, h1, h2, h3, h5, h6, h7⟩ := x.1
    refine ⟨b, m, h1, h2, by rw [up_n (by omega)]; exact h3, by rw [up_n (by omega)]; exact h5, fun i hi => ?_, fun i hi => ?_⟩
    · rw [up_n (by omega)]; exact h6 i hi
    · rw [up_n (by omega)]; exact h7 i hi
  · intro i hi
    obtain ⟨y1, y2, y3⟩ := x.2.2.1 i hi
    refine ⟨?_, by rw [up_n (by omega)]; exact y2, by rw [up_n (by omega)]; exact y3⟩
    by_cases q : i = l
    · subst q; rw [up_s]; exact ⟨h1, h2⟩
    · rw [up_n (by omega)]; exact y1
theorem Dom.words {N : Row} {l : Nat} {v : Int32} (x : Dom N) (h1 : 1 ≤ v.toInt) (h2 : v.toInt ≤ 20) : Dom (upd N (26 + 3 * l + 1) v) := by
  refine ⟨?_, D1.cong x.2.1 (up_n (by omega)), ?_, D3.cong x.2.2.2 (up_n (by omega)) (up_n (by omega)) (fun i _ _ => up_n (by omega))⟩
  · obtain ⟨b, m, g1, g2, h3, h5, h6, h7⟩ := x.1
    refine ⟨b, m, g1, g2, by rw [up_n (by omega)]; exact h3, by rw [up_n (by omega)]; exact h5, fun i hi => ?_, fun i hi => ?_⟩
    · by_cases q : i = l
      · subst q; rw [up_s]; exact h1
      · rw [up_n (by omega)]; exact h6 i hi
    · rw [up_n (by omega)]; exact h7 i hi
  · intro i hi
    obtain ⟨y1, y2, y3⟩ := x.2.2.1 i hi
    refine ⟨by rw [up_n (by omega)]; exact y1, ?_, by rw [up_n (by omega)]; exact y3⟩
    by_cases q : i = l
    · subst q; rw [up_s]; exact ⟨by omega, h2⟩
    · rw [up_n (by omega)]; exact y2
theorem Dom.hard {N : Row} {l : Nat} {v : Int32} (x : Dom N) (h1 : 0 ≤ v.toInt) (h2 : v.toInt ≤ 9) : Dom (upd N (26 + 3 * l + 2) v) := by
  refine ⟨?_, D1.cong x.2.1 (up_n (by omega)), ?_, D3.cong x.2.2.2 (up_n (by omega)) (up_n (by omega)) (fun i _ _ => up_n (by omega))⟩
  · obtain ⟨b, m, g1, g2, h3, h5, h6, h7⟩ := x.1
    refine ⟨b, m, g1, g2, by rw [up_n (by omega)]; exact h3, by rw [up_n (by omega)]; exact h5, fun i hi => ?_, fun i hi => ?_⟩
    · rw [up_n (by omega)]; exact h6 i hi
    · rw [up_n (by omega)]; exact h7 i hi
  · intro i hi
    obtain ⟨y1, y2, y3⟩ := x.2.2.1 i hi
    refine ⟨by rw [up_n (by omega)]; exact y1, by rw [up_n (by omega)]; exact y2, ?_⟩
    by_cases q : i = l
    · subst q; rw [up_s]; exact ⟨h1, h2⟩
    · rw [up_n (by omega)]; exact y3
/-- the least and the most of a rule -/
def ruleLo (i : Nat) : Int := [1, 1, 0, 0, -9, -9, 0, 1, 0, 0].getD i 0
def ruleHi (i : Nat) : Int := [99, 99, 10, 10, 9, 9, 9, 6, 10, 99999].getD i 0
theorem Dom.rule {N : Row} {i : Nat} {v : Int32} (x : Dom N) (hi : i < 10) (h1 : ruleLo i ≤ v.toInt) (h2 : v.toInt ≤ ruleHi i) : Dom (upd N (6 + i) v) := by
  refine ⟨D0.cong x.1 (up_n (by omega)) (up_n (by omega)) (fun i _ => up_n (by omega)), D1.cong x.2.1 (up_n (by omega)), D2.cong x.2.2.1 (fun i _ => up_n (by omega)), ?_⟩
  have y := x.2.2.2
  have : i = 0 ∨ i = 1 ∨ i = 2 ∨ i = 3 ∨ i = 4 ∨ i = 5 ∨ i = 6 ∨ i = 7 ∨ i = 8 ∨ i = 9 := by omega
  rcases this with rfl | rfl | rfl | rfl | rfl | rfl | rfl | rfl | rfl | rfl <;> simp only [up_at, ruleLo, ruleHi, List.getD_cons_zero, List.getD_cons_succ] at * <;> simp <;> omega
theorem Dom.turn {N : Row} (x : Dom N) : Dom (n_turn N) := by
  have t := turn_rng N
  refine ⟨D0.cong x.1 (turnO N (by decide) (by decide)) (turnO N (by decide) (by decide)) (fun i _ => turnO N (by omega) (by omega)), D1.cong x.2.1 (turnO N (by decide) (by decide)), D2.cong x.2.2.1 (fun i _ => turnO N (by omega) (by omega)), ?_⟩
  have y := x.2.2.2
  rw [turnO N (i := 12) (by decide) (by decide), turnO N (i := 13) (by decide) (by decide), turnO N (i := 14) (by decide) (by decide), turnO N (i := 15) (by decide) (by decide)]
  exact ⟨t.1, t.2, y.2.2⟩
def n_add (N : Row) (n : Nat) (a b c : Int32) : Row := upd (upd (upd (upd N (26 + 3 * n) a) (26 + 3 * n + 1) b) (26 + 3 * n + 2) c) 4 (nI (n + 1))
theorem Dom.add {N : Row} {n : Nat} {a b c : Int32} (x : Dom N) (h4 : N 4 = nI n) (hn : n < 12) (ha : 0 ≤ a.toInt ∧ a.toInt ≤ 6) (hb : 1 ≤ b.toInt ∧ b.toInt ≤ 20) (hc : 0 ≤ c.toInt ∧ c.toInt ≤ 9) : Dom (n_add N n a b c) := by
  have y : Dom (upd (upd (upd N (26 + 3 * n) a) (26 + 3 * n + 1) b) (26 + 3 * n + 2) c) := ((x.kind ha.1 ha.2).words hb.1 hb.2).hard hc.1 hc.2
  unfold n_add
  refine ⟨?_, D1.cong y.2.1 (up_n (by omega)), D2.cong y.2.2.1 (fun i _ => up_n (by omega)), D3.cong y.2.2.2 (up_n (by omega)) (up_n (by omega)) (fun i _ _ => up_n (by omega))⟩
  obtain ⟨b', m, g1, g2, h3, h5, h6, h7⟩ := x.1
  have e : m = n := (nI_eq (by omega) (by omega)).mp (h5.symm.trans h4)
  subst e
  refine ⟨b', m + 1, by omega, hn, ?_, up_s, fun l hl => ?_, fun j hj => ?_⟩
  · rw [up_n (by omega), up_n (by omega), up_n (by omega), up_n (by omega)]; exact h3
  · rw [up_n (by omega), up_n (by omega)]
    by_cases q : l = m
    · subst q; rw [up_s]; exact hb.1
    · rw [up_n (by omega), up_n (by omega)]; exact h6 l (by omega)
  · rw [up_n (by omega), up_n (by omega), up_n (by omega), up_n (by omega)]
    have := h7 j hj
    omega
