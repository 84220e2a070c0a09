/-! READING: paces turned, a line read, rows copied -/
theorem tk_cong {N M : Row} {l : Nat} {p : Int32} (e : ∀ i, 26 ≤ i → N i = M i) : tk N l p = tk M l p := by
  unfold tk
  rw [e _ (by omega), e _ (by omega), e _ (by omega)]
theorem tr_cong {N M : Row} {l : Nat} (e : ∀ i, 12 ≤ i → N i = M i) : tr N l = tr M l := by
  unfold tr
  rw [e _ (by omega), e _ (by omega), e 12 (by omega), e 13 (by omega)]
theorem se_cong {N M : Row} {l : Nat} (e : ∀ i, 12 ≤ i → N i = M i) : se N l = se M l := by
  unfold se
  rw [e _ (by omega), e 12 (by omega), e 13 (by omega)]
theorem turn6 (N : Row) : n_turn N 6 = p_next (N 6) (N 7) (N 8) (N 10) := by unfold n_turn; rw [up_n (by decide), up_s]
theorem turn7 (N : Row) : n_turn N 7 = p_next (N 7) (N 6) (N 9) (N 11) := by unfold n_turn; rw [up_s]
theorem turnO (N : Row) {i : Nat} (h6 : i ≠ 6) (h7 : i ≠ 7) : n_turn N i = N i := by unfold n_turn; rw [up_n h7, up_n h6]
theorem turn_cong {N M : Row} (e : ∀ i, 4 ≤ i → N i = M i) : ∀ i, 4 ≤ i → n_turn N i = n_turn M i := by
  intro i hi
  by_cases h6 : i = 6
  · subst h6; rw [turn6, turn6, e 6 (by omega), e 7 (by omega), e 8 (by omega), e 10 (by omega)]
  · by_cases h7 : i = 7
    · subst h7; rw [turn7, turn7, e 6 (by omega), e 7 (by omega), e 9 (by omega), e 11 (by omega)]
    · rw [turnO N h6 h7, turnO M h6 h7, e i hi]
theorem turn_rng (N : Row) : (1 ≤ (n_turn N 6).toInt ∧ (n_turn N 6).toInt ≤ 99) ∧ (1 ≤ (n_turn N 7).toInt ∧ (n_turn N 7).toInt ≤ 99) := by
  rw [turn6, turn7]
  exact ⟨held_rng _, held_rng _⟩
theorem PI_O (N : Row) {i : Nat} (h6 : i ≠ 6) (h7 : i ≠ 7) : ∀ m, PI m N i = N i
  | 0 => rfl
  | m + 1 => by rw [PI, turnO _ h6 h7, PI_O N h6 h7 m]
def n_read (N : Row) : Row := upd (n_turn (upd (upd (upd N 1 (N 1 + tk N (N 0).toNatClampNeg (N 6))) 2 (N 2 + tr N (N 0).toNatClampNeg)) 3 (N 3 + se N (N 0).toNatClampNeg))) 0 (N 0 + 1)
def NR : Nat → Row → Row
  | 0, N => N
  | m + 1, N => n_read (NR m N)
theorem read_hi (N : Row) : ∀ i, 4 ≤ i → n_read N i = n_turn N i := by
  intro i hi
  unfold n_read
  rw [up_n (by omega)]
  refine turn_cong (fun j hj => ?_) i hi
  rw [up_n (by omega), up_n (by omega), up_n (by omega)]
theorem read0 (N : Row) : n_read N 0 = N 0 + 1 := by unfold n_read; rw [up_s]
theorem read1 (N : Row) : n_read N 1 = N 1 + tk N (N 0).toNatClampNeg (N 6) := by
  unfold n_read
  rw [up_n (by decide), turnO _ (by decide) (by decide), up_n (by decide), up_n (by decide), up_s]
theorem NR_hi (N : Row) : ∀ m i, 4 ≤ i → NR m N i = PI m N i
  | 0, _, _ => rfl
  | m + 1, i, hi => by
    rw [NR, PI, read_hi _ i hi]
    exact turn_cong (fun j hj => NR_hi N m j hj) i hi
theorem NR_0 {N : Row} {a : Nat} (h : N 0 = nI a) : ∀ m, NR m N 0 = nI (a + m)
  | 0 => h
  | m + 1 => by rw [NR, read0, NR_0 h m, nI_1, Nat.add_assoc]
/-- what m lines take, by the row; by paces apart -/
def tS (N : Row) : Nat → Int32
  | 0 => 0
  | m + 1 => tS N m + tk (NR m N) (NR m N 0).toNatClampNeg (NR m N 6)
def pS (N P : Row) (a : Nat) : Nat → Int32
  | 0 => 0
  | m + 1 => pS N P a m + tk N (a + m) (PI m P 6)
theorem tS_pS {N : Row} {a : Nat} (h : N 0 = nI a) : ∀ m, a + m ≤ 12 → tS N m = pS N N a m
  | 0, _ => rfl
  | m + 1, hm => by
    rw [tS, pS, tS_pS h m (by omega), NR_0 h m, cl (by omega), NR_hi N m 6 (by decide)]
    congr 1
    exact tk_cong (fun i hi => by rw [NR_hi N m i (by omega), PI_O N (by omega) (by omega)])
/-- nothing but two keys has changed -/
def Fr2 (q r : Nat) (h h' : Mem) : Prop := ∀ a, a ≠ q → a ≠ r → h' a = h a
theorem s_turnPaces {k0 q : Nat} {h : Mem} {N : Row} {Q : Mem → Prop} (hA : A9 h k0 N) (hq : q < k0 ∨ k0 + 5 < q) (k : ∀ h', A9 h' k0 (n_turn N) → Fr2 q (k0 + 4) h h' → Q h') : f_X6_turnPaces k0 q h Q := by
  unfold f_X6_turnPaces
  refine s_takeFrom (P := N) (by decide) (by decide) (by omega) (fun j hj => hA.2.1 j (by omega)) (fun h1 f1 p1 => ?_)
  refine s_step (m := 1) (by decide) p1 (fun h2 f2 p2 => ?_)
  intro h3 e3 h4 e4
  have a2 : A9 h2 k0 N := hA.fr (fun a _ _ => (f2 a (by omega)).trans (f1 a (by omega)))
  rw [p2.1] at e3
  subst e3
  rw [st_k (by omega), p2.2.1] at e4
  subst e4
  refine k _ ?_ (fun a x y => by rw [st_k y, st_k y, f2 a x, f1 a x])
  have a3 := (a2.rule (i := 0) (v := n_turn N 6) (by decide)).rule (i := 1) (v := n_turn N 7) (by decide)
  refine a3.same (fun i _ => ?_)
  rw [turn6, turn7]
  rfl
theorem s_readOne {k0 q a : Nat} {h : Mem} {N : Row} {Q : Mem → Prop} (hA : A9 h k0 N) (hq : q < k0 ∨ k0 + 5 < q) (h0 : N 0 = nI a) (ha : a < 12) (k : ∀ h', A9 h' k0 (n_read N) → (∀ b, b ≠ q → b ≠ k0 → b ≠ k0 + 4 → h' b = h b) → Q h') : f_X6_readOne k0 q h Q := by
  unfold f_X6_readOne
  rw [hA.1.1, h0, hA.1.2.1, hA.2.1 0 (by decide)]
  refine s_takesOf hA ha ?_
  intro h3 e3
  subst e3
  have a3 := hA.clock (v := N 1 + tk N a (N 6))
  rw [st_j (by decide), hA.1.1, h0]
  refine s_tripsOf a3 ha ?_
  intro h6 e6
  rw [st_j (by decide), hA.1.2.2.1] at e6
  subst e6
  have a6 := a3.tripped (v := N 2 + tr (upd N 1 (N 1 + tk N a (N 6))) a)
  rw [st_j (by decide), st_j (by decide), hA.1.1, h0]
  refine s_seenOf a6 ha ?_
  intro h9 e9
  rw [st_j (by decide), st_j (by decide), hA.1.2.2.2.1] at e9
  subst e9
  have a9 := a6.looked (v := N 3 + se (upd (upd N 1 (N 1 + tk N a (N 6))) 2 (N 2 + tr (upd N 1 (N 1 + tk N a (N 6))) a)) a)
  rw [tr_cong (M := N) (fun i hi => up_n (by omega)), se_cong (M := N) (fun i hi => by rw [up_n (by omega), up_n (by omega)])] at a9 ⊢
  refine s_turnPaces a9 hq (fun h10 a10 f10 => ?_)
  intro h11 e11
  subst e11
  refine k _ ?_ (fun b x y z => ?_)
  · have := a10.at_ (v := N 0 + 1)
    unfold n_read
    rw [a10.1.1, turnO _ (by decide) (by decide), up_n (by decide), up_n (by decide), up_n (by decide)]
    rw [h0, cl (by omega)]
    rw [h0] at this
    exact this
  · rw [st_k y, f10 b x z, st_k y, st_k y, st_k y]
theorem s_turns10 {h : Mem} {N : Row} {Q : Int32 → Mem → Prop} (hA : A10 h 44 N) (k : ∀ h', A10 h' 44 (n_turn N) → Fr1 44 h h' → Q (n_turn N 6) h') : f_X10_turns h Q := by
  unfold f_X10_turns
  intro v1 e1 v2 e2
  rw [hA 6 (by decide)] at e1
  rw [hA 7 (by decide)] at e2
  subst e1
  subst e2
  refine s_held10 ?_
  intro h5 e5
  refine s_held10 ?_
  intro h8 e8
  rw [hA 8 (by decide), hA 10 (by decide)] at e5
  have a5 : A10 h5 44 (upd N 6 (p_next (N 6) (N 7) (N 8) (N 10))) := by subst e5; exact hA.st
  rw [a5 9 (by decide), a5 11 (by decide), up_n (by decide), up_n (by decide)] at e8
  have a8 : A10 h8 44 (n_turn N) := by subst e8; exact a5.st
  rw [a8 6 (by decide)]
  refine k _ a8 (fun a x => ?_)
  subst e8
  rw [st_k x]
  subst e5
  rw [st_k x]
theorem s_reads10 {a : Nat} {h : Mem} {N : Row} {Q : Int32 → Mem → Prop} (hA : A10 h 44 N) (h0 : N 0 = nI a) (ha : a < 12) (k : ∀ h', A10 h' 44 (n_read N) → Fr1 44 h h' → Q (tk N a (N 6)) h') : f_X10_reads h Q := by
  unfold f_X10_reads
  intro v1 e1
  rw [hA 0 (by decide), h0] at e1
  subst e1
  refine s_takes10 hA ha ?_
  intro h4 e4
  rw [hA 1 (by decide)] at e4
  subst e4
  have a4 := hA.st (j := 1) (v := N 1 + tk N a (N 6))
  refine s_trips10 a4 ha ?_
  intro h7 e7
  rw [a4 2 (by decide), up_n (by decide)] at e7
  subst e7
  have a7 := a4.st (j := 2) (v := N 2 + tr (upd N 1 (N 1 + tk N a (N 6))) a)
  refine s_seen10 a7 ha ?_
  intro h10 e10
  rw [a7 3 (by decide), up_n (by decide), up_n (by decide)] at e10
  subst e10
  have a10 := a7.st (j := 3) (v := N 3 + se (upd (upd N 1 (N 1 + tk N a (N 6))) 2 (N 2 + tr (upd N 1 (N 1 + tk N a (N 6))) a)) a)
  have z0 := a10 0 (by decide)
  rw [up_n (by decide), up_n (by decide), up_n (by decide)] at z0
  rw [z0]
  rw [tr_cong (M := N) (fun i hi => up_n (by omega)), se_cong (M := N) (fun i hi => by rw [up_n (by omega), up_n (by omega)])] at a10 ⊢
  refine s_turns10 a10 (fun h11 a11 f11 => ?_)
  rw [if_pos (by rw [fa_le]; have := (turn_rng (upd (upd (upd N 1 (N 1 + tk N a (N 6))) 2 (N 2 + tr N a)) 3 (N 3 + se N a))).1.1; show (0 : Int) ≤ _; omega)]
  intro h14 e14
  subst e14
  refine k _ ?_ (fun b x => by rw [st_k x, f11 b x, st_k x, st_k x, st_k x])
  have := a11.st (j := 0) (v := N 0 + 1)
  unfold n_read
  rw [h0, cl (by omega)]
  rw [h0] at this
  exact this
theorem s_copyRow {b0 b1 : Nat} {h : Mem} {N : Row} {Q : Mem → Prop} (hb : b0 ≠ b1) (hA : A10 h b0 N) (k : ∀ h', A10 h' b1 N → Fr1 b1 h h' → Q h') : f_X10_copyRow b0 62 b1 62 h Q := by
  unfold f_X10_copyRow
  refine lo1 nI 62 (fun i h' => Fr1 b1 h h' ∧ ∀ j, j < i → h' b1 j = N j) rfl (by decide) ⟨Fr1.rf, fun j hj => absurd hj (by omega)⟩ ?_ ?_
  · intro K h' hI
    unfold f_X10_copyRow_b2
    rw [if_pos (by decide)]
    exact k _ (fun i hi => hI.2 i hi) hI.1
  · intro K i h' hi hI hK
    unfold f_X10_copyRow_b2
    refine ifn (nI_ge (b := 62) hi (by decide)) ?_
    refine ⟨vi hi (by decide), vi hi (by decide), fun h4 e4 v e => ?_⟩
    subst e
    rw [nI_1]
    rw [cl (by omega), hI.1 b0 hb, hA i hi] at e4
    subst e4
    refine hK _ ⟨hI.1.st, fun j hj => ?_⟩
    by_cases q : j = i
    · subst q; rw [st_s]
    · rw [st_j q]; exact hI.2 j (by omega)
theorem s_putBack {v : Int32} {h : Mem} {N : Row} {Q : Int32 → Mem → Prop} (hA : A10 h 46 N) (k : ∀ h', A10 h' 44 N → Fr1 44 h h' → Q v h') : f_X10_putBack v h Q := by
  unfold f_X10_putBack
  exact s_copyRow (by decide) hA (fun h' a f => k h' a f)
theorem s_readsOn {a m : Nat} {h : Mem} {N : Row} {Q : Int32 → Mem → Prop} (hA : A10 h 44 N) (h0 : N 0 = nI a) (ha : a + m ≤ 12) (k : ∀ h', A10 h' 44 (NR m N) → Fr1 44 h h' → Q (tS N m) h') : f_X10_readsOn (nI m) h Q := by
  unfold f_X10_readsOn
  refine lo2 nI m (fun i v h' => v = tS N i ∧ A10 h' 44 (NR i N) ∧ Fr1 44 h h') rfl (by omega) ⟨rfl, hA, Fr1.rf⟩ ?_ ?_
  · intro K v h' hI
    unfold f_X10_readsOn_b4
    rw [if_pos (nI_le (Nat.le_refl _) (by omega))]
    rw [hI.1]
    exact k _ hI.2.1 hI.2.2
  · intro K i v h' hi hI hK
    unfold f_X10_readsOn_b4
    rw [if_neg (nI_ge hi (by omega))]
    refine s_reads10 hI.2.1 (NR_0 h0 i) (by omega) (fun h2 a2 f2 => ?_)
    intro v4 e4 v5 e5
    subst e4
    subst e5
    rw [nI_1]
    refine hK _ _ ⟨?_, a2, hI.2.2.tr f2⟩
    rw [tS, hI.1, NR_0 h0 i, cl (by omega)]
theorem s_restTakes {a n : Nat} {h : Mem} {N : Row} {Q : Int32 → Mem → Prop} (hA : A10 h 44 N) (h0 : N 0 = nI a) (h4 : N 4 = nI n) (han : a ≤ n) (hn : n ≤ 12) (k : ∀ h', A10 h' 44 N → Fr2 44 46 h h' → Q (tS N (n - a)) h') : f_X10_restTakes h Q := by
  unfold f_X10_restTakes
  refine s_copyRow (by decide) hA (fun h1 a1 f1 => ?_)
  unfold f_X10_left
  have b1 : A10 h1 44 N := hA.fr (f1 44 (by decide))
  rw [b1 4 (by decide), b1 0 (by decide), h0, h4, pk_sub han]
  refine s_readsOn b1 h0 (by omega) (fun h2 a2 f2 => ?_)
  exact s_putBack (a1.fr (f2 46 (by decide))) (fun h3 a3 f3 => k h3 a3 (fun b x y => (f3 b x).trans ((f2 b x).trans (f1 b y))))
/-- the class's side: what m lines take, the studio as it stands -/
theorem s_takesAhead {k0 q a m : Nat} {h : Mem} {N P : Row} {Q : Int32 → Mem → Prop} (hA : A9 h k0 N) (hq : q < k0 ∨ k0 + 5 < q) (hP : PcR h q P) (h0 : N 0 = nI a) (ha : a + m ≤ 12) (k : ∀ h', Fr1 q h h' → PcR h' q (PI m P) → Q (pS N P a m) h') : f_X6_takesAhead k0 (nI m) q h Q := by
  unfold f_X6_takesAhead
  intro v1 e1
  rw [hA.1.1, h0] at e1
  refine lo2 (fun i => nI (a + i)) m (fun i v h' => v = pS N P a i ∧ Fr1 q h h' ∧ PcR h' q (PI i P)) (by rw [e1]; rfl) (by omega) ⟨rfl, Fr1.rf, hP⟩ ?_ ?_
  · intro K v h' hI
    unfold f_X6_takesAhead_b8
    rw [(hI.2.1 k0 (by omega)), hA.1.1, h0, nI_add, if_pos (nI_le (Nat.le_refl _) (by omega)), hI.1]
    exact k _ hI.2.1 hI.2.2
  · intro K i v h' hi hI hK
    unfold f_X6_takesAhead_b8
    rw [(hI.2.1 k0 (by omega)), hA.1.1, h0, nI_add, if_neg (nI_ge (by omega) (by omega))]
    have a' : A9 h' k0 N := hA.fr (fun b _ _ => hI.2.1 b (by omega))
    refine s_takesOf a' (by omega) ?_
    intro v5 e5
    subst e5
    refine s_step (m := 1) (by decide) hI.2.2 (fun h6 f6 p6 => ?_)
    intro v7 e7
    subst e7
    rw [nI_1, Nat.add_assoc]
    refine hK _ _ ⟨?_, hI.2.1.tr f6, p6⟩
    rw [pS, hI.1, hI.2.2.1]
