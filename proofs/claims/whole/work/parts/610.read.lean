/-! READ, REST, PACE, LEADS, SIGN -/
theorem s_left9 {a n : Nat} {h : Mem} {N : Row} {Q : Int32 → Mem → Prop} (hA : A9 h 1 N) (h0 : N 0 = nI a) (h4 : N 4 = nI n) (han : a ≤ n) (k : Q (nI (n - a)) h) : f_X6_linesAhead 1 h Q := by
  unfold f_X6_linesAhead
  rw [hA.1.1, hA.1.2.2.2.2.1, h0, h4, pk_sub han]
  exact k
theorem s_left10 {a n : Nat} {h : Mem} {N : Row} {Q : Int32 → Mem → Prop} (hB : A10 h 44 N) (h0 : N 0 = nI a) (h4 : N 4 = nI n) (han : a ≤ n) (k : Q (nI (n - a)) h) : f_X10_left h Q := by
  unfold f_X10_left
  rw [hB 0 (by decide), hB 4 (by decide), h0, h4, pk_sub han]
  exact k
theorem s_takesAhead9 {a m : Nat} {h : Mem} {N : Row} {Q : Int32 → Mem → Prop} (hA : A9 h 1 N) (h0 : N 0 = nI a) (ha : a + m ≤ 12) (k : ∀ h', Fr1 19 h h' → PcR h' 19 (PI m N) → Q (pS N N a m) h') : f_X9_takesAhead (nI m) h Q := by
  unfold f_X9_takesAhead
  refine s_takeFrom (P := N) (by decide) (by decide) (by decide) (fun j hj => hA.2.1 j (by omega)) (fun h1 f1 p1 => ?_)
  exact s_takesAhead (hA.fr (fun a _ _ => f1 a (by omega))) (by omega) p1 h0 ha (fun h2 f2 p2 => k h2 (f1.tr f2) p2)
theorem Fr1.g9 {q : Nat} {h h' : Mem} (f : Fr1 q h h') (hq : 13 ≤ q) (hq2 : q ≤ 29) : G9 h h' := fun a z => f a (by omega)
theorem Fr1.a9 {q : Nat} {h h' : Mem} {N : Row} (f : Fr1 q h h') (hq : 7 ≤ q) (hA : A9 h 1 N) : A9 h' 1 N := hA.fr (fun a _ _ => f a (by omega))
theorem s_read9 {a n m : Nat} {h : Mem} {N : Row} {Q : Int32 → Mem → Prop} (hA : A9 h 1 N) (h0 : N 0 = nI a) (ha : a + m ≤ 12) (k : ∀ h', A9 h' 1 (NR m N) → G9 h h' → Q (NR m N 1) h') : gm_it1 (f_X9_read_b53 (nI m) Q) gm_F (0 : Int32) h := by
  refine lo1 nI m (fun i h' => A9 h' 1 (NR i N) ∧ G9 h h') rfl (by omega) ⟨hA, G9.rf⟩ ?_ ?_
  · rintro K h' ⟨b, g⟩
    unfold f_X9_read_b53
    refine ifp (nI_le (Nat.le_refl _) (by omega)) ?_
    rw [b.1.2.1]
    exact k h' b g
  · rintro K i h' hi ⟨b, g⟩ hK
    unfold f_X9_read_b53
    refine ifn (nI_ge hi (by omega)) (s_readOne b (by omega) (NR_0 h0 i) (by omega) (fun h2 b2 f2 => nm ?_))
    rw [nI_1]
    exact hK _ ⟨b2, g.tr (fun a q => f2 a (by omega) (by omega) (by omega))⟩
theorem pair_read (a1 : Int32) (h : Mem) (hI : Inv h) : f_X9_read a1 h (fun r h1 => f_X10_read a1 h1 (fun r2 h2 => r = r2 ∧ Inv h2)) := by
  obtain ⟨N, hV⟩ := hI
  obtain ⟨a, n, han, hn, h0, h4, hw, hs⟩ := hV.1.1
  have hA := hV.2.1
  by_cases hk : (1 : Int32) ≤ a1 ∧ a1 ≤ 12
  · obtain ⟨m, hm, rfl⟩ := sm (m := 12) (by decide) (by have := hk.1; rw [fa_le, i1] at this; rw [fa_le, i0]; omega) hk.2
    by_cases hl : m ≤ n - a
    · have e1 : tS N m = pS N N a m := tS_pS h0 m (by omega)
      have rg := pS_rng (N := N) (P := N) (a := a) hV.1.2.2.1 hV.1.2.2.2.1 m (by omega)
      have ck := hV.1.2.1
      obtain ⟨M, hM⟩ : ∃ M : Int32, M = (9999999 : Int32) := ⟨_, rfl⟩
      have em : M.toInt = 9999999 := by rw [hM]; rfl
      have s1 : (M - pS N N a m).toInt = 9999999 - (pS N N a m).toInt := by rw [fb_subI (by rw [em]; omega) (by rw [em]; omega), em]
      have s2 : (M - N 1).toInt = 9999999 - (N 1).toInt := by rw [fb_subI (by rw [em]; omega) (by rw [em]; omega), em]
      by_cases hc : N 1 ≤ M - pS N N a m
      · have hc' : pS N N a m ≤ M - N 1 := by rw [fa_le, s2]; rw [fa_le, s1] at hc; omega
        have hD : Dom (NR m N) := by
          have x : DX (NR m N) := DX.NR ⟨hV.1.1, hV.1.2.2.1, hV.1.2.2.2⟩ h0 h4 hn m (by omega)
          refine ⟨x.1, ?_, x.2.1, x.2.2⟩
          rw [fa_le, s1] at hc
          rw [NR_1, e1, add_i ck.1 rg.1 (by omega)]
          omega
        refine pr_ok (f9 := f_X9_read _) (f10 := f_X10_read _) (r := NR m N 1) (N' := NR m N) hV hD (fun Q k => ?_) (fun h Q hB _ k => ?_)
        · unfold f_X9_read
          rw [← hM]
          refine win9 hk.1 hk.2 (ifn oz (s_left9 hA h0 h4 han (ifn (nI_nlt hl (by omega)) (s_takesAhead9 hA h0 (by omega) (fun h1 f1 p1 => nm ?_)))))
          rw [hA.1.2.1]
          exact ifp hc (s_read9 (n := n) (f1.a9 (by decide) hA) h0 (by omega) (fun h2 b2 g2 => k h2 b2 ((f1.g9 (by decide) (by decide)).tr g2)))
        · unfold f_X10_read f_X10_read_b65
          rw [← hM]
          refine win10 hk.1 hk.2 (ifn oz (s_left10 hB h0 h4 han (ifp (nI_le hl (by omega)) (s_copyRow (by decide) hB (fun h1 b1 f1 => s_readsOn (hB.fr (f1 44 (by decide))) h0 (by omega) (fun h2 b2 f2 => nm ?_))))))
          rw [f2 46 (by decide), b1 1 (by decide), e1]
          refine ifp hc' (ifp rfl ?_)
          rw [b2 1 (by decide)]
          exact k h2 b2 (Fr2.g10 (fun a x y => (f2 a x).trans (f1 a y)))
      · have hc' : ¬ pS N N a m ≤ M - N 1 := by rw [fa_le, s2]; rw [fa_le, s1] at hc; omega
        refine pr_no (f9 := f_X9_read _) (f10 := f_X10_read _) (w := id) 4 (by decide) hV (fun Q k => ?_) (fun h Q hB _ k => ?_)
        · unfold f_X9_read
          rw [← hM]
          refine win9 hk.1 hk.2 (ifn oz (s_left9 hA h0 h4 han (ifn (nI_nlt hl (by omega)) (s_takesAhead9 hA h0 (by omega) (fun h1 f1 p1 => nm ?_)))))
          rw [hA.1.2.1]
          exact ifn hc (k h1 (f1.a9 (by decide) hA) (f1.g9 (by decide) (by decide)))
        · unfold f_X10_read f_X10_read_b65
          rw [← hM]
          refine win10 hk.1 hk.2 (ifn oz (s_left10 hB h0 h4 han (ifp (nI_le hl (by omega)) (s_copyRow (by decide) hB (fun h1 b1 f1 => s_readsOn (hB.fr (f1 44 (by decide))) h0 (by omega) (fun h2 b2 f2 => nm ?_))))))
          rw [f2 46 (by decide), b1 1 (by decide), e1]
          exact ifn hc' (ifn oz (s_putBack (b1.fr (f2 46 (by decide))) (fun h3 b3 f3 => k h3 b3 (Fr2.g10 (fun a x y => (f3 a x).trans ((f2 a x).trans (f1 a y)))))))
    · refine pr_no (f9 := f_X9_read _) (f10 := f_X10_read _) (w := id) 4 (by decide) hV (fun Q k => ?_) (fun h Q hB _ k => ?_)
      · unfold f_X9_read
        exact win9 hk.1 hk.2 (ifn oz (s_left9 hA h0 h4 han (ifp (nI_lt (by omega) (by omega)) (k h hA G9.rf))))
      · unfold f_X10_read
        exact win10 hk.1 hk.2 (ifn oz (s_left10 hB h0 h4 han (ifn (nI_ge (by omega) (by omega)) (k h hB G10.rf))))
  · refine pr_no (f9 := f_X9_read _) (f10 := f_X10_read _) (w := id) 0 (by decide) hV (fun Q k => ?_) (fun h Q hB _ k => ?_)
    · unfold f_X9_read
      exact wout9 hk (ifp rfl (k h hA G9.rf))
    · unfold f_X10_read
      exact wout10 hk (ifp rfl (k h hB G10.rf))
/-! what lies ahead -/
def trS (N : Row) (a : Nat) : Nat → Int32
  | 0 => 0
  | i + 1 => trS N a i + tr N (a + i)
def seS (N : Row) (a : Nat) : Nat → Int32
  | 0 => 0
  | i + 1 => seS N a i + se N (a + i)
theorem s_tripsAhead {a n : Nat} {h : Mem} {N : Row} {Q : Int32 → Mem → Prop} (hA : A9 h 1 N) (h0 : N 0 = nI a) (h4 : N 4 = nI n) (han : a ≤ n) (hn : n ≤ 12) (k : Q (trS N a (n - a)) h) : f_X6_tripsAhead 1 h Q := by
  unfold f_X6_tripsAhead
  rw [hA.1.1, h0]
  refine nm (lo2 (fun i => nI (a + i)) (n - a) (fun i v h' => h' = h ∧ v = trS N a i) rfl (by omega) ⟨rfl, rfl⟩ ?_ ?_)
  · rintro K v h' ⟨rfl, rfl⟩
    unfold f_X6_tripsAhead_b7
    rw [hA.1.2.2.2.2.1, h4]
    exact ifp (nI_le (by omega) (by omega)) k
  · rintro K i v h' hi ⟨rfl, rfl⟩ hK
    unfold f_X6_tripsAhead_b7
    rw [hA.1.2.2.2.2.1, h4]
    refine ifn (nI_ge (by omega) (by omega)) (s_tripsOf hA (by omega) (nm (nm ?_)))
    rw [nI_1]
    exact hK _ _ ⟨rfl, rfl⟩
theorem s_seenAhead {a n : Nat} {h : Mem} {N : Row} {Q : Int32 → Mem → Prop} (hA : A9 h 1 N) (h0 : N 0 = nI a) (h4 : N 4 = nI n) (han : a ≤ n) (hn : n ≤ 12) (k : Q (seS N a (n - a)) h) : f_X6_seenAhead 1 h Q := by
  unfold f_X6_seenAhead
  rw [hA.1.1, h0]
  refine nm (lo2 (fun i => nI (a + i)) (n - a) (fun i v h' => h' = h ∧ v = seS N a i) rfl (by omega) ⟨rfl, rfl⟩ ?_ ?_)
  · rintro K v h' ⟨rfl, rfl⟩
    unfold f_X6_seenAhead_b7
    rw [hA.1.2.2.2.2.1, h4]
    exact ifp (nI_le (by omega) (by omega)) k
  · rintro K i v h' hi ⟨rfl, rfl⟩ hK
    unfold f_X6_seenAhead_b7
    rw [hA.1.2.2.2.2.1, h4]
    refine ifn (nI_ge (by omega) (by omega)) (s_seenOf hA (by omega) (nm (nm ?_)))
    rw [nI_1]
    exact hK _ _ ⟨rfl, rfl⟩
theorem s_restTrips {a n : Nat} {h : Mem} {N : Row} {Q : Int32 → Mem → Prop} (hB : A10 h 44 N) (h0 : N 0 = nI a) (h4 : N 4 = nI n) (han : a ≤ n) (hn : n ≤ 12) (k : Q (trS N a (n - a)) h) : f_X10_restTrips h Q := by
  unfold f_X10_restTrips
  rw [hB 0 (by decide), h0]
  refine nm (lo2 (fun i => nI (a + i)) (n - a) (fun i v h' => h' = h ∧ v = trS N a i) rfl (by omega) ⟨rfl, rfl⟩ ?_ ?_)
  · rintro K v h' ⟨rfl, rfl⟩
    unfold f_X10_restTrips_b9
    rw [hB 4 (by decide), h4]
    exact ifp (nI_le (by omega) (by omega)) k
  · rintro K i v h' hi ⟨rfl, rfl⟩ hK
    unfold f_X10_restTrips_b9
    rw [hB 4 (by decide), h4]
    refine ifn (nI_ge (by omega) (by omega)) (s_trips10 hB (by omega) (nm (nm ?_)))
    rw [nI_1]
    exact hK _ _ ⟨rfl, rfl⟩
theorem s_restSeen {a n : Nat} {h : Mem} {N : Row} {Q : Int32 → Mem → Prop} (hB : A10 h 44 N) (h0 : N 0 = nI a) (h4 : N 4 = nI n) (han : a ≤ n) (hn : n ≤ 12) (k : Q (seS N a (n - a)) h) : f_X10_restSeen h Q := by
  unfold f_X10_restSeen
  rw [hB 0 (by decide), h0]
  refine nm (lo2 (fun i => nI (a + i)) (n - a) (fun i v h' => h' = h ∧ v = seS N a i) rfl (by omega) ⟨rfl, rfl⟩ ?_ ?_)
  · rintro K v h' ⟨rfl, rfl⟩
    unfold f_X10_restSeen_b9
    rw [hB 4 (by decide), h4]
    exact ifp (nI_le (by omega) (by omega)) k
  · rintro K i v h' hi ⟨rfl, rfl⟩ hK
    unfold f_X10_restSeen_b9
    rw [hB 4 (by decide), h4]
    refine ifn (nI_ge (by omega) (by omega)) (s_seen10 hB (by omega) (nm (nm ?_)))
    rw [nI_1]
    exact hK _ _ ⟨rfl, rfl⟩
/-- the reference turns in its row, and writes the reader's pace once more -/
theorem turn_again (N : Row) : upd (n_turn N) 6 (n_turn N 6) = n_turn N := fa_upd_same rfl
theorem PI_back {N : Row} {m : Nat} : ∀ i, upd (upd (PI m N) 6 (N 6)) 7 (N 7) i = N i := by
  intro i
  by_cases h7 : i = 7
  · subst h7; rw [up_s]
  · rw [up_n h7]
    by_cases h6 : i = 6
    · subst h6; rw [up_s]
    · rw [up_n h6, PI_O N h6 h7]
theorem s_paceThen {m w : Nat} {h : Mem} {N : Row} {Q : Int32 → Mem → Prop} (hB : A10 h 44 N) (hm : m < 1000000) (hw : w < 2) (k : ∀ h', A10 h' 44 N → Fr1 44 h h' → Q (PI m N (6 + w)) h') : f_X10_paceThen (nI m) (nI w) h Q := by
  unfold f_X10_paceThen
  rw [hB 6 (by decide), hB 7 (by decide)]
  refine nm (nm (lo1 nI m (fun i h' => A10 h' 44 (PI i N) ∧ Fr1 44 h h') rfl hm ⟨hB, Fr1.rf⟩ ?_ ?_))
  · rintro K h' ⟨b, f⟩
    unfold f_X10_paceThen_b20
    rw [add6, cl (by omega), b _ (by omega)]
    refine ifp (nI_le (Nat.le_refl _) (by omega)) ⟨vi (by omega) (by decide), nm (nm (nm (k _ (b.st.st.same (fun i _ => (PI_back i).symm)) (Fr1.st (Fr1.st f))))) ⟩
  · rintro K i h' hi ⟨b, f⟩ hK
    unfold f_X10_paceThen_b20
    refine ifn (nI_ge hi (by omega)) (s_turns10 b (fun h2 b2 f2 => nm (nm ?_)))
    rw [nI_1]
    refine hK _ ⟨?_, Fr1.st (f.tr f2)⟩
    have := b2.st (j := 6) (v := n_turn (PI i N) 6)
    rw [turn_again] at this
    exact this
