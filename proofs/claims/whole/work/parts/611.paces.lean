/-! REST, PACE, LEADS, SIGN -/
theorem pair_rest (a1 : Int32) (h : Mem) (hI : Inv h) : f_X9_rest a1 h (fun r h1 => f_X10_rest a1 h1 (fun r2 h2 => r = r2 ∧ Inv h2)) := by
  obtain ⟨N, hV⟩ := hI
  obtain ⟨a, n, han, hn, h0, h4, hw, hs⟩ := hV.1.1
  have hA := hV.2.1
  by_cases hk : (0 : Int32) ≤ a1 ∧ a1 ≤ 4
  · obtain ⟨j, hj, rfl⟩ := sm (m := 4) (by decide) hk.1 hk.2
    have hj : j = 0 ∨ j = 1 ∨ j = 2 ∨ j = 3 ∨ j = 4 := by omega
    rcases hj with rfl | rfl | rfl | rfl | rfl
    · refine pr_ok (f9 := f_X9_rest _) (f10 := f_X10_rest _) (r := tS N (n - a)) (N' := N) hV hV.1 (fun Q k => ?_) (fun h Q hB _ k => ?_)
      · unfold f_X9_rest
        refine win9 hk.1 hk.2 (ifn oz (ifn (by decide) (ifn (by decide) (s_left9 hA h0 h4 han (s_takesAhead9 hA h0 (by omega) (fun h1 f1 p1 => ifp rfl ?_))))))
        rw [← tS_pS h0 (n - a) (by omega)]
        exact k h1 (f1.a9 (by decide) hA) (f1.g9 (by decide) (by decide))
      · unfold f_X10_rest
        exact win10 hk.1 hk.2 (ifn oz (ifn (by decide) (ifp rfl (s_restTakes hB h0 h4 han hn (fun h1 b1 f1 => k h1 b1 f1.g10)))))
    · refine pr_ok (f9 := f_X9_rest _) (f10 := f_X10_rest _) (r := trS N a (n - a)) (N' := N) hV hV.1 (fun Q k => ?_) (fun h Q hB _ k => ?_)
      · unfold f_X9_rest
        exact win9 hk.1 hk.2 (ifn oz (ifp rfl (s_tripsAhead hA h0 h4 han hn (k h hA G9.rf))))
      · unfold f_X10_rest
        exact win10 hk.1 hk.2 (ifn oz (ifn (by decide) (ifn (by decide) (ifp rfl (s_restTrips hB h0 h4 han hn (k h hB G10.rf))))))
    · refine pr_ok (f9 := f_X9_rest _) (f10 := f_X10_rest _) (r := seS N a (n - a)) (N' := N) hV hV.1 (fun Q k => ?_) (fun h Q hB _ k => ?_)
      · unfold f_X9_rest
        exact win9 hk.1 hk.2 (ifn oz (ifn (by decide) (ifp rfl (s_seenAhead hA h0 h4 han hn (k h hA G9.rf)))))
      · unfold f_X10_rest
        exact win10 hk.1 hk.2 (ifn oz (ifn (by decide) (ifn (by decide) (ifn (by decide) (s_restSeen hB h0 h4 han hn (k h hB G10.rf))))))
    · refine pr_ok (f9 := f_X9_rest _) (f10 := f_X10_rest _) (r := PI (n - a) N 6) (N' := N) hV hV.1 (fun Q k => ?_) (fun h Q hB _ k => ?_)
      · unfold f_X9_rest
        refine win9 hk.1 hk.2 (ifn oz (ifn (by decide) (ifn (by decide) (s_left9 hA h0 h4 han (s_takesAhead9 hA h0 (by omega) (fun h1 f1 p1 => ifn (by decide) (ifp rfl ?_)))))))
        rw [p1.1]
        exact k h1 (f1.a9 (by decide) hA) (f1.g9 (by decide) (by decide))
      · unfold f_X10_rest
        have e : nI 3 - (3 : Int32) = nI 0 := by decide
        refine win10 hk.1 hk.2 (ifn oz (ifp (by decide) (s_left10 hB h0 h4 han ?_)))
        rw [e]
        exact s_paceThen (w := 0) hB (by omega) (by decide) (fun h1 b1 f1 => k h1 b1 f1.g10)
    · refine pr_ok (f9 := f_X9_rest _) (f10 := f_X10_rest _) (r := PI (n - a) N 7) (N' := N) hV hV.1 (fun Q k => ?_) (fun h Q hB _ k => ?_)
      · unfold f_X9_rest
        refine win9 hk.1 hk.2 (ifn oz (ifn (by decide) (ifn (by decide) (s_left9 hA h0 h4 han (s_takesAhead9 hA h0 (by omega) (fun h1 f1 p1 => ifn (by decide) (ifn (by decide) ?_)))))))
        rw [p1.2.1]
        exact k h1 (f1.a9 (by decide) hA) (f1.g9 (by decide) (by decide))
      · unfold f_X10_rest
        have e : nI 4 - (3 : Int32) = nI 1 := by decide
        refine win10 hk.1 hk.2 (ifn oz (ifp (by decide) (s_left10 hB h0 h4 han ?_)))
        rw [e]
        exact s_paceThen (w := 1) hB (by omega) (by decide) (fun h1 b1 f1 => k h1 b1 f1.g10)
  · refine pr_no (f9 := f_X9_rest _) (f10 := f_X10_rest _) (w := id) 0 (by decide) hV (fun Q k => ?_) (fun h Q hB _ k => ?_)
    · unfold f_X9_rest
      exact wout9 hk (ifp rfl (k h hA G9.rf))
    · unfold f_X10_rest
      exact wout10 hk (ifp rfl (k h hB G10.rf))
theorem s_from19 {h : Mem} {N : Row} {Q : Mem → Prop} (hA : A9 h 1 N) (k : ∀ h', Fr1 19 h h' → PcR h' 19 N → Q h') : f_X1_takeFrom 19 5 10 h Q :=
  s_takeFrom (P := N) (by decide) (by decide) (by decide) (fun j hj => hA.2.1 j (by omega)) k
theorem pair_pace (a1 a2 : Int32) (h : Mem) (hI : Inv h) : f_X9_pace a1 a2 h (fun r h1 => f_X10_pace a1 a2 h1 (fun r2 h2 => r = r2 ∧ Inv h2)) := by
  obtain ⟨N, hV⟩ := hI
  have hA := hV.2.1
  by_cases hk : (0 : Int32) ≤ a1 ∧ a1 ≤ 200
  · obtain ⟨m, hm, rfl⟩ := sm (m := 200) (by decide) hk.1 hk.2
    by_cases hv : (0 : Int32) ≤ a2 ∧ a2 ≤ 1
    · obtain ⟨w, hw, rfl⟩ := sm (m := 1) (by decide) hv.1 hv.2
      refine pr_ok (f9 := f_X9_pace _ _) (f10 := f_X10_pace _ _) (r := PI m N (6 + w)) (N' := N) hV hV.1 (fun Q k => ?_) (fun h Q hB _ k => ?_)
      · unfold f_X9_pace
        refine win9 hk.1 hk.2 (ifn oz (win9 hv.1 hv.2 (ifn oz (s_from19 hA (fun h1 f1 p1 => s_step (by omega) p1 (fun h2 f2 p2 => ?_))))))
        have k' := k h2 ((f1.tr f2).a9 (by decide) hA) ((f1.tr f2).g9 (by decide) (by decide))
        have hw : w = 0 ∨ w = 1 := by omega
        rcases hw with rfl | rfl
        · refine ifp rfl ?_
          rw [p2.1]
          exact k'
        · refine ifn (by decide) ?_
          rw [p2.2.1]
          exact k'
      · unfold f_X10_pace
        exact win10 hk.1 hk.2 (ifn oz (win10 hv.1 hv.2 (ifn oz (s_paceThen hB (by omega) (by omega) (fun h1 b1 f1 => k h1 b1 f1.g10)))))
    · refine pr_no (f9 := f_X9_pace _ _) (f10 := f_X10_pace _ _) (w := id) 0 (by decide) hV (fun Q k => ?_) (fun h Q hB _ k => ?_)
      · unfold f_X9_pace
        exact win9 hk.1 hk.2 (ifn oz (wout9 hv (ifp rfl (k h hA G9.rf))))
      · unfold f_X10_pace
        exact win10 hk.1 hk.2 (ifn oz (wout10 hv (ifp rfl (k h hB G10.rf))))
  · refine pr_no (f9 := f_X9_pace _ _) (f10 := f_X10_pace _ _) (w := id) 0 (by decide) hV (fun Q k => ?_) (fun h Q hB _ k => ?_)
    · unfold f_X9_pace
      exact wout9 hk (ifp rfl (k h hA G9.rf))
    · unfold f_X10_pace
      exact wout10 hk (ifp rfl (k h hB G10.rf))
def p_abs (x : Int32) : Int32 := if 0 ≤ x then x else 0 - x
def p_leads (x y : Int32) : Int32 := if x = y then 2 else if y ≤ x then 1 else 0
theorem pair_leads (h : Mem) (hI : Inv h) : f_X9_leads h (fun r h1 => f_X10_leads h1 (fun r2 h2 => r = r2 ∧ Inv h2)) := by
  obtain ⟨N, hV⟩ := hI
  have hA := hV.2.1
  obtain ⟨S, eS⟩ : ∃ S, S = PI 200 N 6 + PI 200 N 7 := ⟨_, rfl⟩
  refine pr_ok (f9 := f_X9_leads) (f10 := f_X10_leads) (r := p_leads (p_abs (S - 2 * N 6)) (p_abs (S - 2 * N 7))) (N' := N) hV hV.1 (fun Q k => ?_) (fun h Q hB _ k => ?_)
  · unfold f_X9_leads
    refine s_from19 hA (fun h1 f1 p1 => s_step (m := 200) (by decide) p1 (fun h2 f2 p2 => ?_))
    have b2 := (f1.tr f2).a9 (by decide) hA
    have k' := k h2 b2 ((f1.tr f2).g9 (by decide) (by decide))
    rw [p2.1, p2.2.1, ← eS, b2.2.1 0 (by decide), b2.2.1 1 (by decide)]
    refine nm (nm (nm ?_))
    unfold p_leads at k'
    by_cases q : p_abs (S - 2 * N 6) = p_abs (S - 2 * N 7)
    · rw [if_pos q] at k'
      exact ifp q k'
    · rw [if_neg q] at k'
      refine ifn q ?_
      by_cases q2 : p_abs (S - 2 * N 7) ≤ p_abs (S - 2 * N 6)
      · rw [if_pos q2] at k'
        exact ifp q2 k'
      · rw [if_neg q2] at k'
        exact ifn q2 k'
  · unfold f_X10_leads
    refine s_paceThen (m := 200) (w := 0) hB (by decide) (by decide) (fun h1 b1 f1 => s_paceThen (m := 200) (w := 1) b1 (by decide) (by decide) (fun h2 b2 f2 => ?_))
    have k' := k h2 b2 (f1.tr f2).g10
    show ∀ v_5 : Int32, v_5 = PI 200 N 6 + PI 200 N 7 → _
    rw [← eS, b2 6 (by decide), b2 7 (by decide)]
    refine nm (nm (nm ?_))
    unfold p_leads at k'
    by_cases q : p_abs (S - 2 * N 6) = p_abs (S - 2 * N 7)
    · rw [if_pos q] at k'
      have q := (fa_eq _ _).mp q
      exact ifp ((fa_le _ _).mpr (by show (p_abs _).toInt ≤ (p_abs _).toInt; omega)) (ifp ((fa_le _ _).mpr (by show (p_abs _).toInt ≤ (p_abs _).toInt; omega)) k')
    · rw [if_neg q] at k'
      by_cases q2 : p_abs (S - 2 * N 7) ≤ p_abs (S - 2 * N 6)
      · rw [if_pos q2] at k'
        refine ifp q2 (ifn (fun q3 => q ?_) k')
        have q3 : p_abs (S - 2 * N 6) ≤ p_abs (S - 2 * N 7) := q3
        rw [fa_le] at q2 q3
        rw [fa_eq]
        omega
      · rw [if_neg q2] at k'
        exact ifn q2 k'
/-! sign -/
def hit (P : Row) (i : Nat) : Bool := decide (PI i P 6 = P 6 ∧ PI i P 7 = P 7)
def hits (P : Row) : Nat → Bool
  | 0 => false
  | i + 1 => hits P i || hit P (i + 1)
theorem hits_mono {P : Row} {i : Nat} (h : hits P i = true) : ∀ j, hits P (i + j) = true
  | 0 => h
  | j + 1 => by rw [← Nat.add_assoc, hits, hits_mono h j]; rfl
def p_habit (P : Row) : Int32 := if hit P 1 = true then 0 else if (50 : Int32) ≤ P 6 ∧ (50 : Int32) ≤ P 7 then 1 else if hits P 100 = true then 2 else 3
theorem s_are {q : Nat} {r k : Int32} {h : Mem} {P : Row} {Q : Int32 → Mem → Prop} (hP : PcR h q P) (kk : Q (if P 6 = r ∧ P 7 = k then 1 else 0) h) : f_X1_are q r k h Q := by
  unfold f_X1_are
  rw [hP.1, hP.2.1]
  by_cases e1 : P 6 = r
  · by_cases e2 : P 7 = k
    · rw [if_pos ⟨e1, e2⟩] at kk
      exact ifp e1 (ifp e2 kk)
    · rw [if_neg (fun z => e2 z.2)] at kk
      exact ifp e1 (ifn e2 kk)
  · rw [if_neg (fun z => e1 z.1)] at kk
    exact ifn e1 kk
theorem s_habit {q : Nat} {h : Mem} {P : Row} {Q : Int32 → Mem → Prop} (hP : PcR h q P) (k : ∀ h', Fr1 q h h' → Q (p_habit P) h') : f_X1_habit q h Q := by
  unfold f_X1_habit
  rw [hP.1, hP.2.1]
  refine nm (nm (s_step (m := 1) (by decide) hP (fun h1 f1 p1 => s_are p1 ?_)))
  unfold p_habit hit at k
  by_cases c : PI 1 P 6 = P 6 ∧ PI 1 P 7 = P 7
  · rw [if_pos c]
    rw [if_pos (decide_eq_true c)] at k
    exact ifn oz (k h1 f1)
  · rw [if_neg c]
    rw [if_neg (by rw [decide_eq_false c]; decide)] at k
    refine ifp rfl ?_
    have lp : ¬ ((50 : Int32) ≤ P 6 ∧ (50 : Int32) ≤ P 7) → gm_it1 (f_X1_habit_b42 q (P 6) (P 7) Q) gm_F (2 : Int32) h1 := by
      intro ns
      rw [if_neg ns] at k
      refine lo1 (fun i => nI (i + 2)) 99 (fun i h' => Fr1 q h h' ∧ PcR h' q (PI (i + 1) P) ∧ hits P (i + 1) = false) rfl (by decide) ⟨f1, p1, ?_⟩ ?_ ?_
      · show (false || hit P 1) = false
        unfold hit
        rw [decide_eq_false c]
        rfl
      · rintro K h' ⟨g1, g2, g3⟩
        unfold f_X1_habit_b42
        rw [if_neg (by rw [g3]; decide)] at k
        exact ifp (by decide) (k h' g1)
      · rintro K i h' hi ⟨g1, g2, g3⟩ hK
        unfold f_X1_habit_b42
        refine ifn (nI_nlt (a := 100) (b := i + 2) (by omega) (by omega)) (s_step (m := 1) (by decide) g2 (fun h2 f2 p2 => ?_))
        have p2 : PcR h2 q (PI (i + 2) P) := p2
        refine s_are p2 ?_
        by_cases c2 : PI (i + 2) P 6 = P 6 ∧ PI (i + 2) P 7 = P 7
        · rw [if_pos c2]
          have : hits P 100 = true := by
            have : hits P (i + 2) = true := by
              rw [hits]
              unfold hit
              rw [decide_eq_true c2, Bool.or_true]
            have := hits_mono this (100 - (i + 2))
            rw [show i + 2 + (100 - (i + 2)) = 100 by omega] at this
            exact this
          rw [if_pos this] at k
          exact ifn oz (k h2 (g1.tr f2))
        · rw [if_neg c2]
          refine ifp rfl (nm ?_)
          rw [nI_1]
          refine hK h2 ⟨g1.tr f2, p2, ?_⟩
          rw [hits, g3]
          unfold hit
          rw [decide_eq_false c2]
          rfl
    by_cases s1 : P 6 < 50
    · exact ifp s1 (lp (fun z => by have := z.1; rw [fa_le] at this; rw [fa_lt] at s1; omega))
    · refine ifn s1 ?_
      by_cases s2 : P 7 < 50
      · exact ifp s2 (lp (fun z => by have := z.2; rw [fa_le] at this; rw [fa_lt] at s2; omega))
      · rw [if_pos ⟨fa_of_nlt s1, fa_of_nlt s2⟩] at k
        exact ifn s2 (k h1 f1)
theorem s_signThen {h : Mem} {P : Row} {Q : Int32 → Mem → Prop} (hB : A10 h 44 P) (k : ∀ h' M, A10 h' 44 M → (∀ i, i ≠ 6 → i ≠ 7 → M i = P i) → Fr1 44 h h' → Q (p_habit P) h') : f_X10_signThen h Q := by
  unfold f_X10_signThen
  rw [hB 6 (by decide), hB 7 (by decide)]
  have fin : ∀ (v : Int32) (i : Nat) (h' : Mem), i ≤ 100 → (v = 1 ∧ hits P i = true ∧ hits P (i - 1) = false ∧ 0 < i ∨ v = 0 ∧ hits P i = false ∧ i = 100) → Q (p_habit P) h' → f_X10_signThen_b77 Q (P 6) (P 7) v (nI i) h' := by
    intro v i h' hi hv hQ
    unfold f_X10_signThen_b77 f_X10_signThen_b91 f_X10_signThen_b107
    unfold p_habit at hQ
    have sl : ∀ X : Prop, (¬ ((50 : Int32) ≤ P 6 ∧ (50 : Int32) ≤ P 7) → X) → (((50 : Int32) ≤ P 6 ∧ (50 : Int32) ≤ P 7) → Q 1 h') → if P 6 < 50 then X else if P 7 < 50 then X else Q 1 h' := by
      intro X x1 x2
      by_cases s1 : P 6 < 50
      · exact ifp s1 (x1 (fun z => by have := z.1; rw [fa_le] at this; rw [fa_lt] at s1; omega))
      · refine ifn s1 ?_
        by_cases s2 : P 7 < 50
        · exact ifp s2 (x1 (fun z => by have := z.2; rw [fa_le] at this; rw [fa_lt] at s2; omega))
        · exact ifn s2 (x2 ⟨fa_of_nlt s1, fa_of_nlt s2⟩)
    rcases hv with ⟨rfl, g1, g2, g3⟩ | ⟨rfl, g1, g2⟩
    · refine ifn oz ?_
      have h100 : hits P 100 = true := by
        have := hits_mono g1 (100 - i)
        rw [show i + (100 - i) = 100 by omega] at this
        exact this
      by_cases e1 : i = 1
      · subst e1
        have : hit P 1 = true := by
          have z : hits P 1 = hit P 1 := by show (false || hit P 1) = _; rfl
          rw [← z]; exact g1
        rw [if_pos this] at hQ
        exact ifp rfl hQ
      · have n1 : ¬ hit P 1 = true := by
          intro z
          have z1 : hits P 1 = true := by show (false || hit P 1) = _; rw [z]; rfl
          have := hits_mono z1 (i - 1 - 1)
          rw [show 1 + (i - 1 - 1) = i - 1 by omega, g2] at this
          cases this
        rw [if_neg n1] at hQ
        refine ifn (fun q => e1 ((nI_eq (b := 1) (by omega) (by decide)).mp q)) (sl _ (fun ns => ifn oz ?_) (fun ys => ?_))
        · rw [if_neg ns, if_pos h100] at hQ
          exact hQ
        · rw [if_pos ys] at hQ
          exact hQ
    · subst g2
      have n1 : ¬ hit P 1 = true := by
        intro z
        have z1 : hits P 1 = true := by show (false || hit P 1) = _; rw [z]; rfl
        have := hits_mono z1 99
        rw [g1] at this
        cases this
      rw [if_neg n1] at hQ
      refine ifp rfl (sl _ (fun ns => ifp rfl ?_) (fun ys => ?_))
      · rw [if_neg ns, if_neg (by rw [g1]; decide)] at hQ
        exact hQ
      · rw [if_pos ys] at hQ
        exact hQ
  refine nm (nm (lo2 nI 100 (fun i v h' => A10 h' 44 (PI i P) ∧ Fr1 44 h h' ∧ (v = 1 ∧ hits P i = true ∧ hits P (i - 1) = false ∧ 0 < i ∨ v = 0 ∧ hits P i = false)) rfl (by decide) ⟨hB, Fr1.rf, Or.inr ⟨rfl, rfl⟩⟩ ?_ ?_))
  · rintro K v h' ⟨g1, g2, g3⟩
    unfold f_X10_signThen_b21
    refine ifp (by decide) (fin v 100 h' (by decide) ?_ (k h' _ g1 (fun i x y => PI_O P x y 100) g2))
    rcases g3 with g | g
    · exact Or.inl g
    · exact Or.inr ⟨g.1, g.2, rfl⟩
  · rintro K i v h' hi ⟨g1, g2, g3⟩ hK
    unfold f_X10_signThen_b21
    refine ifn (nI_ge (b := 100) hi (by decide)) ?_
    rcases g3 with ⟨rfl, g4, g5, g6⟩ | ⟨rfl, g4⟩
    · exact ifn oz (fin 1 i h' (by omega) (Or.inl ⟨rfl, g4, g5, g6⟩) (k h' _ g1 (fun j x y => PI_O P x y i) g2))
    · refine ifp rfl (s_turns10 g1 (fun h2 b2 f2 => nm ?_))
      have b3 := b2.st (j := 6) (v := n_turn (PI i P) 6)
      rw [turn_again] at b3
      have b3 : A10 (gm_st h2 44 6 (n_turn (PI i P) 6)) 44 (PI (i + 1) P) := b3
      have f3 : Fr1 44 h (gm_st h2 44 6 (n_turn (PI i P) 6)) := Fr1.st (g2.tr f2)
      rw [b3 6 (by decide), b3 7 (by decide), nI_1]
      by_cases c1 : PI (i + 1) P 6 = P 6
      · by_cases c2 : PI (i + 1) P 7 = P 7
        · refine ifp c1 (ifp c2 (nm (hK _ _ ⟨b3, f3, Or.inl ⟨rfl, ?_, g4, by omega⟩⟩)))
          rw [hits]; unfold hit; rw [decide_eq_true ⟨c1, c2⟩, Bool.or_true]
        · refine ifp c1 (ifn c2 (nm (hK _ _ ⟨b3, f3, Or.inr ⟨rfl, ?_⟩⟩)))
          rw [hits, g4]; unfold hit; rw [decide_eq_false (fun z => c2 z.2)]; rfl
      · refine ifn c1 (nm (hK _ _ ⟨b3, f3, Or.inr ⟨rfl, ?_⟩⟩))
        rw [hits, g4]; unfold hit; rw [decide_eq_false (fun z => c1 z.1)]; rfl
theorem pair_sign (h : Mem) (hI : Inv h) : f_X9_sign h (fun r h1 => f_X10_sign h1 (fun r2 h2 => r = r2 ∧ Inv h2)) := by
  obtain ⟨N, hV⟩ := hI
  have hA := hV.2.1
  refine pr_ok (f9 := f_X9_sign) (f10 := f_X10_sign) (r := p_habit (PI 200 N)) (N' := N) hV hV.1 (fun Q k => ?_) (fun h Q hB _ k => ?_)
  · unfold f_X9_sign
    exact s_from19 hA (fun h1 f1 p1 => s_step (m := 200) (by decide) p1 (fun h2 f2 p2 => s_habit p2 (fun h3 f3 => k h3 (((f1.tr f2).tr f3).a9 (by decide) hA) (((f1.tr f2).tr f3).g9 (by decide) (by decide)))))
  · unfold f_X10_sign
    rw [hB 6 (by decide), hB 7 (by decide)]
    refine nm (nm (lo1 nI 200 (fun i h' => A10 h' 44 (PI i N) ∧ Fr1 44 h h') rfl (by decide) ⟨hB, Fr1.rf⟩ ?_ ?_))
    · rintro K h' ⟨b, f⟩
      unfold f_X10_sign_b18
      refine ifp (by decide) (s_signThen b (fun h2 M b2 m2 f2 => nm (nm (k _ ?_ (Fr1.g10 (Fr1.st (Fr1.st (f.tr f2))))))))
      refine b2.st.st.same (fun i _ => ?_)
      by_cases h7 : i = 7
      · subst h7; rw [up_s]
      · rw [up_n h7]
        by_cases h6 : i = 6
        · subst h6; rw [up_s]
        · rw [up_n h6, m2 i h6 h7, PI_O N h6 h7]
    · rintro K i h' hi ⟨b, f⟩ hK
      unfold f_X10_sign_b18
      refine ifn (nI_ge (b := 200) hi (by decide)) (s_turns10 b (fun h2 b2 f2 => nm (nm ?_)))
      rw [nI_1]
      refine hK _ ⟨?_, Fr1.st (f.tr f2)⟩
      have := b2.st (j := 6) (v := n_turn (PI i N) 6)
      rw [turn_again] at this
      exact this
