/-! JUMPED -/
def bl (l : Nat) : Int32 := (1 : Int32) <<< (nI l &&& 31)
def oj (N : Row) (e d : Nat) : Nat := if 1 ≤ d ∧ jt 1 (bh N e (d - 1)) = be N e (d + 1) then 1 else if 2 ≤ d ∧ jt 2 (bh N e (d - 2)) = be N e (d + 1) then 2 else 3
def lrf (N : Row) (e : Nat) : Nat → Nat → Int32 → Int32
  | 0, _, s => s
  | _ + 1, 0, s => s
  | k + 1, d + 1, s => if be N e (d + 1) = bh N e (d + 1) then lrf N e k d (s ||| bl (e - (d + 1))) else if d - oj N e d = 0 then s else lrf N e k (d - oj N e d - 1) (s ||| bl (e - (d - oj N e d)))
section
variable {N : Row} {e : Nat}
theorem oj_is {d : Nat} (h : be N e (d + 1) ≠ bh N e (d + 1)) : 1 ≤ oj N e d ∧ oj N e d ≤ 3 ∧ oj N e d ≤ d ∧ jt (oj N e d) (bh N e (d - oj N e d)) = be N e (d + 1) ∧ ∀ o, 1 ≤ o → o < oj N e d → jt o (bh N e (d - o)) ≠ be N e (d + 1) := by
  have src := mj_src (bh N e) d 3
  rw [← be_s] at src
  unfold oj
  by_cases c1 : 1 ≤ d ∧ jt 1 (bh N e (d - 1)) = be N e (d + 1)
  · rw [if_pos c1]
    exact ⟨by decide, by decide, c1.1, c1.2, fun o h1 h2 => by omega⟩
  · rw [if_neg c1]
    by_cases c2 : 2 ≤ d ∧ jt 2 (bh N e (d - 2)) = be N e (d + 1)
    · rw [if_pos c2]
      refine ⟨by decide, by decide, c2.1, c2.2, fun o h1 h2 z => ?_⟩
      have : o = 1 := by omega
      subst this
      exact c1 ⟨by have := c2.1; omega, z⟩
    · rw [if_neg c2]
      rcases src with z | ⟨o, o1, o2, o3, o4⟩
      · exact absurd z h
      · have : o = 1 ∨ o = 2 ∨ o = 3 := by omega
        rcases this with rfl | rfl | rfl
        · exact absurd ⟨o3, o4.symm⟩ c1
        · exact absurd ⟨o3, o4.symm⟩ c2
        · refine ⟨by decide, by decide, o3, o4.symm, fun o h1 h2 z => ?_⟩
          have : o = 1 ∨ o = 2 := by omega
          rcases this with rfl | rfl
          · exact c1 ⟨by omega, z⟩
          · exact c2 ⟨by omega, z⟩
theorem lrf_0 (k : Nat) (s : Int32) : lrf N e k 0 s = s := by cases k <;> rfl
theorem s_shortest {d : Nat} {h : Mem} {Q : Int32 → Mem → Prop} (he : e ≤ 12) (hd : d + 1 ≤ e) (m : M9 N e (e - (d + 1)) h) (hne : be N e (d + 1) ≠ bh N e (d + 1)) (k : Q (nI (oj N e d)) h) : f_X8_shortestJump (nI (e - (d + 1))) (nI e) h Q := by
  unfold f_X8_shortestJump
  obtain ⟨o1, o2, o3, o4, o5⟩ := oj_is hne
  have body : ∀ (K : Int32 → Mem → Prop) (o : Nat), 1 ≤ o → o ≤ 3 → o ≤ d → (jt o (bh N e (d - o)) = be N e (d + 1) → Q (nI o) h) → (jt o (bh N e (d - o)) ≠ be N e (d + 1) → K (nI (o + 1)) h) → f_X8_shortestJump_b2 (nI (e - (d + 1))) (nI e) Q K (nI o) h := by
    intro K o p1 p2 p3 q1 q2
    unfold f_X8_shortestJump_b2 f_X8_byJump
    dsimp only
    rw [nI_add, nI_1, nI_1]
    have e29 : h 29 (e - (d + 1) + o + 1) = bh N e (d - o) := by
      have := (m (e - (d + 1) + o + 1) (by omega) (by omega)).2
      rw [show e - (e - (d + 1) + o + 1) = d - o by omega] at this
      exact this
    have e28 : h 28 (e - (d + 1)) = be N e (d + 1) := by
      have := (m (e - (d + 1)) (Nat.le_refl _) (by omega)).1
      rw [show e - (e - (d + 1)) = d + 1 by omega] at this
      exact this
    rw [cl (by omega), cl (by omega), e29, e28]
    refine ifn (nI_nlt (a := 3) (b := o) (by omega) (by decide)) (ifn (nI_nlt (by omega) (by omega)) ⟨vi (by omega) (by decide), vi (by omega) (by decide), ?_⟩)
    by_cases c : jt o (bh N e (d - o)) = be N e (d + 1)
    · exact ifp c (q1 c)
    · exact ifn c (nm (q2 c))
  refine lo1 (fun j => nI (j + 1)) (oj N e d - 1) (fun j h' => h' = h) rfl (by omega) rfl ?_ ?_
  · rintro K h' rfl
    rw [show oj N e d - 1 + 1 = oj N e d by omega]
    exact body K _ o1 o2 o3 (fun _ => k) (fun z => absurd o4 z)
  · rintro K j h' hj rfl hK
    exact body K (j + 1) (by omega) (by omega) (by omega) (fun z => absurd z (o5 (j + 1) (by omega) (by omega))) (fun _ => hK h' rfl)
theorem s_linesRead {f : Nat} {h : Mem} {Q : Int32 → Mem → Prop} (he : e ≤ 12) (m : M9 N e f h) : ∀ (k d g : Nat) (s : Int32), d ≤ e - f → d ≤ k → d < g → Q (lrf N e k d s) h → gm_it2 (f_X8_linesRead_b5 (nI f) (nI e) Q) g s (nI (e - d)) h := by
  intro k
  induction k with
  | zero =>
    intro d g s h1 h2 h3 hQ
    have : d = 0 := by omega
    subst this
    obtain ⟨g, rfl⟩ : ∃ g', g = g' + 1 := ⟨g - 1, by omega⟩
    show f_X8_linesRead_b5 (nI f) (nI e) Q (gm_it2 (f_X8_linesRead_b5 (nI f) (nI e) Q) g) s (nI (e - 0)) h
    unfold f_X8_linesRead_b5
    exact ifp (nI_le (by omega) (by omega)) hQ
  | succ k ih =>
    intro d g s h1 h2 h3 hQ
    obtain ⟨g, rfl⟩ : ∃ g', g = g' + 1 := ⟨g - 1, by omega⟩
    show f_X8_linesRead_b5 (nI f) (nI e) Q (gm_it2 (f_X8_linesRead_b5 (nI f) (nI e) Q) g) s (nI (e - d)) h
    unfold f_X8_linesRead_b5
    match d, h1, h2, h3, hQ with
    | 0, h1, h2, h3, hQ => exact ifp (nI_le (by omega) (by omega)) hQ
    | d + 1, h1, h2, h3, hQ =>
      have mm := m (e - (d + 1)) (by omega) (by omega)
      rw [show e - (e - (d + 1)) = d + 1 by omega] at mm
      rw [cl (by omega), mm.1, mm.2]
      refine ifn (nI_ge (by omega) (by omega)) ⟨vi (by omega) (by decide), vi (by omega) (by decide), ?_⟩
      unfold lrf at hQ
      by_cases c : be N e (d + 1) = bh N e (d + 1)
      · rw [if_pos c] at hQ
        unfold f_X8_linesRead_b39 f_X8_linesRead_b55
        refine ifp c (ifp (by decide) (ifn (nI_ge (by omega) (by omega)) (nm (nm ?_))))
        rw [nI_1, show e - (d + 1) + 1 = e - d by omega]
        exact ih d g _ (by omega) (by omega) (by omega) hQ
      · rw [if_neg c] at hQ
        refine ifn c (s_shortest he (by omega) (fun l l1 l2 => m l (by omega) l2) c ?_)
        obtain ⟨o1, o2, o3, o4, o5⟩ := oj_is c
        unfold f_X8_linesRead_b39 f_X8_linesRead_b55
        rw [nI_1 (oj N e d), nI_add]
        refine ifn (nI_nle (by omega) (by omega)) (nm ?_)
        rw [show e - (d + 1) + (oj N e d + 1) = e - (d - oj N e d) by omega]
        by_cases c2 : d - oj N e d = 0
        · rw [if_pos c2] at hQ
          refine ifp (nI_le (by omega) (by omega)) ?_
          rw [c2]
          refine ih 0 g s (by omega) (by omega) (by omega) ?_
          rw [lrf_0]
          exact hQ
        · rw [if_neg c2] at hQ
          refine ifn (nI_ge (by omega) (by omega)) (nm (nm ?_))
          rw [nI_1, show e - (d - oj N e d) + 1 = e - (d - oj N e d - 1) by omega]
          exact ih (d - oj N e d - 1) g _ (by omega) (by omega) (by omega) hQ
/-! the reference -/
theorem i_cl (x y : Int32) : (x + y) - x = y := by rw [Int32.add_comm, Int32.add_sub_cancel]
theorem s_read1 {f l : Nat} {s : Int32} {h : Mem} {Q : Int32 → Mem → Prop} {K : Int32 → Int32 → Int32 → Mem → Prop} (hB : A10 h 44 N) (he : e ≤ 12) (hl : l < e) (m : M10 N e f h) (hf : f ≤ l) (k : K (be N e (e - (l + 1))) (s ||| bl l) (nI (l + 1)) h) : f_X10_jumped_b29 (nI f) (nI e) Q K (bh N e (e - l)) s (nI l) h := by
  unfold f_X10_jumped_b29
  have e1 : bh N e (e - l) = tk N l (N 6) + be N e (e - (l + 1)) := by
    have := bh_s (N := N) (e := e) (e - (l + 1))
    rw [show e - (l + 1) + 1 = e - l by omega, show e - (e - l) = l by omega] at this
    exact this
  rw [nI_1, tw, cl (by omega)]
  refine ifn (nI_ge hl (by omega)) (s_takes10 hB (by omega) ⟨vi (by omega) (by decide), ?_⟩)
  rw [(m (l + 1) (by omega) (by omega)).1]
  refine ifp e1 ?_
  unfold f_X10_jumped_b82 f_X10_jumped_b97
  refine ifp rfl (nm (ifp rfl (s_takes10 hB (by omega) (nm ?_))))
  have e2 : nI l + ((1 : Int32) + (0 : Int32)) = nI (l + 1) := by
    rw [Int32.add_zero]; exact nI_1 l
  rw [e2, e1, i_cl]
  exact nm k
theorem s_jump1 {f d L : Nat} {s : Int32} {h : Mem} {Q : Int32 → Mem → Prop} {K : Int32 → Int32 → Int32 → Mem → Prop} (hB : A10 h 44 N) (he : e ≤ 12) (hd : d + 1 ≤ e) (eL : L = e - (d + 1)) (m : M10 N e f h) (hf : f ≤ L) (c : ¬ be N e (d + 1) = bh N e (d + 1)) (k : K (bh N e (d - oj N e d)) s (nI (e - (d - oj N e d))) h) : f_X10_jumped_b29 (nI f) (nI e) Q K (be N e (d + 1)) s (nI L) h := by
  obtain ⟨o1, o2, o3, o4, o5⟩ := oj_is c
  have hbh : tk N L (N 6) + h 49 (2 * (L + 1)) = bh N e (d + 1) := by
    rw [bh_s, (m (L + 1) (by omega) (by omega)).1, ← eL, show e - (L + 1) = d by omega]
  unfold f_X10_jumped_b29
  rw [nI_1, tw, cl (by omega)]
  refine ifn (nI_ge (by omega) (by omega)) (s_takes10 hB (by omega) ⟨vi (by omega) (by decide), ?_⟩)
  rw [hbh]
  refine ifn c ?_
  refine lo1 (fun j => nI (j + 1)) (oj N e d - 1) (fun j h' => h' = h) rfl (by omega) rfl ?_ ?_
  · rintro K2 h' rfl
    rw [show oj N e d - 1 + 1 = oj N e d by omega]
    unfold f_X10_jumped_b63 f_X10_jumpFrom
    dsimp only
    rw [nI_1 L, nI_add, tw, nI_1 (2 * (L + 1 + oj N e d)), cl (by omega)]
    have e29 : h' 49 (2 * (L + 1 + oj N e d) + 1) = bh N e (d - oj N e d) := by
      have := (m (L + 1 + oj N e d) (by omega) (by omega)).2
      rw [show e - (L + 1 + oj N e d) = d - oj N e d by omega] at this
      exact this
    rw [e29]
    refine ifn (nI_nlt (by omega) (by omega)) ⟨vi (by omega) (by decide), ifp o4 ?_⟩
    unfold f_X10_jumped_b82 f_X10_jumped_b97
    have no : ¬ nI (oj N e d) = 0 := nI_ne0 (by omega) (by omega)
    refine ifn no (nm (ifn no (nm (nm ?_))))
    have ea : nI L + ((1 : Int32) + nI (oj N e d)) = nI (L + (1 + oj N e d)) := by
      show nI L + (nI 1 + nI (oj N e d)) = _
      rw [nI_add, nI_add]
    have el : be N e (d + 1) - ((7 : Int32) + ((3 : Int32) * nI (oj N e d))) = bh N e (d - oj N e d) := by
      rw [← o4]
      exact i_cl _ _
    rw [ea, el, Int32.or_zero, show L + (1 + oj N e d) = e - (d - oj N e d) by omega]
    exact k
  · rintro K2 j h' hj rfl hK
    unfold f_X10_jumped_b63 f_X10_jumpFrom
    dsimp only
    rw [nI_1 L, nI_add, tw, nI_1 (2 * (L + 1 + (j + 1))), cl (by omega), nI_1 (j + 1)]
    have e29 : h' 49 (2 * (L + 1 + (j + 1)) + 1) = bh N e (d - (j + 1)) := by
      have := (m (L + 1 + (j + 1)) (by omega) (by omega)).2
      rw [show e - (L + 1 + (j + 1)) = d - (j + 1) by omega] at this
      exact this
    rw [e29]
    exact ifn (nI_nlt (by omega) (by omega)) ⟨vi (by omega) (by decide), ifn (o5 (j + 1) (by omega) (by omega)) (nm (hK h' rfl))⟩
theorem s_jumps {f : Nat} {h : Mem} {Q : Int32 → Mem → Prop} (hB : A10 h 44 N) (he : e ≤ 12) (m : M10 N e f h) : ∀ (k d g : Nat) (s : Int32), d ≤ e - f → d ≤ k → 2 * d < g → Q (lrf N e k d s) h → gm_it3 (f_X10_jumped_b29 (nI f) (nI e) Q) g (be N e d) s (nI (e - d)) h := by
  intro k
  induction k with
  | zero =>
    intro d g s h1 h2 h3 hQ
    have : d = 0 := by omega
    subst this
    obtain ⟨g, rfl⟩ : ∃ g', g = g' + 1 := ⟨g - 1, by omega⟩
    show f_X10_jumped_b29 (nI f) (nI e) Q (gm_it3 (f_X10_jumped_b29 (nI f) (nI e) Q) g) (be N e 0) s (nI (e - 0)) h
    unfold f_X10_jumped_b29
    exact ifp (nI_le (by omega) (by omega)) hQ
  | succ k ih =>
    intro d g s h1 h2 h3 hQ
    obtain ⟨g, rfl⟩ : ∃ g', g = g' + 1 := ⟨g - 1, by omega⟩
    show f_X10_jumped_b29 (nI f) (nI e) Q (gm_it3 (f_X10_jumped_b29 (nI f) (nI e) Q) g) (be N e d) s (nI (e - d)) h
    match d, h1, h2, h3, hQ with
    | 0, h1, h2, h3, hQ =>
      unfold f_X10_jumped_b29
      exact ifp (nI_le (by omega) (by omega)) hQ
    | d + 1, h1, h2, h3, hQ =>
      unfold lrf at hQ
      by_cases c : be N e (d + 1) = bh N e (d + 1)
      · rw [if_pos c] at hQ
        have z := s_read1 (N := N) (e := e) (f := f) (l := e - (d + 1)) (s := s) (h := h) (Q := Q) (K := gm_it3 (f_X10_jumped_b29 (nI f) (nI e) Q) g) hB he (by omega) m (by omega)
        rw [show e - (e - (d + 1)) = d + 1 by omega, show e - (d + 1) + 1 = e - d by omega, show e - (e - d) = d by omega] at z
        rw [c]
        exact z (ih d g _ (by omega) (by omega) (by omega) hQ)
      · rw [if_neg c] at hQ
        obtain ⟨o1, o2, o3, o4, o5⟩ := oj_is c
        refine s_jump1 hB he (by omega) rfl m (by omega) c ?_
        by_cases c2 : d - oj N e d = 0
        · rw [if_pos c2] at hQ
          rw [c2]
          refine ih 0 g s (by omega) (by omega) (by omega) ?_
          rw [lrf_0]
          exact hQ
        · rw [if_neg c2] at hQ
          obtain ⟨g, rfl⟩ : ∃ g', g = g' + 1 := ⟨g - 1, by omega⟩
          have z := s_read1 (N := N) (e := e) (f := f) (l := e - (d - oj N e d)) (s := s) (h := h) (Q := Q) (K := gm_it3 (f_X10_jumped_b29 (nI f) (nI e) Q) g) hB he (by omega) m (by omega)
          rw [show e - (e - (d - oj N e d)) = d - oj N e d by omega, show e - (d - oj N e d) + 1 = e - (d - oj N e d - 1) by omega, show e - (e - (d - oj N e d - 1)) = d - oj N e d - 1 by omega] at z
          exact z (ih (d - oj N e d - 1) g _ (by omega) (by omega) (by omega) hQ)
end
/-! a way -/
theorem way9_y {f e n : Nat} {h : Mem} {N : Row} {Q : Int32 → Mem → Prop} (hA : A9 h 1 N) (h4 : N 4 = nI n) (hn : n ≤ 12) (hf : f < e) (he : e ≤ n) (k : Q 1 h) : f_X9_isWay (nI f) (nI e) h Q := by
  unfold f_X9_isWay
  refine isLine9_y hA h4 hn (by omega) (ifn oz (ifn (nI_ge hf (by omega)) ?_))
  rw [hA.1.2.2.2.2.1, h4]
  exact ifn (nI_nlt he (by omega)) k
theorem way10_y {f e n : Nat} {h : Mem} {N : Row} {Q : Int32 → Mem → Prop} (hB : A10 h 44 N) (h4 : N 4 = nI n) (hn : n ≤ 12) (hf : f < e) (he : e ≤ n) (k : Q 1 h) : f_X10_isWay (nI f) (nI e) h Q := by
  unfold f_X10_isWay
  refine isLine10_y hB h4 hn (by omega) (ifn oz ?_)
  rw [hB 4 (by decide), h4, nI_1]
  exact win10 (nI_le (by omega) (by omega)) (nI_le he (by omega)) (ifn oz k)
def isW (n : Nat) (a1 a2 : Int32) : Prop := ((0 : Int32) ≤ a1 ∧ ¬ nI n ≤ a1) ∧ ¬ a2 ≤ a1 ∧ ¬ nI n < a2
theorem isW_nI {n : Nat} {a1 a2 : Int32} (hn : n ≤ 12) (h : isW n a1 a2) : ∃ f e : Nat, f < e ∧ e ≤ n ∧ a1 = nI f ∧ a2 = nI e := by
  obtain ⟨f, hf, rfl⟩ := ln_nI hn h.1
  have h2 := h.2.1
  have h3 := h.2.2
  rw [fa_le, nI_toInt (by omega)] at h2
  obtain ⟨e, he, rfl⟩ := sm (a := a2) (m := n) (by omega) (by rw [fa_le, i0]; omega) (fa_of_nlt h3)
  rw [nI_toInt (by omega)] at h2
  exact ⟨f, e, by omega, he, rfl, rfl⟩
theorem way9_n {n : Nat} {a1 a2 : Int32} {h : Mem} {N : Row} {Q : Int32 → Mem → Prop} (hA : A9 h 1 N) (h4 : N 4 = nI n) (hn : n ≤ 12) (hw : ¬ isW n a1 a2) (k : Q 0 h) : f_X9_isWay a1 a2 h Q := by
  unfold f_X9_isWay
  rcases ln (a := a1) hn with hl | hl
  · obtain ⟨l, hL, rfl⟩ := ln_nI hn hl
    refine isLine9_y hA h4 hn hL (ifn oz ?_)
    rw [hA.1.2.2.2.2.1, h4]
    by_cases c : a2 ≤ nI l
    · exact ifp c k
    · refine ifn c ?_
      by_cases c2 : nI n < a2
      · exact ifp c2 k
      · exact absurd ⟨hl, c, c2⟩ hw
  · exact isLine9_n hA h4 hl (ifp rfl k)
theorem way10_n {n : Nat} {a1 a2 : Int32} {h : Mem} {N : Row} {Q : Int32 → Mem → Prop} (hB : A10 h 44 N) (h4 : N 4 = nI n) (hn : n ≤ 12) (hw : ¬ isW n a1 a2) (k : Q 0 h) : f_X10_isWay a1 a2 h Q := by
  unfold f_X10_isWay
  rcases ln (a := a1) hn with hl | hl
  · obtain ⟨l, hL, rfl⟩ := ln_nI hn hl
    refine isLine10_y hB h4 hn hL (ifn oz ?_)
    rw [hB 4 (by decide), h4, nI_1]
    refine wout10 (fun z => hw ⟨hl, ?_, ?_⟩) (ifp rfl k)
    · have := z.1
      rw [fa_le, nI_toInt (by omega)] at this
      rw [fa_le, nI_toInt (by omega)]
      omega
    · have := z.2
      rw [fa_le] at this
      rw [fa_lt]
      omega
  · exact isLine10_n hB h4 hn hl (ifp rfl k)
theorem Fr1.g49 {h h' : Mem} (f : Fr1 49 h h') : G10 h h' := ⟨fun a q => f a (by omega), by rw [f 43 (by decide)], by rw [f 43 (by decide)]⟩
theorem pair_jump (a1 a2 : Int32) (h : Mem) (hI : Inv h) : f_X9_jump a1 a2 h (fun r h1 => f_X10_jump a1 a2 h1 (fun r2 h2 => r = r2 ∧ Inv h2)) := by
  obtain ⟨N, hV⟩ := hI
  obtain ⟨a, n, han, hn, h0, h4, hw, hs⟩ := hV.1.1
  have hA := hV.2.1
  by_cases hW : isW n a1 a2
  · obtain ⟨f, e, hf, he, rfl, rfl⟩ := isW_nI hn hW
    refine pr_ok (f9 := f_X9_jump _ _) (f10 := f_X10_jump _ _) (r := be N e (e - f)) (N' := N) hV hV.1 (fun Q k => ?_) (fun h Q hB _ k => ?_)
    · unfold f_X9_jump f_X8_shortest
      refine way9_y hA h4 hn hf he (ifn oz (s_measure hA hf (by omega) (fun h1 m1 f1 => ⟨vi (by omega) (by decide), ?_⟩)))
      rw [cl (by omega), (m1 f (Nat.le_refl _) (by omega)).1]
      exact k h1 (f1.a9 hA) f1.g9
    · unfold f_X10_jump
      exact way10_y hB h4 hn hf he (ifn oz (s_findWays hV.1 hB hf (by omega) (fun h1 m1 f1 => k h1 (hB.fr (f1 44 (by decide))) f1.g49)))
  · refine pr_no (f9 := f_X9_jump _ _) (f10 := f_X10_jump _ _) (w := id) 0 (by decide) hV (fun Q k => ?_) (fun h Q hB _ k => ?_)
    · unfold f_X9_jump
      exact way9_n hA h4 hn hW (ifp rfl (k h hA G9.rf))
    · unfold f_X10_jump
      exact way10_n hB h4 hn hW (ifp rfl (k h hB G10.rf))
theorem pair_jumped (a1 a2 : Int32) (h : Mem) (hI : Inv h) : f_X9_jumped a1 a2 h (fun r h1 => f_X10_jumped a1 a2 h1 (fun r2 h2 => r = r2 ∧ Inv h2)) := by
  obtain ⟨N, hV⟩ := hI
  obtain ⟨a, n, han, hn, h0, h4, hw, hs⟩ := hV.1.1
  have hA := hV.2.1
  by_cases hW : isW n a1 a2
  · obtain ⟨f, e, hf, he, rfl, rfl⟩ := isW_nI hn hW
    refine pr_ok (f9 := f_X9_jumped _ _) (f10 := f_X10_jumped _ _) (r := lrf N e 12 (e - f) 0) (N' := N) hV hV.1 (fun Q k => ?_) (fun h Q hB _ k => ?_)
    · unfold f_X9_jumped f_X8_linesRead
      refine way9_y hA h4 hn hf he (ifn oz (s_measure hA hf (by omega) (fun h1 m1 f1 => ?_)))
      have z := s_linesRead (N := N) (e := e) (f := f) (h := h1) (Q := fun r h2 => Q r h2) (by omega) m1 12 (e - f) gm_F 0 (Nat.le_refl _) (by omega) (Nat.lt_of_lt_of_le (by omega : e - f < 13) (gm_F_ge (by decide))) (k h1 (f1.a9 hA) f1.g9)
      rw [show e - (e - f) = f by omega] at z
      exact z
    · unfold f_X10_jumped
      refine way10_y hB h4 hn hf he (ifn oz (s_findWays hV.1 hB hf (by omega) (fun h1 m1 f1 => ?_)))
      have z := s_jumps (N := N) (e := e) (f := f) (h := h1) (Q := Q) (hB.fr (f1 44 (by decide))) (by omega) m1 12 (e - f) gm_F 0 (Nat.le_refl _) (by omega) (Nat.lt_of_lt_of_le (by omega : 2 * (e - f) < 25) (gm_F_ge (by decide))) (k h1 (hB.fr (f1 44 (by decide))) f1.g49)
      rw [show e - (e - f) = f by omega] at z
      exact z
  · refine pr_no (f9 := f_X9_jumped _ _) (f10 := f_X10_jumped _ _) (w := id) 0 (by decide) hV (fun Q k => ?_) (fun h Q hB _ k => ?_)
    · unfold f_X9_jumped
      exact way9_n hA h4 hn hW (ifp rfl (k h hA G9.rf))
    · unfold f_X10_jumped
      exact way10_n hB h4 hn hW (ifp rfl (k h hB G10.rf))
