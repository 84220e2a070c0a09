/-! JUMP, JUMPED -/
def jt (o : Nat) (x : Int32) : Int32 := ((7 : Int32) + ((3 : Int32) * nI o)) + x
/-- the best of no jump and of jumps over 1 .. j lines, from distance d + 1; H by distance -/
def mj (H : Row) (d : Nat) : Nat → Int32
  | 0 => H (d + 1)
  | j + 1 => if j + 1 ≤ d then (if jt (j + 1) (H (d - (j + 1))) < mj H d j then jt (j + 1) (H (d - (j + 1))) else mj H d j) else mj H d j
/-- ways by distance to the end: the best, and the best behind a jump -/
def JR (N : Row) (e : Nat) : Nat → Row × Row
  | 0 => (fun _ => 0, fun _ => 0)
  | d + 1 => (upd (JR N e d).1 (d + 1) (mj (upd (JR N e d).2 (d + 1) (tk N (e - (d + 1)) (N 6) + (JR N e d).1 d)) d 3), upd (JR N e d).2 (d + 1) (tk N (e - (d + 1)) (N 6) + (JR N e d).1 d))
def be (N : Row) (e d : Nat) : Int32 := (JR N e d).1 d
def bh (N : Row) (e d : Nat) : Int32 := (JR N e d).2 d
section
variable {N : Row} {e : Nat}
theorem JR_1 : ∀ d j, j ≤ d → (JR N e d).1 j = be N e j ∧ (JR N e d).2 j = bh N e j
  | 0, j, h => by
    have : j = 0 := by omega
    subst this
    exact ⟨rfl, rfl⟩
  | d + 1, j, h => by
    by_cases q : j = d + 1
    · subst q; exact ⟨rfl, rfl⟩
    · have ih := JR_1 d j (by omega)
      show upd _ _ _ j = _ ∧ upd _ _ _ j = _
      rw [up_n q, up_n q]
      exact ih
theorem bh_s (d : Nat) : bh N e (d + 1) = tk N (e - (d + 1)) (N 6) + be N e d := by
  show upd _ _ _ (d + 1) = _
  rw [up_s]
  rfl
theorem mj_cong {H H' : Row} {d : Nat} (h : ∀ j, j ≤ d + 1 → H j = H' j) : ∀ j, mj H d j = mj H' d j
  | 0 => h _ (Nat.le_refl _)
  | j + 1 => by rw [mj, mj, mj_cong h j, h (d - (j + 1)) (by omega)]
theorem be_s (d : Nat) : be N e (d + 1) = mj (bh N e) d 3 := by
  show upd _ _ _ (d + 1) = _
  rw [up_s]
  refine mj_cong (fun j hj => ?_) 3
  exact (JR_1 (d + 1) j hj).2
theorem mj_stop {H : Row} {d i : Nat} (h : d < i + 1) : ∀ j, mj H d (i + j) = mj H d i
  | 0 => rfl
  | j + 1 => by rw [← Nat.add_assoc, mj, if_neg (by omega), mj_stop h j]
theorem mj_src (H : Row) (d : Nat) : ∀ j, mj H d j = H (d + 1) ∨ ∃ o, 1 ≤ o ∧ o ≤ j ∧ o ≤ d ∧ mj H d j = jt o (H (d - o))
  | 0 => Or.inl rfl
  | j + 1 => by
    have ih := mj_src H d j
    rw [mj]
    by_cases c : j + 1 ≤ d
    · rw [if_pos c]
      by_cases c2 : jt (j + 1) (H (d - (j + 1))) < mj H d j
      · rw [if_pos c2]
        exact Or.inr ⟨j + 1, by omega, by omega, c, rfl⟩
      · rw [if_neg c2]
        rcases ih with h | ⟨o, h1, h2, h3, h4⟩
        · exact Or.inl h
        · exact Or.inr ⟨o, h1, by omega, h3, h4⟩
    · rw [if_neg c]
      rcases ih with h | ⟨o, h1, h2, h3, h4⟩
      · exact Or.inl h
      · exact Or.inr ⟨o, h1, by omega, h3, h4⟩
theorem jt_i {o : Nat} {x : Int32} (ho : o ≤ 3) (h1 : 0 ≤ x.toInt) (h2 : x.toInt ≤ 1000000) : (jt o x).toInt = 7 + 3 * o + x.toInt := by
  unfold jt
  have e1 : (7 : Int32) + (3 : Int32) * nI o = nI (7 + 3 * o) := by
    show nI 7 + nI 3 * nI o = _
    rw [pk_mul, nI_add]
  rw [e1, add_i (by rw [nI_toInt (by omega)]; omega) h1 (by rw [nI_toInt (by omega)]; omega), nI_toInt (by omega)]
  omega
theorem mj_rng {H : Row} {d : Nat} {M : Int} (hM : M ≤ 1000000) (h : ∀ j, j ≤ d + 1 → 0 ≤ (H j).toInt ∧ (H j).toInt ≤ M) : ∀ j, j ≤ 3 → 0 ≤ (mj H d j).toInt ∧ (mj H d j).toInt ≤ M
  | 0, _ => h _ (Nat.le_refl _)
  | j + 1, hj => by
    have ih := mj_rng hM h j (by omega)
    rw [mj]
    by_cases c : j + 1 ≤ d
    · rw [if_pos c]
      have hh := h (d - (j + 1)) (by omega)
      have ji := jt_i (o := j + 1) (x := H (d - (j + 1))) hj hh.1 (by omega)
      by_cases c2 : jt (j + 1) (H (d - (j + 1))) < mj H d j
      · rw [if_pos c2]
        rw [fa_lt] at c2
        omega
      · rw [if_neg c2]; exact ih
    · rw [if_neg c]; exact ih
theorem ways_rng (hD : Dom N) (he : e ≤ 12) : ∀ d, d ≤ e → ∀ j, j ≤ d → (0 ≤ (be N e j).toInt ∧ (be N e j).toInt ≤ 2100 * d) ∧ (0 ≤ (bh N e j).toInt ∧ (bh N e j).toInt ≤ 2100 * d)
  | 0, _, j, hj => by
    have : j = 0 := by omega
    subst this
    show (0 ≤ (0 : Int32).toInt ∧ (0 : Int32).toInt ≤ _) ∧ (0 ≤ (0 : Int32).toInt ∧ (0 : Int32).toInt ≤ _)
    rw [i0]
    omega
  | d + 1, hd, j, hj => by
    have ih := ways_rng hD he d (by omega)
    by_cases q : j = d + 1
    · subst q
      have t := (tk_rng hD.2.2.1 (l := e - (d + 1)) (p := N 6) (by omega) hD.2.2.2.1).1
      have i1 := ih d (Nat.le_refl _)
      have hb : 0 ≤ (bh N e (d + 1)).toInt ∧ (bh N e (d + 1)).toInt ≤ 2100 * ((d + 1 : Nat) : Int) := by
        rw [bh_s, add_i (by omega) (by omega) (by omega)]
        omega
      refine ⟨?_, hb⟩
      rw [be_s]
      refine mj_rng (M := 2100 * ((d + 1 : Nat) : Int)) (by omega) (fun i hi => ?_) 3 (by decide)
      by_cases q2 : i = d + 1
      · subst q2; exact hb
      · have := (ih i (by omega)).2
        omega
    · have := ih j (by omega)
      omega
/-! the class measures -/
def M9 (N : Row) (e lo : Nat) (h : Mem) : Prop := ∀ l, lo ≤ l → l ≤ e → h 28 l = be N e (e - l) ∧ h 29 l = bh N e (e - l)
def FrW (h h' : Mem) : Prop := ∀ a, a ≠ 27 → a ≠ 28 → a ≠ 29 → h' a = h a
theorem FrW.a9 {h h' : Mem} (f : FrW h h') (hA : A9 h 1 N) : A9 h' 1 N := hA.fr (fun a _ _ => f a (by omega) (by omega) (by omega))
theorem FrW.g9 {h h' : Mem} (f : FrW h h') : G9 h h' := fun a q => f a (by omega) (by omega) (by omega)
theorem s_measure {f : Nat} {h : Mem} {Q : Mem → Prop} (hA : A9 h 1 N) (hf : f < e) (he : e ≤ 12) (k : ∀ h', M9 N e f h' → FrW h h' → Q h') : f_X8_measure (nI f) (nI e) h Q := by
  unfold f_X8_measure
  rw [cl (by omega)]
  refine ⟨vi (by omega) (by decide), nm ⟨vi (by omega) (by decide), nm (nm ?_)⟩⟩
  refine lo1 (fun i => nI (e - i) - 1) (e - f) (fun i h' => M9 N e (e - i) h' ∧ FrW h h') rfl (by omega) ⟨fun l h1 h2 => ?_, fun a x y z => by rw [st_k z, st_k y]⟩ ?_ ?_
  · have : l = e := by omega
    subst this
    rw [Nat.sub_self, st_k (by decide), st_s, st_s]
    exact ⟨rfl, rfl⟩
  · rintro K h' ⟨m, fr⟩
    unfold f_X8_measure_b19
    rw [show e - (e - f) = f by omega] at m
    refine ifp ?_ (k h' m fr)
    rw [show e - (e - f) = f by omega, fa_lt, n_sub1 (by omega), nI_toInt (by omega)]
    omega
  · rintro K i h' hi ⟨m, fr⟩ hK
    unfold f_X8_measure_b19
    have b := fr.a9 hA
    obtain ⟨L, eL⟩ : ∃ L, L = e - 1 - i := ⟨_, rfl⟩
    rw [dn1 (m := e) (i := i) (by omega), ← eL, nI_1, cl (by omega), cl (by omega), b.2.1 0 (by decide)]
    refine ifn (nI_nlt (by omega) (by omega)) (s_takesOf b (by omega) ⟨vi (by omega) (by decide), nm ⟨vi (by omega) (by decide), vi (by omega) (by decide), vi (by omega) (by decide), nm ⟨vi (by omega) (by decide), vi (by omega) (by decide), nm ?_⟩⟩⟩)
    have e28 : h' 28 (L + 1) = be N e i := by
      have := (m (L + 1) (by omega) (by omega)).1
      rw [show e - (L + 1) = i by omega] at this
      exact this
    have hbh : tk N L (N (6 + 0)) + h' 28 (L + 1) = bh N e (i + 1) := by
      rw [bh_s, e28, show e - (i + 1) = L by omega]
    have e1 : gm_st h' 27 L (tk N L (N (6 + 0))) 27 L + gm_st h' 27 L (tk N L (N (6 + 0))) 28 (L + 1) = bh N e (i + 1) := by rw [st_s, st_k (by decide)]; exact hbh
    rw [e1, st_s]
    refine lo1 (fun j => nI (j + 1)) 3 (fun j h2 => h2 28 L = mj (bh N e) i j ∧ h2 29 L = bh N e (i + 1) ∧ (∀ l, l ≠ L → h2 28 l = h' 28 l ∧ h2 29 l = h' 29 l) ∧ FrW h h2) rfl (by decide) ⟨st_s, ?_, fun l hl => ?_, fun a x y z => ?_⟩ ?_ ?_
    · rw [st_k (by decide), st_s]
    · rw [st_j hl, st_k (by decide), st_k (by decide), st_k (by decide), st_j hl, st_k (by decide)]
      exact ⟨rfl, rfl⟩
    · rw [st_k y, st_k z, st_k x, fr a x y z]
    · rintro K2 h2 ⟨c1, c2, c3, c4⟩
      unfold f_X8_measure_b85
      refine ifp (by decide) (nm ?_)
      rw [eL, dn2 (by omega)]
      refine hK h2 ⟨fun l l1 l2 => ?_, c4⟩
      by_cases q : l = L
      · rw [q, c1, c2, ← be_s, show e - L = i + 1 by omega]
        exact ⟨rfl, rfl⟩
      · rw [(c3 l q).1, (c3 l q).2]
        exact m l (by omega) l2
    · rintro K2 j h2 hj ⟨c1, c2, c3, c4⟩ hK2
      unfold f_X8_measure_b85 f_X8_byJump
      refine ifn (nI_nlt (a := 3) (b := j + 1) (by omega) (by decide)) ?_
      rw [nI_add, nI_1, nI_1]
      by_cases q : e < L + (j + 1) + 1
      · refine ifp (nI_lt q (by omega)) (nm ?_)
        rw [eL, dn2 (by omega)]
        refine hK h2 ⟨fun l l1 l2 => ?_, c4⟩
        by_cases q2 : l = L
        · have z := mj_stop (H := bh N e) (d := i) (i := j) (by omega) (3 - j)
          rw [show j + (3 - j) = 3 by omega] at z
          rw [q2, c1, c2, ← z, ← be_s, show e - L = i + 1 by omega]
          exact ⟨rfl, rfl⟩
        · rw [(c3 l q2).1, (c3 l q2).2]
          exact m l (by omega) l2
      · have e29 : h2 29 (L + (j + 1) + 1) = bh N e (i - (j + 1)) := by
          rw [(c3 _ (by omega)).2]
          have := (m (L + (j + 1) + 1) (by omega) (by omega)).2
          rw [show e - (L + (j + 1) + 1) = i - (j + 1) by omega] at this
          exact this
        rw [cl (by omega), cl (by omega), e29, c1]
        refine ifn (nI_nlt (by omega) (by omega)) ⟨vi (by omega) (by decide), vi (by omega) (by decide), nm ⟨vi (by omega) (by decide), nm (nm (hK2 _ ⟨?_, ?_, fun l hl => ?_, fun a x y z => ?_⟩))⟩⟩
        · rw [st_s, mj, if_pos (show j + 1 ≤ i by omega)]
          rfl
        · rw [st_k (by decide)]; exact c2
        · rw [st_j hl, st_k (by decide)]; exact c3 l hl
        · rw [st_k y, c4 a x y z]
/-! the reference finds -/
def M10 (N : Row) (e lo : Nat) (h : Mem) : Prop := ∀ l, lo ≤ l → l ≤ e → h 49 (2 * l) = be N e (e - l) ∧ h 49 (2 * l + 1) = bh N e (e - l)
theorem tw {l : Nat} : (2 : Int32) * nI l = nI (2 * l) := pk_mul 2 l
theorem s_findWays {f : Nat} {h : Mem} {Q : Int32 → Mem → Prop} (hD : Dom N) (hB : A10 h 44 N) (hf : f < e) (he : e ≤ 12) (k : ∀ h', M10 N e f h' → Fr1 49 h h' → Q (be N e (e - f)) h') : f_X10_findWays (nI f) (nI e) h Q := by
  unfold f_X10_findWays
  obtain ⟨V, hV⟩ : ∃ V : Int32, V = (100000000 : Int32) := ⟨_, rfl⟩
  have eV : V.toInt = 100000000 := by rw [hV]; rfl
  rw [tw, nI_1, cl (by omega), cl (by omega)]
  refine ⟨vi (by omega) (by decide), nm ⟨vi (by omega) (by decide), nm (nm ?_)⟩⟩
  refine lo1 (fun i => nI (e - i) - 1) (e - f) (fun i h' => M10 N e (e - i) h' ∧ Fr1 49 h h') rfl (by omega) ⟨fun l h1 h2 => ?_, Fr1.st (Fr1.st Fr1.rf)⟩ ?_ ?_
  · have : l = e := by omega
    subst this
    rw [Nat.sub_self, st_j (by omega), st_s, st_s]
    exact ⟨rfl, rfl⟩
  · rintro K h' ⟨m, fr⟩
    unfold f_X10_findWays_b24
    rw [show e - (e - f) = f by omega] at m
    refine ifp ?_ ⟨by rw [tw]; exact vi (by omega) (by decide), ?_⟩
    · rw [show e - (e - f) = f by omega, fa_lt, n_sub1 (by omega), nI_toInt (by omega)]
      omega
    · rw [tw, cl (by omega), (m f (Nat.le_refl _) (by omega)).1]
      exact k h' m fr
  · rintro K i h' hi ⟨m, fr⟩ hK
    unfold f_X10_findWays_b24
    have b : A10 h' 44 N := hB.fr (fr 44 (by decide))
    obtain ⟨L, eL⟩ : ∃ L, L = e - 1 - i := ⟨_, rfl⟩
    rw [dn1 (m := e) (i := i) (by omega), ← eL, nI_1 L, tw (l := f), tw (l := L + 1), tw (l := L), nI_1 (2 * L), cl (k := 2 * (L + 1)) (by omega), cl (k := 2 * L + 1) (by omega)]
    refine ifn (nI_nlt (by omega) (by omega)) (s_takes10 b (by omega) ⟨vi (by omega) (by decide), ?_⟩)
    have e49 : h' 49 (2 * (L + 1)) = be N e i := by
      have := (m (L + 1) (by omega) (by omega)).1
      rw [show e - (L + 1) = i by omega] at this
      exact this
    have hbh : tk N L (N 6) + h' 49 (2 * (L + 1)) = bh N e (i + 1) := by
      rw [bh_s, e49, show e - (i + 1) = L by omega]
    rw [hbh]
    refine nm ⟨vi (by omega) (by decide), nm ?_⟩
    refine lo2 (fun j => nI (j + 1)) 3 (fun j v h2 => v = mj (bh N e) i j ∧ h2 = gm_st h' 49 (2 * L + 1) (bh N e (i + 1))) rfl (by decide) ⟨rfl, rfl⟩ ?_ ?_
    · rintro K2 v h2 ⟨rfl, rfl⟩
      unfold f_X10_findWays_b62
      rw [tw, cl (by omega)]
      refine ifp (by decide) ⟨vi (by omega) (by decide), nm (nm ?_)⟩
      rw [eL, dn2 (by omega), ← eL]
      refine hK _ ⟨fun l l1 l2 => ?_, Fr1.st (Fr1.st fr)⟩
      by_cases q : l = L
      · subst q
        rw [st_s, st_j (by omega), st_s, ← be_s, show e - l = i + 1 by omega]
        exact ⟨rfl, rfl⟩
      · rw [st_j (by omega), st_j (by omega), st_j (by omega), st_j (by omega)]
        exact m l (by omega) l2
    · rintro K2 j v h2 hj ⟨rfl, rfl⟩ hK2
      unfold f_X10_findWays_b62 f_X10_jumpFrom
      refine ifn (nI_nlt (a := 3) (b := j + 1) (by omega) (by decide)) ?_
      rw [nI_1 L, nI_add, nI_1 (j + 1), tw, nI_1, ← hV]
      have rg := mj_rng (H := bh N e) (d := i) (M := 2100 * 12) (by decide) (fun x hx => by
        have := (ways_rng (N := N) (e := e) hD he (i + 1) (by omega) x hx).2
        omega) j (by omega)
      by_cases q : e < L + 1 + (j + 1)
      · refine ifp (nI_lt q (by omega)) (nm (nm (hK2 _ _ ⟨?_, rfl⟩)))
        rw [mj, if_neg (show ¬ j + 1 ≤ i by omega), if_neg (by rw [fa_lt, eV]; omega)]
      · have e29 : gm_st h' 49 (2 * L + 1) (bh N e (i + 1)) 49 (2 * (L + 1 + (j + 1)) + 1) = bh N e (i - (j + 1)) := by
          rw [st_j (by omega)]
          have := (m (L + 1 + (j + 1)) (by omega) (by omega)).2
          rw [show e - (L + 1 + (j + 1)) = i - (j + 1) by omega] at this
          exact this
        rw [cl (by omega), e29]
        refine ifn (nI_nlt (by omega) (by omega)) ⟨vi (by omega) (by decide), nm (nm (hK2 _ _ ⟨?_, rfl⟩))⟩
        rw [mj, if_pos (show j + 1 ≤ i by omega)]
        rfl
end
