/-! SEARCHES on told grids -/
def am (f : Nat → Int32) (lo : Nat) : Nat → Nat
  | 0 => lo
  | i + 1 => if f (am f lo i) ≤ f (lo + i + 1) then am f lo i else lo + i + 1
theorem am_in (f : Nat → Int32) (lo : Nat) : ∀ i, lo ≤ am f lo i ∧ am f lo i ≤ lo + i
  | 0 => ⟨Nat.le_refl _, Nat.le_refl _⟩
  | i + 1 => by
    have ih := am_in f lo i
    unfold am
    by_cases c : f (am f lo i) ≤ f (lo + i + 1)
    · rw [if_pos c]; omega
    · rw [if_neg c]; omega
theorem am_y {f : Nat → Int32} {lo i : Nat} (c : f (am f lo i) ≤ f (lo + i + 1)) : am f lo (i + 1) = am f lo i := if_pos c
theorem am_n {f : Nat → Int32} {lo i : Nat} (c : ¬ f (am f lo i) ≤ f (lo + i + 1)) : am f lo (i + 1) = lo + i + 1 := if_neg c
theorem min_l {x y : Int32} (h : y ≤ x) : (if x < y then x else y) = y := by rw [if_neg]; rw [fa_lt]; rw [fa_le] at h; omega
theorem min_r {x y : Int32} (h : ¬ y ≤ x) : (if x < y then x else y) = x := by rw [if_pos]; rw [fa_lt]; rw [fa_le] at h; omega
theorem max_l {x y : Int32} (h : x ≤ y) : (if y < x then x else y) = y := by rw [if_neg]; rw [fa_lt]; rw [fa_le] at h; omega
theorem max_r {x y : Int32} (h : ¬ x ≤ y) : (if y < x then x else y) = x := by rw [if_pos]; rw [fa_lt]; rw [fa_le] at h; omega
theorem s_from24 {h : Mem} {N : Row} {Q : Mem → Prop} (hA : A9 h 1 N) (k : ∀ h', Fr1 24 h h' → PcR h' 24 N → Q h') : f_X1_takeFrom 24 5 10 h Q :=
  s_takeFrom (P := N) (by decide) (by decide) (by decide) (fun j hj => hA.2.1 j (by omega)) k
/-! weights -/
def nw (N : Row) (w : Nat) : Row := upd (upd N 8 (nI (w / 11))) 9 (nI (w % 11))
def ofw (N : Row) (a m w : Nat) : Int32 := p_abs (pS N (nw N w) a m - N 15)
theorem d11 {w : Nat} (hw : w < 121) : nI w / (11 : Int32) = nI (w / 11) := pk_div (d := 11) (by omega) (by decide) (by decide)
theorem r11 {w : Nat} (hw : w < 121) : nI w - nI w / (11 : Int32) * (11 : Int32) = nI (w % 11) := pk_rem (d := 11) (by omega) (by decide) (by decide)
theorem s_weigh {w : Nat} {h : Mem} {N : Row} {Q : Mem → Prop} (hA : A9 h 1 N) (hw : w < 121) (k : ∀ h', Fr1 24 h h' → PcR h' 24 (nw N w) → Q h') : f_X4_weigh (nI w) h Q := by
  unfold f_X4_weigh
  rw [r11 hw, d11 hw]
  refine s_from24 hA (fun h1 f1 p1 => nm (nm (k _ (Fr1.st (Fr1.st f1)) ?_)))
  obtain ⟨p0, p1, p2, p3, p4, p5⟩ := p1
  refine ⟨?_, ?_, ?_, ?_, ?_, ?_⟩ <;> simp [st_at, nw, up_at, p0, p1, p4, p5]
theorem s_offHour {w a n : Nat} {h : Mem} {N : Row} {Q : Int32 → Mem → Prop} (hA : A9 h 1 N) (h0 : N 0 = nI a) (h4 : N 4 = nI n) (han : a ≤ n) (hn : n ≤ 12) (hw : w < 121) (k : ∀ h', Fr1 24 h h' → Q (ofw N a (n - a) w) h') : f_X4_offHour (nI w) h Q := by
  unfold f_X4_offHour
  refine s_weigh hA hw (fun h1 f1 p1 => ?_)
  have b1 := f1.a9 (by decide) hA
  refine s_left9 b1 h0 h4 han (s_takesAhead b1 (by omega) p1 h0 (by omega) (fun h2 f2 p2 => ?_))
  have b2 := f2.a9 (by decide) b1
  rw [b2.2.1 9 (by decide)]
  exact nm (k h2 (f1.tr f2))
theorem s_nearest {a n : Nat} {h : Mem} {N : Row} {Q : Int32 → Mem → Prop} (hA : A9 h 1 N) (h0 : N 0 = nI a) (h4 : N 4 = nI n) (han : a ≤ n) (hn : n ≤ 12) (k : ∀ h', Fr1 24 h h' → Q (nI (am (ofw N a (n - a)) 0 120)) h') : f_X4_nearestWeights h Q := by
  unfold f_X4_nearestWeights
  refine s_offHour (w := 0) hA h0 h4 han hn (by decide) (fun h1 f1 => ?_)
  refine lo3 (fun i => nI (i + 1)) 120 (fun i v2 v3 h' => v2 = nI (am (ofw N a (n - a)) 0 i) ∧ v3 = ofw N a (n - a) (am (ofw N a (n - a)) 0 i) ∧ Fr1 24 h h') rfl (by decide) ⟨rfl, rfl, f1⟩ ?_ ?_
  · rintro K v2 v3 h' ⟨rfl, rfl, f⟩
    unfold f_X4_nearestWeights_b12
    exact ifp (by decide) (k h' f)
  · rintro K i v2 v3 h' hi ⟨rfl, rfl, f⟩ hK
    unfold f_X4_nearestWeights_b12
    refine ifn (nI_ge (b := 121) (by omega) (by decide)) (s_offHour (f.a9 (by decide) hA) h0 h4 han hn (by omega) (fun h2 f2 => ?_))
    rw [nI_1]
    by_cases c : ofw N a (n - a) (am (ofw N a (n - a)) 0 i) ≤ ofw N a (n - a) (i + 1)
    · refine ifp c (nm (hK _ _ _ ⟨?_, ?_, f.tr f2⟩)) <;> rw [am_y (by rw [Nat.zero_add]; exact c)]
    · refine ifn c (nm (hK _ _ _ ⟨?_, ?_, f.tr f2⟩)) <;> rw [am_n (by rw [Nat.zero_add]; exact c), Nat.zero_add]
theorem abs_rng {x : Int32} {M : Int} (h1 : -M ≤ x.toInt) (h2 : x.toInt ≤ M) (hM : M < 2147483648) : 0 ≤ (p_abs x).toInt ∧ (p_abs x).toInt ≤ M := by
  unfold p_abs
  by_cases c : (0 : Int32) ≤ x
  · rw [if_pos c]; rw [fa_le, i0] at c; omega
  · rw [if_neg c]; rw [fa_le, i0] at c
    rw [fb_subI (by rw [i0]; omega) (by rw [i0]; omega), i0]; omega
theorem ofw_rng {N : Row} {a m w : Nat} (hD : Dom N) (hm : a + m ≤ 12) : 0 ≤ (ofw N a m w).toInt ∧ (ofw N a m w).toInt ≤ 200000 := by
  have r := pS_rng (N := N) (P := nw N w) (a := a) hD.2.2.1 (by show _ ≤ (upd _ _ _ 6).toInt ∧ (upd _ _ _ 6).toInt ≤ _; rw [up_n (by decide), up_n (by decide)]; exact hD.2.2.2.1) m hm
  have y := hD.2.2.2.2.2.2.2.2
  have s : (pS N (nw N w) a m - N 15).toInt = (pS N (nw N w) a m).toInt - (N 15).toInt := fb_subI (by omega) (by omega)
  exact abs_rng (M := 200000) (by omega) (by omega) (by decide)
theorem tS_nw {N : Row} {a n w : Nat} (h0 : N 0 = nI a) (hm : a + n ≤ 12) : tS (nw N w) n = pS N (nw N w) a n := by
  rw [tS_pS (a := a) (by unfold nw; rw [up_n (by decide), up_n (by decide)]; exact h0) n hm]
  generalize hP : nw N w = P
  have e : ∀ i, 26 ≤ i → P i = N i := fun i hi => by rw [← hP]; unfold nw; rw [up_n (by omega), up_n (by omega)]
  clear hP
  induction n with
  | zero => rfl
  | succ n ih => rw [pS, pS, ih (by omega), tk_cong e]
theorem s_findW {a n : Nat} {h : Mem} {N : Row} {Q : Int32 → Mem → Prop} (hD : Dom N) (hB : A10 h 44 N) (h0 : N 0 = nI a) (h4 : N 4 = nI n) (han : a ≤ n) (hn : n ≤ 12) (k : ∀ h', A10 h' 44 N → G10 h h' → h' 43 6 = ofw N a (n - a) (am (ofw N a (n - a)) 0 120) → Q (nI (am (ofw N a (n - a)) 0 120)) h') : f_X10_findWeights h Q := by
  unfold f_X10_findWeights
  obtain ⟨V, hV⟩ : ∃ V : Int32, V = (100000000 : Int32) := ⟨_, rfl⟩
  have eV : V.toInt = 100000000 := by rw [hV]; rfl
  rw [hB 8 (by decide), hB 9 (by decide), ← hV]
  refine nm (nm (nm (lo2 nI 121 (fun i v h' => (∃ M, A10 h' 44 M ∧ ∀ j, j ≠ 8 → j ≠ 9 → M j = N j) ∧ G10 h h' ∧ (i = 0 ∧ v = -1 ∧ h' 43 6 = V ∨ 0 < i ∧ v = nI (am (ofw N a (n - a)) 0 (i - 1)) ∧ h' 43 6 = ofw N a (n - a) (am (ofw N a (n - a)) 0 (i - 1)))) rfl (by decide) ⟨⟨N, hB.fr (st_k (by decide)), fun _ _ _ => rfl⟩, ⟨fun b q => st_k (by omega), st_j (by decide), st_j (by decide)⟩, Or.inl ⟨rfl, rfl, st_s⟩⟩ ?_ ?_)))
  · rintro K v h' ⟨⟨M, b, m⟩, g, e⟩
    unfold f_X10_findWeights_b27
    rcases e with ⟨z, -⟩ | ⟨-, e1, e2⟩
    · cases z
    · refine ifp (by decide) (nm (nm ?_))
      rw [e1]
      refine k _ (b.st.st.same (fun i _ => ?_)) (g.tr ⟨fun x q => by rw [st_k (by omega), st_k (by omega)], by rw [st_k (by decide), st_k (by decide)], by rw [st_k (by decide), st_k (by decide)]⟩) (by rw [st_k (by decide), st_k (by decide)]; exact e2)
      by_cases q9 : i = 9
      · subst q9; rw [up_s]
      · rw [up_n q9]
        by_cases q8 : i = 8
        · subst q8; rw [up_s]
        · rw [up_n q8, m i q8 q9]
  · rintro K i v h' hi ⟨⟨M, b, m⟩, g, e⟩ hK
    unfold f_X10_findWeights_b27
    rw [r11 hi, d11 hi]
    refine ifn (nI_ge (b := 121) hi (by decide)) (nm (nm ?_))
    have b2 : A10 (gm_st (gm_st h' 44 8 (nI (i / 11))) 44 9 (nI (i % 11))) 44 (nw N i) := b.st.st.same (fun j _ => by
      unfold nw
      rw [up_at, up_at, up_at, up_at]
      by_cases q9 : j = 9
      · rw [if_pos q9, if_pos q9]
      · rw [if_neg q9, if_neg q9]
        by_cases q8 : j = 8
        · rw [if_pos q8, if_pos q8]
        · rw [if_neg q8, if_neg q8, m j q8 q9])
    have x0 : nw N i 0 = nI a := by unfold nw; rw [up_n (by decide), up_n (by decide)]; exact h0
    have x4 : nw N i 4 = nI n := by unfold nw; rw [up_n (by decide), up_n (by decide)]; exact h4
    refine s_restTakes b2 x0 x4 han hn (fun h9 b9 f9 => ?_)
    have g9 : G10 h h9 := g.tr (G10.tr ⟨fun x q => by rw [st_k (by omega), st_k (by omega)], by rw [st_k (by decide), st_k (by decide)], by rw [st_k (by decide), st_k (by decide)]⟩ f9.g10)
    have e15 : h9 44 15 = N 15 := by rw [b9 15 (by decide)]; unfold nw; rw [up_n (by decide), up_n (by decide)]
    rw [e15, tS_nw h0 (by omega), nI_1]
    refine nm ?_
    have e6 : h9 43 6 = h' 43 6 := by rw [f9 43 (by decide) (by decide), st_k (by decide), st_k (by decide)]
    have m9 : ∀ j, j ≠ 8 → j ≠ 9 → nw N i j = N j := fun j q8 q9 => by unfold nw; rw [up_n q9, up_n q8]
    rw [e6]
    have fin : ∀ (x : Int32) (y : Int32), y = nI (am (ofw N a (n - a)) 0 i) → x = ofw N a (n - a) (am (ofw N a (n - a)) 0 i) → K y (nI (i + 1)) (gm_st h9 43 6 x) := fun x y ey ex => hK _ _ ⟨⟨nw N i, b9.fr (st_k (by decide)), m9⟩, g9.tr ⟨fun x q => st_k (by omega), st_j (by decide), st_j (by decide)⟩, Or.inr ⟨by omega, by rw [ey]; rfl, by rw [st_s, ex]; rfl⟩⟩
    show if h' 43 6 ≤ ofw N a (n - a) i then _ else _
    rcases e with ⟨rfl, rfl, e2⟩ | ⟨h1, rfl, e2⟩
    · rw [e2]
      have r := ofw_rng (N := N) (a := a) (m := n - a) (w := 0) hD (by omega)
      have c : ¬ V ≤ ofw N a (n - a) 0 := by rw [fa_le, eV]; omega
      exact ifn c (nm (nm (nm (fin _ _ rfl (min_r c)))))
    · rw [e2]
      have ei : i - 1 + 1 = i := by omega
      by_cases c : ofw N a (n - a) (am (ofw N a (n - a)) 0 (i - 1)) ≤ ofw N a (n - a) i
      · have z := am_y (f := ofw N a (n - a)) (lo := 0) (i := i - 1) (by rw [Nat.zero_add, ei]; exact c)
        rw [ei] at z
        exact ifp c (nm (nm (nm (fin _ _ (by rw [z]) (by rw [z]; exact min_l c)))))
      · have z := am_n (f := ofw N a (n - a)) (lo := 0) (i := i - 1) (by rw [Nat.zero_add, ei]; exact c)
        rw [Nat.zero_add, ei] at z
        exact ifn c (nm (nm (nm (fin _ _ (by rw [z]) (by rw [z]; exact min_r c)))))
theorem pair_found (h : Mem) (hI : Inv h) : f_X9_found h (fun r h1 => f_X10_found h1 (fun r2 h2 => r = r2 ∧ Inv h2)) := by
  obtain ⟨N, hV⟩ := hI
  obtain ⟨a, n, han, hn, h0, h4, hw, hs⟩ := hV.1.1
  have hA := hV.2.1
  refine pr_ok (f9 := f_X9_found) (f10 := f_X10_found) (r := nI (am (ofw N a (n - a)) 0 120)) (N' := N) hV hV.1 (fun Q k => ?_) (fun h Q hB _ k => ?_)
  · unfold f_X9_found
    exact s_nearest hA h0 h4 han hn (fun h1 f1 => k h1 (f1.a9 (by decide) hA) (f1.g9 (by decide) (by decide)))
  · unfold f_X10_found
    exact s_findW hV.1 hB h0 h4 han hn (fun h1 b1 g1 _ => k h1 b1 g1)
theorem pair_off (h : Mem) (hI : Inv h) : f_X9_off h (fun r h1 => f_X10_off h1 (fun r2 h2 => r = r2 ∧ Inv h2)) := by
  obtain ⟨N, hV⟩ := hI
  obtain ⟨a, n, han, hn, h0, h4, hw, hs⟩ := hV.1.1
  have hA := hV.2.1
  have hm := am_in (ofw N a (n - a)) 0 120
  refine pr_ok (f9 := f_X9_off) (f10 := f_X10_off) (r := ofw N a (n - a) (am (ofw N a (n - a)) 0 120)) (N' := N) hV hV.1 (fun Q k => ?_) (fun h Q hB _ k => ?_)
  · unfold f_X9_off
    exact s_nearest hA h0 h4 han hn (fun h1 f1 => s_offHour (f1.a9 (by decide) hA) h0 h4 han hn (by omega) (fun h2 f2 => k h2 ((f1.tr f2).a9 (by decide) hA) ((f1.tr f2).g9 (by decide) (by decide))))
  · unfold f_X10_off
    refine s_findW hV.1 hB h0 h4 han hn (fun h1 b1 g1 e1 => ifp (nI_pos' (by omega)) ?_)
    rw [e1]
    exact k h1 b1 g1
