/-! GRID, WORST, TRIPS, KINDFOR -/
def unS (N : Row) (L E : Int32) (a : Nat) : Nat → Int32
  | 0 => 0
  | i + 1 => (unS N L E a i + p_trips (N (26 + 3 * (a + i))) (N (26 + 3 * (a + i) + 2)) L E) + p_seen (N (26 + 3 * (a + i))) L E
def uu (N : Row) (a m g : Nat) : Int32 := unS N (nI (g / 10)) (nI (g % 10)) a m
def ng (N : Row) (g : Nat) : Row := upd (upd N 13 (nI (g / 10))) 12 (nI (g % 10))
theorem i4 (a b c d : Int32) : ((a + b) + c) + d = (a + c) + (b + d) := by
  rw [Int32.add_assoc a b c, Int32.add_comm b c, ← Int32.add_assoc a c b, Int32.add_assoc (a + c) b d]
theorem tr_ng (N : Row) (g l : Nat) : tr (ng N g) l = p_trips (N (26 + 3 * l)) (N (26 + 3 * l + 2)) (nI (g / 10)) (nI (g % 10)) := by
  unfold tr ng
  rw [up_n (by omega), up_n (by omega), up_n (by omega), up_n (by omega), up_n (j := 12) (i := 13) (by decide), up_s, up_s]
theorem se_ng (N : Row) (g l : Nat) : se (ng N g) l = p_seen (N (26 + 3 * l)) (nI (g / 10)) (nI (g % 10)) := by
  unfold se ng
  rw [up_n (by omega), up_n (by omega), up_n (j := 12) (i := 13) (by decide), up_s, up_s]
theorem uu_eq (N : Row) (a g : Nat) : ∀ m, trS (ng N g) a m + seS (ng N g) a m = uu N a m g
  | 0 => rfl
  | m + 1 => by
    have ih := uu_eq N a g m
    unfold uu at *
    rw [trS, seS, unS, ← ih, tr_ng, se_ng, i4]
theorem uu_rng {N : Row} {a g : Nat} (hD : D2 N) (hg : g < 70) : ∀ m, a + m ≤ 12 → 0 ≤ (uu N a m g).toInt ∧ (uu N a m g).toInt ≤ 40 * m
  | 0, _ => ⟨by show (0 : Int) ≤ (0 : Int32).toInt; decide, by show (0 : Int32).toInt ≤ _; rw [i0]; omega⟩
  | m + 1, hm => by
    have ih := uu_rng (a := a) hD hg m (by omega)
    unfold uu at *
    have h1 := (hD (a + m) (by omega)).2.2
    have l1 : 0 ≤ (nI (g / 10)).toInt ∧ (nI (g / 10)).toInt ≤ 9 := by rw [nI_toInt (by omega)]; omega
    have l2 : 0 ≤ (nI (g % 10)).toInt ∧ (nI (g % 10)).toInt ≤ 9 := by rw [nI_toInt (by omega)]; omega
    have t := trips_rng (k := N (26 + 3 * (a + m))) h1 l1 l2
    have s := seen_rng (k := N (26 + 3 * (a + m))) l1 l2
    rw [unS, add_i (by rw [add_i (by omega) (by omega) (by omega)]; omega) (by omega) (by rw [add_i (by omega) (by omega) (by omega)]; omega), add_i (by omega) (by omega) (by omega)]
    omega
theorem s_unrest {a n : Nat} {L E : Int32} {h : Mem} {N : Row} {Q : Int32 → Mem → Prop} (hA : A9 h 1 N) (h0 : N 0 = nI a) (h4 : N 4 = nI n) (han : a ≤ n) (hn : n ≤ 12) (k : Q (unS N L E a (n - a)) h) : f_X6_unrestAhead 1 L E h Q := by
  unfold f_X6_unrestAhead
  rw [hA.1.1, h0]
  refine nm (lo2 (fun i => nI (a + i)) (n - a) (fun i v h' => h' = h ∧ v = unS N L E a i) rfl (by omega) ⟨rfl, rfl⟩ ?_ ?_)
  · rintro K v h' ⟨rfl, rfl⟩
    unfold f_X6_unrestAhead_b8
    rw [hA.1.2.2.2.2.1, h4]
    exact ifp (nI_le (by omega) (by omega)) k
  · rintro K i v h' hi ⟨rfl, rfl⟩ hK
    unfold f_X6_unrestAhead_b8
    rw [hA.1.2.2.2.2.1, h4]
    obtain ⟨d0, d1, d2⟩ := hA.2.2.2 (a + i) (by omega)
    refine ifn (nI_ge (by omega) (by omega)) ⟨vi (by omega) (by decide), vi (by omega) (by decide), s_trips9 (nm ⟨vi (by omega) (by decide), s_seen9 (nm (nm ?_))⟩)⟩
    rw [nI_1, cl (by omega), d0, d2]
    exact hK _ _ ⟨rfl, rfl⟩
theorem g_div {L E : Nat} (hL : L ≤ 6) (hE : E ≤ 9) : (10 * L + E) / 10 = L ∧ (10 * L + E) % 10 = E := by omega
theorem ten_g {L E : Nat} : ((10 : Int32) * nI L) + nI E = nI (10 * L + E) := by
  show nI 10 * nI L + nI E = _
  rw [pk_mul, nI_add]
/-- the state of the search when all before g are looked at -/
def GB (f : Nat → Int32) (v0 w0 : Int32) (g : Nat) (v w : Int32) : Prop := g = 10 ∧ v = v0 ∧ w = w0 ∨ 10 < g ∧ v = nI (am f 10 (g - 11)) ∧ w = f (am f 10 (g - 11))
theorem GB.y {f : Nat → Int32} {v0 w0 v w : Int32} {g : Nat} (x : GB f v0 w0 g v w) (hw : ¬ w0 ≤ f 10) (c : w ≤ f g) : GB f v0 w0 (g + 1) v w := by
  rcases x with ⟨rfl, rfl, rfl⟩ | ⟨h1, rfl, rfl⟩
  · exact absurd c hw
  · have e : am f 10 (g + 1 - 11) = am f 10 (g - 11) := by
      rw [show g + 1 - 11 = (g - 11) + 1 by omega]
      exact am_y (by rw [show 10 + (g - 11) + 1 = g by omega]; exact c)
    exact Or.inr ⟨by omega, by rw [e], by rw [e]⟩
theorem GB.n {f : Nat → Int32} {v0 w0 v w : Int32} {g : Nat} (x : GB f v0 w0 g v w) (c : ¬ w ≤ f g) : GB f v0 w0 (g + 1) (nI g) (f g) := by
  rcases x with ⟨rfl, rfl, rfl⟩ | ⟨h1, rfl, rfl⟩
  · exact Or.inr ⟨by omega, rfl, rfl⟩
  · have e : am f 10 (g + 1 - 11) = g := by
      rw [show g + 1 - 11 = (g - 11) + 1 by omega, am_n (by rw [show 10 + (g - 11) + 1 = g by omega]; exact c)]
      omega
    exact Or.inr ⟨by omega, by rw [e], by rw [e]⟩
theorem s_calmest {a n : Nat} {h : Mem} {N : Row} {Q : Int32 → Mem → Prop} (hD : Dom N) (hA : A9 h 1 N) (h0 : N 0 = nI a) (h4 : N 4 = nI n) (han : a ≤ n) (hn : n ≤ 12) (k : Q (nI (am (uu N a (n - a)) 10 59)) h) : f_X4_calmestEyes h Q := by
  unfold f_X4_calmestEyes
  obtain ⟨V, hV⟩ : ∃ V : Int32, V = (1000000 : Int32) := ⟨_, rfl⟩
  have eV : V.toInt = 1000000 := by rw [hV]; rfl
  rw [← hV]
  have r := uu_rng (N := N) (a := a) (g := 10) hD.2.2.1 (by decide) (n - a) (by omega)
  have hw : ¬ V ≤ uu N a (n - a) 10 := by rw [fa_le, eV]; omega
  have e10 : ((10 : Int32) * (1 : Int32)) + (0 : Int32) = nI 10 := by decide
  rw [e10]
  refine nm (lo3 (fun i => nI (i + 1)) 6 (fun i v2 v3 h' => h' = h ∧ GB (uu N a (n - a)) (nI 10) V (10 * (i + 1)) v2 v3) rfl (by decide) ⟨rfl, Or.inl ⟨rfl, rfl, rfl⟩⟩ ?_ ?_)
  · rintro K v2 v3 h' ⟨rfl, g⟩
    unfold f_X4_calmestEyes_b28
    rcases g with ⟨z, -⟩ | ⟨-, rfl, -⟩
    · omega
    · exact ifp (by decide) k
  · rintro K i v2 v3 h' hi ⟨rfl, g⟩ hK
    unfold f_X4_calmestEyes_b28
    refine ifn (nI_nlt (a := 6) (b := i + 1) (by omega) (by decide)) ?_
    refine lo3 nI 10 (fun e v2 v3 h2 => h2 = h' ∧ GB (uu N a (n - a)) (nI 10) V (10 * (i + 1) + e) v2 v3) rfl (by decide) ⟨rfl, g⟩ ?_ ?_
    · rintro K2 v2 v3 h2 ⟨rfl, g⟩
      unfold f_X4_calmestEyes_b47
      refine ifp (by decide) (nm ?_)
      rw [nI_1]
      exact hK _ _ _ ⟨rfl, by rw [show 10 * (i + 1 + 1) = 10 * (i + 1) + 10 by omega]; exact g⟩
    · rintro K2 e v2 v3 h2 he ⟨rfl, g⟩ hK2
      unfold f_X4_calmestEyes_b47
      refine ifn (nI_nlt (a := 9) (b := e) (by omega) (by decide)) (s_unrest hA h0 h4 han hn ?_)
      have q : unS N (nI (i + 1)) (nI e) a (n - a) = uu N a (n - a) (10 * (i + 1) + e) := by
        unfold uu
        rw [(g_div (L := i + 1) (E := e) (by omega) (by omega)).1, (g_div (L := i + 1) (E := e) (by omega) (by omega)).2]
      rw [q, nI_1, ten_g]
      by_cases c : v3 ≤ uu N a (n - a) (10 * (i + 1) + e)
      · exact ifp c (nm (hK2 _ _ _ ⟨rfl, g.y hw c⟩))
      · exact ifn c (nm (nm (hK2 _ _ _ ⟨rfl, g.n c⟩)))
theorem d10' {g : Nat} (hg : g < 70) : nI g / (10 : Int32) = nI (g / 10) := pk_div (d := 10) (by omega) (by decide) (by decide)
theorem r10' {g : Nat} (hg : g < 70) : nI g - nI g / (10 : Int32) * (10 : Int32) = nI (g % 10) := pk_rem (d := 10) (by omega) (by decide) (by decide)
theorem s_findG {a n : Nat} {h : Mem} {N : Row} {Q : Int32 → Mem → Prop} (hD : Dom N) (hB : A10 h 44 N) (h0 : N 0 = nI a) (h4 : N 4 = nI n) (han : a ≤ n) (hn : n ≤ 12) (k : ∀ h', A10 h' 44 N → G10 h h' → h' 43 7 = uu N a (n - a) (am (uu N a (n - a)) 10 59) → Q (nI (am (uu N a (n - a)) 10 59)) h') : f_X10_findGrid h Q := by
  unfold f_X10_findGrid
  obtain ⟨V, hV⟩ : ∃ V : Int32, V = (100000000 : Int32) := ⟨_, rfl⟩
  have eV : V.toInt = 100000000 := by rw [hV]; rfl
  have r := uu_rng (N := N) (a := a) (g := 10) hD.2.2.1 (by decide) (n - a) (by omega)
  have hw : ¬ V ≤ uu N a (n - a) 10 := by rw [fa_le, eV]; omega
  rw [hB 13 (by decide), hB 12 (by decide), ← hV]
  refine nm (nm (nm (lo2 (fun i => nI (i + 10)) 60 (fun i v h' => (∃ M, A10 h' 44 M ∧ ∀ j, j ≠ 12 → j ≠ 13 → M j = N j) ∧ G10 h h' ∧ GB (uu N a (n - a)) (-1) V (i + 10) v (h' 43 7)) rfl (by decide) ⟨⟨N, hB.fr (st_k (by decide)), fun _ _ _ => rfl⟩, ⟨fun b q => st_k (by omega), st_j (by decide), st_j (by decide)⟩, Or.inl ⟨rfl, rfl, st_s⟩⟩ ?_ ?_)))
  · rintro K v h' ⟨⟨M, b, m⟩, g, e⟩
    unfold f_X10_findGrid_b28
    rcases e with ⟨z, -⟩ | ⟨-, e1, e2⟩
    · omega
    · refine ifp (by decide) (nm (nm ?_))
      rw [e1]
      refine k _ (b.st.st.same (fun i _ => ?_)) (g.tr ⟨fun x q => by rw [st_k (by omega), st_k (by omega)], by rw [st_k (by decide), st_k (by decide)], by rw [st_k (by decide), st_k (by decide)]⟩) (by rw [st_k (by decide), st_k (by decide)]; exact e2)
      by_cases q9 : i = 12
      · subst q9; rw [up_s]
      · rw [up_n q9]
        by_cases q8 : i = 13
        · subst q8; rw [up_s]
        · rw [up_n q8, m i q9 q8]
  · rintro K i v h' hi ⟨⟨M, b, m⟩, g, e⟩ hK
    unfold f_X10_findGrid_b28
    rw [r10' (by omega), d10' (by omega)]
    refine ifn (nI_ge (a := i + 10) (b := 70) (by omega) (by decide)) (nm (nm ?_))
    have b2 : A10 (gm_st (gm_st h' 44 13 (nI ((i + 10) / 10))) 44 12 (nI ((i + 10) % 10))) 44 (ng N (i + 10)) := b.st.st.same (fun j _ => by
      unfold ng
      rw [up_at, up_at, up_at, up_at]
      by_cases q9 : j = 12
      · rw [if_pos q9, if_pos q9]
      · rw [if_neg q9, if_neg q9]
        by_cases q8 : j = 13
        · rw [if_pos q8, if_pos q8]
        · rw [if_neg q8, if_neg q8, m j q9 q8])
    have x0 : ng N (i + 10) 0 = nI a := by unfold ng; rw [up_n (by decide), up_n (by decide)]; exact h0
    have x4 : ng N (i + 10) 4 = nI n := by unfold ng; rw [up_n (by decide), up_n (by decide)]; exact h4
    refine s_restTrips b2 x0 x4 han hn (s_restSeen b2 x0 x4 han hn ?_)
    rw [uu_eq, nI_1]
    refine nm ?_
    have g9 : G10 h (gm_st (gm_st h' 44 13 (nI ((i + 10) / 10))) 44 12 (nI ((i + 10) % 10))) := g.tr ⟨fun x q => by rw [st_k (by omega), st_k (by omega)], by rw [st_k (by decide), st_k (by decide)], by rw [st_k (by decide), st_k (by decide)]⟩
    have e7 : gm_st (gm_st h' 44 13 (nI ((i + 10) / 10))) 44 12 (nI ((i + 10) % 10)) 43 7 = h' 43 7 := by rw [st_k (by decide), st_k (by decide)]
    generalize gm_st (gm_st h' 44 13 (nI ((i + 10) / 10))) 44 12 (nI ((i + 10) % 10)) = h9 at b2 g9 e7 ⊢
    have m9 : ∀ j, j ≠ 12 → j ≠ 13 → ng N (i + 10) j = N j := fun j q8 q9 => by unfold ng; rw [up_n q8, up_n q9]
    have fin : ∀ (x y : Int32), GB (uu N a (n - a)) (-1) V (i + 10 + 1) y x → K y (nI (i + 10 + 1)) (gm_st h9 43 7 x) := fun x y hx => by
      rw [show i + 10 + 1 = i + 1 + 10 by omega] at hx ⊢
      exact hK _ _ ⟨⟨ng N (i + 10), b2.fr (st_k (by decide)), m9⟩, g9.tr ⟨fun x q => st_k (by omega), st_j (by decide), st_j (by decide)⟩, by rw [st_s]; exact hx⟩
    rw [e7]
    by_cases c : h' 43 7 ≤ uu N a (n - a) (i + 10)
    · exact ifp c (nm (nm (nm (fin _ _ (by rw [min_l c]; exact e.y hw c)))))
    · exact ifn c (nm (nm (nm (fin _ _ (by rw [min_r c]; exact e.n c)))))
theorem pair_grid (h : Mem) (hI : Inv h) : f_X9_grid h (fun r h1 => f_X10_grid h1 (fun r2 h2 => r = r2 ∧ Inv h2)) := by
  obtain ⟨N, hV⟩ := hI
  obtain ⟨a, n, han, hn, h0, h4, hw, hs⟩ := hV.1.1
  have hA := hV.2.1
  refine pr_ok (f9 := f_X9_grid) (f10 := f_X10_grid) (r := nI (am (uu N a (n - a)) 10 59)) (N' := N) hV hV.1 (fun Q k => ?_) (fun h Q hB _ k => ?_)
  · unfold f_X9_grid
    exact s_calmest hV.1 hA h0 h4 han hn (k h hA G9.rf)
  · unfold f_X10_grid
    exact s_findG hV.1 hB h0 h4 han hn (fun h1 b1 g1 _ => k h1 b1 g1)
theorem pair_worst (h : Mem) (hI : Inv h) : f_X9_worst h (fun r h1 => f_X10_worst h1 (fun r2 h2 => r = r2 ∧ Inv h2)) := by
  obtain ⟨N, hV⟩ := hI
  obtain ⟨a, n, han, hn, h0, h4, hw, hs⟩ := hV.1.1
  have hA := hV.2.1
  have hm := am_in (uu N a (n - a)) 10 59
  refine pr_ok (f9 := f_X9_worst) (f10 := f_X10_worst) (r := uu N a (n - a) (am (uu N a (n - a)) 10 59)) (N' := N) hV hV.1 (fun Q k => ?_) (fun h Q hB _ k => ?_)
  · unfold f_X9_worst
    refine s_calmest hV.1 hA h0 h4 han hn ?_
    rw [r10' (by omega), d10' (by omega)]
    exact s_unrest hA h0 h4 han hn (k h hA G9.rf)
  · unfold f_X10_worst
    refine s_findG hV.1 hB h0 h4 han hn (fun h1 b1 g1 e1 => ifp (nI_pos' (by omega)) ?_)
    rw [e1]
    exact k h1 b1 g1
/-! trips -/
def ax (f : Nat → Int32) : Nat → Nat
  | 0 => 0
  | i + 1 => if f (i + 1) ≤ f (ax f i) then ax f i else i + 1
theorem pair_trips (h : Mem) (hI : Inv h) : f_X9_trips h (fun r h1 => f_X10_trips_ h1 (fun r2 h2 => r = r2 ∧ Inv h2)) := by
  obtain ⟨N, hV⟩ := hI
  obtain ⟨a, n, han, hn, h0, h4, hw, hs⟩ := hV.1.1
  have hA := hV.2.1
  by_cases hz : n = 0
  · refine pr_no (f9 := f_X9_trips) (f10 := f_X10_trips_) (w := id) 3 (by decide) hV (fun Q k => ?_) (fun h Q hB _ k => ?_)
    · unfold f_X9_trips
      rw [hA.1.2.2.2.2.1, h4, hz]
      exact ifp rfl (k h hA G9.rf)
    · unfold f_X10_trips_
      refine lo3 nI 0 (fun i v1 v2 h' => h' = h ∧ v1 = -1) rfl (by decide) ⟨rfl, rfl⟩ ?_ (fun K i v1 v2 h' hi => absurd hi (Nat.not_lt_zero i))
      rintro K v1 v2 h' ⟨rfl, rfl⟩
      unfold f_X10_trips__b6
      rw [hB 4 (by decide), h4, hz]
      exact ifp (by decide) (ifn (by decide) (k h' hB G10.rf))
  · have neg : ∀ l, l < 12 → ¬ tr N l ≤ (-1 : Int32) := fun l hl => by
      have := tr_rng (N := N) (l := l) hV.1.2.2.1 hV.1.2.2.2 hl
      rw [fa_le, im1]; omega
    have st : ∀ i v1 v2 : Int32, True := fun _ _ _ => trivial
    refine pr_ok (f9 := f_X9_trips) (f10 := f_X10_trips_) (r := nI (ax (tr N) (n - 1))) (N' := N) hV hV.1 (fun Q k => ?_) (fun h Q hB _ k => ?_)
    · unfold f_X9_trips
      rw [hA.1.2.2.2.2.1, h4]
      refine ifn (nI_ne0 (by omega) (by omega)) ?_
      unfold f_X4_mostTripping
      refine lo3 nI n (fun i v1 v2 h' => h' = h ∧ (i = 0 ∧ v1 = 0 ∧ v2 = -1 ∨ 0 < i ∧ v1 = nI (ax (tr N) (i - 1)) ∧ v2 = tr N (ax (tr N) (i - 1)))) rfl (by omega) ⟨rfl, Or.inl ⟨rfl, rfl, rfl⟩⟩ ?_ ?_
      · rintro K v1 v2 h' ⟨rfl, e⟩
        unfold f_X4_mostTripping_b7
        rw [hA.1.2.2.2.2.1, h4]
        rcases e with ⟨z, -⟩ | ⟨-, rfl, -⟩
        · exact absurd z hz
        · exact ifp (nI_le (Nat.le_refl _) (by omega)) (k h' hA G9.rf)
      · rintro K i v1 v2 h' hi ⟨rfl, e⟩ hK
        unfold f_X4_mostTripping_b7
        rw [hA.1.2.2.2.2.1, h4, nI_1]
        refine ifn (nI_ge hi (by omega)) (s_tripsOf hA (by omega) ?_)
        rcases e with ⟨rfl, rfl, rfl⟩ | ⟨h1, rfl, rfl⟩
        · exact ifn (neg 0 (by decide)) (nm (hK _ _ _ ⟨rfl, Or.inr ⟨by omega, rfl, rfl⟩⟩))
        · have ei : i - 1 + 1 = i := by omega
          have z : ax (tr N) i = if tr N i ≤ tr N (ax (tr N) (i - 1)) then ax (tr N) (i - 1) else i := by
            have : ax (tr N) (i - 1 + 1) = if tr N (i - 1 + 1) ≤ tr N (ax (tr N) (i - 1)) then ax (tr N) (i - 1) else i - 1 + 1 := rfl
            rw [ei] at this
            exact this
          by_cases c : tr N i ≤ tr N (ax (tr N) (i - 1))
          · rw [if_pos c] at z
            exact ifp c (nm (hK _ _ _ ⟨rfl, Or.inr ⟨by omega, by rw [Nat.add_sub_cancel, z], by rw [Nat.add_sub_cancel, z]⟩⟩))
          · rw [if_neg c] at z
            exact ifn c (nm (hK _ _ _ ⟨rfl, Or.inr ⟨by omega, by rw [Nat.add_sub_cancel, z], by rw [Nat.add_sub_cancel, z]⟩⟩))
    · unfold f_X10_trips_
      refine lo3 nI n (fun i v1 v2 h' => h' = h ∧ (i = 0 ∧ v1 = -1 ∧ v2 = -1 ∨ 0 < i ∧ v1 = nI (ax (tr N) (i - 1)) ∧ v2 = tr N (ax (tr N) (i - 1)) ∧ ax (tr N) (i - 1) < 12)) rfl (by omega) ⟨rfl, Or.inl ⟨rfl, rfl, rfl⟩⟩ ?_ ?_
      · rintro K v1 v2 h' ⟨rfl, e⟩
        unfold f_X10_trips__b6
        rw [hB 4 (by decide), h4]
        rcases e with ⟨z, -⟩ | ⟨-, rfl, -, z⟩
        · exact absurd z hz
        · exact ifp (nI_le (Nat.le_refl _) (by omega)) (ifp (nI_pos' (by omega)) (k h' hB G10.rf))
      · rintro K i v1 v2 h' hi ⟨rfl, e⟩ hK
        unfold f_X10_trips__b6
        rw [hB 4 (by decide), h4, nI_1]
        refine ifn (nI_ge hi (by omega)) (s_trips10 hB (by omega) ?_)
        rcases e with ⟨rfl, rfl, rfl⟩ | ⟨h1, rfl, rfl, h12⟩
        · refine ifn (neg 0 (by decide)) (s_trips10 (l := 0) hB (by omega) ?_)
          rw [max_r (neg 0 (by decide))]
          exact nm (nm (hK _ _ _ ⟨rfl, Or.inr ⟨by omega, rfl, rfl, by show 0 < 12; decide⟩⟩))
        · have ei : i - 1 + 1 = i := by omega
          have z : ax (tr N) i = if tr N i ≤ tr N (ax (tr N) (i - 1)) then ax (tr N) (i - 1) else i := by
            have : ax (tr N) (i - 1 + 1) = if tr N (i - 1 + 1) ≤ tr N (ax (tr N) (i - 1)) then ax (tr N) (i - 1) else i - 1 + 1 := rfl
            rw [ei] at this
            exact this
          by_cases c : tr N i ≤ tr N (ax (tr N) (i - 1))
          · rw [if_pos c] at z
            refine ifp c (s_trips10 hB (by omega) ?_)
            rw [max_l c]
            exact nm (nm (hK _ _ _ ⟨rfl, Or.inr ⟨by omega, by rw [Nat.add_sub_cancel, z], by rw [Nat.add_sub_cancel, z], by rw [Nat.add_sub_cancel, z]; exact h12⟩⟩))
          · rw [if_neg c] at z
            refine ifn c (s_trips10 hB (by omega) ?_)
            rw [max_r c]
            exact nm (nm (hK _ _ _ ⟨rfl, Or.inr ⟨by omega, by rw [Nat.add_sub_cancel, z], by rw [Nat.add_sub_cancel, z], by rw [Nat.add_sub_cancel, z]; omega⟩⟩))
/-! kindFor -/
def nk (N : Row) (l κ : Nat) : Row := upd N (26 + 3 * l) (nI κ)
def kf (N : Row) (l a m κ : Nat) : Int32 := pS (nk N l κ) (nk N l κ) a m
def KB (f : Nat → Int32) (v0 w0 : Int32) (g : Nat) (v w : Int32) : Prop := g = 0 ∧ v = v0 ∧ w = w0 ∨ 0 < g ∧ v = nI (am f 0 (g - 1)) ∧ w = f (am f 0 (g - 1))
theorem KB.y {f : Nat → Int32} {v0 w0 v w : Int32} {g : Nat} (x : KB f v0 w0 g v w) (hw : ¬ w0 ≤ f 0) (c : w ≤ f g) : KB f v0 w0 (g + 1) v w := by
  rcases x with ⟨rfl, rfl, rfl⟩ | ⟨h1, rfl, rfl⟩
  · exact absurd c hw
  · have e : am f 0 (g + 1 - 1) = am f 0 (g - 1) := by
      rw [show g + 1 - 1 = (g - 1) + 1 by omega]
      exact am_y (by rw [show 0 + (g - 1) + 1 = g by omega]; exact c)
    exact Or.inr ⟨by omega, by rw [e], by rw [e]⟩
theorem KB.n {f : Nat → Int32} {v0 w0 v w : Int32} {g : Nat} (x : KB f v0 w0 g v w) (c : ¬ w ≤ f g) : KB f v0 w0 (g + 1) (nI g) (f g) := by
  rcases x with ⟨rfl, rfl, rfl⟩ | ⟨h1, rfl, rfl⟩
  · exact Or.inr ⟨by omega, rfl, rfl⟩
  · have e : am f 0 (g + 1 - 1) = g := by
      rw [show g + 1 - 1 = (g - 1) + 1 by omega, am_n (by rw [show 0 + (g - 1) + 1 = g by omega]; exact c)]
      omega
    exact Or.inr ⟨by omega, by rw [e], by rw [e]⟩
theorem nk_is {N M : Row} {l κ : Nat} (m : ∀ j, j ≠ 26 + 3 * l → M j = N j) : ∀ j, nk N l κ j = upd M (26 + 3 * l) (nI κ) j := by
  intro j
  unfold nk
  rw [up_at, up_at]
  by_cases q : j = 26 + 3 * l
  · rw [if_pos q, if_pos q]
  · rw [if_neg q, if_neg q, m j q]
theorem nk_back {N M : Row} {l : Nat} (m : ∀ j, j ≠ 26 + 3 * l → M j = N j) : ∀ j, N j = upd M (26 + 3 * l) (N (26 + 3 * l)) j := by
  intro j
  rw [up_at]
  by_cases q : j = 26 + 3 * l
  · rw [if_pos q, q]
  · rw [if_neg q, m j q]
theorem kf_rng {N : Row} {l a m κ : Nat} (hD : Dom N) (hκ : κ ≤ 6) (hm : a + m ≤ 12) : 0 ≤ (kf N l a m κ).toInt ∧ (kf N l a m κ).toInt ≤ 2100 * m := by
  have d : Dom (nk N l κ) := hD.kind (by rw [nI_toInt (by omega)]; omega) (by rw [nI_toInt (by omega)]; omega)
  exact pS_rng d.2.2.1 d.2.2.2.1 m hm
theorem s_quickest {l a n : Nat} {h : Mem} {N : Row} {Q : Int32 → Mem → Prop} (hD : Dom N) (hA : A9 h 1 N) (h0 : N 0 = nI a) (h4 : N 4 = nI n) (han : a ≤ n) (hn : n ≤ 12) (hl : l < n) (k : ∀ h', A9 h' 1 N → G9 h h' → Q (nI (am (kf N l a (n - a)) 0 6)) h') : f_X4_quickestKind (nI l) h Q := by
  unfold f_X4_quickestKind
  obtain ⟨V, hV⟩ : ∃ V : Int32, V = (1000000 : Int32) := ⟨_, rfl⟩
  have eV : V.toInt = 1000000 := by rw [hV]; rfl
  have r := kf_rng (N := N) (l := l) (a := a) (κ := 0) (m := n - a) hD (by decide) (by omega)
  have hw : ¬ V ≤ kf N l a (n - a) 0 := by rw [fa_le, eV]; omega
  rw [← hV, cl (by omega), (hA.2.2.2 l (by omega)).1]
  refine ⟨vi (by omega) (by decide), nm (lo3 nI 7 (fun i v4 v5 h' => (∃ M, A9 h' 1 M ∧ ∀ j, j ≠ 26 + 3 * l → M j = N j) ∧ G9 h h' ∧ KB (kf N l a (n - a)) 0 V i v4 v5) rfl (by decide) ⟨⟨N, hA, fun _ _ => rfl⟩, G9.rf, Or.inl ⟨rfl, rfl, rfl⟩⟩ ?_ ?_)⟩
  · rintro K v4 v5 h' ⟨⟨M, b, m⟩, g, e⟩
    unfold f_X4_quickestKind_b17
    rcases e with ⟨z, -⟩ | ⟨-, rfl, -⟩
    · omega
    · refine ifp (by decide) ⟨vi (by omega) (by decide), nm ?_⟩
      rw [cl (by omega)]
      exact k _ ((b.feature (i := l) (f := 0) (v := N (26 + 3 * l)) (by omega) (by decide)).same (fun j _ => nk_back m j)) (g.tr (fun x q => st_k (by omega)))
  · rintro K i v4 v5 h' hi ⟨⟨M, b, m⟩, g, e⟩ hK
    unfold f_X4_quickestKind_b17
    rw [cl (by omega), nI_1]
    refine ifn (nI_nlt (a := 6) (b := i) (by omega) (by decide)) ⟨vi (by omega) (by decide), nm ?_⟩
    have b2 : A9 (gm_st h' 2 l (nI i)) 1 (nk N l i) := (b.feature (i := l) (f := 0) (v := nI i) (by omega) (by decide)).same (fun j _ => nk_is m j)
    have g2 : G9 h (gm_st h' 2 l (nI i)) := g.tr (fun x q => st_k (by omega))
    have x0 : nk N l i 0 = nI a := by unfold nk; rw [up_n (by omega)]; exact h0
    have x4 : nk N l i 4 = nI n := by unfold nk; rw [up_n (by omega)]; exact h4
    refine s_from24 b2 (fun h8 f8 p8 => ?_)
    have b8 := f8.a9 (by decide) b2
    refine s_left9 b8 x0 x4 han (s_takesAhead b8 (by omega) p8 x0 (by omega) (fun h11 f11 p11 => ?_))
    have b11 := f11.a9 (by decide) b8
    have g11 : G9 h h11 := (g2.tr (f8.g9 (by decide) (by decide))).tr (f11.g9 (by decide) (by decide))
    have m2 : ∀ j, j ≠ 26 + 3 * l → nk N l i j = N j := fun j q => by unfold nk; rw [up_n q]
    show if v5 ≤ kf N l a (n - a) i then _ else _
    by_cases c : v5 ≤ kf N l a (n - a) i
    · exact ifp c (nm (hK _ _ _ ⟨⟨_, b11, m2⟩, g11, e.y hw c⟩))
    · exact ifn c (nm (hK _ _ _ ⟨⟨_, b11, m2⟩, g11, e.n c⟩))
theorem s_kindFor10 {l a n : Nat} {h : Mem} {N : Row} {Q : Int32 → Mem → Prop} (hD : Dom N) (hB : A10 h 44 N) (h0 : N 0 = nI a) (h4 : N 4 = nI n) (han : a ≤ n) (hn : n ≤ 12) (hl : l < n) (k : ∀ h', A10 h' 44 N → G10 h h' → Q (nI (am (kf N l a (n - a)) 0 6)) h') : f_X10_kindFor (nI l) h Q := by
  unfold f_X10_kindFor
  obtain ⟨V, hV⟩ : ∃ V : Int32, V = (100000000 : Int32) := ⟨_, rfl⟩
  have eV : V.toInt = 100000000 := by rw [hV]; rfl
  have r := kf_rng (N := N) (l := l) (a := a) (κ := 0) (m := n - a) hD (by decide) (by omega)
  have hw : ¬ V ≤ kf N l a (n - a) 0 := by rw [fa_le, eV]; omega
  have x26 : ((26 : Int32) + ((3 : Int32) * nI l)) + (0 : Int32) = nI (26 + 3 * l) := at_nI (f := 0)
  rw [← hV]
  refine isLine10_y hB h4 hn hl (ifn oz (s_lineIs (f := 0) hB (by omega) (by decide) ?_))
  rw [Nat.add_zero]
  refine lo3 nI 7 (fun i v4 v5 h' => (∃ M, A10 h' 44 M ∧ ∀ j, j ≠ 26 + 3 * l → M j = N j) ∧ G10 h h' ∧ KB (kf N l a (n - a)) (-1) V i v4 v5) rfl (by decide) ⟨⟨N, hB, fun _ _ => rfl⟩, G10.rf, Or.inl ⟨rfl, rfl, rfl⟩⟩ ?_ ?_
  · rintro K v4 v5 h' ⟨⟨M, b, m⟩, g, e⟩
    unfold f_X10_kindFor_b31 f_X10_at
    dsimp only
    rw [x26, cl (by omega)]
    rcases e with ⟨z, -⟩ | ⟨-, rfl, -⟩
    · omega
    · exact ifp (by decide) ⟨vi (by omega) (by decide), nm (k _ (b.st.same (fun j _ => nk_back m j)) (g.tr (Fr1.g10 (Fr1.st Fr1.rf))))⟩
  · rintro K i v4 v5 h' hi ⟨⟨M, b, m⟩, g, e⟩ hK
    unfold f_X10_kindFor_b31 f_X10_at
    dsimp only
    rw [x26, cl (by omega), nI_1]
    refine ifn (nI_nlt (a := 6) (b := i) (by omega) (by decide)) ⟨vi (by omega) (by decide), nm ?_⟩
    have b2 : A10 (gm_st h' 44 (26 + 3 * l) (nI i)) 44 (nk N l i) := b.st.same (fun j _ => nk_is m j)
    have x0 : nk N l i 0 = nI a := by unfold nk; rw [up_n (by omega)]; exact h0
    have x4 : nk N l i 4 = nI n := by unfold nk; rw [up_n (by omega)]; exact h4
    refine s_restTakes b2 x0 x4 han hn (fun h9 b9 f9 => ?_)
    have g9 : G10 h h9 := (g.tr (Fr1.g10 (Fr1.st Fr1.rf))).tr f9.g10
    have m2 : ∀ j, j ≠ 26 + 3 * l → nk N l i j = N j := fun j q => by unfold nk; rw [up_n q]
    rw [tS_pS x0 (n - a) (by omega)]
    show if v5 ≤ kf N l a (n - a) i then _ else _
    by_cases c : v5 ≤ kf N l a (n - a) i
    · refine ifp c ?_
      have z := min_l c
      unfold kf at z
      rw [z]
      exact nm (nm (hK _ _ _ ⟨⟨_, b9, m2⟩, g9, e.y hw c⟩))
    · refine ifn c ?_
      have z := min_r c
      unfold kf at z
      rw [z]
      exact nm (nm (hK _ _ _ ⟨⟨_, b9, m2⟩, g9, e.n c⟩))
theorem pair_kindFor (a1 : Int32) (h : Mem) (hI : Inv h) : f_X9_kindFor a1 h (fun r h1 => f_X10_kindFor a1 h1 (fun r2 h2 => r = r2 ∧ Inv h2)) := by
  obtain ⟨N, hV⟩ := hI
  obtain ⟨a, n, han, hn, h0, h4, hw, hs⟩ := hV.1.1
  have hA := hV.2.1
  rcases ln (a := a1) hn with hl | hl
  · obtain ⟨l, hL, rfl⟩ := ln_nI hn hl
    refine pr_ok (f9 := f_X9_kindFor _) (f10 := f_X10_kindFor _) (r := nI (am (kf N l a (n - a)) 0 6)) (N' := N) hV hV.1 (fun Q k => ?_) (fun h Q hB _ k => ?_)
    · unfold f_X9_kindFor
      exact isLine9_y hA h4 hn hL (ifn oz (s_quickest hV.1 hA h0 h4 han hn hL k))
    · exact s_kindFor10 hV.1 hB h0 h4 han hn hL k
  · refine pr_no (f9 := f_X9_kindFor _) (f10 := f_X10_kindFor _) (w := id) 0 (by decide) hV (fun Q k => ?_) (fun h Q hB _ k => ?_)
    · unfold f_X9_kindFor
      exact isLine9_n hA h4 hl (ifp rfl (k h hA G9.rf))
    · unfold f_X10_kindFor
      exact isLine10_n hB h4 hn hl (ifp rfl (k h hB G10.rf))
