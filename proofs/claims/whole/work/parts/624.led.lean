/-! FITS, LED, PART -/
def tjn (N U : Row) (a w : Nat) : Nat → Bool
  | 0 => true
  | i + 1 => tjn N U a w i && decide (tk N (a + i) (PI i (nw N w) 6) = U i)
theorem tjn_stop {N U : Row} {a w i : Nat} (h : tjn N U a w i = false) : ∀ j, tjn N U a w (i + j) = false
  | 0 => h
  | j + 1 => by rw [← Nat.add_assoc, tjn, tjn_stop h j]; rfl
/-- how many weights fit, by the reader, the first -/
def fN (N U : Row) (a m : Nat) : Nat → Nat
  | 0 => 0
  | w + 1 => if tjn N U a w m = true then fN N U a m w + 1 else fN N U a m w
def rN (N U : Row) (a m : Nat) : Nat → Nat
  | 0 => 0
  | w + 1 => if tjn N U a w m = true ∧ w / 11 < w % 11 then rN N U a m w + 1 else rN N U a m w
def sN (N U : Row) (a m : Nat) (v0 : Int32) : Nat → Int32
  | 0 => v0
  | w + 1 => if tjn N U a w m = true ∧ fN N U a m w = 0 then nI w else sN N U a m v0 w
section
variable {N U : Row} {a m : Nat}
theorem fN_le : ∀ w, fN N U a m w ≤ w
  | 0 => Nat.le_refl _
  | w + 1 => by
    have := fN_le w
    rw [fN]
    split <;> omega
theorem rN_le : ∀ w, rN N U a m w ≤ fN N U a m w
  | 0 => Nat.le_refl _
  | w + 1 => by
    have := rN_le w
    rw [rN, fN]
    by_cases c : tjn N U a w m = true
    · rw [if_pos c]
      split <;> omega
    · rw [if_neg c, if_neg (fun z => c z.1)]
      exact this
theorem sN_0 {v0 : Int32} : ∀ w, fN N U a m w = 0 → sN N U a m v0 w = v0
  | 0, _ => rfl
  | w + 1, h => by
    rw [fN] at h
    by_cases c : tjn N U a w m = true
    · rw [if_pos c] at h; omega
    · rw [if_neg c] at h
      rw [sN, if_neg (fun z => c z.1), sN_0 w h]
theorem sN_1 : ∀ w, 0 < fN N U a m w → ∃ u, u < w ∧ ∀ v0, sN N U a m v0 w = nI u
  | 0, h => absurd h (Nat.lt_irrefl 0)
  | w + 1, h => by
    by_cases c : tjn N U a w m = true ∧ fN N U a m w = 0
    · exact ⟨w, by omega, fun v0 => by rw [sN, if_pos c]⟩
    · have h' : 0 < fN N U a m w := by
        rw [fN] at h
        by_cases c2 : tjn N U a w m = true
        · rcases Nat.eq_zero_or_pos (fN N U a m w) with q | q
          · exact absurd ⟨c2, q⟩ c
          · exact q
        · rw [if_neg c2] at h; exact h
      obtain ⟨u, hu, e⟩ := sN_1 w h'
      exact ⟨u, by omega, fun v0 => by rw [sN, if_neg c]; exact e v0⟩
end
/-! the class -/
theorem s_takeJust {s w a n z : Nat} {h : Mem} {N U : Row} {Q : Int32 → Mem → Prop} (hA : A9 h 1 N) (h0 : N 0 = nI a) (h4 : N 4 = nI n) (han : a ≤ n) (hn : n ≤ 12) (hs : s < 4) (hz : h (35 + 2 * s) 2 = nI z) (hz2 : z ≤ 40) (hU : h (35 + 2 * s + 1) = U) (hP : PcR h 24 (nw N w)) (k : ∀ h', Fr1 24 h h' → Q (if tjn N U a w (min z (n - a)) = true then 1 else 0) h') : f_X4_takeJust (35 + 2 * s) h Q := by
  unfold f_X4_takeJust
  obtain ⟨m, em⟩ : ∃ m, m = min z (n - a) := ⟨_, rfl⟩
  rw [← em] at k
  refine s_left9 hA h0 h4 han ?_
  rw [hz]
  have emin : (if nI (n - a) < nI z then nI (n - a) else nI z) = nI m := by
    by_cases c : n - a < z
    · rw [if_pos (nI_lt c (by omega)), em, Nat.min_eq_right (by omega)]
    · rw [if_neg (nI_nlt (by omega) (by omega)), em, Nat.min_eq_left (by omega)]
  rw [emin]
  have hm : a + m ≤ n ∧ m ≤ z := by omega
  refine nm (lo1 nI m (fun i h' => Fr1 24 h h' ∧ PcR h' 24 (PI i (nw N w)) ∧ tjn N U a w i = true) rfl (by omega) ⟨Fr1.rf, hP, rfl⟩ ?_ ?_)
  · rintro K h' ⟨f, p, t⟩
    unfold f_X4_takeJust_b15
    rw [if_pos t] at k
    exact ifp (nI_le (Nat.le_refl _) (by omega)) (k h' f)
  · rintro K i h' hi ⟨f, p, t⟩ hK
    unfold f_X4_takeJust_b15
    have b := f.a9 (by decide) hA
    rw [b.1.1, h0, nI_add, nI_1]
    refine ifn (nI_ge hi (by omega)) (s_takesOf b (by omega) ⟨vi (by omega) (by decide), ?_⟩)
    rw [cl (by omega), f (35 + 2 * s + 1) (by omega), hU, p.1]
    by_cases c : tk N (a + i) (PI i (nw N w) 6) = U i
    · refine ifp c (s_step (m := 1) (by decide) p (fun h2 f2 p2 => nm (hK h2 ⟨f.tr f2, p2, ?_⟩)))
      rw [tjn, t, decide_eq_true c]
      rfl
    · have t2 : tjn N U a w (i + 1) = false := by rw [tjn, t, decide_eq_false c]; rfl
      have t3 := tjn_stop t2 (m - (i + 1))
      rw [show i + 1 + (m - (i + 1)) = m by omega] at t3
      rw [t3] at k
      exact ifn c (k h' f)
theorem s_tally {s a n z : Nat} {h : Mem} {N U : Row} {Q : Mem → Prop} (hA : A9 h 1 N) (h0 : N 0 = nI a) (h4 : N 4 = nI n) (han : a ≤ n) (hn : n ≤ 12) (hs : s < 4) (hz : h (35 + 2 * s) 2 = nI z) (hz2 : z ≤ 40) (hU : h (35 + 2 * s + 1) = U) (k : ∀ h', Fr2 23 24 h h' → h' 23 2 = nI (fN N U a (min z (n - a)) 121) → h' 23 3 = nI (rN N U a (min z (n - a)) 121) → h' 23 4 = sN N U a (min z (n - a)) 0 121 → Q h') : f_X4_tallyFits (35 + 2 * s) h Q := by
  unfold f_X4_tallyFits
  obtain ⟨m, em⟩ : ∃ m, m = min z (n - a) := ⟨_, rfl⟩
  rw [← em] at k
  refine nm (nm (nm (lo1 nI 121 (fun w h' => Fr2 23 24 h h' ∧ h' 23 2 = nI (fN N U a m w) ∧ h' 23 3 = nI (rN N U a m w) ∧ h' 23 4 = sN N U a m 0 w) rfl (by decide) ⟨fun b x y => by rw [st_k x, st_k x, st_k x], by rw [st_j (by decide), st_j (by decide), st_s]; rfl, by rw [st_j (by decide), st_s]; rfl, st_s⟩ ?_ ?_)))
  · rintro K h' ⟨f, e2, e3, e4⟩
    unfold f_X4_tallyFits_b17
    exact ifp (by decide) (k h' f e2 e3 e4)
  · rintro K w h' hw ⟨f, e2, e3, e4⟩ hK
    unfold f_X4_tallyFits_b17
    have b : A9 h' 1 N := hA.fr (fun x _ _ => f x (by omega) (by omega))
    rw [nI_1]
    refine ifn (nI_ge (b := 121) hw (by decide)) (s_weigh b hw (fun h5 f5 p5 => s_takeJust (U := U) (f5.a9 (by decide) b) h0 h4 han hn hs (by rw [f5 _ (by omega), f _ (by omega) (by omega)]; exact hz) hz2 (by rw [f5 _ (by omega), f _ (by omega) (by omega)]; exact hU) p5 (fun h6 f6 => ?_)))
    rw [← em]
    have fr : Fr2 23 24 h h6 := fun b x y => (f6 b y).trans ((f5 b y).trans (f b x y))
    have g2 : h6 23 2 = nI (fN N U a m w) := by rw [f6 23 (by decide), f5 23 (by decide)]; exact e2
    have g3 : h6 23 3 = nI (rN N U a m w) := by rw [f6 23 (by decide), f5 23 (by decide)]; exact e3
    have g4 : h6 23 4 = sN N U a m 0 w := by rw [f6 23 (by decide), f5 23 (by decide)]; exact e4
    have fl := fN_le (N := N) (U := U) (a := a) (m := m) w
    by_cases t : tjn N U a w m = true
    · rw [if_pos t]
      refine ifn oz ?_
      have fin : ∀ h7, Fr2 23 24 h h7 → h7 23 2 = nI (fN N U a m w) → h7 23 3 = nI (rN N U a m w) → h7 23 4 = sN N U a m 0 (w + 1) → f_X4_tallyFits_b50 (35 + 2 * s) Q K (nI w) h7 := by
        intro h7 fr7 k2 k3 k4
        unfold f_X4_tallyFits_b50
        rw [r11 hw, d11 hw, k2, nI_1, nI_1]
        refine nm ?_
        by_cases q : w % 11 ≤ w / 11
        · refine ifp (nI_le q (by omega)) (nm (hK _ ⟨fun b x y => by rw [st_k x, fr7 b x y], ?_, ?_, ?_⟩))
          · rw [st_s, fN, if_pos t]
          · rw [st_j (by decide), k3, rN, if_neg (fun z => by omega)]
          · rw [st_j (by decide), k4]
        · refine ifn (nI_ge (by omega) (by omega)) (nm (nm (hK _ ⟨fun b x y => by rw [st_k x, st_k x, fr7 b x y], ?_, ?_, ?_⟩)))
          · rw [st_j (by decide), st_s, fN, if_pos t]
          · rw [st_s, st_j (by decide), k3, rN, if_pos ⟨t, by omega⟩, nI_1]
          · rw [st_j (by decide), st_j (by decide), k4]
      rw [g2]
      by_cases c : fN N U a m w = 0
      · refine ifp (by rw [c]; rfl) (nm (fin _ (fun b x y => by rw [st_k x, fr b x y]) (by rw [st_j (by decide)]; exact g2) (by rw [st_j (by decide)]; exact g3) ?_))
        rw [st_s, sN, if_pos ⟨t, c⟩]
      · refine ifn (nI_ne0 (by omega) (by omega)) (fin h6 fr g2 g3 ?_)
        rw [g4, sN, if_neg (fun z => c z.2)]
    · rw [if_neg t]
      refine ifp rfl (nm (hK h6 ⟨fr, ?_, ?_, ?_⟩))
      · rw [g2, fN, if_neg t]
      · rw [g3, rN, if_neg (fun z => t z.1)]
      · rw [g4, sN, if_neg (fun z => t z.1)]
/-! the reference -/
theorem nw_0 {N : Row} {w j : Nat} (h8 : j ≠ 8) (h9 : j ≠ 9) : nw N w j = N j := by unfold nw; rw [up_n h9, up_n h8]
theorem s_findLed {s a n z : Nat} {h : Mem} {N U : Row} {Q : Int32 → Mem → Prop} (hB : A10 h 44 N) (h0 : N 0 = nI a) (h4 : N 4 = nI n) (han : a ≤ n) (hn : n ≤ 12) (hs : s < 4) (hz : h 54 s = nI z) (hz2 : z ≤ 40) (hU : ∀ i, i < 40 → h 55 (40 * s + i) = U i) (k : ∀ h', A10 h' 44 N → G10 h h' → h' 43 11 = nI (rN N U a (min z (n - a)) 121) → h' 43 12 = sN N U a (min z (n - a)) (-1) 121 → Q (nI (fN N U a (min z (n - a)) 121)) h') : f_X10_findLed (nI s) h Q := by
  unfold f_X10_findLed
  obtain ⟨m, em⟩ : ∃ m, m = min z (n - a) := ⟨_, rfl⟩
  rw [← em] at k
  have emin : (if nI z < nI (n - a) then nI z else nI (n - a)) = nI m := by
    by_cases c : z < n - a
    · rw [if_pos (nI_lt c (by omega)), em, Nat.min_eq_left (by omega)]
    · rw [if_neg (nI_nlt (by omega) (by omega)), em, Nat.min_eq_right (by omega)]
  have hm : a + m ≤ n ∧ m ≤ z := by omega
  refine s_copyRow (by decide) hB (fun h1 b1 f1 => s_left10 (hB.fr (f1 44 (by decide))) h0 h4 han ⟨vi hs (by decide), ?_⟩)
  rw [cl (by omega), f1 54 (by decide), hz, emin]
  refine nm (nm (nm ?_))
  refine lo2 nI 121 (fun w v h' => v = nI (fN N U a m w) ∧ A10 h' 46 N ∧ (∀ b, b ≠ 43 → b ≠ 44 → b ≠ 46 → h' b = h b) ∧ (∀ j, j ≠ 11 → j ≠ 12 → h' 43 j = h 43 j) ∧ h' 43 11 = nI (rN N U a m w) ∧ h' 43 12 = sN N U a m (-1) w) rfl (by decide) ⟨rfl, b1.fr (by rw [st_k (by decide), st_k (by decide)]), fun b x y u => by rw [st_k x, st_k x, f1 b u], fun j x y => by rw [st_j y, st_j x, f1 43 (by decide)], by rw [st_j (by decide), st_s]; rfl, st_s⟩ ?_ ?_
  · rintro K v h' ⟨rfl, b46, fr, fj, e11, e12⟩
    unfold f_X10_findLed_b40
    refine ifp (by decide) (s_putBack b46 (fun h2 b2 f2 => k h2 b2 ⟨fun x q => by rw [f2 x (by omega), fr x (by omega) (by omega) (by omega)], by rw [f2 43 (by decide), fj 3 (by decide) (by decide)], by rw [f2 43 (by decide), fj 14 (by decide) (by decide)]⟩ (by rw [f2 43 (by decide)]; exact e11) (by rw [f2 43 (by decide)]; exact e12)))
  · rintro K w v h' hw ⟨rfl, b46, fr, fj, e11, e12⟩ hK
    unfold f_X10_findLed_b40
    rw [r11 hw, d11 hw]
    have fl := fN_le (N := N) (U := U) (a := a) (m := m) w
    -- behind the lines: told by t
    have fin : ∀ (x : Int32) (h2 : Mem), x = (if tjn N U a w m = true then 1 else 0) → A10 h2 46 N → (∀ b, b ≠ 44 → h2 b = h' b) → f_X10_findLed_b131 (nI s) (nI m) Q K (nI (fN N U a m w)) (nI w) x h2 := by
      intro x h2 ex b2 f2
      have g : ∀ (r : Int32) (q : Int32) (y : Int32), y = nI (fN N U a m (w + 1)) → r = nI (rN N U a m (w + 1)) → q = sN N U a m (-1) (w + 1) → K y (nI (w + 1)) (gm_st (gm_st h2 43 11 r) 43 12 q) := fun r q y ey er eq => hK _ _ ⟨ey, b2.fr (by rw [st_k (by decide), st_k (by decide)]), fun b x y u => by rw [st_k x, st_k x, f2 b y, fr b x y u], fun j x y => by rw [st_j y, st_j x, f2 43 (by decide), fj j x y], by rw [st_j (by decide), st_s]; exact er, by rw [st_s]; exact eq⟩
      unfold f_X10_findLed_b131 f_X10_findLed_b142 f_X10_findLed_b171 f_X10_findLed_b172
      have x11 : h2 43 11 = nI (rN N U a m w) := by rw [f2 43 (by decide)]; exact e11
      have x12 : ∀ r, gm_st h2 43 11 r 43 12 = sN N U a m (-1) w := fun r => by rw [st_j (by decide), f2 43 (by decide)]; exact e12
      rw [r11 hw, d11 hw, nI_1, x11]
      by_cases t : tjn N U a w m = true
      · rw [if_pos t] at ex
        subst ex
        have ef : nI (fN N U a m w) + (1 : Int32) = nI (fN N U a m (w + 1)) := by rw [nI_1, fN, if_pos t]
        have tail : ∀ r, r = nI (rN N U a m (w + 1)) → if (0 : Int32) ≤ gm_st h2 43 11 r 43 12 then (∀ h_23 : Mem, h_23 = gm_st (gm_st h2 43 11 r) 43 12 (gm_st h2 43 11 r 43 12) → ∀ v_24 : Int32, v_24 = nI (w + 1) → K (nI (fN N U a m (w + 1))) v_24 h_23) else (∀ h_25 : Mem, h_25 = gm_st (gm_st h2 43 11 r) 43 12 (nI w) → ∀ v_26 : Int32, v_26 = nI (w + 1) → K (nI (fN N U a m (w + 1))) v_26 h_25) := by
          intro r er
          rw [x12]
          by_cases c : fN N U a m w = 0
          · refine ifn ?_ (nm (nm (g _ _ _ rfl er ?_)))
            · rw [sN_0 w c]; decide
            · rw [sN, if_pos ⟨t, c⟩]
          · obtain ⟨u, hu, eu⟩ := sN_1 (N := N) (U := U) (a := a) (m := m) w (by omega)
            refine ifp ?_ (nm (nm (g _ _ _ rfl er ?_)))
            · rw [eu]; exact nI_pos' (by omega)
            · rw [sN, if_neg (fun z => c z.2)]
        refine ifn oz ?_
        rw [ef]
        refine nm (ifn oz ?_)
        by_cases q : w % 11 ≤ w / 11
        · refine ifp (nI_le q (by omega)) ?_
          rw [Int32.add_zero]
          exact nm (ifn oz (tail _ (by rw [rN, if_neg (fun z => by omega)])))
        · refine ifn (nI_ge (by omega) (by omega)) ?_
          rw [nI_1]
          exact nm (ifn oz (tail _ (by rw [rN, if_pos ⟨t, by omega⟩])))
      · rw [if_neg t] at ex
        subst ex
        refine ifp rfl ?_
        rw [Int32.add_zero, Int32.add_zero]
        refine nm (ifp rfl (nm (ifp rfl ?_)))
        rw [x12]
        exact nm (nm (g _ _ _ (by rw [fN, if_neg t]) (by rw [rN, if_neg (fun z => t z.1)]) (by rw [sN, if_neg (fun z => t z.1)])))
    refine ifn (nI_ge (b := 121) hw (by decide)) (s_copyRow (by decide) b46 (fun h11 b11 f11 => nm (nm ?_)))
    have b13 : A10 (gm_st (gm_st h11 44 8 (nI (w / 11))) 44 9 (nI (w % 11))) 44 (nw N w) := b11.st.st
    refine lo2 nI m (fun i x h2 => x = (if tjn N U a w i = true then 1 else 0) ∧ (tjn N U a w i = true → A10 h2 44 (NR i (nw N w))) ∧ A10 h2 46 N ∧ ∀ b, b ≠ 44 → h2 b = h' b) rfl (by omega) ⟨rfl, fun _ => b13, b46.fr (by rw [st_k (by decide), st_k (by decide), f11 46 (by decide)]), fun b y => by rw [st_k y, st_k y, f11 b y]⟩ ?_ ?_
    · rintro K2 x h2 ⟨ex, bt, b2, f2⟩
      unfold f_X10_findLed_b88
      exact ifp (nI_le (Nat.le_refl _) (by omega)) (fin x h2 ex b2 f2)
    · rintro K2 i x h2 hi ⟨ex, bt, b2, f2⟩ hK2
      unfold f_X10_findLed_b88
      refine ifn (nI_ge hi (by omega)) ?_
      by_cases t : tjn N U a w i = true
      · rw [if_pos t] at ex
        subst ex
        have n0 : nw N w 0 = nI a := by rw [nw_0 (by decide) (by decide)]; exact h0
        refine ifn oz (s_reads10 (bt t) (NR_0 n0 i) (by omega) (fun h3 b3 f3 => ?_))
        rw [i40, cl (k := 40 * s + i) (by omega), f3 55 (by decide), f2 55 (by decide), fr 55 (by decide) (by decide) (by decide), hU i (by omega), nI_1]
        have etk : tk (NR i (nw N w)) (a + i) (NR i (nw N w) 6) = tk N (a + i) (PI i (nw N w) 6) := by
          rw [NR_hi _ i 6 (by decide)]
          exact tk_cong (fun j hj => by rw [NR_hi _ i j (by omega), PI_O _ (by omega) (by omega), nw_0 (by omega) (by omega)])
        rw [etk]
        refine ⟨vi (by omega) (by decide), ?_⟩
        have f4 : ∀ b, b ≠ 44 → h3 b = h' b := fun b y => (f3 b y).trans (f2 b y)
        by_cases c : tk N (a + i) (PI i (nw N w) 6) = U i
        · have t2 : tjn N U a w (i + 1) = true := by rw [tjn, t, decide_eq_true c]; rfl
          exact ifp c (nm (hK2 _ _ ⟨by rw [if_pos t2], fun _ => b3, b2.fr (f3 46 (by decide)), f4⟩))
        · have t2 : ¬ tjn N U a w (i + 1) = true := by rw [tjn, t, decide_eq_false c]; decide
          exact ifn c (nm (hK2 _ _ ⟨by rw [if_neg t2], fun z => absurd z t2, b2.fr (f3 46 (by decide)), f4⟩))
      · rw [if_neg t] at ex
        have t' : tjn N U a w i = false := by cases hh : tjn N U a w i with
          | true => exact absurd hh t
          | false => rfl
        have t3 := tjn_stop t' (m - i)
        rw [show i + (m - i) = m by omega] at t3
        exact ifp ex (fin x h2 (by rw [ex, t3]; rfl) b2 f2)
theorem pair_fits (a1 : Int32) (h : Mem) (hI : Inv h) : f_X9_fits a1 h (fun r h1 => f_X10_fits a1 h1 (fun r2 h2 => r = r2 ∧ Inv h2)) := by
  obtain ⟨N, hV⟩ := hI
  obtain ⟨a, n, han, hn, h0, h4, hw, hsp⟩ := hV.1.1
  have hA := hV.2.1
  have hI2 := hV.2.2.2.1.2.2
  by_cases hk : (0 : Int32) ≤ a1 ∧ a1 ≤ 3
  · obtain ⟨s, hs, rfl⟩ := sheet_nI hk
    obtain ⟨y1, y2, ⟨z, hz, y3⟩, y4⟩ := hI2 s hs
    by_cases hm : h (35 + 2 * s) 1 = 0
    · refine pr_no2 (f9 := f_X9_fits _) (f10 := f_X10_fits _) (w := id) 5 (by decide) hV (fun Q k => ?_) (fun h2 Q hB _ hE k => ?_)
      · unfold f_X9_fits
        rw [cl (by omega)]
        exact sheet9_y hs (ifn oz ⟨vi hs (by decide), miss_y hm (ifn oz (k h hA G9.rf))⟩)
      · unfold f_X10_fits
        rw [cl (by omega)]
        exact sheet10_y hs (ifn oz ⟨vi hs (by decide), ifp (by rw [hE 53 (by omega), y1]; exact hm) (k h2 hB G10.rf)⟩)
    · obtain ⟨U, eU⟩ : ∃ U, U = h (35 + 2 * s + 1) := ⟨_, rfl⟩
      refine pr_ok2 (f9 := f_X9_fits _) (f10 := f_X10_fits _) (r := nI (fN N U a (min z (n - a)) 121)) (N' := N) hV hV.1 (fun Q k => ?_) (fun h2 Q hB _ hE k => ?_)
      · unfold f_X9_fits
        rw [cl (by omega)]
        refine sheet9_y hs (ifn oz ⟨vi hs (by decide), miss_n hm (ifp rfl ⟨vi hs (by decide), s_tally hA h0 h4 han hn hs y3 hz eU.symm (fun h1 f1 e2 e3 e4 => ?_)⟩)⟩)
        rw [e2]
        exact k h1 (hA.fr (fun x _ _ => f1 x (by omega) (by omega))) (fun x q => f1 x (by omega) (by omega))
      · unfold f_X10_fits
        rw [cl (by omega)]
        exact sheet10_y hs (ifn oz ⟨vi hs (by decide), ifn (by rw [hE 53 (by omega), y1]; exact hm) (s_findLed hB h0 h4 han hn hs (by rw [hE 54 (by omega), y2, y3]) hz (fun i hi => by rw [hE 55 (by omega), y4 i hi, eU]) (fun h1 b1 g1 _ _ => k h1 b1 g1))⟩)
  · refine pr_no (f9 := f_X9_fits _) (f10 := f_X10_fits _) (w := id) 0 (by decide) hV (fun Q k => ?_) (fun h Q hB _ k => ?_)
    · unfold f_X9_fits
      exact sheet9_n hk (ifp rfl (k h hA G9.rf))
    · unfold f_X10_fits
      exact sheet10_n hk (ifp rfl (k h hB G10.rf))
theorem pair_led (a1 : Int32) (h : Mem) (hI : Inv h) : f_X9_led a1 h (fun r h1 => f_X10_led a1 h1 (fun r2 h2 => r = r2 ∧ Inv h2)) := by
  obtain ⟨N, hV⟩ := hI
  obtain ⟨a, n, han, hn, h0, h4, hw, hsp⟩ := hV.1.1
  have hA := hV.2.1
  have hI2 := hV.2.2.2.1.2.2
  by_cases hk : (0 : Int32) ≤ a1 ∧ a1 ≤ 3
  · obtain ⟨s, hs, rfl⟩ := sheet_nI hk
    obtain ⟨y1, y2, ⟨z, hz, y3⟩, y4⟩ := hI2 s hs
    by_cases hm : h (35 + 2 * s) 1 = 0
    · refine pr_no2 (f9 := f_X9_led _) (f10 := f_X10_led _) (w := id) 5 (by decide) hV (fun Q k => ?_) (fun h2 Q hB _ hE k => ?_)
      · unfold f_X9_led
        rw [cl (by omega)]
        exact sheet9_y hs (ifn oz ⟨vi hs (by decide), miss_y hm (ifn oz (k h hA G9.rf))⟩)
      · unfold f_X10_led
        rw [cl (by omega)]
        exact sheet10_y hs (ifn oz ⟨vi hs (by decide), ifp (by rw [hE 53 (by omega), y1]; exact hm) (k h2 hB G10.rf)⟩)
    · obtain ⟨U, eU⟩ : ∃ U, U = h (35 + 2 * s + 1) := ⟨_, rfl⟩
      have t9 : ∀ (Q : Mem → Prop), (∀ h', A9 h' 1 N → G9 h h' → h' 23 2 = nI (fN N U a (min z (n - a)) 121) → h' 23 3 = nI (rN N U a (min z (n - a)) 121) → h' 23 4 = sN N U a (min z (n - a)) 0 121 → Q h') → f_X4_tallyFits (35 + 2 * s) h Q := fun Q k => s_tally hA h0 h4 han hn hs y3 hz eU.symm (fun h1 f1 e2 e3 e4 => k h1 (hA.fr (fun x _ _ => f1 x (by omega) (by omega))) (fun x q => f1 x (by omega) (by omega)) e2 e3 e4)
      have t10 : ∀ (h2 : Mem) (Q : Int32 → Mem → Prop), A10 h2 44 N → E9 h h2 → (∀ h', A10 h' 44 N → G10 h2 h' → h' 43 11 = nI (rN N U a (min z (n - a)) 121) → h' 43 12 = sN N U a (min z (n - a)) (-1) 121 → Q (nI (fN N U a (min z (n - a)) 121)) h') → f_X10_findLed (nI s) h2 Q := fun h2 Q hB hE k => s_findLed hB h0 h4 han hn hs (by rw [hE 54 (by omega), y2, y3]) hz (fun i hi => by rw [hE 55 (by omega), y4 i hi, eU]) k
      have fl := fN_le (N := N) (U := U) (a := a) (m := min z (n - a)) 121
      have rl := rN_le (N := N) (U := U) (a := a) (m := min z (n - a)) 121
      generalize min z (n - a) = m at t9 t10 fl rl
      by_cases c : fN N U a m 121 = 0
      · refine pr_no2 (f9 := f_X9_led _) (f10 := f_X10_led _) (w := id) 3 (by decide) hV (fun Q k => ?_) (fun h2 Q hB _ hE k => ?_)
        · unfold f_X9_led
          rw [cl (by omega)]
          refine sheet9_y hs (ifn oz ⟨vi hs (by decide), miss_n hm (ifp rfl ⟨vi hs (by decide), t9 _ (fun h1 b1 g1 e2 e3 e4 => ?_)⟩)⟩)
          rw [e2, c]
          exact ifp rfl (k h1 b1 g1)
        · unfold f_X10_led
          rw [cl (by omega)]
          refine sheet10_y hs (ifn oz ⟨vi hs (by decide), ifn (by rw [hE 53 (by omega), y1]; exact hm) (t10 h2 _ hB hE (fun h1 b1 g1 e1 e2 => ?_))⟩)
          rw [c]
          exact ifp rfl (k h1 b1 g1)
      · obtain ⟨u, hu, eu⟩ := sN_1 (N := N) (U := U) (a := a) (m := m) 121 (by omega)
        refine pr_ok2 (f9 := f_X9_led _) (f10 := f_X10_led _) (r := nI u) (N' := N) hV hV.1 (fun Q k => ?_) (fun h2 Q hB _ hE k => ?_)
        · unfold f_X9_led
          rw [cl (by omega)]
          refine sheet9_y hs (ifn oz ⟨vi hs (by decide), miss_n hm (ifp rfl ⟨vi hs (by decide), t9 _ (fun h1 b1 g1 e2 e3 e4 => ?_)⟩)⟩)
          rw [e2, e4, eu]
          exact ifn (nI_ne0 (by omega) (by omega)) (k h1 b1 g1)
        · unfold f_X10_led
          rw [cl (by omega)]
          refine sheet10_y hs (ifn oz ⟨vi hs (by decide), ifn (by rw [hE 53 (by omega), y1]; exact hm) (t10 h2 _ hB hE (fun h1 b1 g1 e1 e2 => ?_))⟩)
          refine ifn (nI_ne0 (by omega) (by omega)) ?_
          rw [e2, eu]
          exact k h1 b1 g1
  · refine pr_no (f9 := f_X9_led _) (f10 := f_X10_led _) (w := id) 0 (by decide) hV (fun Q k => ?_) (fun h Q hB _ k => ?_)
    · unfold f_X9_led
      exact sheet9_n hk (ifp rfl (k h hA G9.rf))
    · unfold f_X10_led
      exact sheet10_n hk (ifp rfl (k h hB G10.rf))
theorem pair_part (a1 a2 : Int32) (h : Mem) (hI : Inv h) : f_X9_part a1 a2 h (fun r h1 => f_X10_part a1 a2 h1 (fun r2 h2 => r = r2 ∧ Inv h2)) := by
  obtain ⟨N, hV⟩ := hI
  obtain ⟨a, n, han, hn, h0, h4, hw, hsp⟩ := hV.1.1
  have hA := hV.2.1
  have hI2 := hV.2.2.2.1.2.2
  by_cases hk : (0 : Int32) ≤ a1 ∧ a1 ≤ 3
  · obtain ⟨s, hs, rfl⟩ := sheet_nI hk
    obtain ⟨y1, y2, ⟨z, hz, y3⟩, y4⟩ := hI2 s hs
    by_cases hm : h (35 + 2 * s) 1 = 0
    · refine pr_no2 (f9 := f_X9_part _ _) (f10 := f_X10_part _ _) (w := id) 5 (by decide) hV (fun Q k => ?_) (fun h2 Q hB _ hE k => ?_)
      · unfold f_X9_part
        rw [cl (by omega)]
        exact sheet9_y hs (ifn oz ⟨vi hs (by decide), miss_y hm (ifn oz (k h hA G9.rf))⟩)
      · unfold f_X10_part
        rw [cl (by omega)]
        exact sheet10_y hs (ifn oz ⟨vi hs (by decide), ifp (by rw [hE 53 (by omega), y1]; exact hm) (k h2 hB G10.rf)⟩)
    · obtain ⟨U, eU⟩ : ∃ U, U = h (35 + 2 * s + 1) := ⟨_, rfl⟩
      have t9 : ∀ (Q : Mem → Prop), (∀ h', A9 h' 1 N → G9 h h' → h' 23 2 = nI (fN N U a (min z (n - a)) 121) → h' 23 3 = nI (rN N U a (min z (n - a)) 121) → h' 23 4 = sN N U a (min z (n - a)) 0 121 → Q h') → f_X4_tallyFits (35 + 2 * s) h Q := fun Q k => s_tally hA h0 h4 han hn hs y3 hz eU.symm (fun h1 f1 e2 e3 e4 => k h1 (hA.fr (fun x _ _ => f1 x (by omega) (by omega))) (fun x q => f1 x (by omega) (by omega)) e2 e3 e4)
      have t10 : ∀ (h2 : Mem) (Q : Int32 → Mem → Prop), A10 h2 44 N → E9 h h2 → (∀ h', A10 h' 44 N → G10 h2 h' → h' 43 11 = nI (rN N U a (min z (n - a)) 121) → h' 43 12 = sN N U a (min z (n - a)) (-1) 121 → Q (nI (fN N U a (min z (n - a)) 121)) h') → f_X10_findLed (nI s) h2 Q := fun h2 Q hB hE k => s_findLed hB h0 h4 han hn hs (by rw [hE 54 (by omega), y2, y3]) hz (fun i hi => by rw [hE 55 (by omega), y4 i hi, eU]) k
      have fl := fN_le (N := N) (U := U) (a := a) (m := min z (n - a)) 121
      have rl := rN_le (N := N) (U := U) (a := a) (m := min z (n - a)) 121
      generalize min z (n - a) = m at t9 t10 fl rl
      by_cases hv : (0 : Int32) ≤ a2 ∧ a2 ≤ 1
      · by_cases c : fN N U a m 121 = 0
        · refine pr_no2 (f9 := f_X9_part _ _) (f10 := f_X10_part _ _) (w := id) 3 (by decide) hV (fun Q k => ?_) (fun h2 Q hB _ hE k => ?_)
          · unfold f_X9_part
            rw [cl (by omega)]
            refine sheet9_y hs (ifn oz ⟨vi hs (by decide), miss_n hm (ifp rfl (win9 hv.1 hv.2 (ifn oz ⟨vi hs (by decide), t9 _ (fun h1 b1 g1 e2 e3 e4 => ?_)⟩)))⟩)
            rw [e2, c]
            exact ifp rfl (k h1 b1 g1)
          · unfold f_X10_part
            rw [cl (by omega)]
            refine sheet10_y hs (ifn oz ⟨vi hs (by decide), ifn (by rw [hE 53 (by omega), y1]; exact hm) (win10 hv.1 hv.2 (ifn oz (t10 h2 _ hB hE (fun h1 b1 g1 e1 e2 => ?_))))⟩)
            rw [c]
            exact ifp rfl (k h1 b1 g1)
        · have g0 : 0 < Nat.gcd (rN N U a m 121) (fN N U a m 121) := Nat.gcd_pos_of_pos_right _ (by omega)
          have gl := Nat.gcd_le_right (rN N U a m 121) (show 0 < fN N U a m 121 by omega)
          have gn : ¬ nI (Nat.gcd (rN N U a m 121) (fN N U a m 121)) = 0 := nI_ne0 g0 (by omega)
          refine pr_ok2 (f9 := f_X9_part _ _) (f10 := f_X10_part _ _) (r := if a2 = 0 then nI (rN N U a m 121) / nI (Nat.gcd (rN N U a m 121) (fN N U a m 121)) else nI (fN N U a m 121) / nI (Nat.gcd (rN N U a m 121) (fN N U a m 121))) (N' := N) hV hV.1 (fun Q k => ?_) (fun h2 Q hB _ hE k => ?_)
          · unfold f_X9_part
            rw [cl (by omega)]
            refine sheet9_y hs (ifn oz ⟨vi hs (by decide), miss_n hm (ifp rfl (win9 hv.1 hv.2 (ifn oz ⟨vi hs (by decide), t9 _ (fun h1 b1 g1 e2 e3 e4 => ?_)⟩)))⟩)
            rw [e2, e3]
            refine ifn (nI_ne0 (by omega) (by omega)) (s_divisor (by omega) (by omega) (by omega) ?_)
            rw [e2, e3]
            have k' := k h1 b1 g1
            by_cases d : a2 = 0
            · rw [if_pos d] at k'; exact ifp d ⟨gn, k'⟩
            · rw [if_neg d] at k'; exact ifn d ⟨gn, k'⟩
          · unfold f_X10_part
            rw [cl (by omega)]
            refine sheet10_y hs (ifn oz ⟨vi hs (by decide), ifn (by rw [hE 53 (by omega), y1]; exact hm) (win10 hv.1 hv.2 (ifn oz (t10 h2 _ hB hE (fun h1 b1 g1 e1 e2 => ?_))))⟩)
            rw [e1]
            refine ifn (nI_ne0 (by omega) (by omega)) (s_common (by omega) (by omega) ?_)
            rw [e1]
            have k' := k h1 b1 g1
            by_cases d : a2 = 0
            · rw [if_pos d] at k'; exact ifp d ⟨gn, k'⟩
            · rw [if_neg d] at k'; exact ifn d ⟨gn, k'⟩
      · refine pr_no2 (f9 := f_X9_part _ _) (f10 := f_X10_part _ _) (w := id) 0 (by decide) hV (fun Q k => ?_) (fun h2 Q hB _ hE k => ?_)
        · unfold f_X9_part
          rw [cl (by omega)]
          exact sheet9_y hs (ifn oz ⟨vi hs (by decide), miss_n hm (ifp rfl (wout9 hv (ifp rfl (k h hA G9.rf))))⟩)
        · unfold f_X10_part
          rw [cl (by omega)]
          exact sheet10_y hs (ifn oz ⟨vi hs (by decide), ifn (by rw [hE 53 (by omega), y1]; exact hm) (wout10 hv (ifp rfl (k h2 hB G10.rf)))⟩)
  · refine pr_no (f9 := f_X9_part _ _) (f10 := f_X10_part _ _) (w := id) 0 (by decide) hV (fun Q k => ?_) (fun h Q hB _ k => ?_)
    · unfold f_X9_part
      exact sheet9_n hk (ifp rfl (k h hA G9.rf))
    · unfold f_X10_part
      exact sheet10_n hk (ifp rfl (k h hB G10.rf))
