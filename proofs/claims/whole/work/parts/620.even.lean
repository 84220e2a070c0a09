/-! DIVISORS, STAYS -/
theorem s_divisor {p w : Nat} {h : Mem} {Q : Int32 → Mem → Prop} (hp : p < 1000) (hw0 : 0 < w) (hw : w < 1000) (k : Q (nI (Nat.gcd p w)) h) : f_X9_commonDivisor (nI p) (nI w) h Q := by
  unfold f_X9_commonDivisor
  have g0 : 0 < Nat.gcd p w := Nat.gcd_pos_of_pos_right p hw0
  have gl : Nat.gcd p w ≤ w := Nat.gcd_le_right p hw0
  have rem : ∀ x d : Nat, x < 1000 → 0 < d → d < 1000 → (nI x - nI x / nI d * nI d = 0 ↔ d ∣ x) := fun x d hx h0 hd => by
    rw [pk_rem (by omega) h0 (by omega)]
    have hm := Nat.mod_lt x h0
    constructor
    · intro z
      exact Nat.dvd_of_mod_eq_zero ((nI_eq (b := 0) (by omega) (by decide)).mp z)
    · intro z
      rw [Nat.mod_eq_zero_of_dvd z]
      rfl
  refine lo1 (fun i => nI (w - i)) (w - Nat.gcd p w) (fun i h' => h' = h) rfl (by omega) rfl ?_ ?_
  · rintro K h' rfl
    unfold f_X9_commonDivisor_b2
    rw [show w - (w - Nat.gcd p w) = Nat.gcd p w by omega]
    by_cases c : Nat.gcd p w = 1
    · rw [c] at k ⊢
      exact ifp (by decide) k
    · have n0 : ¬ nI (Nat.gcd p w) = 0 := nI_ne0 g0 (by omega)
      exact ifn (nI_ge (a := 1) (by omega) (by omega)) ⟨n0, ifp ((rem p _ hp g0 (by omega)).mpr (Nat.gcd_dvd_left p w)) ⟨n0, ifp ((rem w _ hw g0 (by omega)).mpr (Nat.gcd_dvd_right p w)) k⟩⟩
  · rintro K i h' hi rfl hK
    unfold f_X9_commonDivisor_b2
    have n0 : ¬ nI (w - i) = 0 := nI_ne0 (by omega) (by omega)
    have kk := hK h' rfl
    have ed : nI (w - i) + (-1 : Int32) = nI (w - (i + 1)) := by
      rw [sb_m1 (by omega)]
      rfl
    rw [ed]
    refine ifn (nI_ge (a := 1) (by omega) (by omega)) ⟨n0, ?_⟩
    by_cases c1 : nI p - nI p / nI (w - i) * nI (w - i) = 0
    · refine ifp c1 ⟨n0, ?_⟩
      by_cases c2 : nI w - nI w / nI (w - i) * nI (w - i) = 0
      · exfalso
        have d := Nat.dvd_gcd ((rem p _ hp (by omega) (by omega)).mp c1) ((rem w _ hw (by omega) (by omega)).mp c2)
        have := Nat.le_of_dvd g0 d
        omega
      · exact ifn c2 (nm kk)
    · exact ifn c1 (nm kk)
theorem s_euclid {x0 y0 : Int32} {h : Mem} {Q : Int32 → Mem → Prop} : ∀ (y x g : Nat), x < 1000 → y < 1000 → y < g → Q (nI (Nat.gcd x y)) h → gm_it2 (f_X10_common_b4 x0 y0 Q) g (nI x) (nI y) h := by
  intro y
  induction y using Nat.strongRecOn with
  | ind y ih =>
    intro x g hx hy hg k
    obtain ⟨g, rfl⟩ : ∃ g', g = g' + 1 := ⟨g - 1, by omega⟩
    show f_X10_common_b4 x0 y0 Q (gm_it2 (f_X10_common_b4 x0 y0 Q) g) (nI x) (nI y) h
    unfold f_X10_common_b4
    by_cases c : y = 0
    · subst c
      rw [Nat.gcd_zero_right] at k
      exact ifp rfl k
    · have n0 : ¬ nI y = 0 := nI_ne0 (by omega) (by omega)
      refine ifn n0 ⟨n0, ?_⟩
      rw [pk_rem (by omega) (by omega) (by omega)]
      have hm := Nat.mod_lt x (show 0 < y by omega)
      refine nm (ih _ hm y g hy (by omega) (by omega) ?_)
      have : Nat.gcd y (x % y) = Nat.gcd x y := by
        rw [Nat.gcd_comm x y, Nat.gcd_rec y x, Nat.gcd_comm]
      rw [this]
      exact k
theorem s_common {x y : Nat} {h : Mem} {Q : Int32 → Mem → Prop} (hx : x < 1000) (hy : y < 1000) (k : Q (nI (Nat.gcd x y)) h) : f_X10_common (nI x) (nI y) h Q := by
  unfold f_X10_common
  exact s_euclid y x gm_F hx hy (Nat.lt_of_lt_of_le hy (gm_F_ge (by decide))) k
def pw (b : Int32) : Nat → Int64
  | 0 => 1
  | i + 1 => pw b i * b.toInt64
theorem s_pow9 {m : Nat} {a2 b : Int32} {h : Mem} {Q : Int64 → Mem → Prop} (hm : m ≤ 15) (k : Q (pw b m) h) : gm_it2 (f_X9_stays_b65 (nI m) a2 b Q) gm_F (1 : Int64) (0 : Int32) h := by
  refine lo2 nI m (fun i v h' => h' = h ∧ v = pw b i) rfl (by omega) ⟨rfl, rfl⟩ ?_ ?_
  · rintro K v h' ⟨rfl, rfl⟩
    unfold f_X9_stays_b65
    exact ifp (nI_le (Nat.le_refl _) (by omega)) k
  · rintro K i v h' hi ⟨rfl, rfl⟩ hK
    unfold f_X9_stays_b65
    rw [nI_1]
    exact ifn (nI_ge hi (by omega)) (nm (nm (hK _ _ ⟨rfl, rfl⟩)))
theorem s_pow10 {m : Nat} {a2 g : Int32} {h : Mem} {N : Row} {Q : Int64 → Mem → Prop} (hB : A10 h 44 N) (hm : m ≤ 15) (hg : ¬ g = 0) (k : Q (if a2 = 0 then pw (((10 : Int32) - N 14) / g) m else pw ((10 : Int32) / g) m) h) : gm_it3 (f_X10_stays_b52 (nI m) a2 g Q) gm_F (1 : Int64) (1 : Int64) (0 : Int32) h := by
  refine lo3 nI m (fun i v w h' => h' = h ∧ v = pw (((10 : Int32) - N 14) / g) i ∧ w = pw ((10 : Int32) / g) i) rfl (by omega) ⟨rfl, rfl, rfl⟩ ?_ ?_
  · rintro K v w h' ⟨rfl, rfl, rfl⟩
    unfold f_X10_stays_b52
    refine ifp (nI_le (Nat.le_refl _) (by omega)) ?_
    by_cases c : a2 = 0
    · rw [if_pos c] at k; exact ifp c k
    · rw [if_neg c] at k; exact ifn c k
  · rintro K i v w h' hi ⟨rfl, rfl, rfl⟩ hK
    unfold f_X10_stays_b52
    rw [nI_1, hB 14 (by decide)]
    exact ifn (nI_ge hi (by omega)) ⟨hg, nm ⟨hg, nm (nm (hK _ _ _ ⟨rfl, rfl, rfl⟩))⟩⟩
theorem pair_stays (a1 a2 : Int32) (h : Mem) (hI : Inv h) : f_X9_stays a1 a2 h (fun r h1 => f_X10_stays a1 a2 h1 (fun r2 h2 => r = r2 ∧ Inv h2)) := by
  obtain ⟨N, hV⟩ := hI
  have hA := hV.2.1
  by_cases hk : (0 : Int32) ≤ a1 ∧ a1 ≤ 15
  · obtain ⟨m, hm, rfl⟩ := sm (m := 15) (by decide) hk.1 hk.2
    by_cases hv : (0 : Int32) ≤ a2 ∧ a2 ≤ 1
    · have y14 := hV.1.2.2.2.2.2.2.2.1
      obtain ⟨lv, hlv, e14⟩ := sm (a := N 14) (m := 10) (by decide) ((fa_le _ _).mpr (by rw [i0]; exact y14.1)) ((fa_le _ _).mpr y14.2)
      have est : (10 : Int32) - N 14 = nI (10 - lv) := by rw [e14]; exact pk_sub (a := 10) hlv
      have g0 : 0 < Nat.gcd (10 - lv) 10 := Nat.gcd_pos_of_pos_right _ (by decide)
      have g1 : Nat.gcd (10 - lv) 10 ≤ 10 := Nat.gcd_le_right _ (by decide)
      have gn : ¬ nI (Nat.gcd (10 - lv) 10) = 0 := nI_ne0 g0 (by omega)
      refine pr_ok (f9 := f_X9_stays _ _) (f10 := f_X10_stays _ _) (r := if a2 = 0 then pw (nI (10 - lv) / nI (Nat.gcd (10 - lv) 10)) m else pw ((10 : Int32) / nI (Nat.gcd (10 - lv) 10)) m) (N' := N) hV hV.1 (fun Q k => ?_) (fun h Q hB _ k => ?_)
      · unfold f_X9_stays
        refine win9 hk.1 hk.2 (ifn oz (win9 hv.1 hv.2 (ifn oz ?_)))
        rw [hA.2.1 8 (by decide)]
        show ∀ v_9 : Int32, v_9 = (10 : Int32) - N 14 → _
        rw [est]
        refine nm ?_
        have k' := k h hA G9.rf
        by_cases c : a2 = 0
        · rw [if_pos c] at k'
          exact ifp c (s_divisor (w := 10) (by omega) (by decide) (by decide) ⟨gn, nm (s_pow9 hm k')⟩)
        · rw [if_neg c] at k'
          exact ifn c (s_divisor (w := 10) (by omega) (by decide) (by decide) ⟨gn, nm (s_pow9 hm k')⟩)
      · unfold f_X10_stays
        refine win10 hk.1 hk.2 (ifn oz (win10 hv.1 hv.2 (ifn oz ?_)))
        rw [hB 14 (by decide), est]
        refine s_common (y := 10) (by omega) (by decide) (s_pow10 hB hm gn ?_)
        rw [est]
        exact k h hB G10.rf
    · refine pr_no (f9 := f_X9_stays _ _) (f10 := f_X10_stays _ _) (w := Int32.toInt64) 0 (by decide) hV (fun Q k => ?_) (fun h Q hB _ k => ?_)
      · unfold f_X9_stays
        exact win9 hk.1 hk.2 (ifn oz (wout9 hv (ifp rfl (k h hA G9.rf))))
      · unfold f_X10_stays
        exact win10 hk.1 hk.2 (ifn oz (wout10 hv (ifp rfl (k h hB G10.rf))))
  · refine pr_no (f9 := f_X9_stays _ _) (f10 := f_X10_stays _ _) (w := Int32.toInt64) 0 (by decide) hV (fun Q k => ?_) (fun h Q hB _ k => ?_)
    · unfold f_X9_stays
      exact wout9 hk (ifp rfl (k h hA G9.rf))
    · unfold f_X10_stays
      exact wout10 hk (ifp rfl (k h hB G10.rf))
/-! EVENINGS -/
def dr (z : Int32) : Int32 := (z.toUInt32 >>> ((8 : Int32).toUInt32 &&& Int32.toUInt32 31)).toInt32
def md (x d : Int32) : Int32 := x - x / d * d
theorem md_eq (x d : Int32) : x - x / d * d = md x d := rfl
def n_draw (N : Row) : Row := upd N 5 (N 5 * (1103515245 : Int32) + (12345 : Int32))
theorem dr_nI (z : Int32) : ∃ j : Nat, j < 16777216 ∧ dr z = nI j := by
  have h := pk_ushr z 8 8 (by decide)
  have e : dr z = nI (dr z).toBitVec.toNat := by
    apply Int32.toBitVec_inj.1
    show _ = BitVec.ofNat 32 _
    rw [BitVec.ofNat_toNat, BitVec.setWidth_eq]
  refine ⟨(dr z).toBitVec.toNat, ?_, e⟩
  have hz := z.toBitVec.isLt
  show (z.toUInt32 >>> ((8 : Int32).toUInt32 &&& Int32.toUInt32 31)).toInt32.toBitVec.toNat < _
  rw [h]
  omega
theorem md_rng (z : Int32) {d : Nat} (h0 : 0 < d) (hd : d < 1000) : ∃ j : Nat, j < d ∧ md (dr z) (nI d) = nI j := by
  obtain ⟨j, hj, e⟩ := dr_nI z
  refine ⟨j % d, Nat.mod_lt _ h0, ?_⟩
  unfold md
  rw [e, pk_rem (by omega) h0 (by omega)]
def ev2 (N : Row) : Row := n_draw (n_read N)
def ev4 (M : Row) : Row := upd (n_draw M) 1 (M 1 + M 6 * ((1 : Int32) + md (dr (n_draw M 5)) 8))
def ev6 (M : Row) : Row := upd (n_draw M) 0 (if M 0 + md (dr (n_draw M 5)) 3 < M 4 then M 0 + md (dr (n_draw M 5)) 3 else M 4)
/-- one line read, perhaps left -/
def ev (N : Row) : Row := if (ev2 N) 14 ≤ md (dr (ev2 N 5)) 10 then ev2 N else ev6 (ev4 (ev2 N))
def evl (N : Row) (v : Int32) : Int32 := if (ev2 N) 14 ≤ md (dr (ev2 N 5)) 10 then v else v + 1
/-- behind m lines, or till the end -/
def eve (N : Row) : Nat → Int32 × Row
  | 0 => (0, N)
  | i + 1 => if (eve N i).2 4 ≤ (eve N i).2 0 then eve N i else (evl (eve N i).2 (eve N i).1, ev (eve N i).2)
theorem eve_y {N : Row} {i : Nat} (c : (eve N i).2 4 ≤ (eve N i).2 0) : eve N (i + 1) = eve N i := if_pos c
theorem eve_n {N : Row} {i : Nat} (c : ¬ (eve N i).2 4 ≤ (eve N i).2 0) : eve N (i + 1) = (evl (eve N i).2 (eve N i).1, ev (eve N i).2) := if_neg c
theorem eve_stop {N : Row} {i : Nat} (c : (eve N i).2 4 ≤ (eve N i).2 0) : ∀ j, eve N (i + j) = eve N i
  | 0 => rfl
  | j + 1 => by
    have ih := eve_stop c j
    rw [← Nat.add_assoc, eve_y (by rw [ih]; exact c), ih]
theorem draw_o {N : Row} {i : Nat} (h : i ≠ 5) : n_draw N i = N i := up_n h
theorem s_draw9 {k0 : Nat} {h : Mem} {N : Row} {Q : Int32 → Mem → Prop} (hA : A9 h k0 N) (k : ∀ h', A9 h' k0 (n_draw N) → Fr1 k0 h h' → Q (dr (n_draw N 5)) h') : f_X6_draw k0 h Q := by
  unfold f_X6_draw
  rw [hA.1.2.2.2.2.2]
  have b := hA.z (v := N 5 * (1103515245 : Int32) + (12345 : Int32))
  refine nm ?_
  rw [b.1.2.2.2.2.2]
  exact k _ b (Fr1.st Fr1.rf)
theorem s_drawn {d : Int32} {h : Mem} {N : Row} {Q : Int32 → Mem → Prop} (hB : A10 h 44 N) (hd : ¬ d = 0) (k : ∀ h', A10 h' 44 (n_draw N) → Fr1 44 h h' → Q (md (dr (n_draw N 5)) d) h') : f_X10_drawn d h Q := by
  unfold f_X10_drawn
  rw [hB 5 (by decide)]
  have b := hB.st (j := 5) (v := N 5 * (1103515245 : Int32) + (12345 : Int32))
  refine nm ⟨hd, ?_⟩
  rw [b 5 (by decide)]
  exact k _ b (Fr1.st Fr1.rf)
theorem ev_at {N : Row} {a n : Nat} (h0 : N 0 = nI a) (h4 : N 4 = nI n) (ha : a < n) (hn : n ≤ 12) : ∃ a', a' ≤ n ∧ (ev N) 0 = nI a' := by
  have r0 : (ev2 N) 0 = nI (a + 1) := by unfold ev2; rw [draw_o (by decide), read0, h0, nI_1]
  have r4 : (ev2 N) 4 = nI n := by unfold ev2; rw [draw_o (by decide), read_hi N 4 (by decide), turnO N (by decide) (by decide)]; exact h4
  unfold ev
  by_cases c : (ev2 N) 14 ≤ md (dr (ev2 N 5)) 10
  · rw [if_pos c]; exact ⟨a + 1, ha, r0⟩
  · rw [if_neg c]
    have s0 : (ev4 (ev2 N)) 0 = nI (a + 1) := by unfold ev4; rw [up_n (by decide), draw_o (by decide)]; exact r0
    have s4 : (ev4 (ev2 N)) 4 = nI n := by unfold ev4; rw [up_n (by decide), draw_o (by decide)]; exact r4
    unfold ev6
    rw [up_s, s0, s4]
    obtain ⟨j, hj, ej⟩ := md_rng (n_draw (ev4 (ev2 N)) 5) (d := 3) (by decide) (by decide)
    have ej : md (dr (n_draw (ev4 (ev2 N)) 5)) 3 = nI j := ej
    rw [ej, nI_add]
    by_cases c2 : nI (a + 1 + j) < nI n
    · rw [if_pos c2]
      rw [nI_ltI (by omega) (by omega)] at c2
      exact ⟨_, by omega, rfl⟩
    · rw [if_neg c2]; exact ⟨n, Nat.le_refl _, rfl⟩
theorem ev_hi {N : Row} : ∀ i, 4 ≤ i → i ≠ 5 → (ev N) i = n_turn N i := by
  intro i hi h5
  have r : (ev2 N) i = n_turn N i := by unfold ev2; rw [draw_o h5, read_hi N i hi]
  unfold ev
  by_cases c : (ev2 N) 14 ≤ md (dr (ev2 N 5)) 10
  · rw [if_pos c]; exact r
  · rw [if_neg c]
    unfold ev6 ev4
    rw [up_n (by omega), draw_o h5, up_n (by omega), draw_o h5]
    exact r
theorem ev_DX {N : Row} {a n : Nat} (x : DX N) (h0 : N 0 = nI a) (h4 : N 4 = nI n) (ha : a < n) (hn : n ≤ 12) : DX (ev N) := by
  refine ⟨?_, D2.cong x.2.1 (fun i hi => by rw [ev_hi i (by omega) (by omega), turnO N (by omega) (by omega)]), ?_⟩
  · obtain ⟨a', ha', e0⟩ := ev_at h0 h4 ha hn
    obtain ⟨b, m, h1, h2, h3, h5, h6, h7⟩ := x.1
    have e : m = n := (nI_eq (by omega) (by omega)).mp (h5.symm.trans h4)
    subst e
    refine ⟨a', m, ha', hn, e0, by rw [ev_hi 4 (by decide) (by decide), turnO N (by decide) (by decide)]; exact h4, fun l hl => ?_, fun j hj => ?_⟩
    · rw [ev_hi _ (by omega) (by omega), turnO N (by omega) (by omega)]; exact h6 l hl
    · rw [ev_hi _ (by omega) (by omega), turnO N (by omega) (by omega)]; exact h7 j hj
  · have t := turn_rng N
    have y := x.2.2
    unfold D3
    rw [ev_hi 6 (by decide) (by decide), ev_hi 7 (by decide) (by decide), ev_hi 12 (by decide) (by decide), ev_hi 13 (by decide) (by decide), ev_hi 14 (by decide) (by decide), ev_hi 15 (by decide) (by decide), turnO N (i := 12) (by decide) (by decide), turnO N (i := 13) (by decide) (by decide), turnO N (i := 14) (by decide) (by decide), turnO N (i := 15) (by decide) (by decide)]
    exact ⟨t.1, t.2, y.2.2⟩
theorem eve_DX {N : Row} {n : Nat} (x : DX N) (h4 : N 4 = nI n) (hn : n ≤ 12) : ∀ i, DX (eve N i).2 ∧ (eve N i).2 4 = nI n
  | 0 => ⟨x, h4⟩
  | i + 1 => by
    have ih := eve_DX x h4 hn i
    by_cases c : (eve N i).2 4 ≤ (eve N i).2 0
    · rw [eve_y c]; exact ih
    · rw [eve_n c]
      obtain ⟨b, m, h1, h2, h3, h5, -, -⟩ := ih.1.1
      have e : m = n := (nI_eq (by omega) (by omega)).mp (h5.symm.trans ih.2)
      subst e
      rw [h3, ih.2, nI_leI (by omega) (by omega)] at c
      refine ⟨ev_DX ih.1 h3 ih.2 (by omega) hn, ?_⟩
      show (ev (eve N i).2) 4 = _
      rw [ev_hi 4 (by decide) (by decide), turnO _ (by decide) (by decide)]
      exact ih.2
/-- an evening on the class's side -/
theorem s_spend {k0 q n m : Nat} {h : Mem} {N : Row} {Q : Int32 → Mem → Prop} (hA : A9 h k0 N) (hq : q < k0 ∨ k0 + 5 < q) (x : DX N) (h4 : N 4 = nI n) (hn : n ≤ 12) (hm : m ≤ 12) (k : ∀ h', A9 h' k0 (eve N m).2 → (∀ b, b ≠ q → b ≠ k0 → b ≠ k0 + 4 → h' b = h b) → Q (eve N m).1 h') : f_X6_spendEvening k0 (nI m) q h Q := by
  unfold f_X6_spendEvening
  refine lo2 nI m (fun i v h' => v = (eve N i).1 ∧ A9 h' k0 (eve N i).2 ∧ (∀ b, b ≠ q → b ≠ k0 → b ≠ k0 + 4 → h' b = h b)) rfl (by omega) ⟨rfl, hA, fun _ _ _ _ => rfl⟩ ?_ ?_
  · rintro K v h' ⟨rfl, b, f⟩
    unfold f_X6_spendEvening_b5
    exact ifp (nI_le (Nat.le_refl _) (by omega)) (k h' b f)
  · rintro K i v h' hi ⟨rfl, b, f⟩ hK
    unfold f_X6_spendEvening_b5
    rw [nI_1, b.1.2.2.2.2.1, b.1.1]
    refine ifn (nI_ge hi (by omega)) ?_
    by_cases c : (eve N i).2 4 ≤ (eve N i).2 0
    · have z := eve_stop c (m - i)
      rw [show i + (m - i) = m by omega] at z
      rw [z] at k
      exact ifp c (k h' b f)
    · refine ifn c ?_
      obtain ⟨x', e4⟩ := eve_DX x h4 hn i
      obtain ⟨a, n', h1, h2, h3, h5, -, -⟩ := x'.1
      have en : n' = n := (nI_eq (by omega) (by omega)).mp (h5.symm.trans e4)
      subst en
      have ha : a < n' := by rw [h3, e4, nI_leI (by omega) (by omega)] at c; omega
      have hK1 := fun h'' (b2 : A9 h'' k0 (ev (eve N i).2)) f2 => hK (evl (eve N i).2 (eve N i).1) h'' ⟨by rw [eve_n c], by rw [eve_n c]; exact b2, f2⟩
      refine s_readOne b hq h3 (by omega) (fun h3 b3 f3 => s_draw9 b3 (fun h4 b4 f4 => ?_))
      have b4 : A9 h4 k0 (ev2 (eve N i).2) := b4
      have l4 : h4 (k0 + 4) 8 = (ev2 (eve N i).2) 14 := b4.2.1 8 (by decide)
      have l0 : h4 (k0 + 4) 0 = (ev2 (eve N i).2) 6 := b4.2.1 0 (by decide)
      rw [l4]
      unfold evl ev at hK1
      show if (ev2 (eve N i).2) 14 ≤ md (dr (ev2 (eve N i).2 5)) 10 then _ else _
      by_cases cl1 : (ev2 (eve N i).2) 14 ≤ md (dr (ev2 (eve N i).2 5)) 10
      · rw [if_pos cl1, if_pos cl1] at hK1
        exact ifp cl1 (nm (hK1 h4 b4 (fun b x y z => by rw [f4 b y, f3 b x y z, f b x y z])))
      · rw [if_neg cl1, if_neg cl1] at hK1
        refine ifn cl1 (nm (s_draw9 b4 (fun h9 b9 f9 => nm ?_)))
        rw [b4.1.2.1, l0, md_eq]
        have b11 := b9.clock (v := (ev2 (eve N i).2) 1 + (ev2 (eve N i).2) 6 * ((1 : Int32) + md (dr (n_draw (ev2 (eve N i).2) 5)) 8))
        have b11 : A9 (gm_st h9 k0 7 ((ev2 (eve N i).2) 1 + (ev2 (eve N i).2) 6 * ((1 : Int32) + md (dr (n_draw (ev2 (eve N i).2) 5)) 8))) k0 (ev4 (ev2 (eve N i).2)) := b11
        refine s_draw9 b11 (fun h12 b12 f12 => ?_)
        rw [md_eq, b11.1.1, b11.1.2.2.2.2.1]
        refine nm (nm (nm (hK1 _ ?_ (fun b x y z => by rw [st_k y, f12 b y, st_k y, f9 b y, f4 b y, f3 b x y z, f b x y z]))))
        exact b12.at_
theorem s_leaves {n m : Nat} {h : Mem} {N : Row} {Q : Int32 → Mem → Prop} (hB : A10 h 44 N) (x : DX N) (h4 : N 4 = nI n) (hn : n ≤ 12) (hm : m ≤ 12) (k : ∀ h', A10 h' 44 (eve N m).2 → Fr1 44 h h' → Q (eve N m).1 h') : f_X10_leavesIn (nI m) h Q := by
  unfold f_X10_leavesIn
  refine lo2 nI m (fun i v h' => v = (eve N i).1 ∧ A10 h' 44 (eve N i).2 ∧ Fr1 44 h h') rfl (by omega) ⟨rfl, hB, Fr1.rf⟩ ?_ ?_
  · rintro K v h' ⟨rfl, b, f⟩
    unfold f_X10_leavesIn_b4
    exact ifp (nI_le (Nat.le_refl _) (by omega)) (k h' b f)
  · rintro K i v h' hi ⟨rfl, b, f⟩ hK
    unfold f_X10_leavesIn_b4
    rw [nI_1]
    refine ifn (nI_ge hi (by omega)) ?_
    obtain ⟨x', e4⟩ := eve_DX x h4 hn i
    obtain ⟨a, n', h1, h2, h3, h5, -, -⟩ := x'.1
    have en : n' = n := (nI_eq (by omega) (by omega)).mp (h5.symm.trans e4)
    subst en
    refine s_left10 b h3 e4 h1 ?_
    by_cases c : (eve N i).2 4 ≤ (eve N i).2 0
    · have z := eve_stop c (m - i)
      rw [show i + (m - i) = m by omega] at z
      rw [z] at k
      rw [h3, e4, nI_leI (by omega) (by omega)] at c
      refine ifp ?_ (k h' b f)
      rw [show n' - a = 0 by omega]
      decide
    · have ha : a < n' := by rw [h3, e4, nI_leI (by omega) (by omega)] at c; omega
      have hK1 := fun h'' (b2 : A10 h'' 44 (ev (eve N i).2)) f2 => hK (evl (eve N i).2 (eve N i).1) h'' ⟨by rw [eve_n c], by rw [eve_n c]; exact b2, f2⟩
      refine ifn (nI_nle (by omega) (by omega)) (s_reads10 b h3 (by omega) (fun h5 b5 f5 => s_drawn b5 (by decide) (fun h7 b7 f7 => ?_)))
      have b7 : A10 h7 44 (ev2 (eve N i).2) := b7
      rw [b7 14 (by decide)]
      unfold evl ev at hK1
      show if (ev2 (eve N i).2) 14 ≤ md (dr (ev2 (eve N i).2 5)) 10 then _ else _
      by_cases cl1 : (ev2 (eve N i).2) 14 ≤ md (dr (ev2 (eve N i).2 5)) 10
      · rw [if_pos cl1, if_pos cl1] at hK1
        exact ifp cl1 (nm (hK1 h7 b7 ((f.tr f5).tr f7)))
      · rw [if_neg cl1, if_neg cl1] at hK1
        have tg := (tk_rng x'.2.1 (l := a) (p := (eve N i).2 6) (by omega) x'.2.2.1).1.1
        refine ifn cl1 (ifp (by rw [fa_le, i0]; exact tg) ?_)
        unfold f_X10_leavesIn_b49
        refine nm (s_drawn b7 (by decide) (fun h13 b13 f13 => nm ?_))
        rw [b7 1 (by decide), b7 6 (by decide)]
        have b15 := b13.st (j := 1) (v := (ev2 (eve N i).2) 1 + (ev2 (eve N i).2) 6 * ((1 : Int32) + md (dr (n_draw (ev2 (eve N i).2) 5)) 8))
        have b15 : A10 (gm_st h13 44 1 ((ev2 (eve N i).2) 1 + (ev2 (eve N i).2) 6 * ((1 : Int32) + md (dr (n_draw (ev2 (eve N i).2) 5)) 8))) 44 (ev4 (ev2 (eve N i).2)) := b15
        refine s_drawn b15 (by decide) (fun h16 b16 f16 => ?_)
        rw [b15 0 (by decide), b15 4 (by decide), nI_1]
        refine nm (nm (nm (hK1 _ ?_ ?_)))
        · exact b16.st
        · exact Fr1.st (((f.tr f5).tr f7).tr ((Fr1.st f13).tr f16))
theorem ev_clock {N : Row} {a n : Nat} (x : DX N) (h0 : N 0 = nI a) (ha : a < n) (hn : n ≤ 12) (c1 : 0 ≤ (N 1).toInt) (c2 : (N 1).toInt ≤ 9990000) : 0 ≤ ((ev N) 1).toInt ∧ ((ev N) 1).toInt ≤ (N 1).toInt + 3000 := by
  have tg := (tk_rng x.2.1 (l := a) (p := N 6) (by omega) x.2.2.1).1
  have r1 : (ev2 N) 1 = N 1 + tk N a (N 6) := by unfold ev2; rw [draw_o (by decide), read1, h0, cl (by omega)]
  have r1i : ((ev2 N) 1).toInt = (N 1).toInt + (tk N a (N 6)).toInt := by rw [r1, add_i c1 tg.1 (by omega)]
  unfold ev
  by_cases c : (ev2 N) 14 ≤ md (dr (ev2 N 5)) 10
  · rw [if_pos c]; omega
  · rw [if_neg c]
    have r6 : 1 ≤ ((ev2 N) 6).toInt ∧ ((ev2 N) 6).toInt ≤ 99 := by unfold ev2; rw [draw_o (by decide), read_hi N 6 (by decide)]; exact (turn_rng N).1
    obtain ⟨j, hj, ej⟩ := md_rng (n_draw (ev2 N) 5) (d := 8) (by decide) (by decide)
    have ej : md (dr (n_draw (ev2 N) 5)) 8 = nI j := ej
    have e1 : (1 : Int32) + nI j = nI (1 + j) := nI_add 1 j
    have s : (ev6 (ev4 (ev2 N))) 1 = (ev2 N) 1 + (ev2 N) 6 * nI (1 + j) := by
      unfold ev6
      rw [up_n (by decide), draw_o (by decide)]
      unfold ev4
      rw [up_s, ej, e1]
    obtain ⟨m1, m2, m3⟩ := mul_i (a := (ev2 N) 6) (b := nI (1 + j)) (x := 99) (y := 8) ⟨by omega, r6.2⟩ (by rw [nI_toInt (by omega)]; omega) (by decide)
    rw [s, add_i (by omega) (by omega) (by omega)]
    omega
theorem eve_clock {N : Row} {n : Nat} (x : DX N) (h4 : N 4 = nI n) (hn : n ≤ 12) (c1 : 0 ≤ (N 1).toInt) (c2 : (N 1).toInt ≤ 9900000) : ∀ i, i ≤ 12 → 0 ≤ ((eve N i).2 1).toInt ∧ ((eve N i).2 1).toInt ≤ (N 1).toInt + 3000 * i
  | 0, _ => ⟨c1, by show (N 1).toInt ≤ _; omega⟩
  | i + 1, hi => by
    have ih := eve_clock x h4 hn c1 c2 i (by omega)
    by_cases c : (eve N i).2 4 ≤ (eve N i).2 0
    · rw [eve_y c]; omega
    · obtain ⟨x', e4⟩ := eve_DX x h4 hn i
      obtain ⟨a, n', h1, h2, h3, h5, -, -⟩ := x'.1
      have en : n' = n := (nI_eq (by omega) (by omega)).mp (h5.symm.trans e4)
      subst en
      have ha : a < n' := by rw [h3, e4, nI_leI (by omega) (by omega)] at c; omega
      have z := ev_clock x' h3 ha hn ih.1 (by omega)
      rw [eve_n c]
      show 0 ≤ ((ev (eve N i).2) 1).toInt ∧ ((ev (eve N i).2) 1).toInt ≤ _
      omega
theorem pair_evening (a1 : Int32) (h : Mem) (hI : Inv h) : f_X9_evening a1 h (fun r h1 => f_X10_evening a1 h1 (fun r2 h2 => r = r2 ∧ Inv h2)) := by
  obtain ⟨N, hV⟩ := hI
  obtain ⟨a, n, han, hn, h0, h4, hw, hs⟩ := hV.1.1
  have hA := hV.2.1
  by_cases hk : (1 : Int32) ≤ a1 ∧ a1 ≤ 12
  · obtain ⟨m, hm, rfl⟩ := sm (m := 12) (by decide) (by have := hk.1; rw [fa_le, i1] at this; rw [fa_le, i0]; omega) hk.2
    obtain ⟨M, hM⟩ : ∃ M : Int32, M = (9900000 : Int32) := ⟨_, rfl⟩
    have eM : M.toInt = 9900000 := by rw [hM]; rfl
    by_cases hz : n - a = 0
    · refine pr_no (f9 := f_X9_evening _) (f10 := f_X10_evening _) (w := id) 4 (by decide) hV (fun Q k => ?_) (fun h Q hB _ k => ?_)
      · unfold f_X9_evening
        refine win9 hk.1 hk.2 (ifn oz (s_left9 hA h0 h4 han ?_))
        rw [hz]
        exact ifp rfl (k h hA G9.rf)
      · unfold f_X10_evening
        refine win10 hk.1 hk.2 (ifn oz (s_left10 hB h0 h4 han ?_))
        rw [hz]
        exact ifp rfl (k h hB G10.rf)
    · have nz : ¬ nI (n - a) = 0 := nI_ne0 (by omega) (by omega)
      by_cases hc : N 1 ≤ M
      · have x : DX N := ⟨hV.1.1, hV.1.2.2.1, hV.1.2.2.2⟩
        have hc' := hc
        rw [fa_le, eM] at hc'
        have ck := eve_clock x h4 hn hV.1.2.1.1 hc' m hm
        have xm := (eve_DX x h4 hn m).1
        have hD : Dom (eve N m).2 := ⟨xm.1, ⟨ck.1, by omega⟩, xm.2.1, xm.2.2⟩
        refine pr_ok (f9 := f_X9_evening _) (f10 := f_X10_evening _) (r := (eve N m).1) (N' := (eve N m).2) hV hD (fun Q k => ?_) (fun h Q hB _ k => ?_)
        · unfold f_X9_evening
          rw [← hM]
          refine win9 hk.1 hk.2 (ifn oz (s_left9 hA h0 h4 han (ifn nz (nm ?_))))
          rw [hA.1.2.1]
          exact ifp hc (s_spend hA (by omega) x h4 hn hm (fun h1 b1 f1 => k h1 b1 (fun a q => f1 a (by omega) (by omega) (by omega))))
        · unfold f_X10_evening
          rw [← hM]
          refine win10 hk.1 hk.2 (ifn oz (s_left10 hB h0 h4 han (ifn nz (nm ?_))))
          rw [hB 1 (by decide)]
          exact ifp hc (s_leaves hB x h4 hn hm (fun h1 b1 f1 => k h1 b1 f1.g10))
      · refine pr_no (f9 := f_X9_evening _) (f10 := f_X10_evening _) (w := id) 4 (by decide) hV (fun Q k => ?_) (fun h Q hB _ k => ?_)
        · unfold f_X9_evening
          rw [← hM]
          refine win9 hk.1 hk.2 (ifn oz (s_left9 hA h0 h4 han (ifn nz (nm ?_))))
          rw [hA.1.2.1]
          exact ifn hc (k h hA G9.rf)
        · unfold f_X10_evening
          rw [← hM]
          refine win10 hk.1 hk.2 (ifn oz (s_left10 hB h0 h4 han (ifn nz (nm ?_))))
          rw [hB 1 (by decide)]
          exact ifn hc (k h hB G10.rf)
  · refine pr_no (f9 := f_X9_evening _) (f10 := f_X10_evening _) (w := id) 0 (by decide) hV (fun Q k => ?_) (fun h Q hB _ k => ?_)
    · unfold f_X9_evening
      exact wout9 hk (ifp rfl (k h hA G9.rf))
    · unfold f_X10_evening
      exact wout10 hk (ifp rfl (k h hB G10.rf))
/-! ahead -/
def ahE (E : Row → Int32 × Row) (N : Row) : Nat → Int32 × Int32
  | 0 => (0, N 5)
  | i + 1 => ((ahE E N i).1 + (E (upd N 5 (ahE E N i).2)).1, (E (upd N 5 (ahE E N i).2)).2 5)
theorem ahE_1 (E : Row → Int32 × Row) (N : Row) (i : Nat) : (ahE E N i).1 + (E (upd N 5 (ahE E N i).2)).1 = (ahE E N (i + 1)).1 := rfl
theorem ahE_2 (E : Row → Int32 × Row) (N : Row) (i : Nat) : (E (upd N 5 (ahE E N i).2)).2 5 = (ahE E N (i + 1)).2 := rfl
def ah (N : Row) (i : Nat) : Int32 × Int32 := ahE (fun R => eve R 12) N i
theorem ah_1 (N : Row) (i : Nat) : (ah N i).1 + (eve (upd N 5 (ah N i).2) 12).1 = (ah N (i + 1)).1 := ahE_1 (fun R => eve R 12) N i
theorem ah_2 (N : Row) (i : Nat) : (eve (upd N 5 (ah N i).2) 12).2 5 = (ah N (i + 1)).2 := by
  have z := ahE_2 (fun R => eve R 12) N i
  unfold ah
  exact z
theorem upd5_DX {N : Row} {z : Int32} (x : Dom N) : DX (upd N 5 z) := by
  have y : Dom (upd N 5 z) := x.free (by omega)
  exact ⟨y.1, y.2.2.1, y.2.2.2⟩
theorem pair_ahead (a1 : Int32) (h : Mem) (hI : Inv h) : f_X9_ahead a1 h (fun r h1 => f_X10_ahead a1 h1 (fun r2 h2 => r = r2 ∧ Inv h2)) := by
  obtain ⟨N, hV⟩ := hI
  obtain ⟨a, n, han, hn, h0, h4, hw, hs⟩ := hV.1.1
  have hA := hV.2.1
  have x4 : ∀ z, upd N 5 z 4 = nI n := fun z => by rw [up_n (by decide)]; exact h4
  by_cases hk : (0 : Int32) ≤ a1 ∧ a1 ≤ 20
  · obtain ⟨m, hm, rfl⟩ := sm (m := 20) (by decide) hk.1 hk.2
    refine pr_ok (f9 := f_X9_ahead _) (f10 := f_X10_ahead _) (r := (ah N m).1) (N' := N) hV hV.1 (fun Q k => ?_) (fun h Q hB _ k => ?_)
    · unfold f_X9_ahead
      refine win9 hk.1 hk.2 (ifn oz ?_)
      rw [hA.1.2.2.2.2.2]
      refine nm (lo3 nI m (fun i v2 v3 h' => v2 = (ah N i).1 ∧ v3 = (ah N i).2 ∧ ∀ b, (b < 13 ∨ 19 < b) → h' b = h b) rfl (by omega) ⟨rfl, rfl, fun _ _ => rfl⟩ ?_ ?_)
      · rintro K v2 v3 h' ⟨rfl, rfl, f⟩
        unfold f_X9_ahead_b29
        exact ifp (nI_le (Nat.le_refl _) (by omega)) (k h' (hA.fr (fun a _ _ => f a (by omega))) (fun a q => f a (by omega)))
      · rintro K i v2 v3 h' hi ⟨rfl, rfl, f⟩ hK
        unfold f_X9_ahead_b29
        rw [nI_1]
        have b : A9 h' 1 N := hA.fr (fun a _ _ => f a (by omega))
        refine ifn (nI_ge hi (by omega)) (s_become9 b (by omega) (fun h6 b6 f6 => nm ?_))
        refine s_spend (m := 12) b6.z (by omega) (upd5_DX hV.1) (x4 _) hn (by decide) (fun h8 b8 f8 => nm ?_)
        rw [b8.1.2.2.2.2.2]
        exact nm (nm (hK _ _ _ ⟨ah_1 N i, ah_2 N i, fun b q => by rw [f8 b (by omega) (by omega) (by omega), st_k (by omega), f6 b (by omega), f b q]⟩))
    · unfold f_X10_ahead
      refine win10 hk.1 hk.2 (ifn oz (s_copyRow (by decide) hB (fun h1 b1 f1 => ?_)))
      refine lo2 nI m (fun i v h' => v = (ah N i).1 ∧ A10 h' 44 (upd N 5 (ah N i).2) ∧ A10 h' 46 N ∧ Fr2 44 46 h h') rfl (by omega) ⟨rfl, ?_, b1, fun a x y => f1 a y⟩ ?_ ?_
      · exact (hB.fr (f1 44 (by decide))).same (fun i _ => by
          rw [up_at]
          by_cases q : i = 5
          · rw [if_pos q, q]; rfl
          · rw [if_neg q])
      · rintro K v h' ⟨rfl, b, b46, f⟩
        unfold f_X10_ahead_b32
        exact ifp (nI_le (Nat.le_refl _) (by omega)) (s_putBack b46 (fun h2 b2 f2 => k h2 b2 (Fr2.g10 (fun a x y => (f2 a x).trans (f a x y)))))
      · rintro K i v h' hi ⟨rfl, b, b46, f⟩ hK
        unfold f_X10_ahead_b32
        rw [nI_1]
        refine ifn (nI_ge hi (by omega)) (s_leaves (m := 12) b (upd5_DX hV.1) (x4 _) hn (by decide) (fun h8 b8 f8 => nm ?_))
        rw [b8 5 (by decide)]
        refine nm (s_copyRow (by decide) (b46.fr (f8 46 (by decide))) (fun h12 b12 f12 => nm (nm (hK _ _ ⟨ah_1 N i, by rw [← ah_2]; exact b12.st, ?_, fun a x y => ?_⟩))))
        · exact b46.fr (by rw [st_k (by decide), f12 46 (by decide), f8 46 (by decide)])
        · rw [st_k x, f12 a x, f8 a x, f a x y]
  · refine pr_no (f9 := f_X9_ahead _) (f10 := f_X10_ahead _) (w := id) 0 (by decide) hV (fun Q k => ?_) (fun h Q hB _ k => ?_)
    · unfold f_X9_ahead
      exact wout9 hk (ifp rfl (k h hA G9.rf))
    · unfold f_X10_ahead
      exact wout10 hk (ifp rfl (k h hB G10.rf))
