/-! DIVISORS, STAYS -/
theorem s_divisor {p w : Nat} {h : Mem} {Q : Int32 → Mem → Prop} (hp : p < 1000) (hw0 : 0 < w) (hw : w < 1000) (k : Q (nI (Nat.gcd p w)) h) : f_X9_commonDivisor (nI p) (nI w) h Q := by
  unfold f_X9_commonDivisor
  have g0 : 0 < Nat.gcd p w := Nat.gcd_pos_of_pos_right p hw0
  have gl : Nat.gcd p w ≤ w := Nat.gcd_le_right p hw0
  have rem : ∀ x d : Nat, x < 1000 → 0 < d → d < 1000 → (nI x - nI x / nI d * nI d = 0 ↔ d ∣ x) := fun x d hx h0 hd => by
    rw [pk_rem (by omega) h0 (by omega)]
    have hm := Nat.mod_lt x h0
    constructor
    · intro z
      exact Nat.dvd_of_mod_eq_zero ((nI_eq (b := 0) (by omega) (by decide)).mp z)
    · intro z
      rw [Nat.mod_eq_zero_of_dvd z]
      rfl
  refine lo1 (fun i => nI (w - i)) (w - Nat.gcd p w) (fun i h' => h' = h) rfl (by omega) rfl ?_ ?_
  · rintro K h' rfl
    unfold f_X9_commonDivisor_b2
    rw [show w - (w - Nat.gcd p w) = Nat.gcd p w by omega]
    by_cases c : Nat.gcd p w = 1
    · rw [c] at k ⊢
      exact ifp (by decide) k
    · have n0 : ¬ nI (Nat.gcd p w) = 0 := nI_ne0 g0 (by omega)
      exact ifn (nI_ge (a := 1) (by omega) (by omega)) ⟨n0, ifp ((rem p _ hp g0 (by omega)).mpr (Nat.gcd_dvd_left p w)) ⟨n0, ifp ((rem w _ hw g0 (by omega)).mpr (Nat.gcd_dvd_right p w)) k⟩⟩
  · rintro K i h' hi rfl hK
    unfold f_X9_commonDivisor_b2
    have n0 : ¬ nI (w - i) = 0 := nI_ne0 (by omega) (by omega)
    have kk := hK h' rfl
    have ed : nI (w - i) + (-1 : Int32) = nI (w - (i + 1)) := by
      rw [sb_m1 (by omega)]
      rfl
    rw [ed]
    refine ifn (nI_ge (a := 1) (by omega) (by omega)) ⟨n0, ?_⟩
    by_cases c1 : nI p - nI p / nI (w - i) * nI (w - i) = 0
    · refine ifp c1 ⟨n0, ?_⟩
      by_cases c2 : nI w - nI w / nI (w - i) * nI (w - i) = 0
      · exfalso
        have d := Nat.dvd_gcd ((rem p _ hp (by omega) (by omega)).mp c1) ((rem w _ hw (by omega) (by omega)).mp c2)
        have := Nat.le_of_dvd g0 d
        omega
      · exact ifn c2 (nm kk)
    · exact ifn c1 (nm kk)
theorem s_euclid {x0 y0 : Int32} {h : Mem} {Q : Int32 → Mem → Prop} : ∀ (y x g : Nat), x < 1000 → y < 1000 → y < g → Q (nI (Nat.gcd x y)) h → gm_it2 (f_X10_common_b4 x0 y0 Q) g (nI x) (nI y) h := by
  intro y
  induction y using Nat.strongRecOn with
  | ind y ih =>
    intro x g hx hy hg k
    obtain ⟨g, rfl⟩ : ∃ g', g = g' + 1 := ⟨g - 1, by omega⟩
    show f_X10_common_b4 x0 y0 Q (gm_it2 (f_X10_common_b4 x0 y0 Q) g) (nI x) (nI y) h
    unfold f_X10_common_b4
    by_cases c : y = 0
    · subst c
      rw [Nat.gcd_zero_right] at k
      exact ifp rfl k
    · have n0 : ¬ nI y = 0 := nI_ne0 (by omega) (by omega)
      refine ifn n0 ⟨n0, ?_⟩
      rw [pk_rem (by omega) (by omega) (by omega)]
      have hm := Nat.mod_lt x (show 0 < y by omega)
      refine nm (ih _ hm y g hy (by omega) (by omega) ?_)
      have : Nat.gcd y (x % y) = Nat.gcd x y := by
        rw [Nat.gcd_comm x y, Nat.gcd_rec y x, Nat.gcd_comm]
      rw [this]
      exact k
theorem s_common {x y : Nat} {h : Mem} {Q : Int32 → Mem → Prop} (hx : x < 1000) (hy : y < 1000) (k : Q (nI (Nat.gcd x y)) h) : f_X10_common (nI x) (nI y) h Q := by
  unfold f_X10_common
  exact s_euclid y x gm_F hx hy (Nat.lt_of_lt_of_le hy (gm_F_ge (by decide))) k
def pw (b : Int32) : Nat → Int64
  | 0 => 1
  | i + 1 => pw b i * b.toInt64
theorem s_pow9 {m : Nat} {a2 b : Int32} {h : Mem} {Q : Int64 → Mem → Prop} (hm : m ≤ 15) (k : Q (pw b m) h) : gm_it2 (f_X9_stays_b65 (nI m) a2 b Q) gm_F (1 : Int64) (0 : Int32) h := by
  refine lo2 nI m (fun i v h' => h' = h ∧ v = pw b i) rfl (by omega) ⟨rfl, rfl⟩ ?_ ?_
  · rintro K v h' ⟨rfl, rfl⟩
    unfold f_X9_stays_b65
    exact ifp (nI_le (Nat.le_refl _) (by omega)) k
  · rintro K i v h' hi ⟨rfl, rfl⟩ hK
    unfold f_X9_stays_b65
    rw [nI_1]
    exact ifn (nI_ge hi (by omega)) (nm (nm (hK _ _ ⟨rfl, rfl⟩)))
theorem s_pow10 {m : Nat} {a2 g : Int32} {h : Mem} {N : Row} {Q : Int64 → Mem → Prop} (hB : A10 h 44 N) (hm : m ≤ 15) (hg : ¬ g = 0) (k : Q (if a2 = 0 then pw (((10 : Int32) - N 14) / g) m else pw ((10 : Int32) / g) m) h) : gm_it3 (f_X10_stays_b52 (nI m) a2 g Q) gm_F (1 : Int64) (1 : Int64) (0 : Int32) h := by
  refine lo3 nI m (fun i v w h' => h' = h ∧ v = pw (((10 : Int32) - N 14) / g) i ∧ w = pw ((10 : Int32) / g) i) rfl (by omega) ⟨rfl, rfl, rfl⟩ ?_ ?_
  · rintro K v w h' ⟨rfl, rfl, rfl⟩
    unfold f_X10_stays_b52
    refine ifp (nI_le (Nat.le_refl _) (by omega)) ?_
    by_cases c : a2 = 0
    · rw [if_pos c] at k; exact ifp c k
    · rw [if_neg c] at k; exact ifn c k
  · rintro K i v w h' hi ⟨rfl, rfl, rfl⟩ hK
    unfold f_X10_stays_b52
    rw [nI_1, hB 14 (by decide)]
    exact ifn (nI_ge hi (by omega)) ⟨hg, nm ⟨hg, nm (nm (hK _ _ _ ⟨rfl, rfl, rfl⟩))⟩⟩
theorem pair_stays (a1 a2 : Int32) (h : Mem) (hI : Inv h) : f_X9_stays a1 a2 h (fun r h1 => f_X10_stays a1 a2 h1 (fun r2 h2 => r = r2 ∧ Inv h2)) := by
  obtain ⟨N, hV⟩ := hI
  have hA := hV.2.1
  by_cases hk : (0 : Int32) ≤ a1 ∧ a1 ≤ 15
  · obtain ⟨m, hm, rfl⟩ := sm (m := 15) (by decide) hk.1 hk.2
    by_cases hv : (0 : Int32) ≤ a2 ∧ a2 ≤ 1
    · have y14 := hV.1.2.2.2.2.2.2.2.1
      obtain ⟨lv, hlv, e14⟩ := sm (a := N 14) (m := 10) (by decide) ((fa_le _ _).mpr (by rw [i0]; exact y14.1)) ((fa_le _ _).mpr y14.2)
      have est : (10 : Int32) - N 14 = nI (10 - lv) := by rw [e14]; exact pk_sub (a := 10) hlv
      have g0 : 0 < Nat.gcd (10 - lv) 10 := Nat.gcd_pos_of_pos_right _ (by decide)
      have g1 : Nat.gcd (10 - lv) 10 ≤ 10 := Nat.gcd_le_right _ (by decide)
      have gn : ¬ nI (Nat.gcd (10 - lv) 10) = 0 := nI_ne0 g0 (by omega)
      refine pr_ok (f9 := f_X9_stays _ _) (f10 := f_X10_stays _ _) (r := if a2 = 0 then pw (nI (10 - lv) / nI (Nat.gcd (10 - lv) 10)) m else pw ((10 : Int32) / nI (Nat.gcd (10 - lv) 10)) m) (N' := N) hV hV.1 (fun Q k => ?_) (fun h Q hB _ k => ?_)
      · unfold f_X9_stays
        refine win9 hk.1 hk.2 (ifn oz (win9 hv.1 hv.2 (ifn oz ?_)))
        rw [hA.2.1 8 (by decide)]
        show ∀ v_9 : Int32, v_9 = (10 : Int32) - N 14 → _
        rw [est]
        refine nm ?_
        have k' := k h hA G9.rf
        by_cases c : a2 = 0
        · rw [if_pos c] at k'
          exact ifp c (s_divisor (w := 10) (by omega) (by decide) (by decide) ⟨gn, nm (s_pow9 hm k')⟩)
        · rw [if_neg c] at k'
          exact ifn c (s_divisor (w := 10) (by omega) (by decide) (by decide) ⟨gn, nm (s_pow9 hm k')⟩)
      · unfold f_X10_stays
        refine win10 hk.1 hk.2 (ifn oz (win10 hv.1 hv.2 (ifn oz ?_)))
        rw [hB 14 (by decide), est]
        refine s_common (y := 10) (by omega) (by decide) (s_pow10 hB hm gn ?_)
        rw [est]
        exact k h hB G10.rf
    · refine pr_no (f9 := f_X9_stays _ _) (f10 := f_X10_stays _ _) (w := Int32.toInt64) 0 (by decide) hV (fun Q k => ?_) (fun h Q hB _ k => ?_)
      · unfold f_X9_stays
        exact win9 hk.1 hk.2 (ifn oz (wout9 hv (ifp rfl (k h hA G9.rf))))
      · unfold f_X10_stays
        exact win10 hk.1 hk.2 (ifn oz (wout10 hv (ifp rfl (k h hB G10.rf))))
  · refine pr_no (f9 := f_X9_stays _ _) (f10 := f_X10_stays _ _) (w := Int32.toInt64) 0 (by decide) hV (fun Q k => ?_) (fun h Q hB _ k => ?_)
    · unfold f_X9_stays
      exact wout9 hk (ifp rfl (k h hA G9.rf))
    · unfold f_X10_stays
      exact wout10 hk (ifp rfl (k h hB G10.rf))
/-! EVENINGS -/
def dr (z : Int32) : Int32 := (z.toUInt32 >>> ((8 : Int32).toUInt32 &&& Int32.toUInt32 31)).toInt32
def md (x d : Int32) : Int32 := x - x / d * d
def n_draw (N : Row) : Row := upd N 5 (N 5 * (1103515245 : Int32) + (12345 : Int32))
theorem dr_nI (z : Int32) : ∃ j : Nat, j < 16777216 ∧ dr z = nI j := by
  have h := pk_ushr z 8 8 (by decide)
  have e : dr z = nI (dr z).toBitVec.toNat := by
    apply Int32.toBitVec_inj.1
    show _ = BitVec.ofNat 32 _
    rw [BitVec.ofNat_toNat, BitVec.setWidth_eq]
  refine ⟨(dr z).toBitVec.toNat, ?_, e⟩
  have hz := z.toBitVec.isLt
  show (z.toUInt32 >>> ((8 : Int32).toUInt32 &&& Int32.toUInt32 31)).toInt32.toBitVec.toNat < _
  rw [h]
  omega
theorem md_rng (z : Int32) {d : Nat} (h0 : 0 < d) (hd : d < 1000) : ∃ j : Nat, j < d ∧ md (dr z) (nI d) = nI j := by
  obtain ⟨j, hj, e⟩ := dr_nI z
  refine ⟨j % d, Nat.mod_lt _ h0, ?_⟩
  unfold md
  rw [e, pk_rem (by omega) h0 (by omega)]
def ev2 (N : Row) : Row := n_draw (n_read N)
def ev4 (M : Row) : Row := upd (n_draw M) 1 (M 1 + M 6 * ((1 : Int32) + md (dr (n_draw M 5)) 8))
def ev6 (M : Row) : Row := upd (n_draw M) 0 (if M 0 + md (dr (n_draw M 5)) 3 < M 4 then M 0 + md (dr (n_draw M 5)) 3 else M 4)
/-- one line read, perhaps left -/
def ev (N : Row) : Row := if (ev2 N) 14 ≤ md (dr (ev2 N 5)) 10 then ev2 N else ev6 (ev4 (ev2 N))
def evl (N : Row) (v : Int32) : Int32 := if (ev2 N) 14 ≤ md (dr (ev2 N 5)) 10 then v else v + 1
/-- behind m lines, or till the end -/
def eve (N : Row) : Nat → Int32 × Row
  | 0 => (0, N)
  | i + 1 => if (eve N i).2 4 ≤ (eve N i).2 0 then eve N i else (evl (eve N i).2 (eve N i).1, ev (eve N i).2)
theorem eve_y {N : Row} {i : Nat} (c : (eve N i).2 4 ≤ (eve N i).2 0) : eve N (i + 1) = eve N i := if_pos c
theorem eve_n {N : Row} {i : Nat} (c : ¬ (eve N i).2 4 ≤ (eve N i).2 0) : eve N (i + 1) = (evl (eve N i).2 (eve N i).1, ev (eve N i).2) := if_neg c
theorem eve_stop {N : Row} {i : Nat} (c : (eve N i).2 4 ≤ (eve N i).2 0) : ∀ j, eve N (i + j) = eve N i
  | 0 => rfl
  | j + 1 => by
    have ih := eve_stop c j
    rw [← Nat.add_assoc, eve_y (by rw [ih]; exact c), ih]
theorem draw_o {N : Row} {i : Nat} (h : i ≠ 5) : n_draw N i = N i := up_n h
theorem s_draw9 {k0 : Nat} {h : Mem} {N : Row} {Q : Int32 → Mem → Prop} (hA : A9 h k0 N) (k : ∀ h', A9 h' k0 (n_draw N) → Fr1 k0 h h' → Q (dr (n_draw N 5)) h') : f_X6_draw k0 h Q := by
  unfold f_X6_draw
  rw [hA.1.2.2.2.2.2]
  have b := hA.z (v := N 5 * (1103515245 : Int32) + (12345 : Int32))
  refine nm ?_
  rw [b.1.2.2.2.2.2]
  exact k _ b (Fr1.st Fr1.rf)
theorem s_drawn {d : Int32} {h : Mem} {N : Row} {Q : Int32 → Mem → Prop} (hB : A10 h 44 N) (hd : ¬ d = 0) (k : ∀ h', A10 h' 44 (n_draw N) → Fr1 44 h h' → Q (md (dr (n_draw N 5)) d) h') : f_X10_drawn d h Q := by
  unfold f_X10_drawn
  rw [hB 5 (by decide)]
  have b := hB.st (j := 5) (v := N 5 * (1103515245 : Int32) + (12345 : Int32))
  refine nm ⟨hd, ?_⟩
  rw [b 5 (by decide)]
  exact k _ b (Fr1.st Fr1.rf)
theorem ev_at {N : Row} {a n : Nat} (h0 : N 0 = nI a) (h4 : N 4 = nI n) (ha : a < n) (hn : n ≤ 12) : ∃ a', a' ≤ n ∧ (ev N) 0 = nI a' := by
  have r0 : (ev2 N) 0 = nI (a + 1) := by unfold ev2; rw [draw_o (by decide), read0, h0, nI_1]
  have r4 : (ev2 N) 4 = nI n := by unfold ev2; rw [draw_o (by decide), read_hi N 4 (by decide), turnO N (by decide) (by decide)]; exact h4
  unfold ev
  by_cases c : (ev2 N) 14 ≤ md (dr (ev2 N 5)) 10
  · rw [if_pos c]; exact ⟨a + 1, ha, r0⟩
  · rw [if_neg c]
    have s0 : (ev4 (ev2 N)) 0 = nI (a + 1) := by unfold ev4; rw [up_n (by decide), draw_o (by decide)]; exact r0
    have s4 : (ev4 (ev2 N)) 4 = nI n := by unfold ev4; rw [up_n (by decide), draw_o (by decide)]; exact r4
    unfold ev6
    rw [up_s, s0, s4]
    obtain ⟨j, hj, ej⟩ := md_rng (n_draw (ev4 (ev2 N)) 5) (d := 3) (by decide) (by decide)
    have ej : md (dr (n_draw (ev4 (ev2 N)) 5)) 3 = nI j := ej
    rw [ej, nI_add]
    by_cases c2 : nI (a + 1 + j) < nI n
    · rw [if_pos c2]
      rw [nI_ltI (by omega) (by omega)] at c2
      exact ⟨_, by omega, rfl⟩
    · rw [if_neg c2]; exact ⟨n, Nat.le_refl _, rfl⟩
theorem ev_hi {N : Row} : ∀ i, 4 ≤ i → i ≠ 5 → (ev N) i = n_turn N i := by
  intro i hi h5
  have r : (ev2 N) i = n_turn N i := by unfold ev2; rw [draw_o h5, read_hi N i hi]
  unfold ev
  by_cases c : (ev2 N) 14 ≤ md (dr (ev2 N 5)) 10
  · rw [if_pos c]; exact r
  · rw [if_neg c]
    unfold ev6 ev4
    rw [up_n (by omega), draw_o h5, up_n (by omega), draw_o h5]
    exact r
theorem ev_DX {N : Row} {a n : Nat} (x : DX N) (h0 : N 0 = nI a) (h4 : N 4 = nI n) (ha : a < n) (hn : n ≤ 12) : DX (ev N) := by
  refine ⟨?_, D2.cong x.2.1 (fun i hi => by rw [ev_hi i (by omega) (by omega), turnO N (by omega) (by omega)]), ?_⟩
  · obtain ⟨a', ha', e0⟩ := ev_at h0 h4 ha hn
    obtain ⟨b, m, h1, h2, h3, h5, h6, h7⟩ := x.1
    have e : m = n := (nI_eq (by omega) (by omega)).mp (h5.symm.trans h4)
    subst e
    refine ⟨a', m, ha', hn, e0, by rw [ev_hi 4 (by decide) (by decide), turnO N (by decide) (by decide)]; exact h4, fun l hl => ?_, fun j hj => ?_⟩
    · rw [ev_hi _ (by omega) (by omega), turnO N (by omega) (by omega)]; exact h6 l hl
    · rw [ev_hi _ (by omega) (by omega), turnO N (by omega) (by omega)]; exact h7 j hj
  · have t := turn_rng N
    have y := x.2.2
    unfold D3
    rw [ev_hi 6 (by decide) (by decide), ev_hi 7 (by decide) (by decide), ev_hi 12 (by decide) (by decide), ev_hi 13 (by decide) (by decide), ev_hi 14 (by decide) (by decide), ev_hi 15 (by decide) (by decide), turnO N (i := 12) (by decide) (by decide), turnO N (i := 13) (by decide) (by decide), turnO N (i := 14) (by decide) (by decide), turnO N (i := 15) (by decide) (by decide)]
    exact ⟨t.1, t.2, y.2.2⟩
theorem eve_DX {N : Row} {n : Nat} (x : DX N) (h4 : N 4 = nI n) (hn : n ≤ 12) : ∀ i, DX (eve N i).2 ∧ (eve N i).2 4 = nI n
  | 0 => ⟨x, h4⟩
  | i + 1 => by
    have ih := eve_DX x h4 hn i
    by_cases c : (eve N i).2 4 ≤ (eve N i).2 0
    · rw [eve_y c]; exact ih
    · rw [eve_n c]
      obtain ⟨b, m, h1, h2, h3, h5, -, -⟩ := ih.1.1
      have e : m = n := (nI_eq (by omega) (by omega)).mp (h5.symm.trans ih.2)
      subst e
      rw [h3, ih.2, nI_leI (by omega) (by omega)] at c
      refine ⟨ev_DX ih.1 h3 ih.2 (by omega) hn, ?_⟩
      show (ev (eve N i).2) 4 = _
      rw [ev_hi 4 (by decide) (by decide), turnO _ (by decide) (by decide)]
      exact ih.2
/-- an evening on the class's side -/
theorem s_spend {k0 q n m : Nat} {h : Mem} {N : Row} {Q : Int32 → Mem → Prop} (hA : A9 h k0 N) (hq : q < k0 ∨ k0 + 5 < q) (x : DX N) (h4 : N 4 = nI n) (hn : n ≤ 12) (hm : m ≤ 12) (k : ∀ h', A9 h' k0 (eve N m).2 → (∀ b, b ≠ q → b ≠ k0 → b ≠ k0 + 4 → h' b = h b) → Q (eve N m).1 h') : f_X6_spendEvening k0 (nI m) q h Q := by
  unfold f_X6_spendEvening
  refine lo2 nI m (fun i v h' => v = (eve N i).1 ∧ A9 h' k0 (eve N i).2 ∧ (∀ b, b ≠ q → b ≠ k0 → b ≠ k0 + 4 → h' b = h b)) rfl (by omega) ⟨rfl, hA, fun _ _ _ _ => rfl⟩ ?_ ?_
  · rintro K v h' ⟨rfl, b, f⟩
    unfold f_X6_spendEvening_b5
    exact ifp (nI_le (Nat.le_refl _) (by omega)) (k h' b f)
  · rintro K i v h' hi ⟨rfl, b, f⟩ hK
    unfold f_X6_spendEvening_b5
    rw [nI_1, b.1.2.2.2.2.1, b.1.1]
    refine ifn (nI_ge hi (by omega)) ?_
    by_cases c : (eve N i).2 4 ≤ (eve N i).2 0
    · have z := eve_stop c (m - i)
      rw [show i + (m - i) = m by omega] at z
      rw [z] at k
      exact ifp c (k h' b f)
    · refine ifn c ?_
      obtain ⟨x', e4⟩ := eve_DX x h4 hn i
      obtain ⟨a, n', h1, h2, h3, h5, -, -⟩ := x'.1
      have en : n' = n := (nI_eq (by omega) (by omega)).mp (h5.symm.trans e4)
      subst en
      have ha : a < n' := by rw [h3, e4, nI_leI (by omega) (by omega)] at c; omega
      have hK1 := fun h'' (b2 : A9 h'' k0 (ev (eve N i).2)) f2 => hK (evl (eve N i).2 (eve N i).1) h'' ⟨by rw [eve_n c], by rw [eve_n c]; exact b2, f2⟩
      refine s_readOne b hq h3 (by omega) (fun h3 b3 f3 => s_draw9 b3 (fun h4 b4 f4 => ?_))
      have b4 : A9 h4 k0 (ev2 (eve N i).2) := b4
      have l4 : h4 (k0 + 4) 8 = (ev2 (eve N i).2) 14 := b4.2.1 8 (by decide)
      have l0 : h4 (k0 + 4) 0 = (ev2 (eve N i).2) 6 := b4.2.1 0 (by decide)
      rw [l4]
      unfold evl ev at hK1
      show if (ev2 (eve N i).2) 14 ≤ md (dr (ev2 (eve N i).2 5)) 10 then _ else _
      by_cases cl1 : (ev2 (eve N i).2) 14 ≤ md (dr (ev2 (eve N i).2 5)) 10
      · rw [if_pos cl1, if_pos cl1] at hK1
        exact ifp cl1 (nm (hK1 h4 b4 (fun b x y z => by rw [f4 b y, f3 b x y z, f b x y z])))
      · rw [if_neg cl1, if_neg cl1] at hK1
        refine ifn cl1 (nm (s_draw9 b4 (fun h9 b9 f9 => nm ?_)))
        rw [b4.1.2.1, l0]
        have b11 := b9.clock (v := (ev2 (eve N i).2) 1 + (ev2 (eve N i).2) 6 * ((1 : Int32) + md (dr (n_draw (ev2 (eve N i).2) 5)) 8))
        have b11 : A9 (gm_st h9 k0 7 ((ev2 (eve N i).2) 1 + (ev2 (eve N i).2) 6 * ((1 : Int32) + md (dr (n_draw (ev2 (eve N i).2) 5)) 8))) k0 (ev4 (ev2 (eve N i).2)) := b11
        refine s_draw9 b11 (fun h12 b12 f12 => ?_)
        have z0 := b11.1.1
        have z5 := b11.1.2.2.2.2.1
        refine nm (nm (nm ?_))
        refine hK1 _ ?_ (fun b x y z => by rw [st_k y, f12 b y, st_k y, f9 b y, f4 b y, f3 b x y z, f b x y z])
        have b15 := b12.at_ (v := if (ev4 (ev2 (eve N i).2)) 0 + md (dr (n_draw (ev4 (ev2 (eve N i).2)) 5)) 3 < (ev4 (ev2 (eve N i).2)) 4 then (ev4 (ev2 (eve N i).2)) 0 + md (dr (n_draw (ev4 (ev2 (eve N i).2)) 5)) 3 else (ev4 (ev2 (eve N i).2)) 4)
        rw [← z0, ← z5] at b15
        sorry
