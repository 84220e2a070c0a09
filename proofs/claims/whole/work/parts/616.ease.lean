/-! EASE -/
def tr0 (N : Row) (l : Nat) : Int32 := p_trips (N (26 + 3 * l)) 0 (N 13) (N 12)
def es (N : Row) (l : Nat) : Int32 := tr N l - tr0 N l
def EB (N : Row) (a s : Nat) : Nat → Int32
  | 0 => 0
  | i + 1 => if s / 2 ^ i % 2 = 1 then EB N a s i + es N (a + i) else EB N a s i
def IS (N : Row) (a m t : Nat) : Nat → Int32
  | 0 => trS N a m
  | l + 1 => if t / 2 ^ l % 2 = 1 then IS N a m t l - (if a ≤ l then es N l else 0) else IS N a m t l - 0
theorem i_sa (x y z : Int32) : x - (y + z) = x - y - z := by
  simp only [Int32.sub_eq_add_neg, Int32.neg_add, Int32.add_assoc]
theorem IS_lo (N : Row) (a m t : Nat) : ∀ l, l ≤ a → IS N a m t l = trS N a m
  | 0, _ => rfl
  | l + 1, hl => by
    rw [IS, IS_lo N a m t l (by omega), if_neg (by omega : ¬ a ≤ l), Int32.sub_zero]
    split <;> rfl
theorem IS_hi (N : Row) (a m t : Nat) : ∀ i, IS N a m t (a + i) = trS N a m - EB N a (t / 2 ^ a) i
  | 0 => by rw [Nat.add_zero, IS_lo N a m t a (Nat.le_refl _), EB, Int32.sub_zero]
  | i + 1 => by
    rw [← Nat.add_assoc, IS, EB, IS_hi N a m t i, Nat.pow_add, ← Nat.div_div_eq_div_mul, if_pos (by omega : a ≤ a + i), Int32.sub_zero]
    by_cases c : t / 2 ^ a / 2 ^ i % 2 = 1
    · rw [if_pos c, if_pos c, i_sa]
    · rw [if_neg c, if_neg c]
section
variable {N : Row} {a n V : Nat}
theorem es_rng (hD : Dom N) {l : Nat} (hl : l < 12) : -20 ≤ (es N l).toInt ∧ (es N l).toInt ≤ 20 := by
  have h3 := hD.2.2.2
  have t1 := tr_rng (N := N) (l := l) hD.2.2.1 h3 hl
  have t2 : 0 ≤ (tr0 N l).toInt ∧ (tr0 N l).toInt ≤ 20 := trips_rng ⟨by decide, by decide⟩ ⟨by have := h3.2.2.2.1; omega, by have := h3.2.2.2.1; omega⟩ h3.2.2.1
  unfold es
  rw [fb_subI (by omega) (by omega)]
  omega
theorem EB_rng (hD : Dom N) (s : Nat) : ∀ i, a + i ≤ 12 → -(20 * i : Int) ≤ (EB N a s i).toInt ∧ (EB N a s i).toInt ≤ 20 * i
  | 0, _ => by show _ ≤ (0 : Int32).toInt ∧ (0 : Int32).toInt ≤ _; rw [i0]; omega
  | i + 1, hi => by
    have ih := EB_rng hD s i (by omega)
    have e := es_rng hD (l := a + i) (by omega)
    rw [EB]
    by_cases c : s / 2 ^ i % 2 = 1
    · rw [if_pos c, fb_addI (by omega) (by omega)]; omega
    · rw [if_neg c]; omega
theorem trS_rng (hD : Dom N) : ∀ m, a + m ≤ 12 → 0 ≤ (trS N a m).toInt ∧ (trS N a m).toInt ≤ 20 * m
  | 0, _ => by show _ ≤ (0 : Int32).toInt ∧ (0 : Int32).toInt ≤ _; rw [i0]; omega
  | m + 1, hm => by
    have ih := trS_rng hD m (by omega)
    have t := tr_rng (N := N) (l := a + m) hD.2.2.1 hD.2.2.2 (by omega)
    rw [trS, add_i (by omega) (by omega) (by omega)]
    omega
/-- a set of the lines ahead would do -/
def gd (N : Row) (a m V s : Nat) : Prop := (trS N a m).toInt - (EB N a s m).toInt ≤ V
/-- the set that is sought, moved to its lines; -1 where there is none -/
def Fin (N : Row) (a m V : Nat) (b : Int32) : Prop := (b = -1 ∧ ∀ u, u < 2 ^ m → ¬ gd N a m V u) ∨ ∃ s, s < 2 ^ m ∧ b = nI (s * 2 ^ a) ∧ gd N a m V s ∧ ∀ u, u < 2 ^ m → gd N a m V u → pc s < pc u ∨ (pc s = pc u ∧ s ≤ u)
theorem Fin.one {m : Nat} {b b' : Int32} (x : Fin N a m V b) (y : Fin N a m V b') : b = b' := by
  rcases x with ⟨rfl, x⟩ | ⟨s, hs, rfl, g, x⟩
  · rcases y with ⟨rfl, y⟩ | ⟨s', hs', rfl, g', y⟩
    · rfl
    · exact absurd g' (x s' hs')
  · rcases y with ⟨rfl, y⟩ | ⟨s', hs', rfl, g', y⟩
    · exact absurd g (y s hs)
    · have e1 := x s' hs' g'
      have e2 := y s hs g
      have : s = s' := by omega
      rw [this]
theorem Fin.is (N : Row) (a m V : Nat) (hm : m ≤ 12) : ∃ b, Fin N a m V b := by
  by_cases h : ∃ u, u < 2 ^ m ∧ gd N a m V u
  · obtain ⟨u, hu, g⟩ := h
    obtain ⟨k, ⟨s, hs, gs, ek⟩, hk⟩ := pk_least (fun k => ∃ s, s < 2 ^ m ∧ gd N a m V s ∧ k = pc s * 8192 + s) ⟨_, u, hu, g, rfl⟩
    have hp : 2 ^ m ≤ 2 ^ 12 := Nat.pow_le_pow_right (by decide) hm
    refine ⟨nI (s * 2 ^ a), Or.inr ⟨s, hs, rfl, gs, fun w hw gw => ?_⟩⟩
    rcases Nat.lt_or_ge (pc w * 8192 + w) k with q | q
    · exact absurd ⟨w, hw, gw, rfl⟩ (hk _ q)
    · omega
  · exact ⟨-1, Or.inl ⟨rfl, fun u hu g => h ⟨u, hu, g⟩⟩⟩
theorem p2 {m : Nat} (hm : m ≤ 12) : 2 ^ m ≤ 4096 := Nat.pow_le_pow_right (n := 2) (by decide) hm
theorem s_easedBy {m s : Nat} {h : Mem} {Q : Int32 → Mem → Prop} (hm : a + m ≤ 12) (hs : s < 4096) (he : ∀ i, i < m → h 25 i = es N (a + i)) (k : Q (EB N a s m) h) : f_X4_easedBy (nI s) (nI m) h Q := by
  unfold f_X4_easedBy
  refine lo2 nI m (fun i v h' => h' = h ∧ v = EB N a s i) rfl (by omega) ⟨rfl, rfl⟩ ?_ ?_
  · rintro K v h' ⟨rfl, rfl⟩
    unfold f_X4_easedBy_b5
    exact ifp (nI_le (Nat.le_refl _) (by omega)) k
  · rintro K i v h' hi ⟨rfl, rfl⟩ hK
    unfold f_X4_easedBy_b5
    rw [nI_1, cl (by omega), he i hi]
    refine ifn (nI_ge hi (by omega)) ?_
    by_cases c : s / 2 ^ i % 2 = 1
    · exact ifp ((bit_1 (by omega) (by omega)).mpr c) ⟨vi (by omega) (by decide), nm (nm (hK _ _ ⟨rfl, by rw [EB, if_pos c]⟩))⟩
    · exact ifn (fun z => c ((bit_1 (by omega) (by omega)).mp z)) (nm (hK _ _ ⟨rfl, by rw [EB, if_neg c]⟩))
theorem s_fewest {h : Mem} {Q : Int32 → Mem → Prop} (hD : Dom N) (hA : A9 h 1 N) (h0 : N 0 = nI a) (h4 : N 4 = nI n) (han : a ≤ n) (hn : n ≤ 12) (hV : V ≤ 999) (k : ∀ h' b, Fin N a (n - a) V b → Fr1 25 h h' → Q b h') : f_X4_fewestEased (nI V) h Q := by
  unfold f_X4_fewestEased
  obtain ⟨m, em⟩ : ∃ m, m = n - a := ⟨_, rfl⟩
  rw [← em] at k
  have hp := p2 (m := m) (by omega)
  refine s_left9 hA h0 h4 han ?_
  rw [← em]
  refine lo1 nI m (fun i h' => Fr1 25 h h' ∧ ∀ j, j < i → h' 25 j = es N (a + j)) rfl (by omega) ⟨Fr1.rf, fun j hj => absurd hj (Nat.not_lt_zero j)⟩ ?_ ?_
  · rintro K h1 ⟨f1, e1⟩
    unfold f_X4_fewestEased_b8
    have b1 := f1.a9 (by decide) hA
    refine ifp (nI_le (Nat.le_refl _) (by omega)) (s_tripsAhead b1 h0 h4 han hn ?_)
    rw [← em, nI_1]
    refine nm (nm ?_)
    have tr1 := trS_rng (a := a) hD m (by omega)
    have sv : (trS N a m - nI V).toInt = (trS N a m).toInt - V := by rw [fb_subI (by rw [nI_toInt (by omega)]; omega) (by rw [nI_toInt (by omega)]; omega), nI_toInt (by omega)]
    refine lo3 nI (2 ^ m) (fun s v5 v6 h' => h' = h1 ∧ ((v5 = -1 ∧ v6 = nI (m + 1) ∧ ∀ u, u < s → ¬ gd N a m V u) ∨ ∃ s0, s0 < s ∧ v5 = nI (s0 * 2 ^ a) ∧ v6 = nI (pc s0) ∧ gd N a m V s0 ∧ ∀ u, u < s → gd N a m V u → pc s0 < pc u ∨ (pc s0 = pc u ∧ s0 ≤ u))) rfl (by omega) ⟨rfl, Or.inl ⟨rfl, rfl, fun u hu => absurd hu (Nat.not_lt_zero u)⟩⟩ ?_ ?_
    · rintro K2 v5 v6 h' ⟨rfl, e⟩
      unfold f_X4_fewestEased_b95
      rw [one_shl (by omega)]
      refine ifp (nI_le (Nat.le_refl _) (by omega)) (k h' v5 ?_ f1)
      rcases e with ⟨x1, -, x3⟩ | ⟨s0, x1, x2, -, x4, x5⟩
      · exact Or.inl ⟨x1, x3⟩
      · exact Or.inr ⟨s0, x1, x2, x4, x5⟩
    · rintro K2 s v5 v6 h' hs ⟨rfl, e⟩ hK2
      unfold f_X4_fewestEased_b95
      rw [one_shl (by omega), nI_1]
      have hps := pc_le (m := m) (by omega) hs
      have eb := EB_rng (a := a) hD s m (by omega)
      refine ifn (nI_ge hs (by omega)) (s_bitCount (by omega) ?_)
      by_cases c : v6 ≤ nI (pc s)
      · refine ifp c (nm (hK2 _ _ _ ⟨rfl, ?_⟩))
        rcases e with ⟨x1, rfl, x3⟩ | ⟨s0, x1, x2, rfl, x4, x5⟩
        · exact absurd c (nI_ge (by omega) (by omega))
        · refine Or.inr ⟨s0, by omega, x2, rfl, x4, fun u hu gu => ?_⟩
          by_cases q : u = s
          · subst q
            have hp0 : pc s0 ≤ 12 := pcn_le 12 s0
            rw [nI_leI (by omega) (by omega)] at c
            omega
          · exact x5 u (by omega) gu
      · refine ifn c (s_easedBy (N := N) (a := a) (by omega) (by omega) (fun i hi => e1 i hi) ?_)
        by_cases g : EB N a s m < trS N a m - nI V
        · refine ifp g (nm (hK2 _ _ _ ⟨rfl, ?_⟩))
          have ng : ¬ gd N a m V s := by unfold gd; rw [fa_lt, sv] at g; omega
          rcases e with ⟨x1, x2, x3⟩ | ⟨s0, x1, x2, x3, x4, x5⟩
          · refine Or.inl ⟨x1, x2, fun u hu gu => ?_⟩
            by_cases q : u = s
            · subst q; exact ng gu
            · exact x3 u (by omega) gu
          · refine Or.inr ⟨s0, by omega, x2, x3, x4, fun u hu gu => ?_⟩
            by_cases q : u = s
            · subst q; exact absurd gu ng
            · exact x5 u (by omega) gu
        · have gs : gd N a m V s := by unfold gd; rw [fa_lt, sv] at g; omega
          rw [b1.1.1, h0, shl_nI (by omega) (by have : 2 ^ a ≤ 4096 := p2 (by omega); have := Nat.mul_le_mul (Nat.le_of_lt hs) this; have := Nat.mul_le_mul_right 4096 hp; omega)]
          refine ifn g (nm (nm (hK2 _ _ _ ⟨rfl, Or.inr ⟨s, by omega, rfl, rfl, gs, fun u hu gu => ?_⟩⟩)))
          by_cases q : u = s
          · subst q; omega
          · rcases e with ⟨x1, x2, x3⟩ | ⟨s0, x1, x2, rfl, x4, x5⟩
            · exact absurd gu (x3 u (by omega))
            · have hp0 : pc s0 ≤ 12 := pcn_le 12 s0
              rw [nI_leI (by omega) (by omega)] at c
              have := x5 u (by omega) gu
              omega
  · rintro K i h' hi ⟨f1, e1⟩ hK
    unfold f_X4_fewestEased_b8
    have b1 := f1.a9 (by decide) hA
    rw [nI_1 i, b1.1.1, h0, b1.2.1 7 (by decide), b1.2.1 6 (by decide), nI_add]
    have d := b1.2.2.2 (a + i) (by omega)
    refine ifn (nI_ge hi (by omega)) (nm (nm (nm (s_tripsOf b1 (by omega) ⟨vi (by omega) (by decide), ?_⟩))))
    rw [cl (by omega), d.1]
    refine s_trips9 ⟨vi (by omega) (by decide), nm (nm ?_)⟩
    rw [cl (by omega)]
    refine hK _ ⟨f1.st, fun j hj => ?_⟩
    by_cases q : j = i
    · subst q; rw [st_s]; rfl
    · rw [st_j q]; exact e1 j (by omega)
/-! the reference -/
theorem s_eases {l : Nat} {h : Mem} {Q : Int32 → Mem → Prop} (hB : A10 h 44 N) (h0 : N 0 = nI a) (ha : a ≤ 12) (hl : l < 12) (k : ∀ h', A10 h' 44 N → Fr1 44 h h' → Q (if a ≤ l then es N l else 0) h') : f_X10_eases (nI l) h Q := by
  unfold f_X10_eases f_X10_at
  have x2 : ((26 : Int32) + ((3 : Int32) * nI l)) + (2 : Int32) = nI (26 + 3 * l + 2) := at_nI (f := 2)
  dsimp only
  rw [x2, cl (by omega)]
  refine s_trips10 hB hl (s_become10 hB (by omega) (fun h5 b5 f5 => s_trips10 b5 hl (nm ⟨vi (by omega) (by decide), nm ?_⟩)))
  have b6 : A10 (gm_st h5 44 (26 + 3 * l + 2) (N (26 + 3 * l + 2))) 44 N := b5.st.same (fun j _ => by
    rw [up_at, up_at]
    by_cases q : j = 26 + 3 * l + 2
    · rw [if_pos q, q]
    · rw [if_neg q, if_neg q])
  have et : tr (upd N (26 + 3 * l + 2) 0) l = tr0 N l := by
    unfold tr tr0
    rw [up_s, up_n (by omega), up_n (by omega), up_n (by omega)]
  have k' := k _ b6 (f5.st)
  rw [b6 0 (by decide), h0, et]
  by_cases c : a ≤ l
  · rw [if_pos c] at k'
    exact ifp (nI_le c (by omega)) k'
  · rw [if_neg c] at k'
    exact ifn (nI_ge (by omega) (by omega)) k'
theorem s_ease10 {h : Mem} {Q : Int32 → Mem → Prop} (hD : Dom N) (hB : A10 h 44 N) (h0 : N 0 = nI a) (h4 : N 4 = nI n) (han : a ≤ n) (hn : n ≤ 12) (hV : V ≤ 999) (k : ∀ h' b, Fin N a (n - a) V b → A10 h' 44 N → Fr1 44 h h' → if 0 ≤ b then Q b h' else f_X10_finding (-1000004 : Int32) h' Q) : f_X10_ease (nI V) h Q := by
  unfold f_X10_ease
  obtain ⟨m, em⟩ : ∃ m, m = n - a := ⟨_, rfl⟩
  rw [← em] at k
  have hp := p2 (m := n) (by omega)
  have hpn : 2 ^ n = 2 ^ m * 2 ^ a := by rw [← Nat.pow_add]; congr 1; omega
  have hpa : 0 < 2 ^ a := Nat.two_pow_pos a
  refine win10 (nI_pos' (by omega)) (nI_le (b := 999) hV (by decide)) (ifn oz (s_restTrips hB h0 h4 han hn ?_))
  rw [← em]
  refine lo2 nI (2 ^ n) (fun t v h' => A10 h' 44 N ∧ Fr1 44 h h' ∧ ((v = -1 ∧ ∀ u, u < t → ¬ gd N a m V (u / 2 ^ a)) ∨ ∃ s, v = nI (s * 2 ^ a) ∧ s * 2 ^ a < t ∧ gd N a m V s ∧ ∀ u, u < t → gd N a m V (u / 2 ^ a) → pc (s * 2 ^ a) < pc u ∨ (pc (s * 2 ^ a) = pc u ∧ s * 2 ^ a ≤ u))) rfl (by omega) ⟨hB, Fr1.rf, Or.inl ⟨rfl, fun u hu => absurd hu (Nat.not_lt_zero u)⟩⟩ ?_ ?_
  · rintro K v h' ⟨b, f, e⟩
    unfold f_X10_ease_b28
    rw [b 4 (by decide), h4, one_shl (by omega)]
    refine ifp (nI_le (Nat.le_refl _) (by omega)) (k h' v ?_ b f)
    rcases e with ⟨x1, x2⟩ | ⟨s, x1, x2, x3, x4⟩
    · refine Or.inl ⟨x1, fun u hu gu => x2 (u * 2 ^ a) ?_ (by rw [Nat.mul_div_cancel _ hpa]; exact gu)⟩
      rw [hpn]
      exact Nat.mul_lt_mul_of_pos_right hu hpa
    · have hs : s < 2 ^ m := by
        rw [hpn] at x2
        exact Nat.lt_of_mul_lt_mul_right x2
      refine Or.inr ⟨s, hs, x1, x3, fun u hu gu => ?_⟩
      have hu2 : u * 2 ^ a < 2 ^ n := by rw [hpn]; exact Nat.mul_lt_mul_of_pos_right hu hpa
      have := x4 (u * 2 ^ a) hu2 (by rw [Nat.mul_div_cancel _ hpa]; exact gu)
      rw [pc_sh (by omega) (by omega), pc_sh (by omega) (by omega)] at this
      rcases this with z | ⟨z1, z2⟩
      · exact Or.inl z
      · exact Or.inr ⟨z1, Nat.le_of_mul_le_mul_right z2 hpa⟩
  · rintro K t v h' ht ⟨b, f, e⟩ hK
    unfold f_X10_ease_b28
    rw [b 4 (by decide), h4, one_shl (by omega)]
    refine ifn (nI_ge ht (by omega)) ?_
    have t1 := trS_rng (a := a) hD m (by omega)
    have eb := EB_rng (a := a) hD (t / 2 ^ a) m (by omega)
    have eis : (IS N a m t n).toInt = (trS N a m).toInt - (EB N a (t / 2 ^ a) m).toInt := by
      have := IS_hi N a m t m
      rw [show a + m = n by omega] at this
      rw [this, fb_subI (by omega) (by omega)]
    refine lo2 nI n (fun l w h2 => A10 h2 44 N ∧ Fr1 44 h h2 ∧ w = IS N a m t l) rfl (by omega) ⟨b, f, rfl⟩ ?_ ?_
    · rintro K2 w h2 ⟨b2, f2, rfl⟩
      unfold f_X10_ease_b47
      rw [b2 4 (by decide), h4, nI_1]
      refine ifp (nI_le (Nat.le_refl _) (by omega)) ?_
      have hlow : t / 2 ^ a * 2 ^ a ≤ t := Nat.div_mul_le_self t (2 ^ a)
      by_cases c : nI V < IS N a m t n
      · refine ifp c (nm (hK _ _ ⟨b2, f2, ?_⟩))
        have ng : ¬ gd N a m V (t / 2 ^ a) := by
          unfold gd
          rw [fa_lt, nI_toInt (by omega), eis] at c
          omega
        rcases e with ⟨x1, x2⟩ | ⟨s, x1, x2, x3, x4⟩
        · refine Or.inl ⟨x1, fun u hu gu => ?_⟩
          by_cases q : u = t
          · subst q; exact ng gu
          · exact x2 u (by omega) gu
        · refine Or.inr ⟨s, x1, by omega, x3, fun u hu gu => ?_⟩
          by_cases q : u = t
          · subst q; exact absurd gu ng
          · exact x4 u (by omega) gu
      · have gt : gd N a m V (t / 2 ^ a) := by
          unfold gd
          rw [fa_lt, nI_toInt (by omega), eis] at c
          omega
        refine ifn c ?_
        have gt' : gd N a m V (t / 2 ^ a * 2 ^ a / 2 ^ a) := by rw [Nat.mul_div_cancel _ hpa]; exact gt
        rcases e with ⟨x1, x2⟩ | ⟨s, x1, x2, x3, x4⟩
        · rw [x1]
          have et : t / 2 ^ a * 2 ^ a = t := by
            rcases Nat.lt_or_ge (t / 2 ^ a * 2 ^ a) t with q | q
            · exact absurd gt' (x2 _ q)
            · omega
          refine ifp (by decide) (nm (hK _ _ ⟨b2, f2, Or.inr ⟨t / 2 ^ a, by rw [et], by omega, gt, fun u hu gu => ?_⟩⟩))
          by_cases q : u = t
          · rw [et, q]; omega
          · exact absurd gu (x2 u (by omega))
        · rw [x1]
          have hb : s * 2 ^ a < 4096 := by omega
          refine ifn (nI_pos (by omega)) (s_bits10 (by omega) (s_bits10 hb ?_))
          have hp1 : pc t ≤ 12 := pcn_le 12 t
          have hp2 : pc (s * 2 ^ a) ≤ 12 := pcn_le 12 _
          by_cases q : pc (s * 2 ^ a) ≤ pc t
          · refine ifp (nI_le q (by omega)) (nm (hK _ _ ⟨b2, f2, Or.inr ⟨s, rfl, by omega, x3, fun u hu gu => ?_⟩⟩))
            by_cases q2 : u = t
            · subst q2; omega
            · exact x4 u (by omega) gu
          · have et : t / 2 ^ a * 2 ^ a = t := by
              by_cases q3 : t / 2 ^ a * 2 ^ a = t
              · exact q3
              · have l1 := pc_low (a := a) (t := t) (by omega) (by omega) q3
                have := x4 _ (by omega) gt'
                omega
            refine ifn (nI_ge (by omega) (by omega)) (nm (hK _ _ ⟨b2, f2, Or.inr ⟨t / 2 ^ a, by rw [et], by omega, gt, fun u hu gu => ?_⟩⟩))
            rw [et]
            by_cases q2 : u = t
            · rw [q2]; omega
            · have := x4 u (by omega) gu
              omega
    · rintro K2 l w h2 hl ⟨b2, f2, rfl⟩ hK2
      unfold f_X10_ease_b47
      rw [b2 4 (by decide), h4, nI_1 l]
      refine ifn (nI_ge hl (by omega)) (s_has (by omega) (by omega) ?_)
      by_cases c : t / 2 ^ l % 2 = 1
      · rw [if_pos c]
        refine ifn oz (s_eases b2 h0 (by omega) (by omega) (fun h3 b3 f3 => nm (nm (hK2 _ _ ⟨b3, f2.tr f3, by rw [IS, if_pos c]⟩))))
      · rw [if_neg c]
        exact ifp rfl (nm (nm (hK2 _ _ ⟨b2, f2, by rw [IS, if_neg c]⟩)))
end
theorem pair_ease (a1 : Int32) (h : Mem) (hI : Inv h) : f_X9_ease a1 h (fun r h1 => f_X10_ease a1 h1 (fun r2 h2 => r = r2 ∧ Inv h2)) := by
  obtain ⟨N, hV⟩ := hI
  obtain ⟨a, n, han, hn, h0, h4, hw, hs⟩ := hV.1.1
  have hA := hV.2.1
  by_cases hk : (0 : Int32) ≤ a1 ∧ a1 ≤ 999
  · obtain ⟨V, hv, rfl⟩ := sm (m := 999) (by decide) hk.1 hk.2
    obtain ⟨b, hb⟩ := Fin.is N a (n - a) V (by omega)
    by_cases c : (0 : Int32) ≤ b
    · refine pr_ok (f9 := f_X9_ease _) (f10 := f_X10_ease _) (r := b) (N' := N) hV hV.1 (fun Q k => ?_) (fun h Q hB _ k => ?_)
      · unfold f_X9_ease
        refine win9 hk.1 hk.2 (ifn oz (s_fewest hV.1 hA h0 h4 han hn hv (fun h1 b' hb' f1 => ?_)))
        rw [hb'.one hb]
        exact ifp c (k h1 (f1.a9 (by decide) hA) (f1.g9 (by decide) (by decide)))
      · refine s_ease10 hV.1 hB h0 h4 han hn hv (fun h1 b' hb' b1 f1 => ?_)
        rw [hb'.one hb]
        exact ifp c (k h1 b1 f1.g10)
    · refine pr_no (f9 := f_X9_ease _) (f10 := f_X10_ease _) (w := id) 3 (by decide) hV (fun Q k => ?_) (fun h Q hB _ k => ?_)
      · unfold f_X9_ease
        refine win9 hk.1 hk.2 (ifn oz (s_fewest hV.1 hA h0 h4 han hn hv (fun h1 b' hb' f1 => ?_)))
        rw [hb'.one hb]
        exact ifn c (k h1 (f1.a9 (by decide) hA) (f1.g9 (by decide) (by decide)))
      · refine s_ease10 hV.1 hB h0 h4 han hn hv (fun h1 b' hb' b1 f1 => ?_)
        rw [hb'.one hb]
        exact ifn c (k h1 b1 f1.g10)
  · refine pr_no (f9 := f_X9_ease _) (f10 := f_X10_ease _) (w := id) 0 (by decide) hV (fun Q k => ?_) (fun h Q hB _ k => ?_)
    · unfold f_X9_ease
      exact wout9 hk (ifp rfl (k h hA G9.rf))
    · unfold f_X10_ease
      exact wout10 hk (ifp rfl (k h hB G10.rf))
