theorem d_law_0 : decode code 0 = .ok (.new 7, 3) := by decide +kernel
theorem d_law_3 : decode code 3 = .ok (.dup, 1) := by decide +kernel
theorem d_law_4 : decode code 4 = .ok (.invokespecial 9, 3) := by decide +kernel
theorem d_law_7 : decode code 7 = .ok (.astore_n 1, 1) := by decide +kernel
theorem d_law_8 : decode code 8 = .ok (.new 10, 3) := by decide +kernel
theorem d_law_11 : decode code 11 = .ok (.dup, 1) := by decide +kernel
theorem d_law_12 : decode code 12 = .ok (.invokespecial 12, 3) := by decide +kernel
theorem d_law_15 : decode code 15 = .ok (.astore_n 2, 1) := by decide +kernel
theorem d_law_16 : decode code 16 = .ok (.iconst 0, 1) := by decide +kernel
theorem d_law_17 : decode code 17 = .ok (.istore_n 3, 1) := by decide +kernel
/-! THE START: what was there before -/
def lw_fl : List Jvm.Cond := flatC (Jvm.Cond.and given_1 narrow_1)
def lw_sidx : List Nat := [148, 136, 138, 140, 142, 144, 146, 48, 53, 55, 60, 62, 64, 75, 81, 101, 103]
def lw_midx : List Nat := [33, 35, 37, 39, 41, 43, 45, 310, 316, 318, 323, 325, 327, 306, 308, 287, 292]
def lw_tm (i : Nat) : Term := .string "GlassWords$Script" (lw_sidx.getD i 0)
def lw_st (i : Nat) : Term := .static "GlassWords" (gm_stN.getD i "") "[I"
theorem lw_f1 : ∀ i, i < 17 → Cond.exactly (lw_tm i) "java/lang/String" ∈ lw_fl := by decide +kernel
theorem lw_f2 : ∀ i, i < 17 → Cond.eq (.field (lw_tm i) "java/lang/String" "coder" "B") (.int 0) ∈ lw_fl := by decide +kernel
theorem lw_f3 : ∀ i, i < 17 → Cond.arrayOf (.field (lw_tm i) "java/lang/String" "value" "[B") .byte ∈ lw_fl := by decide +kernel
theorem lw_f4 : ∀ i, i < 17 → Cond.eq (.length (.field (lw_tm i) "java/lang/String" "value" "[B")) (.int (Int32.ofNat (gm_byt i).length)) ∈ lw_fl := by decide +kernel
theorem lw_f5 : ∀ i, i < 17 → ∀ j, j < (gm_byt i).length → Cond.eq (.elem (.field (lw_tm i) "java/lang/String" "value" "[B") (.int (Int32.ofNat j))) (.int ((gm_byt i).getD j 0)) ∈ lw_fl := by decide +kernel
theorem lw_f6 : ∀ i, i < 17 → Cond.eq (lw_tm i) (.string "GlassWordsModel" (lw_midx.getD i 0)) ∈ lw_fl := by decide +kernel
theorem lw_f7 : ∀ i, i < 17 → (gm_byt i).length < 2 ^ 31 := by decide +kernel
theorem lw_g1 : ∀ i, i < 6 → Cond.arrayOf (lw_st i) .int ∈ lw_fl := by decide +kernel
theorem lw_g2 : ∀ i, i < 6 → Cond.eq (.length (lw_st i)) (.int (Int32.ofNat (gm_tab i).length)) ∈ lw_fl := by decide +kernel
theorem lw_g3 : ∀ i, i < 6 → ∀ j, j < (gm_tab i).length → Cond.eq (.elem (lw_st i) (.int (Int32.ofNat j))) (.int ((gm_tab i).getD j 0)) ∈ lw_fl := by decide +kernel
theorem lw_g4 : ∀ i, i < 6 → (gm_tab i).length < 2 ^ 31 := by decide +kernel
theorem lw_g5 : ∀ i, i < 6 → Cond.laysStatic "GlassWords" (gm_stN.getD i "") "[I" ∈ lw_tbl := by decide +kernel
theorem lw_g6 : Cond.initialized "GlassWords" ∈ lw_tbl ∧ Cond.initialized "java/lang/String" ∈ lw_tbl ∧ Cond.initialized "jdk/internal/util/Preconditions" ∈ lw_tbl ∧ Cond.laysStatic "java/lang/String" "COMPACT_STRINGS" "Z" ∈ lw_tbl ∧ Cond.laysStatic "jdk/internal/util/Preconditions" "SIOOBE_FORMATTER" "Ljava/util/function/BiFunction;" ∈ lw_tbl := by decide +kernel
theorem lw_g7 : Cond.eq (.static "java/lang/String" "COMPACT_STRINGS" "Z") (.int 1) ∈ lw_fl ∧ Cond.isRef (.static "jdk/internal/util/Preconditions" "SIOOBE_FORMATTER" "Ljava/util/function/BiFunction;") ∈ lw_fl := by decide +kernel
theorem lw_g8 : ∀ q ∈ gm_ldc, Cond.stringRef q.1 q.2.1 q.2.2.1 ∈ lw_tbl ∧ q.2.2.2 < 17 ∧ ((q.1 = "GlassWords$Script" ∧ q.2.1 = lw_sidx.getD q.2.2.2 0) ∨ (q.1 = "GlassWordsModel" ∧ q.2.1 = lw_midx.getD q.2.2.2 0)) := by decide +kernel
theorem lw_eqR {args : Array Value} {s : State} {t u : Term} {a : Nat} (h : (Cond.eq t u).before args s = true) (ht : t.eval args s none [] s = some (.ref a)) : u.eval args s none [] s = some (.ref a) := by
  cases hu : u.eval args s none [] s with
  | none => simp [Cond.before, Cond.holds, Cond.value, ht, hu] at h
  | some w =>
    simp only [Cond.before, Cond.holds, Cond.value, ht, hu] at h
    cases w <;> simp_all
theorem lw_strs {args : Array Value} {s : State} (hs : ∀ c ∈ lw_fl, c.before args s = true) {A : Nat → Prop} (hA : ∀ a : Nat, a < s.heap.size → ¬ A a) : ∃ ad : Nat → Nat × Nat, ∀ i, i < 17 → (lw_tm i).eval args s none [] s = some (.ref (ad i).1) ∧ va_O "java/lang/String" (ad i).1 A s s.heap ∧ va_OF "java/lang/String" "coder" "B" (.int 0) (ad i).1 A s s.heap ∧ va_OF "java/lang/String" "value" "[B" (.ref (ad i).2) (ad i).1 A s s.heap ∧ va_T .byte (ad i).2 (gm_byt i).length (fun j => .int ((gm_byt i).getD j 0)) A s s.heap := by
  have h0 : ∀ i : Nat, ∃ q : Nat × Nat, i < 17 → (lw_tm i).eval args s none [] s = some (.ref q.1) ∧ va_O "java/lang/String" q.1 A s s.heap ∧ va_OF "java/lang/String" "coder" "B" (.int 0) q.1 A s s.heap ∧ va_OF "java/lang/String" "value" "[B" (.ref q.2) q.1 A s s.heap ∧ va_T .byte q.2 (gm_byt i).length (fun j => .int ((gm_byt i).getD j 0)) A s s.heap := by
    intro i
    by_cases hi : i < 17
    · obtain ⟨a, c, cA, kA, q1, q2, q3, q4, q5, q6, -⟩ := Cond.exactly_spec (args := args) (first := s) (o := none) (s := s) (idx := []) (t := lw_tm i) (cls := "java/lang/String") (hs _ (lw_f1 i hi))
      obtain ⟨t, ht, hT⟩ := va_Tof (f := fun j => .int ((gm_byt i).getD j 0)) (A := A) (lw_f7 i hi) (hs _ (lw_f3 i hi)) (va_eqt (hs _ (lw_f4 i hi))) (fun j hj => va_eqt (hs _ (lw_f5 i hi j hj))) hA
      exact ⟨(a, t), fun _ => ⟨q1, ⟨cA, q3, q5, by rw [q6]; exact q2, hA a (Array.getElem?_eq_some_iff.mp q3).1⟩, vk_OFof q1 (va_eqt (hs _ (lw_f2 i hi))) hA, vk_OFof q1 ht hA, hT⟩⟩
    · exact ⟨(0, 0), fun h => absurd h hi⟩
  exact Classical.axiomOfChoice h0
theorem lw_tabs {args : Array Value} {s : State} (hs : ∀ c ∈ lw_fl, c.before args s = true) {A : Nat → Prop} (hA : ∀ a : Nat, a < s.heap.size → ¬ A a) : ∃ tb : Nat → Nat, ∀ i, i < 6 → (lw_st i).eval args s none [] s = some (.ref (tb i)) ∧ va_T .int (tb i) (gm_tab i).length (fun j => .int ((gm_tab i).getD j 0)) A s s.heap := by
  have h0 : ∀ i : Nat, ∃ q : Nat, i < 6 → (lw_st i).eval args s none [] s = some (.ref q) ∧ va_T .int q (gm_tab i).length (fun j => .int ((gm_tab i).getD j 0)) A s s.heap := by
    intro i
    by_cases hi : i < 6
    · obtain ⟨t, ht, hT⟩ := va_Tof (f := fun j => .int ((gm_tab i).getD j 0)) (A := A) (lw_g4 i hi) (hs _ (lw_g1 i hi)) (va_eqt (hs _ (lw_g2 i hi))) (fun j hj => va_eqt (hs _ (lw_g3 i hi j hj))) hA
      exact ⟨t, fun _ => ⟨ht, hT⟩⟩
    · exact ⟨0, fun h => absurd h hi⟩
  exact Classical.axiomOfChoice h0
/-- the addresses -/
def lw_rho (N0 b fm : Nat) (ad : Nat → Nat × Nat) (tb : Nat → Nat) (k : Nat) : Nat :=
  if k < 57 then N0 + k else if k < 117 then (ad (k - 100)).1 else if k < 167 then (ad (k - 150)).2 else if k = 180 then fm else if k < 206 then tb (k - 200) else b
theorem lw_rho_w {N0 b fm : Nat} {ad : Nat → Nat × Nat} {tb : Nat → Nat} {k : Nat} (h : k < 57) : lw_rho N0 b fm ad tb k = N0 + k := if_pos h
theorem lw_rho_s {N0 b fm : Nat} {ad : Nat → Nat × Nat} {tb : Nat → Nat} {i : Nat} (h : i < 17) : lw_rho N0 b fm ad tb (100 + i) = (ad i).1 := by
  unfold lw_rho
  rw [if_neg (by omega), if_pos (by omega), Nat.add_sub_cancel_left]
theorem lw_rho_v {N0 b fm : Nat} {ad : Nat → Nat × Nat} {tb : Nat → Nat} {i : Nat} (h : i < 17) : lw_rho N0 b fm ad tb (150 + i) = (ad i).2 := by
  unfold lw_rho
  rw [if_neg (by omega), if_neg (by omega), if_pos (by omega), Nat.add_sub_cancel_left]
theorem lw_rho_t {N0 b fm : Nat} {ad : Nat → Nat × Nat} {tb : Nat → Nat} {i : Nat} (h : i < 6) : lw_rho N0 b fm ad tb (200 + i) = tb i := by
  unfold lw_rho
  rw [if_neg (by omega), if_neg (by omega), if_neg (by omega), if_neg (by omega), if_pos (by omega), Nat.add_sub_cancel_left]
theorem lw_rho_b {N0 b fm : Nat} {ad : Nat → Nat × Nat} {tb : Nat → Nat} : lw_rho N0 b fm ad tb 300 = b := by
  unfold lw_rho
  rw [if_neg (by omega), if_neg (by omega), if_neg (by omega), if_neg (by omega), if_neg (by omega)]
theorem lw_rho_f {N0 b fm : Nat} {ad : Nat → Nat × Nat} {tb : Nat → Nat} : lw_rho N0 b fm ad tb 180 = fm := by
  unfold lw_rho
  rw [if_neg (by omega), if_neg (by omega), if_neg (by omega), if_pos rfl]
theorem lw_old {b : Nat} {s : State} (hts : ∀ w ∈ lw_tbl, w.before #[Value.ref b] s = true) (hs : ∀ c ∈ lw_fl, c.before #[Value.ref b] s = true) : ∃ r : Nat → Nat, (∀ k, k < 57 → r k = s.heap.size + k) ∧ r 300 = b ∧ ∀ Y : va_G × ClassId × ClassId × ClassId, gm_oldA (fun q => s.heap.size ≤ q) (r, Y) s s.heap := by
  have hA : ∀ a : Nat, a < s.heap.size → ¬ (fun q : Nat => s.heap.size ≤ q) a := fun a h => Nat.not_le.mpr h
  obtain ⟨ad, had⟩ := lw_strs hs hA
  obtain ⟨tb, htb⟩ := lw_tabs hs hA
  obtain ⟨fm, hfm⟩ : ∃ fm : Nat, va_Z "jdk/internal/util/Preconditions" "SIOOBE_FORMATTER" "Ljava/util/function/BiFunction;" .null (fun q : Nat => s.heap.size ≤ q) s s.heap ∨ va_Z "jdk/internal/util/Preconditions" "SIOOBE_FORMATTER" "Ljava/util/function/BiFunction;" (.ref fm) (fun q : Nat => s.heap.size ≤ q) s s.heap := by
    rcases va_Zqof (A := fun q : Nat => s.heap.size ≤ q) (hts _ lw_g6.2.2.2.2) (hts _ lw_g6.2.2.1) (hs _ lw_g7.2) hA with z | ⟨t, z⟩
    · exact ⟨0, Or.inl z⟩
    · exact ⟨t, Or.inr z⟩
  refine ⟨lw_rho s.heap.size b fm ad tb, fun k hk => lw_rho_w hk, lw_rho_b, fun Y => ⟨fun w hw hn => va_Nw.of (gm_nest_on hn) (hts w hw), fun i hi => ?_, fun q hq => ?_, fun i hi => ?_, ?_, ?_⟩⟩
  · show va_Z _ _ _ (.ref (lw_rho s.heap.size b fm ad tb (200 + i))) _ _ _ ∧ va_T _ (lw_rho s.heap.size b fm ad tb (200 + i)) _ _ _ _ _
    rw [lw_rho_t hi]
    exact ⟨va_Zref (hts _ (lw_g5 i hi)) (hts _ lw_g6.1) (htb i hi).1 hA, (htb i hi).2⟩
  · obtain ⟨g1, g2, g3⟩ := lw_g8 q hq
    show vk_R _ _ _ (lw_rho s.heap.size b fm ad tb (100 + q.2.2.2)) s
    rw [lw_rho_s g2]
    refine vk_R.of (hts _ g1) ?_
    rcases g3 with ⟨e1, e2⟩ | ⟨e1, e2⟩
    · rw [e1, e2]
      exact (had _ g2).1
    · rw [e1, e2]
      exact lw_eqR (hs _ (lw_f6 _ g2)) (had _ g2).1
  · show va_O _ (lw_rho s.heap.size b fm ad tb (100 + i)) _ _ _ ∧ va_OF _ _ _ _ (lw_rho s.heap.size b fm ad tb (100 + i)) _ _ _ ∧ va_OF _ _ _ (.ref (lw_rho s.heap.size b fm ad tb (150 + i))) (lw_rho s.heap.size b fm ad tb (100 + i)) _ _ _ ∧ va_T _ (lw_rho s.heap.size b fm ad tb (150 + i)) _ _ _ _ _
    rw [lw_rho_s hi, lw_rho_v hi]
    exact (had i hi).2
  · exact va_Zof (hts _ lw_g6.2.2.2.1) (hts _ lw_g6.2.1) (va_eqi (hs _ lw_g7.1)) hA
  · show _ ∨ va_Z _ _ _ (.ref (lw_rho s.heap.size b fm ad tb 180)) _ _ _
    rw [lw_rho_f]
    exact hfm
