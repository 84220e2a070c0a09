/-! rows: arithmetic, branches, fields, rows of numbers, answers -/
section
variable {M : Mt} {G : Xt → Array Value → State → Outcome → State → Prop} {pc pc' tgt : Nat} {lv : List (Nat × Value)} {st : List Value} {h : Mem}
theorem ge_iadd {x y : Int32} (hd : At M pc .iadd 1 pc')  (k : EV M G pc' lv (.int (x + y) :: st) h) : EV M G pc lv (.int y :: .int x :: st) h := by
  obtain ⟨d, rfl⟩ := hd
  exact fun p l e s m args below meth c X H locs ls C hP hS hl => lv_iadd C.1.1 C.1.2.1 d  (k p l e s m args below meth c X H locs ls C hP hS hl)
theorem ge_isub {x y : Int32} (hd : At M pc .isub 1 pc')  (k : EV M G pc' lv (.int (x - y) :: st) h) : EV M G pc lv (.int y :: .int x :: st) h := by
  obtain ⟨d, rfl⟩ := hd
  exact fun p l e s m args below meth c X H locs ls C hP hS hl => lv_isub C.1.1 C.1.2.1 d  (k p l e s m args below meth c X H locs ls C hP hS hl)
theorem ge_imul {x y : Int32} (hd : At M pc .imul 1 pc')  (k : EV M G pc' lv (.int (x * y) :: st) h) : EV M G pc lv (.int y :: .int x :: st) h := by
  obtain ⟨d, rfl⟩ := hd
  exact fun p l e s m args below meth c X H locs ls C hP hS hl => lv_imul C.1.1 C.1.2.1 d  (k p l e s m args below meth c X H locs ls C hP hS hl)
theorem ge_iand {x y : Int32} (hd : At M pc .iand 1 pc')  (k : EV M G pc' lv (.int (x &&& y) :: st) h) : EV M G pc lv (.int y :: .int x :: st) h := by
  obtain ⟨d, rfl⟩ := hd
  exact fun p l e s m args below meth c X H locs ls C hP hS hl => lv_iand C.1.1 C.1.2.1 d  (k p l e s m args below meth c X H locs ls C hP hS hl)
theorem ge_ior {x y : Int32} (hd : At M pc .ior 1 pc')  (k : EV M G pc' lv (.int (x ||| y) :: st) h) : EV M G pc lv (.int y :: .int x :: st) h := by
  obtain ⟨d, rfl⟩ := hd
  exact fun p l e s m args below meth c X H locs ls C hP hS hl => lv_ior C.1.1 C.1.2.1 d  (k p l e s m args below meth c X H locs ls C hP hS hl)
theorem ge_idiv {x y : Int32} (hd : At M pc .idiv 1 pc') (hne : ¬ y = 0) (k : EV M G pc' lv (.int (x / y) :: st) h) : EV M G pc lv (.int y :: .int x :: st) h := by
  obtain ⟨d, rfl⟩ := hd
  exact fun p l e s m args below meth c X H locs ls C hP hS hl => lv_idiv C.1.1 C.1.2.1 d hne (k p l e s m args below meth c X H locs ls C hP hS hl)
theorem ge_irem {x y : Int32} (hd : At M pc .irem 1 pc') (hne : ¬ y = 0) (k : EV M G pc' lv (.int (x - x / y * y) :: st) h) : EV M G pc lv (.int y :: .int x :: st) h := by
  obtain ⟨d, rfl⟩ := hd
  exact fun p l e s m args below meth c X H locs ls C hP hS hl => lv_irem C.1.1 C.1.2.1 d hne (k p l e s m args below meth c X H locs ls C hP hS hl)
theorem ge_ineg {x : Int32} (hd : At M pc .ineg 1 pc')  (k : EV M G pc' lv (.int (-x) :: st) h) : EV M G pc lv (.int x :: st) h := by
  obtain ⟨d, rfl⟩ := hd
  exact fun p l e s m args below meth c X H locs ls C hP hS hl => lv_ineg C.1.1 C.1.2.1 d  (k p l e s m args below meth c X H locs ls C hP hS hl)
theorem ge_ishl {x y : Int32} (hd : At M pc .ishl 1 pc')  (k : EV M G pc' lv (.int (x <<< (y &&& 31)) :: st) h) : EV M G pc lv (.int y :: .int x :: st) h := by
  obtain ⟨d, rfl⟩ := hd
  exact fun p l e s m args below meth c X H locs ls C hP hS hl => lv_ishl C.1.1 C.1.2.1 d  (k p l e s m args below meth c X H locs ls C hP hS hl)
theorem ge_ishr {x y : Int32} (hd : At M pc .ishr 1 pc')  (k : EV M G pc' lv (.int (x >>> (y &&& 31)) :: st) h) : EV M G pc lv (.int y :: .int x :: st) h := by
  obtain ⟨d, rfl⟩ := hd
  exact fun p l e s m args below meth c X H locs ls C hP hS hl => lv_ishr C.1.1 C.1.2.1 d  (k p l e s m args below meth c X H locs ls C hP hS hl)
theorem ge_iushr {x y : Int32} (hd : At M pc .iushr 1 pc')  (k : EV M G pc' lv (.int ((x.toUInt32 >>> (y.toUInt32 &&& Int32.toUInt32 31)).toInt32) :: st) h) : EV M G pc lv (.int y :: .int x :: st) h := by
  obtain ⟨d, rfl⟩ := hd
  exact fun p l e s m args below meth c X H locs ls C hP hS hl => lv_iushr C.1.1 C.1.2.1 d rfl (k p l e s m args below meth c X H locs ls C hP hS hl)
theorem ge_i2l {x : Int32} (hd : At M pc .i2l 1 pc')  (k : EV M G pc' lv (.long x.toInt64 :: st) h) : EV M G pc lv (.int x :: st) h := by
  obtain ⟨d, rfl⟩ := hd
  exact fun p l e s m args below meth c X H locs ls C hP hS hl => lv_i2l C.1.1 C.1.2.1 d rfl (k p l e s m args below meth c X H locs ls C hP hS hl)
theorem ge_i2b {x : Int32} (hd : At M pc .i2b 1 pc')  (k : EV M G pc' lv (.int x.toInt8.toInt32 :: st) h) : EV M G pc lv (.int x :: st) h := by
  obtain ⟨d, rfl⟩ := hd
  exact fun p l e s m args below meth c X H locs ls C hP hS hl => lv_i2b C.1.1 C.1.2.1 d rfl (k p l e s m args below meth c X H locs ls C hP hS hl)
theorem ge_i2s {x : Int32} (hd : At M pc .i2s 1 pc')  (k : EV M G pc' lv (.int x.toInt16.toInt32 :: st) h) : EV M G pc lv (.int x :: st) h := by
  obtain ⟨d, rfl⟩ := hd
  exact fun p l e s m args below meth c X H locs ls C hP hS hl => lv_i2s C.1.1 C.1.2.1 d rfl (k p l e s m args below meth c X H locs ls C hP hS hl)
theorem ge_i2c {x : Int32} (hd : At M pc .i2c 1 pc')  (k : EV M G pc' lv (.int (x.toUInt32 % 65536).toInt32 :: st) h) : EV M G pc lv (.int x :: st) h := by
  obtain ⟨d, rfl⟩ := hd
  exact fun p l e s m args below meth c X H locs ls C hP hS hl => lv_i2c C.1.1 C.1.2.1 d rfl (k p l e s m args below meth c X H locs ls C hP hS hl)
theorem ge_lmul {x y : Int64} (hd : At M pc .lmul 1 pc')  (k : EV M G pc' lv (.long (x * y) :: st) h) : EV M G pc lv (.long y :: .long x :: st) h := by
  obtain ⟨d, rfl⟩ := hd
  exact fun p l e s m args below meth c X H locs ls C hP hS hl => lv_lmul C.1.1 C.1.2.1 d  (k p l e s m args below meth c X H locs ls C hP hS hl)
theorem ge_ladd {x y : Int64} (hd : At M pc .ladd 1 pc')  (k : EV M G pc' lv (.long (x + y) :: st) h) : EV M G pc lv (.long y :: .long x :: st) h := by
  obtain ⟨d, rfl⟩ := hd
  exact fun p l e s m args below meth c X H locs ls C hP hS hl => lv_ladd C.1.1 C.1.2.1 d  (k p l e s m args below meth c X H locs ls C hP hS hl)
theorem ge_lcmp {x y : Int64} (hd : At M pc .lcmp 1 pc')  (k : EV M G pc' lv (.int (lg_cmp x y) :: st) h) : EV M G pc lv (.long y :: .long x :: st) h := by
  obtain ⟨d, rfl⟩ := hd
  exact fun p l e s m args below meth c X H locs ls C hP hS hl => W.lcmp C.1.1 C.1.2.1 d  (k p l e s m args below meth c X H locs ls C hP hS hl)
theorem ge_dup {v : Value} (hd : At M pc .dup 1 pc') (hv : v.category = 1) (k : EV M G pc' lv (v :: v :: st) h) : EV M G pc lv (v :: st) h := by
  obtain ⟨d, rfl⟩ := hd
  exact fun p l e s m args below meth c X H locs ls C hP hS hl => lv_dup C.1.1 C.1.2.1 d (by rw [gm_tvc]; exact hv) (k p l e s m args below meth c X H locs ls C hP hS hl)
theorem ge_pop {v : Value} (hd : At M pc .pop 1 pc') (hv : v.category = 1) (k : EV M G pc' lv (st) h) : EV M G pc lv (v :: st) h := by
  obtain ⟨d, rfl⟩ := hd
  exact fun p l e s m args below meth c X H locs ls C hP hS hl => lv_pop C.1.1 C.1.2.1 d (by rw [gm_tvc]; exact hv) (k p l e s m args below meth c X H locs ls C hP hS hl)
theorem ge_dup2 {v w : Value} (hd : At M pc .dup2 1 pc') (hv : v.category = 1) (hw : w.category = 1) (k : EV M G pc' lv (v :: w :: v :: w :: st) h) : EV M G pc lv (v :: w :: st) h := by
  obtain ⟨d, rfl⟩ := hd
  exact fun p l e s m args below meth c X H locs ls C hP hS hl => lv_dup2_11 C.1.1 C.1.2.1 d (by rw [gm_tvc]; exact hv) (by rw [gm_tvc]; exact hw) (k p l e s m args below meth c X H locs ls C hP hS hl)
theorem ge_if_eq {x : Int32} {off : Int} (hd : AtJ M pc (.ifCond .eq off) off tgt pc') (kt : x = 0 → EV M G tgt lv st h) (kf : ¬ x = 0 → EV M G pc' lv st h) : EV M G pc lv (.int x :: st) h := by
  obtain ⟨d, ht, rfl⟩ := hd
  exact fun p l e s m args below meth c X H locs ls C hP hS hl => lv_if_eq C.1.1 C.1.2.1 d ht (fun q => kt q p l e s m args below meth c X H locs ls C hP hS hl) (fun q => kf q p l e s m args below meth c X H locs ls C hP hS hl)
theorem ge_icmp_eq {x y : Int32} {off : Int} (hd : AtJ M pc (.if_icmp .eq off) off tgt pc') (kt : x = y → EV M G tgt lv st h) (kf : ¬ x = y → EV M G pc' lv st h) : EV M G pc lv (.int y :: .int x :: st) h := by
  obtain ⟨d, ht, rfl⟩ := hd
  exact fun p l e s m args below meth c X H locs ls C hP hS hl => lv_icmp_eq C.1.1 C.1.2.1 d ht (fun q => kt q p l e s m args below meth c X H locs ls C hP hS hl) (fun q => kf q p l e s m args below meth c X H locs ls C hP hS hl)
theorem ge_if_ne {x : Int32} {off : Int} (hd : AtJ M pc (.ifCond .ne off) off tgt pc') (kt : ¬ x = 0 → EV M G tgt lv st h) (kf : x = 0 → EV M G pc' lv st h) : EV M G pc lv (.int x :: st) h := by
  obtain ⟨d, ht, rfl⟩ := hd
  exact fun p l e s m args below meth c X H locs ls C hP hS hl => lv_if_ne C.1.1 C.1.2.1 d ht (fun q => kt q p l e s m args below meth c X H locs ls C hP hS hl) (fun q => kf q p l e s m args below meth c X H locs ls C hP hS hl)
theorem ge_icmp_ne {x y : Int32} {off : Int} (hd : AtJ M pc (.if_icmp .ne off) off tgt pc') (kt : ¬ x = y → EV M G tgt lv st h) (kf : x = y → EV M G pc' lv st h) : EV M G pc lv (.int y :: .int x :: st) h := by
  obtain ⟨d, ht, rfl⟩ := hd
  exact fun p l e s m args below meth c X H locs ls C hP hS hl => lv_icmp_ne C.1.1 C.1.2.1 d ht (fun q => kt q p l e s m args below meth c X H locs ls C hP hS hl) (fun q => kf q p l e s m args below meth c X H locs ls C hP hS hl)
theorem ge_if_lt {x : Int32} {off : Int} (hd : AtJ M pc (.ifCond .lt off) off tgt pc') (kt : x < 0 → EV M G tgt lv st h) (kf : ¬ x < 0 → EV M G pc' lv st h) : EV M G pc lv (.int x :: st) h := by
  obtain ⟨d, ht, rfl⟩ := hd
  exact fun p l e s m args below meth c X H locs ls C hP hS hl => lv_if_lt C.1.1 C.1.2.1 d ht (fun q => kt q p l e s m args below meth c X H locs ls C hP hS hl) (fun q => kf q p l e s m args below meth c X H locs ls C hP hS hl)
theorem ge_icmp_lt {x y : Int32} {off : Int} (hd : AtJ M pc (.if_icmp .lt off) off tgt pc') (kt : x < y → EV M G tgt lv st h) (kf : ¬ x < y → EV M G pc' lv st h) : EV M G pc lv (.int y :: .int x :: st) h := by
  obtain ⟨d, ht, rfl⟩ := hd
  exact fun p l e s m args below meth c X H locs ls C hP hS hl => lv_icmp_lt C.1.1 C.1.2.1 d ht (fun q => kt q p l e s m args below meth c X H locs ls C hP hS hl) (fun q => kf q p l e s m args below meth c X H locs ls C hP hS hl)
theorem ge_if_ge {x : Int32} {off : Int} (hd : AtJ M pc (.ifCond .ge off) off tgt pc') (kt : 0 ≤ x → EV M G tgt lv st h) (kf : ¬ 0 ≤ x → EV M G pc' lv st h) : EV M G pc lv (.int x :: st) h := by
  obtain ⟨d, ht, rfl⟩ := hd
  exact fun p l e s m args below meth c X H locs ls C hP hS hl => lv_if_ge C.1.1 C.1.2.1 d ht (fun q => kt q p l e s m args below meth c X H locs ls C hP hS hl) (fun q => kf q p l e s m args below meth c X H locs ls C hP hS hl)
theorem ge_icmp_ge {x y : Int32} {off : Int} (hd : AtJ M pc (.if_icmp .ge off) off tgt pc') (kt : y ≤ x → EV M G tgt lv st h) (kf : ¬ y ≤ x → EV M G pc' lv st h) : EV M G pc lv (.int y :: .int x :: st) h := by
  obtain ⟨d, ht, rfl⟩ := hd
  exact fun p l e s m args below meth c X H locs ls C hP hS hl => lv_icmp_ge C.1.1 C.1.2.1 d ht (fun q => kt q p l e s m args below meth c X H locs ls C hP hS hl) (fun q => kf q p l e s m args below meth c X H locs ls C hP hS hl)
theorem ge_if_gt {x : Int32} {off : Int} (hd : AtJ M pc (.ifCond .gt off) off tgt pc') (kt : 0 < x → EV M G tgt lv st h) (kf : ¬ 0 < x → EV M G pc' lv st h) : EV M G pc lv (.int x :: st) h := by
  obtain ⟨d, ht, rfl⟩ := hd
  exact fun p l e s m args below meth c X H locs ls C hP hS hl => lv_if_gt C.1.1 C.1.2.1 d ht (fun q => kt q p l e s m args below meth c X H locs ls C hP hS hl) (fun q => kf q p l e s m args below meth c X H locs ls C hP hS hl)
theorem ge_icmp_gt {x y : Int32} {off : Int} (hd : AtJ M pc (.if_icmp .gt off) off tgt pc') (kt : y < x → EV M G tgt lv st h) (kf : ¬ y < x → EV M G pc' lv st h) : EV M G pc lv (.int y :: .int x :: st) h := by
  obtain ⟨d, ht, rfl⟩ := hd
  exact fun p l e s m args below meth c X H locs ls C hP hS hl => lv_icmp_gt C.1.1 C.1.2.1 d ht (fun q => kt q p l e s m args below meth c X H locs ls C hP hS hl) (fun q => kf q p l e s m args below meth c X H locs ls C hP hS hl)
theorem ge_if_le {x : Int32} {off : Int} (hd : AtJ M pc (.ifCond .le off) off tgt pc') (kt : x ≤ 0 → EV M G tgt lv st h) (kf : ¬ x ≤ 0 → EV M G pc' lv st h) : EV M G pc lv (.int x :: st) h := by
  obtain ⟨d, ht, rfl⟩ := hd
  exact fun p l e s m args below meth c X H locs ls C hP hS hl => lv_if_le C.1.1 C.1.2.1 d ht (fun q => kt q p l e s m args below meth c X H locs ls C hP hS hl) (fun q => kf q p l e s m args below meth c X H locs ls C hP hS hl)
theorem ge_icmp_le {x y : Int32} {off : Int} (hd : AtJ M pc (.if_icmp .le off) off tgt pc') (kt : x ≤ y → EV M G tgt lv st h) (kf : ¬ x ≤ y → EV M G pc' lv st h) : EV M G pc lv (.int y :: .int x :: st) h := by
  obtain ⟨d, ht, rfl⟩ := hd
  exact fun p l e s m args below meth c X H locs ls C hP hS hl => lv_icmp_le C.1.1 C.1.2.1 d ht (fun q => kt q p l e s m args below meth c X H locs ls C hP hS hl) (fun q => kf q p l e s m args below meth c X H locs ls C hP hS hl)
theorem ge_goto {off : Int} (hd : AtJ M pc (.goto off) off tgt pc') (k : EV M G tgt lv st h) : EV M G pc lv st h := by
  obtain ⟨d, ht, -⟩ := hd
  exact fun p l e s m args below meth c X H locs ls C hP hS hl => lv_goto C.1.1 C.1.2.1 d ht (k p l e s m args below meth c X H locs ls C hP hS hl)
/-- a switch over lo, lo + 1 ..: the road of each place, and of all others -/
theorem ge_table {x : Int32} {dflt lo hi : Int} {offs : Array Int} {len : Nat} (hd : decode M.2.1 pc = .ok (.tableswitch dflt lo hi offs, len)) (hin : ∀ off, offs[(x.toInt - lo).toNat]? = some off → ¬ x.toInt < lo → ¬ hi < x.toInt → ∃ tgt : Nat, (pc : Int) + off = (tgt : Int) ∧ EV M G tgt lv st h) (hsz : offs.size = (hi - lo + 1).toNat) (tgt : Nat) (ht : (pc : Int) + dflt = (tgt : Int)) (hout : (x.toInt < lo ∨ hi < x.toInt) → EV M G tgt lv st h) : EV M G pc lv (.int x :: st) h := by
  intro p l e s m args below meth c X H locs ls C hP hS hl
  by_cases h0 : x.toInt < lo ∨ hi < x.toInt
  · exact lv_tableOut C.1.1 C.1.2.1 hd h0 ht (hout h0 p l e s m args below meth c X H locs ls C hP hS hl)
  · have h1 : ¬ x.toInt < lo := fun q => h0 (Or.inl q)
    have h2 : ¬ hi < x.toInt := fun q => h0 (Or.inr q)
    have hlt : (x.toInt - lo).toNat < offs.size := by rw [hsz]; omega
    obtain ⟨t2, e1, e2⟩ := hin offs[(x.toInt - lo).toNat] (Array.getElem?_eq_getElem hlt) h1 h2
    exact lv_tableIn C.1.1 C.1.2.1 hd h1 h2 (Array.getElem?_eq_getElem hlt) e1 (e2 p l e s m args below meth c X H locs ls C hP hS hl)
/-- constants out of the pool -/
theorem ge_ldc {idx : Nat} {v : Int32} (hd : At M pc (.ldc idx) 2 pc') (hw : Cond.constant M.1.cls idx v ∈ gm_ws) (k : EV M G pc' lv (.int v :: st) h) : EV M G pc lv st h := by
  obtain ⟨d, rfl⟩ := hd
  exact fun p l e s m args below meth c X H locs ls C hP hS hl => lv_ldc C.1.1 C.1.2.1 C.1.2.2.2.2.1 (C.1.2.2.2.2.2.1 _ hw) d (k p l e s m args below meth c X H locs ls C hP hS hl)
theorem ge_ldcw {idx : Nat} {v : Int32} (hd : At M pc (.ldc_w idx) 3 pc') (hw : Cond.constant M.1.cls idx v ∈ gm_ws) (k : EV M G pc' lv (.int v :: st) h) : EV M G pc lv st h := by
  obtain ⟨d, rfl⟩ := hd
  exact fun p l e s m args below meth c X H locs ls C hP hS hl => lv_ldcw C.1.1 C.1.2.1 C.1.2.2.2.2.1 (C.1.2.2.2.2.2.1 _ hw) d (k p l e s m args below meth c X H locs ls C hP hS hl)
theorem ge_ldcS {idx i : Nat} {tx : String} (hd : At M pc (.ldc idx) 2 pc') (hw : (M.1.cls, idx, tx, i) ∈ gm_ldc) (k : EV M G pc' lv (.ref (100 + i) :: st) h) : EV M G pc lv st h := by
  obtain ⟨d, rfl⟩ := hd
  exact fun p l e s m args below meth c X H locs ls C hP hS hl => va_ldcS C.1.1 C.1.2.1 C.1.2.2.2.2.1 (C.2.2.2.2.2.1 _ hw) d (k p l e s m args below meth c X H locs ls C hP hS hl)
/-- answers -/
theorem gm_frame {X : Xt} {s t : State} {H : Heap} {locs : List Loc} (hS : va_S (gm_A X) s.heap H locs) (ht : t.heap = H) : va_F (gm_A X) s t := hS.F ht
theorem ge_iret {Q : Int32 → Mem → Prop} {v : Int32} (hr : M.2.2.2.1 = some .int) (hd : At M pc .ireturn 1 pc') (hq : Q v h) : EV M (GI Q) pc lv [.int v] h := by
  obtain ⟨d, rfl⟩ := hd
  exact fun p l e s m args below meth c X H locs ls C hP hS hl => W.iret C.1.1 C.1.2.1 (C.1.2.2.1.trans hr) (fun t ht _ => ⟨⟨v, h, rfl, hq, by show va_P _ _ _ t.heap; rw [ht]; exact hP⟩, gm_frame hS ht⟩) hS.2.2 d (hlocks := C.1.2.2.2.2.2.2)
theorem ge_zret {Q : Int32 → Mem → Prop} {v : Int32} {ty : FieldType} (hr : M.2.2.2.1 = some ty) (hn : narrow ty (.int v) = .int v) (hd : At M pc .ireturn 1 pc') (hq : Q v h) : EV M (GI Q) pc lv [.int v] h := by
  obtain ⟨d, rfl⟩ := hd
  exact fun p l e s m args below meth c X H locs ls C hP hS hl => W.zret C.1.1 C.1.2.1 (C.1.2.2.1.trans hr) hn (fun t ht _ => ⟨⟨v, h, rfl, hq, by show va_P _ _ _ t.heap; rw [ht]; exact hP⟩, gm_frame hS ht⟩) hS.2.2 d (hlocks := C.1.2.2.2.2.2.2)
theorem ge_vret {Q : Mem → Prop} (hr : M.2.2.2.1 = none) (hd : At M pc .return_ 1 pc') (hq : Q h) : EV M (GV Q) pc lv [] h := by
  obtain ⟨d, rfl⟩ := hd
  exact fun p l e s m args below meth c X H locs ls C hP hS hl => W.vret C.1.1 C.1.2.1 (C.1.2.2.1.trans hr) (fun t ht _ => ⟨⟨h, rfl, hq, by show va_P _ _ _ t.heap; rw [ht]; exact hP⟩, gm_frame hS ht⟩) hS.2.2 d (hlocks := C.1.2.2.2.2.2.2)
theorem ge_lret {Q : Int64 → Mem → Prop} {v : Int64} (hr : M.2.2.2.1 = some .long) (hd : At M pc .lreturn 1 pc') (hq : Q v h) : EV M (GL Q) pc lv [.long v] h := by
  obtain ⟨d, rfl⟩ := hd
  exact fun p l e s m args below meth c X H locs ls C hP hS hl => W.lret C.1.1 C.1.2.1 (C.1.2.2.1.trans hr) (fun t ht _ => ⟨⟨v, h, rfl, hq, by show va_P _ _ _ t.heap; rw [ht]; exact hP⟩, gm_frame hS ht⟩) hS.2.2 d (hlocks := C.1.2.2.2.2.2.2)
theorem ge_aret {Q : Nat → Mem → Prop} {k : Nat} {rt : FieldType} (hr : M.2.2.2.1 = some rt) (hrt : (∃ n, rt = .object n) ∨ ∃ t, rt = .array t) (hd : At M pc .areturn 1 pc') (hq : Q k h) : EV M (GR Q) pc lv [.ref k] h := by
  obtain ⟨d, rfl⟩ := hd
  exact fun p l e s m args below meth c X H locs ls C hP hS hl => W.aret C.1.1 C.1.2.1 (C.1.2.2.1.trans hr) hrt (Or.inr ⟨_, rfl⟩) (fun t ht _ => ⟨⟨(k, h), X.1 k, rfl, hq, rfl, by show va_P _ _ _ t.heap; rw [ht]; exact hP⟩, gm_frame hS ht⟩) hS.2.2 d (hlocks := C.1.2.2.2.2.2.2)
end
