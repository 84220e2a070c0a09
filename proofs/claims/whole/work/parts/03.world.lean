/-! THE WORLD of both objects: 57 cells by key; the numbers in them are a memory 'Mem' (key, place); references never change after the making -/
abbrev Mem : Type := Nat → Nat → Int32
def gm_st (h : Mem) (k j : Nat) (v : Int32) : Mem := fun a => if a = k then upd (h a) j v else h a
abbrev Xt : Type := (Nat → Nat) × va_G × ClassId × ClassId × ClassId
/-- class number (place in vwCl) of a key; 20 an int row, 21 the row of sheets, 22 the row of texts -/
def gm_clsL : List Nat := [8, 5, 20, 20, 20, 20, 20, 5, 20, 20, 20, 20, 20, 5, 20, 20, 20, 20, 20, 0, 1, 0, 0, 3, 0, 20, 7, 20, 20, 20, 6, 20, 2, 21, 20, 4, 20, 4, 20, 4, 20, 4, 20, 9, 20, 20, 20, 20, 20, 20, 20, 22, 20, 20, 20, 20, 20]
def gm_cls (k : Nat) : Nat := gm_clsL.getD k 99
def gm_lenL : List Nat := [0, 0, 12, 12, 12, 10, 10, 0, 12, 12, 12, 10, 10, 0, 12, 12, 12, 10, 10, 0, 0, 0, 0, 0, 0, 12, 0, 12, 13, 13, 0, 120, 0, 4, 7, 0, 40, 0, 40, 0, 40, 0, 40, 0, 62, 62, 62, 8, 10000, 26, 120, 7, 480, 4, 4, 160, 40]
def gm_len (k : Nat) : Nat := gm_lenL.getD k 0
/-- the kinds of a class's fields: 0 a number, 1 a reference, 2 a reference or null -/
def gm_fkL : List (List Nat) := [[0, 0, 0, 0, 0, 0], [1, 1], [2, 2, 0, 0, 0, 0], [1, 1, 0, 0, 0], [1, 0, 0], [1, 1, 1, 1, 1, 0, 0, 0, 0, 0, 0], [1, 0], [1, 1, 1], [1, 1, 1, 1, 1, 1, 1, 1, 1, 1, 1, 0], [1, 1, 1, 0, 1, 1, 0, 0, 0, 0, 1, 0, 0, 1, 0, 0, 0, 0, 0, 0, 1, 1, 0, 0, 1, 1, 1, 1]]
def gm_fk (c j : Nat) : Nat := (gm_fkL.getD c []).getD j 9
def gm_nf (c : Nat) : Nat := (gm_fkL.getD c []).length
def gm_rf (k j : Nat) : Nat := match gm_cls k with
  | 8 => [1, 7, 13, 19, 20, 23, 26, 30, 32, 33, 34].getD j 0
  | 9 => [44, 45, 46, 0, 47, 48, 0, 0, 0, 0, 49, 0, 0, 50, 0, 0, 0, 0, 0, 0, 51, 52, 0, 0, 53, 54, 55, 56].getD j 0
  | 2 => [30, 13].getD j 0
  | 21 => 35 + 2 * j
  | 22 => 100 + j
  | _ => k + 1 + j
def gm_tv (r : Nat → Nat) (v : Value) : Value := match v with
  | .ref k => .ref (r k)
  | w => w
def gm_tp (r : Nat → Nat) (q : Nat × Value) : Nat × Value := (q.1, gm_tv r q.2)
def gm_fv (r : Nat → Nat) (k j : Nat) (v : Int32) : Value := match gm_fk (gm_cls k) j with
  | 0 => .int v
  | 1 => .ref (r (gm_rf k j))
  | _ => if v = 0 then .null else .ref (r (gm_rf k j))
def gm_cell (X : Xt) (k : Nat) (f : Nat → Int32) : va_E := match gm_cls k with
  | 20 => .inl (X.2.2.1, gm_len k, .inl f)
  | 21 => .inl (X.2.2.2.1, 4, .inr (.inr (.inr (.inr (fun i => some (X.1 (35 + 2 * i)))))))
  | 22 => .inl (X.2.2.2.2, 7, .inr (.inr (.inr (.inr (fun i => some (X.1 (100 + i)))))))
  | c => .inr (c, (List.range (gm_nf c)).map (fun j => gm_fv X.1 k j (f j)))
def gm_W (X : Xt) (h : Mem) : va_W := (List.range 57).map (fun k => (X.1 k, gm_cell X k (h k)))
def gm_A (X : Xt) : Nat → Prop := fun q => ∃ k, k < 57 ∧ q = X.1 k
def gm_inj (X : Xt) : Prop := ∀ i j, i < 57 → j < 57 → X.1 i = X.1 j → i = j
def gm_tys (X : Xt) : List (ClassId × FieldType) := [(X.2.2.1, .int), (X.2.2.2.1, .object "GlassWords$Sheet"), (X.2.2.2.2, .object "java/lang/String")]
theorem gm_W_at {X : Xt} {h : Mem} {k : Nat} (hk : k < 57) : (gm_W X h)[k]? = some (X.1 k, gm_cell X k (h k)) := by
  unfold gm_W
  rw [List.getElem?_map, List.getElem?_range hk]
  rfl
theorem gm_W_set {X : Xt} {h h' : Mem} {k : Nat} (hk : k < 57) {e : va_E} (he : gm_cell X k (h' k) = e) (ho : ∀ a, a ≠ k → h' a = h a) : (gm_W X h).set k (X.1 k, e) = gm_W X h' := by
  refine List.ext_getElem? (fun a => ?_)
  by_cases ha : a = k
  · subst ha
    rw [List.getElem?_set_self (by simp [gm_W]; exact hk), gm_W_at hk, he]
  · rw [List.getElem?_set_ne (Ne.symm ha)]
    unfold gm_W
    rw [List.getElem?_map, List.getElem?_map]
    by_cases hl : a < 57
    · rw [List.getElem?_range hl]
      simp [ho a ha]
    · rw [List.getElem?_eq_none (by simp; omega)]
      rfl
theorem gm_D {X : Xt} (hI : gm_inj X) (h : Mem) : va_D (gm_A X) (gm_W X h) := by
  have key : ∀ (k : Nat) (q : Nat × va_E), (gm_W X h)[k]? = some q → k < 57 ∧ q.1 = X.1 k := by
    intro k q hq
    have hl : k < 57 := by
      have := (List.getElem?_eq_some_iff.mp hq).1
      simpa [gm_W] using this
    rw [gm_W_at hl] at hq
    cases hq
    exact ⟨hl, rfl⟩
  refine ⟨fun i j p q hi hj e => ?_, fun k q hk => ⟨k, (key k q hk).1, (key k q hk).2⟩⟩
  obtain ⟨a1, a2⟩ := key i p hi
  obtain ⟨b1, b2⟩ := key j q hj
  exact hI i j a1 b1 (by rw [← a2, ← b2]; exact e)
theorem gm_lt {k : Nat} (h : gm_cls k ≠ 99) : k < 57 := by
  rcases Nat.lt_or_ge k 57 with q | q
  · exact q
  · exact absurd (by unfold gm_cls; rw [List.getD_eq_getElem?_getD, List.getElem?_eq_none (by simpa [gm_clsL] using q)]; rfl) h
/-- an int row of n places at key k -/
def gm_arr (k n : Nat) : Prop := gm_cls k = 20 ∧ gm_len k = n
theorem gm_st_o {h : Mem} {k j : Nat} {v : Int32} (a : Nat) (ha : a ≠ k) : gm_st h k j v a = h a := if_neg ha
theorem gm_st_s {h : Mem} {k j : Nat} {v : Int32} : gm_st h k j v k = upd (h k) j v := if_pos rfl
/-! what was there before, and is never written: words of nest mates, tables, texts -/
def gm_nest : Cond → Bool
  | .fieldLinkNest .. => true
  | .methodLinkNest .. => true
  | _ => false
def gm_stN : List String := ["FIRST_RULE", "KIND_ABOVE", "LEAST_FEATURE", "MOST_FEATURE", "LEAST_RULE", "MOST_RULE"]
def gm_stV : List (List Int32) := [[4, 4, 5, 5, 0, 0, 3, 3, 0, 600], [-1, 0, 0, 2, 0, 4, 5], [0, 1, 0], [6, 20, 9], [1, 1, 0, 0, -9, -9, 0, 1, 0, 0], [99, 99, 10, 10, 9, 9, 9, 6, 10, 99999]]
def gm_tab (i : Nat) : List Int32 := gm_stV.getD i []
def gm_bytL : List (List Int32) := [[108, 105, 110, 101], [108, 101, 118, 101, 108], [115, 105, 110, 107, 105, 110, 103], [114, 105, 115, 105, 110, 103], [115, 116, 111, 112, 112, 101, 100], [111, 102, 102], [98, 108, 97, 110, 107], [114, 101, 97, 100, 101, 114], [107, 110, 111, 98], [108, 101, 116, 116, 101, 114, 115], [97, 104, 101, 97, 100], [108, 101, 97, 118, 101, 115], [104, 111, 117, 114], [119, 111, 114, 100, 115], [104, 97, 114, 100], [119, 101, 105, 103, 104, 116], [100, 114, 105, 102, 116]]
/-- a text's bytes: line, level, sinking, rising, stopped, off, blank, reader, knob, letters, ahead, leaves, hour, words, hard, weight, drift -/
def gm_byt (i : Nat) : List Int32 := gm_bytL.getD i []
/-- the places of texts in the pools -/
def gm_ldc : List (String × Nat × String × Nat) := [("GlassWords$Script", 136, "level", 1), ("GlassWords$Script", 138, "sinking", 2), ("GlassWords$Script", 140, "rising", 3), ("GlassWords$Script", 142, "stopped", 4), ("GlassWords$Script", 144, "off", 5), ("GlassWords$Script", 146, "blank", 6), ("GlassWords$Script", 148, "line", 0), ("GlassWords$Script", 75, "words", 13), ("GlassWords$Script", 81, "hard", 14), ("GlassWords$Script", 48, "reader", 7), ("GlassWords$Script", 101, "weight", 15), ("GlassWords$Script", 103, "drift", 16), ("GlassWords$Script", 53, "knob", 8), ("GlassWords$Script", 55, "letters", 9), ("GlassWords$Script", 60, "ahead", 10), ("GlassWords$Script", 62, "leaves", 11), ("GlassWords$Script", 64, "hour", 12), ("GlassWordsModel", 33, "line", 0), ("GlassWordsModel", 35, "level", 1), ("GlassWordsModel", 37, "sinking", 2), ("GlassWordsModel", 39, "rising", 3), ("GlassWordsModel", 41, "stopped", 4), ("GlassWordsModel", 43, "off", 5), ("GlassWordsModel", 45, "blank", 6), ("GlassWordsModel", 306, "words", 13), ("GlassWordsModel", 308, "hard", 14), ("GlassWordsModel", 310, "reader", 7), ("GlassWordsModel", 287, "weight", 15), ("GlassWordsModel", 292, "drift", 16), ("GlassWordsModel", 316, "knob", 8), ("GlassWordsModel", 318, "letters", 9), ("GlassWordsModel", 323, "ahead", 10), ("GlassWordsModel", 325, "leaves", 11), ("GlassWordsModel", 327, "hour", 12)]
def gm_oldA (A : Nat → Prop) (X : Xt) (U : State) (H : Heap) : Prop :=
  (∀ w ∈ lw_tbl, gm_nest w = true → va_Nw w U) ∧
  (∀ i, i < 6 → va_Z "GlassWords" (gm_stN.getD i "") "[I" (.ref (X.1 (200 + i))) A U H ∧ va_T .int (X.1 (200 + i)) (gm_tab i).length (fun j => .int ((gm_tab i).getD j 0)) A U H) ∧
  (∀ q ∈ gm_ldc, vk_R q.1 q.2.1 q.2.2.1 (X.1 (100 + q.2.2.2)) U) ∧
  (∀ i, i < 17 → va_O "java/lang/String" (X.1 (100 + i)) A U H ∧ va_OF "java/lang/String" "coder" "B" (.int 0) (X.1 (100 + i)) A U H ∧ va_OF "java/lang/String" "value" "[B" (.ref (X.1 (150 + i))) (X.1 (100 + i)) A U H ∧ va_T .byte (X.1 (150 + i)) (gm_byt i).length (fun j => .int ((gm_byt i).getD j 0)) A U H) ∧
  va_Z "java/lang/String" "COMPACT_STRINGS" "Z" (.int 1) A U H ∧ (va_Z "jdk/internal/util/Preconditions" "SIOOBE_FORMATTER" "Ljava/util/function/BiFunction;" .null A U H ∨ va_Z "jdk/internal/util/Preconditions" "SIOOBE_FORMATTER" "Ljava/util/function/BiFunction;" (.ref (X.1 180)) A U H)
theorem gm_oldA.kept {A : Nat → Prop} {X : Xt} {U : State} {H H1 : Heap} (h : gm_oldA A X U H) (hq : ∀ a : Nat, a < H.size → ¬ A a → H1[a]? = H[a]?) : gm_oldA A X U H1 :=
  ⟨h.1, fun i hi => ⟨(h.2.1 i hi).1.kept hq, (h.2.1 i hi).2.kept hq⟩, h.2.2.1, fun i hi => ⟨(h.2.2.2.1 i hi).1.kept hq, (h.2.2.2.1 i hi).2.1.kept hq, (h.2.2.2.1 i hi).2.2.1.kept hq, (h.2.2.2.1 i hi).2.2.2.kept hq⟩, h.2.2.2.2.1.kept hq, h.2.2.2.2.2.imp (fun z => z.kept hq) (fun z => z.kept hq)⟩
theorem gm_oldA.mv {A : Nat → Prop} {X : Xt} {u U : State} {H : Heap} (ha : u.vm.Alike U.vm) (h : gm_oldA A X u H) (h1 : ∀ w ∈ lw_tbl, gm_nest w = true → va_Nw w U) (h3 : ∀ q ∈ gm_ldc, vk_R q.1 q.2.1 q.2.2.1 (X.1 (100 + q.2.2.2)) U) : gm_oldA A X U H :=
  ⟨h1, fun i hi => ⟨va_Z.moved ha (h.2.1 i hi).1, va_T.moved ha (h.2.1 i hi).2⟩, h3, fun i hi => ⟨va_O.moved ha (h.2.2.2.1 i hi).1, va_OF.moved ha (h.2.2.2.1 i hi).2.1, va_OF.moved ha (h.2.2.2.1 i hi).2.2.1, va_T.moved ha (h.2.2.2.1 i hi).2.2.2⟩, va_Z.moved ha h.2.2.2.2.1, h.2.2.2.2.2.imp (fun z => va_Z.moved ha z) (fun z => va_Z.moved ha z)⟩
theorem gm_nest_on {w : Cond} (h : gm_nest w = true) : w.onTables = true := by
  cases w <;> first | rfl | (simp [gm_nest] at h)
theorem gm_nest_warm {w : Cond} (hn : gm_nest w = true) {s U : State} (hW : s.WarmedH U.vm) (h : va_Nw w s) : va_Nw w U := by
  cases w <;> first | exact va_Nw.warmF hW h | exact va_Nw.warmM hW h | (simp [gm_nest] at hn)
theorem gm_oldA.same {A : Nat → Prop} {X : Xt} {u U : State} {H : Heap} (hv : u.vm = U.vm) (h : gm_oldA A X u H) : gm_oldA A X U H :=
  gm_oldA.mv (by rw [hv]; exact Vm.Alike.refl _) h (fun w hw hn => va_Nw.same (gm_nest_on hn) hv (h.1 w hw hn)) (fun q hq => vk_R.same hv.symm (h.2.2.1 q hq))
theorem gm_oldA.warm {A : Nat → Prop} {X : Xt} {s U : State} {H : Heap} (hW : s.WarmedH U.vm) (h : gm_oldA A X s H) : gm_oldA A X U H :=
  gm_oldA.mv hW.alike h (fun w hw hn => gm_nest_warm hn hW (h.1 w hw hn)) (fun q hq => vk_R.warm hW (h.2.2.1 q hq))
theorem gm_oldA.narrow {A B : Nat → Prop} {X : Xt} {U : State} {H : Heap} (h : gm_oldA A X U H) (hAB : ∀ q, B q → A q) : gm_oldA B X U H :=
  ⟨h.1, fun i hi => ⟨(h.2.1 i hi).1.narrow hAB, (h.2.1 i hi).2.narrow hAB⟩, h.2.2.1, fun i hi => ⟨(h.2.2.2.1 i hi).1.narrow hAB, (h.2.2.2.1 i hi).2.1.narrow hAB, (h.2.2.2.1 i hi).2.2.1.narrow hAB, (h.2.2.2.1 i hi).2.2.2.narrow hAB⟩, h.2.2.2.2.1.narrow hAB, h.2.2.2.2.2.imp (fun z => z.narrow hAB) (fun z => z.narrow hAB)⟩
def gm_old (X : Xt) (U : State) (H : Heap) : Prop := gm_oldA (gm_A X) X U H
theorem gm_old.kept {X : Xt} {U : State} {H H1 : Heap} (h : gm_old X U H) (hq : ∀ a : Nat, a < H.size → ¬ gm_A X a → H1[a]? = H[a]?) : gm_old X U H1 := gm_oldA.kept h hq
theorem gm_old.same {X : Xt} {u U : State} {H : Heap} (hv : u.vm = U.vm) (h : gm_old X u H) : gm_old X U H := gm_oldA.same hv h
theorem gm_old.warm {X : Xt} {s U : State} {H : Heap} (hW : s.WarmedH U.vm) (h : gm_old X s H) : gm_old X U H := gm_oldA.warm hW h
