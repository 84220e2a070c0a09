theorem ge_tldL {M : Mt} {G : Xt → Array Value → State → Outcome → State → Prop} {pc pc' : Nat} {lv : List (Nat × Value)} {st : List Value} {h : Mem} {i n : Nat} {x v : Int32} (hd : At M pc .iaload 1 pc') (hi : i < 6) (hn : (gm_tab i).length = n) (hx : vp_in x n) (hv : (gm_tab i).getD x.toNatClampNeg 0 = v) (kk : EV M G pc' lv (.int v :: st) h) : EV M G pc lv (.int x :: .ref (200 + i) :: st) h :=
  ge_tld hd hi hn hx (by rw [hv]; exact kk)
theorem gm_ip {c A B : Prop} {d : Decidable c} (h : @ite Prop c d A B) (hc : c) : A := by rw [if_pos hc] at h; exact h
theorem gm_in {c A B : Prop} {d : Decidable c} (h : @ite Prop c d A B) (hc : ¬ c) : B := by rw [if_neg hc] at h; exact h
