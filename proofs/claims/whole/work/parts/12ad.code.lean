/-! ShutterTown$Ways.comesTo(I)Z at (20,) -/
def f_X6_comesTo (g : am_G) (w : am_J) (p1 : Int32) : Option (Int32) :=
  (f_X2_has g p1).bind fun q1 =>
    if q1 = 0 then
      some ((0 : Int32))
    else
      if am_in p1 6 then
        if (lg_cmp (w 21 (Int32.toNatClampNeg p1)) (1000000000 : Int64)) = 0 then
          some ((0 : Int32))
        else
          some ((1 : Int32))
      else none
set_option maxRecDepth 20000 in
theorem M_X6_comesTo (l : Launch) (g : am_G) (w : am_J) (p1 : Int32) (R : Int32) (hf : f_X6_comesTo g w p1 = some R) : am_Met l mi_X6_comesTo rm_X6_comesTo [.ref 20, .int p1] am_YY g w (some (.int R)) am_YY g w := by
  refine am_met (own := 6) [some (.ref 20), some (.int (p1))] (by decide) rfl rfl (by first | decide | exact Nat.le_of_ble_eq_true rfl) (fun x C0 hR hl hnm => ?_)
  unfold f_X6_comesTo at hf
  refine am_b1 C0 am_YYk (pc := 0) (pc2 := 5) [(.aload_n 0, 0, 0, .null), (.getfield 15, 6, 0, .null), (.iload_n 1, 0, 0, .null)] (L := [some (.ref 20), some (.int (p1))]) (st := []) (L' := [some (.ref 20), some (.int (p1))]) (st' := [.int (p1), .ref 3]) (g' := g) (w' := w) (cl := []) (by decide +kernel) rfl trivial ?_
  obtain ⟨q1, hq1, hf⟩ := Option.bind_eq_some_iff.mp hf
  refine am_callV (mi := mi_X2_has) (rm := rm_X2_has) [.int (p1)] C0.1 am_YYl cv_6_27 (M_X2_has _ g w p1 _ hq1) (ci := 2) rfl (by decide) rfl (by rw [hR]; rfl) rfl rfl (Nat.le_of_ble_eq_true rfl) (by decide +kernel) ?_
  refine am_if_eq C0 (off := 20) (tgt := 28) (by decide +kernel) (fun hc4 => ?_) (fun hc4 => ?_)
  · rw [if_pos hc4] at hf
    refine am_b1 C0 am_YYk (pc := 28) (pc2 := 29) [(.iconst 0, 0, 0, .int 0)] (L := [some (.ref 20), some (.int (p1))]) (st := []) (L' := [some (.ref 20), some (.int (p1))]) (st' := [.int ((0 : Int32))]) (g' := g) (w' := w) (cl := []) (by decide +kernel) rfl trivial ?_
    cases hf
    exact am_zret C0 (by decide +kernel) (Or.inl rfl)
  · rw [if_neg hc4] at hf
    obtain ⟨hg2, hf⟩ := am_g hf
    refine am_b1 C0 am_YYk (pc := 11) (pc2 := 21) [(.aload_n 0, 0, 0, .null), (.getfield 11, 6, 1, .null), (.iload_n 1, 0, 0, .null), (.laload, 0, 0, .null), (.ldc2_w 19, 0, 0, .long 1000000000), (.lcmp, 0, 0, .null)] (L := [some (.ref 20), some (.int (p1))]) (st := []) (L' := [some (.ref 20), some (.int (p1))]) (st' := [.int (lg_cmp (w 21 (Int32.toNatClampNeg p1)) (1000000000 : Int64))]) (g' := g) (w' := w) (cl := [am_in p1 6]) (by decide +kernel) rfl ⟨hg2, trivial⟩ ?_
    refine am_if_eq C0 (off := 7) (tgt := 28) (by decide +kernel) (fun hc3 => ?_) (fun hc3 => ?_)
    · rw [if_pos hc3] at hf
      refine am_b1 C0 am_YYk (pc := 28) (pc2 := 29) [(.iconst 0, 0, 0, .int 0)] (L := [some (.ref 20), some (.int (p1))]) (st := []) (L' := [some (.ref 20), some (.int (p1))]) (st' := [.int ((0 : Int32))]) (g' := g) (w' := w) (cl := []) (by decide +kernel) rfl trivial ?_
      cases hf
      exact am_zret C0 (by decide +kernel) (Or.inl rfl)
    · rw [if_neg hc3] at hf
      refine am_b1 C0 am_YYk (pc := 24) (pc2 := 25) [(.iconst 1, 0, 0, .int 1)] (L := [some (.ref 20), some (.int (p1))]) (st := []) (L' := [some (.ref 20), some (.int (p1))]) (st' := [.int ((1 : Int32))]) (g' := g) (w' := w) (cl := []) (by decide +kernel) rfl trivial ?_
      refine am_goto C0 (off := 4) (tgt := 29) (by decide +kernel) ?_
      cases hf
      exact am_zret C0 (by decide +kernel) (Or.inr rfl)
/-! ShutterTown$Ways.goOn(II)V at (20,) -/
def f_X6_goOn_98 (F : Nat) (g : am_G) (p1 : Int32) (p2 : Int32) (k38 : Int64 → Int64 → Int32 → am_J → Option (am_J)) (l3 : Int64) (l5 : Int64) (l7 : Int32) (w : am_J) : Option (am_J) :=
  k38 (l3) (l5) (l7 + (1 : Int32)) (w)
set_option maxRecDepth 20000 in
theorem B_X6_goOn_98 (x : am_X) (C0 : am_Cm x 6 cX6_goOn 8 none) (hR : am_R x = rm_X6_goOn) (F : Nat) (g : am_G) (p1 : Int32) (p2 : Int32) (R : am_J) (k38 : Int64 → Int64 → Int32 → am_J → Option (am_J)) (hk38 : ∀ (l3 : Int64) (l5 : Int64) (l7 : Int32) (w : am_J), k38 l3 l5 l7 w = some R → am_Ev x 8 (0, 0) (am_Q x (0, 0) none am_YY g R) 38 [some (.ref 20), some (.int (p1)), some (.int (p2)), some (.long (l3)), none, some (.long (l5)), none, some (.int (l7))] [] am_YY g w) (l3 : Int64) (l5 : Int64) (l7 : Int32) (w : am_J) (hf : f_X6_goOn_98 F g p1 p2 k38 l3 l5 l7 w = some R) : am_Ev x 8 (0, 0) (am_Q x (0, 0) none am_YY g R) 98 [some (.ref 20), some (.int (p1)), some (.int (p2)), some (.long (l3)), none, some (.long (l5)), none, some (.int (l7))] [] am_YY g w := by
  unfold f_X6_goOn_98 at hf
  refine am_b1 C0 am_YYk (pc := 98) (pc2 := 101) [(.iinc 7 1, 0, 0, .int 1)] (L := [some (.ref 20), some (.int (p1)), some (.int (p2)), some (.long (l3)), none, some (.long (l5)), none, some (.int (l7))]) (st := []) (L' := [some (.ref 20), some (.int (p1)), some (.int (p2)), some (.long (l3)), none, some (.long (l5)), none, some (.int (l7 + (1 : Int32)))]) (st' := []) (g' := g) (w' := w) (cl := []) (by decide +kernel) rfl trivial ?_
  refine am_goto C0 (off := (-63)) (tgt := 38) (by decide +kernel) ?_
  exact hk38 (l3) (l5) (l7 + (1 : Int32)) (w) hf
def f_X6_goOn_38 (F : Nat) (g : am_G) (p1 : Int32) (p2 : Int32)  : Nat → Int64 → Int64 → Int32 → am_J → Option (am_J)
  | 0, _, _, _, _ => none
  | n + 1, l3, l5, l7, w =>
    (f_X2_windows g).bind fun q1 =>
      if q1 ≤ l7 then
        some (w)
      else
        (f_X2_areFacing g l7 p1).bind fun q2 =>
          if q2 = 0 then
            f_X6_goOn_98 F g p1 p2 (fun l3 l5 l7 w => f_X6_goOn_38 F g p1 p2 n l3 l5 l7 w) (l3) (l5) (l7) (w)
          else
            if am_in l7 6 then
              if am_in l7 6 then
                f_X6_goOn_98 F g p1 p2 (fun l3 l5 l7 w => f_X6_goOn_38 F g p1 p2 n l3 l5 l7 w) (l3) (l5) (l7) (am_ul w 21 (Int32.toNatClampNeg l7) (am_lmin (w 21 (Int32.toNatClampNeg l7)) ((((l3 * (10000000 : Int64)) + ((10 : Int64) * l5)) + (Int32.toInt64 l7)) + (1 : Int64))))
              else none
            else none
set_option maxRecDepth 20000 in
theorem B_X6_goOn_38 (x : am_X) (C0 : am_Cm x 6 cX6_goOn 8 none) (hR : am_R x = rm_X6_goOn) (F : Nat) (g : am_G) (p1 : Int32) (p2 : Int32) (R : am_J)   : ∀ (n : Nat) (l3 : Int64) (l5 : Int64) (l7 : Int32) (w : am_J), f_X6_goOn_38 F g p1 p2 n l3 l5 l7 w = some R → am_Ev x 8 (0, 0) (am_Q x (0, 0) none am_YY g R) 38 [some (.ref 20), some (.int (p1)), some (.int (p2)), some (.long (l3)), none, some (.long (l5)), none, some (.int (l7))] [] am_YY g w := by
  intro n
  induction n with
  | zero => intro l3 l5 l7 w hf; cases hf
  | succ n ih =>
    intro l3 l5 l7 w hf
    rw [f_X6_goOn_38.eq_2] at hf
    refine am_b1 C0 am_YYk (pc := 38) (pc2 := 44) [(.iload 7, 0, 0, .null), (.aload_n 0, 0, 0, .null), (.getfield 15, 6, 0, .null)] (L := [some (.ref 20), some (.int (p1)), some (.int (p2)), some (.long (l3)), none, some (.long (l5)), none, some (.int (l7))]) (st := []) (L' := [some (.ref 20), some (.int (p1)), some (.int (p2)), some (.long (l3)), none, some (.long (l5)), none, some (.int (l7))]) (st' := [.ref 3, .int (l7)]) (g' := g) (w' := w) (cl := []) (by decide +kernel) rfl trivial ?_
    obtain ⟨q1, hq1, hf⟩ := Option.bind_eq_some_iff.mp hf
    refine am_callV (mi := mi_X2_windows) (rm := rm_X2_windows) [] C0.1 am_YYl cv_6_33 (M_X2_windows _ g w _ hq1) (ci := 2) rfl (by decide) rfl (by rw [hR]; rfl) rfl rfl (Nat.le_of_ble_eq_true rfl) (by decide +kernel) ?_
    refine am_icmp_ge C0 (off := 57) (tgt := 104) (by decide +kernel) (fun hc6 => ?_) (fun hc6 => ?_)
    · rw [if_pos hc6] at hf
      cases hf
      exact am_vret C0 (by decide +kernel)
    · rw [if_neg hc6] at hf
      refine am_b1 C0 am_YYk (pc := 50) (pc2 := 57) [(.aload_n 0, 0, 0, .null), (.getfield 15, 6, 0, .null), (.iload 7, 0, 0, .null), (.iload_n 1, 0, 0, .null)] (L := [some (.ref 20), some (.int (p1)), some (.int (p2)), some (.long (l3)), none, some (.long (l5)), none, some (.int (l7))]) (st := []) (L' := [some (.ref 20), some (.int (p1)), some (.int (p2)), some (.long (l3)), none, some (.long (l5)), none, some (.int (l7))]) (st' := [.int (p1), .int (l7), .ref 3]) (g' := g) (w' := w) (cl := []) (by decide +kernel) rfl trivial ?_
      obtain ⟨q2, hq2, hf⟩ := Option.bind_eq_some_iff.mp hf
      refine am_callV (mi := mi_X2_areFacing) (rm := rm_X2_areFacing) [.int (l7), .int (p1)] C0.1 am_YYl cv_6_65 (M_X2_areFacing _ g w l7 p1 _ hq2) (ci := 2) rfl (by decide) rfl (by rw [hR]; rfl) rfl rfl (Nat.le_of_ble_eq_true rfl) (by decide +kernel) ?_
      refine am_if_eq C0 (off := 38) (tgt := 98) (by decide +kernel) (fun hc5 => ?_) (fun hc5 => ?_)
      · rw [if_pos hc5] at hf
        exact B_X6_goOn_98 x C0 hR F g p1 p2 R _ (fun l3 l5 l7 w hf => ih l3 l5 l7 w hf) (l3) (l5) (l7) (w) hf
      · rw [if_neg hc5] at hf
        obtain ⟨hg3, hf⟩ := am_g hf
        refine am_b1 C0 am_YYk (pc := 63) (pc2 := 94) [(.aload_n 0, 0, 0, .null), (.getfield 11, 6, 1, .null), (.iload 7, 0, 0, .null), (.aload_n 0, 0, 0, .null), (.getfield 11, 6, 1, .null), (.iload 7, 0, 0, .null), (.laload, 0, 0, .null), (.lload_n 3, 0, 0, .null), (.ldc2_w 51, 0, 0, .long 10000000), (.lmul, 0, 0, .null), (.ldc2_w 69, 0, 0, .long 10), (.lload 5, 0, 0, .null), (.lmul, 0, 0, .null), (.ladd, 0, 0, .null), (.iload 7, 0, 0, .null), (.i2l, 0, 0, .null), (.ladd, 0, 0, .null), (.lconst 1, 0, 0, .long 1), (.ladd, 0, 0, .null)] (L := [some (.ref 20), some (.int (p1)), some (.int (p2)), some (.long (l3)), none, some (.long (l5)), none, some (.int (l7))]) (st := []) (L' := [some (.ref 20), some (.int (p1)), some (.int (p2)), some (.long (l3)), none, some (.long (l5)), none, some (.int (l7))]) (st' := [.long ((((l3 * (10000000 : Int64)) + ((10 : Int64) * l5)) + (Int32.toInt64 l7)) + (1 : Int64)), .long (w 21 (Int32.toNatClampNeg l7)), .int (l7), .ref 21]) (g' := g) (w' := w) (cl := [am_in l7 6]) (by decide +kernel) rfl ⟨hg3, trivial⟩ ?_
        refine am_mlmin C0.1 mw_6_71 (by rw [hR]; decide) (Nat.le_of_ble_eq_true rfl) (by decide +kernel) ?_
        obtain ⟨hg4, hf⟩ := am_g hf
        refine am_b1 C0 am_YYk (pc := 97) (pc2 := 98) [(.lastore, 0, 0, .null)] (L := [some (.ref 20), some (.int (p1)), some (.int (p2)), some (.long (l3)), none, some (.long (l5)), none, some (.int (l7))]) (st := [.long (am_lmin (w 21 (Int32.toNatClampNeg l7)) ((((l3 * (10000000 : Int64)) + ((10 : Int64) * l5)) + (Int32.toInt64 l7)) + (1 : Int64))), .int (l7), .ref 21]) (L' := [some (.ref 20), some (.int (p1)), some (.int (p2)), some (.long (l3)), none, some (.long (l5)), none, some (.int (l7))]) (st' := []) (g' := g) (w' := am_ul w 21 (Int32.toNatClampNeg l7) (am_lmin (w 21 (Int32.toNatClampNeg l7)) ((((l3 * (10000000 : Int64)) + ((10 : Int64) * l5)) + (Int32.toInt64 l7)) + (1 : Int64)))) (cl := [am_in l7 6]) (by decide +kernel) rfl ⟨hg4, trivial⟩ ?_
        exact B_X6_goOn_98 x C0 hR F g p1 p2 R _ (fun l3 l5 l7 w hf => ih l3 l5 l7 w hf) (l3) (l5) (l7) (am_ul w 21 (Int32.toNatClampNeg l7) (am_lmin (w 21 (Int32.toNatClampNeg l7)) ((((l3 * (10000000 : Int64)) + ((10 : Int64) * l5)) + (Int32.toInt64 l7)) + (1 : Int64)))) hf
def f_X6_goOn (F : Nat) (g : am_G) (w : am_J) (p1 : Int32) (p2 : Int32) : Option (am_J) :=
  (f_X6_comesTo g w p1).bind fun q7 =>
    if q7 = 0 then
      some (w)
    else
      if am_in p1 6 then
        if am_in p1 6 then
          f_X6_goOn_38 F g p1 p2 F (((w 21 (Int32.toNatClampNeg p1)) / (10000000 : Int64)) + (Int32.toInt64 p2)) ((w 21 (Int32.toNatClampNeg p1)) - (w 21 (Int32.toNatClampNeg p1)) / (10000000 : Int64) * (10000000 : Int64)) ((0 : Int32)) (w)
        else none
      else none
set_option maxRecDepth 20000 in
theorem M_X6_goOn (l : Launch) (F : Nat) (g : am_G) (w : am_J) (p1 : Int32) (p2 : Int32) (R : am_J) (hf : f_X6_goOn F g w p1 p2 = some R) : am_Met l mi_X6_goOn rm_X6_goOn [.ref 20, .int p1, .int p2] am_YY g w none am_YY g R := by
  refine am_met (own := 6) [some (.ref 20), some (.int (p1)), some (.int (p2)), none, none, none, none, none] (by decide) rfl rfl (by first | decide | exact Nat.le_of_ble_eq_true rfl) (fun x C0 hR hl hnm => ?_)
  unfold f_X6_goOn at hf
  refine am_b1 C0 am_YYk (pc := 0) (pc2 := 2) [(.aload_n 0, 0, 0, .null), (.iload_n 1, 0, 0, .null)] (L := [some (.ref 20), some (.int (p1)), some (.int (p2)), none, none, none, none, none]) (st := []) (L' := [some (.ref 20), some (.int (p1)), some (.int (p2)), none, none, none, none, none]) (st' := [.int (p1), .ref 20]) (g' := g) (w' := w) (cl := []) (by decide +kernel) rfl trivial ?_
  obtain ⟨q7, hq7, hf⟩ := Option.bind_eq_some_iff.mp hf
  refine am_callV (mi := mi_X6_comesTo) (rm := rm_X6_comesTo) [.int (p1)] C0.1 am_YYl cv_6_48 (M_X6_comesTo _ g w p1 _ hq7) (ci := 6) rfl (by decide) rfl (by rw [hR]; rfl) rfl rfl (Nat.le_of_ble_eq_true rfl) (by decide +kernel) ?_
  refine am_if_ne C0 (off := 4) (tgt := 9) (by decide +kernel) (fun hc10 => ?_) (fun hc10 => ?_)
  · rw [if_neg hc10] at hf
    obtain ⟨hg8, hf⟩ := am_g hf
    obtain ⟨hg9, hf⟩ := am_g hf
    refine am_b1 C0 am_YYk (pc := 9) (pc2 := 38) [(.aload_n 0, 0, 0, .null), (.getfield 11, 6, 1, .null), (.iload_n 1, 0, 0, .null), (.laload, 0, 0, .null), (.ldc2_w 51, 0, 0, .long 10000000), (.ldiv, 0, 0, .null), (.iload_n 2, 0, 0, .null), (.i2l, 0, 0, .null), (.ladd, 0, 0, .null), (.lstore_n 3, 0, 0, .null), (.aload_n 0, 0, 0, .null), (.getfield 11, 6, 1, .null), (.iload_n 1, 0, 0, .null), (.laload, 0, 0, .null), (.ldc2_w 51, 0, 0, .long 10000000), (.lrem, 0, 0, .null), (.lstore 5, 0, 0, .null), (.iconst 0, 0, 0, .int 0), (.istore 7, 0, 0, .null)] (L := [some (.ref 20), some (.int (p1)), some (.int (p2)), none, none, none, none, none]) (st := []) (L' := [some (.ref 20), some (.int (p1)), some (.int (p2)), some (.long (((w 21 (Int32.toNatClampNeg p1)) / (10000000 : Int64)) + (Int32.toInt64 p2))), none, some (.long ((w 21 (Int32.toNatClampNeg p1)) - (w 21 (Int32.toNatClampNeg p1)) / (10000000 : Int64) * (10000000 : Int64))), none, some (.int ((0 : Int32)))]) (st' := []) (g' := g) (w' := w) (cl := [am_in p1 6, ¬ (10000000 : Int64) = 0, am_in p1 6, ¬ (10000000 : Int64) = 0]) (by decide +kernel) rfl ⟨hg8, by decide, hg9, by decide, trivial⟩ ?_
    refine B_X6_goOn_38 x C0 hR F g p1 p2 R   F (((w 21 (Int32.toNatClampNeg p1)) / (10000000 : Int64)) + (Int32.toInt64 p2)) ((w 21 (Int32.toNatClampNeg p1)) - (w 21 (Int32.toNatClampNeg p1)) / (10000000 : Int64) * (10000000 : Int64)) ((0 : Int32)) (w) hf
  · rw [if_pos hc10] at hf
    cases hf
    exact am_vret C0 (by decide +kernel)
/-! ShutterTown$Ways.hoursAt(I)I at (20,) -/
def f_X6_hoursAt (g : am_G) (p1 : Int32) : Option (Int32) :=
  (f_X2_kind g p1).bind fun q1 =>
    if q1 = (1 : Int32) then
      some ((0 : Int32))
    else
      some ((1 : Int32))
set_option maxRecDepth 20000 in
theorem M_X6_hoursAt (l : Launch) (g : am_G) (w : am_J) (p1 : Int32) (R : Int32) (hf : f_X6_hoursAt g p1 = some R) : am_Met l mi_X6_hoursAt rm_X6_hoursAt [.ref 20, .int p1] am_YY g w (some (.int R)) am_YY g w := by
  refine am_met (own := 6) [some (.ref 20), some (.int (p1))] (by decide) rfl rfl (by first | decide | exact Nat.le_of_ble_eq_true rfl) (fun x C0 hR hl hnm => ?_)
  unfold f_X6_hoursAt at hf
  refine am_b1 C0 am_YYk (pc := 0) (pc2 := 5) [(.aload_n 0, 0, 0, .null), (.getfield 15, 6, 0, .null), (.iload_n 1, 0, 0, .null)] (L := [some (.ref 20), some (.int (p1))]) (st := []) (L' := [some (.ref 20), some (.int (p1))]) (st' := [.int (p1), .ref 3]) (g' := g) (w' := w) (cl := []) (by decide +kernel) rfl trivial ?_
  obtain ⟨q1, hq1, hf⟩ := Option.bind_eq_some_iff.mp hf
  refine am_callV (mi := mi_X2_kind) (rm := rm_X2_kind) [.int (p1)] C0.1 am_YYl cv_6_41 (M_X2_kind _ g w p1 _ hq1) (ci := 2) rfl (by decide) rfl (by rw [hR]; rfl) rfl rfl (Nat.le_of_ble_eq_true rfl) (by decide +kernel) ?_
  refine am_b1 C0 am_YYk (pc := 8) (pc2 := 9) [(.iconst 1, 0, 0, .int 1)] (L := [some (.ref 20), some (.int (p1))]) (st := [.int (q1)]) (L' := [some (.ref 20), some (.int (p1))]) (st' := [.int ((1 : Int32)), .int (q1)]) (g' := g) (w' := w) (cl := []) (by decide +kernel) rfl trivial ?_
  refine am_icmp_ne C0 (off := 7) (tgt := 16) (by decide +kernel) (fun hc2 => ?_) (fun hc2 => ?_)
  · rw [if_neg hc2] at hf
    refine am_b1 C0 am_YYk (pc := 16) (pc2 := 17) [(.iconst 1, 0, 0, .int 1)] (L := [some (.ref 20), some (.int (p1))]) (st := []) (L' := [some (.ref 20), some (.int (p1))]) (st' := [.int ((1 : Int32))]) (g' := g) (w' := w) (cl := []) (by decide +kernel) rfl trivial ?_
    cases hf
    exact am_iret C0 (by decide +kernel)
  · rw [if_pos hc2] at hf
    refine am_b1 C0 am_YYk (pc := 12) (pc2 := 13) [(.iconst 0, 0, 0, .int 0)] (L := [some (.ref 20), some (.int (p1))]) (st := []) (L' := [some (.ref 20), some (.int (p1))]) (st' := [.int ((0 : Int32))]) (g' := g) (w' := w) (cl := []) (by decide +kernel) rfl trivial ?_
    refine am_goto C0 (off := 4) (tgt := 17) (by decide +kernel) ?_
    cases hf
    exact am_iret C0 (by decide +kernel)
/-! ShutterTown$Ways.measure(II)V at (20,) -/
def f_X6_measure_116 (F : Nat) (g : am_G) (p1 : Int32) (p2 : Int32) (k34 : Int32 → am_J → Option (am_J)) (l3 : Int32) (w : am_J) : Option (am_J) :=
  k34 (l3 + (1 : Int32)) (w)
set_option maxRecDepth 20000 in
theorem B_X6_measure_116 (x : am_X) (C0 : am_Cm x 6 cX6_measure 5 none) (hR : am_R x = rm_X6_measure) (F : Nat) (g : am_G) (p1 : Int32) (p2 : Int32) (R : am_J) (k34 : Int32 → am_J → Option (am_J)) (hk34 : ∀ (l3 : Int32) (w : am_J), k34 l3 w = some R → am_Ev x 5 (0, 0) (am_Q x (0, 0) none am_YY g R) 34 [some (.ref 20), some (.int (p1)), some (.int (p2)), some (.int (l3)), none] [] am_YY g w) (l3 : Int32) (w : am_J) (hf : f_X6_measure_116 F g p1 p2 k34 l3 w = some R) : am_Ev x 5 (0, 0) (am_Q x (0, 0) none am_YY g R) 116 [some (.ref 20), some (.int (p1)), some (.int (p2)), some (.int (l3)), none] [] am_YY g w := by
  unfold f_X6_measure_116 at hf
  refine am_b1 C0 am_YYk (pc := 116) (pc2 := 119) [(.iinc 3 1, 0, 0, .int 1)] (L := [some (.ref 20), some (.int (p1)), some (.int (p2)), some (.int (l3)), none]) (st := []) (L' := [some (.ref 20), some (.int (p1)), some (.int (p2)), some (.int (l3 + (1 : Int32))), none]) (st' := []) (g' := g) (w' := w) (cl := []) (by decide +kernel) rfl trivial ?_
  refine am_goto C0 (off := (-85)) (tgt := 34) (by decide +kernel) ?_
  exact hk34 (l3 + (1 : Int32)) (w) hf
def f_X6_measure_110 (F : Nat) (g : am_G) (p1 : Int32) (p2 : Int32) (k48 : Int32 → Int32 → am_J → Option (am_J)) (k116 : Int32 → am_J → Option (am_J)) (l3 : Int32) (l4 : Int32) (w : am_J) : Option (am_J) :=
  k48 (l3) (l4 + (1 : Int32)) (w)
set_option maxRecDepth 20000 in
theorem B_X6_measure_110 (x : am_X) (C0 : am_Cm x 6 cX6_measure 5 none) (hR : am_R x = rm_X6_measure) (F : Nat) (g : am_G) (p1 : Int32) (p2 : Int32) (R : am_J) (k48 : Int32 → Int32 → am_J → Option (am_J)) (k116 : Int32 → am_J → Option (am_J)) (hk48 : ∀ (l3 : Int32) (l4 : Int32) (w : am_J), k48 l3 l4 w = some R → am_Ev x 5 (0, 0) (am_Q x (0, 0) none am_YY g R) 48 [some (.ref 20), some (.int (p1)), some (.int (p2)), some (.int (l3)), some (.int (l4))] [] am_YY g w) (hk116 : ∀ (l3 : Int32) (w : am_J), k116 l3 w = some R → am_Ev x 5 (0, 0) (am_Q x (0, 0) none am_YY g R) 116 [some (.ref 20), some (.int (p1)), some (.int (p2)), some (.int (l3)), none] [] am_YY g w) (l3 : Int32) (l4 : Int32) (w : am_J) (hf : f_X6_measure_110 F g p1 p2 k48 k116 l3 l4 w = some R) : am_Ev x 5 (0, 0) (am_Q x (0, 0) none am_YY g R) 110 [some (.ref 20), some (.int (p1)), some (.int (p2)), some (.int (l3)), some (.int (l4))] [] am_YY g w := by
  unfold f_X6_measure_110 at hf
  refine am_b1 C0 am_YYk (pc := 110) (pc2 := 113) [(.iinc 4 1, 0, 0, .int 1)] (L := [some (.ref 20), some (.int (p1)), some (.int (p2)), some (.int (l3)), some (.int (l4))]) (st := []) (L' := [some (.ref 20), some (.int (p1)), some (.int (p2)), some (.int (l3)), some (.int (l4 + (1 : Int32)))]) (st' := []) (g' := g) (w' := w) (cl := []) (by decide +kernel) rfl trivial ?_
  refine am_goto C0 (off := (-65)) (tgt := 48) (by decide +kernel) ?_
  exact hk48 (l3) (l4 + (1 : Int32)) (w) hf
def f_X6_measure_48 (F : Nat) (g : am_G) (p1 : Int32) (p2 : Int32) (k116 : Int32 → am_J → Option (am_J)) : Nat → Int32 → Int32 → am_J → Option (am_J)
  | 0, _, _, _ => none
  | n + 1, l3, l4, w =>
    (f_X2_windows g).bind fun q1 =>
      if q1 ≤ l4 then
        k116 (l3) (w)
      else
        if l4 = p1 then
          (f_X6_goOn F g w l4 (0 : Int32)).bind fun q7 =>
            f_X6_measure_110 F g p1 p2 (fun l3 l4 w => f_X6_measure_48 F g p1 p2 k116 n l3 l4 w) k116 (l3) (l4) (q7)
        else
          (f_X2_kind g l4).bind fun q2 =>
            if q2 = (3 : Int32) then
              f_X6_measure_110 F g p1 p2 (fun l3 l4 w => f_X6_measure_48 F g p1 p2 k116 n l3 l4 w) k116 (l3) (l4) (w)
            else
              if ((p2 >>> (l4 &&& 31)) &&& (1 : Int32)) = 0 then
                (f_X6_hoursAt g l4).bind fun q3 =>
                  (f_X6_goOn F g w l4 q3).bind fun q4 =>
                    f_X6_measure_110 F g p1 p2 (fun l3 l4 w => f_X6_measure_48 F g p1 p2 k116 n l3 l4 w) k116 (l3) (l4) (q4)
              else
                f_X6_measure_110 F g p1 p2 (fun l3 l4 w => f_X6_measure_48 F g p1 p2 k116 n l3 l4 w) k116 (l3) (l4) (w)
set_option maxRecDepth 20000 in
theorem B_X6_measure_48 (x : am_X) (C0 : am_Cm x 6 cX6_measure 5 none) (hR : am_R x = rm_X6_measure) (F : Nat) (g : am_G) (p1 : Int32) (p2 : Int32) (R : am_J) (k116 : Int32 → am_J → Option (am_J)) (hk116 : ∀ (l3 : Int32) (w : am_J), k116 l3 w = some R → am_Ev x 5 (0, 0) (am_Q x (0, 0) none am_YY g R) 116 [some (.ref 20), some (.int (p1)), some (.int (p2)), some (.int (l3)), none] [] am_YY g w) : ∀ (n : Nat) (l3 : Int32) (l4 : Int32) (w : am_J), f_X6_measure_48 F g p1 p2 k116 n l3 l4 w = some R → am_Ev x 5 (0, 0) (am_Q x (0, 0) none am_YY g R) 48 [some (.ref 20), some (.int (p1)), some (.int (p2)), some (.int (l3)), some (.int (l4))] [] am_YY g w := by
  intro n
  induction n with
  | zero => intro l3 l4 w hf; cases hf
  | succ n ih =>
    intro l3 l4 w hf
    rw [f_X6_measure_48.eq_2] at hf
    refine am_b1 C0 am_YYk (pc := 48) (pc2 := 54) [(.iload 4, 0, 0, .null), (.aload_n 0, 0, 0, .null), (.getfield 15, 6, 0, .null)] (L := [some (.ref 20), some (.int (p1)), some (.int (p2)), some (.int (l3)), some (.int (l4))]) (st := []) (L' := [some (.ref 20), some (.int (p1)), some (.int (p2)), some (.int (l3)), some (.int (l4))]) (st' := [.ref 3, .int (l4)]) (g' := g) (w' := w) (cl := []) (by decide +kernel) rfl trivial ?_
    obtain ⟨q1, hq1, hf⟩ := Option.bind_eq_some_iff.mp hf
    refine am_callV (mi := mi_X2_windows) (rm := rm_X2_windows) [] C0.1 am_YYl cv_6_33 (M_X2_windows _ g w _ hq1) (ci := 2) rfl (by decide) rfl (by rw [hR]; rfl) rfl rfl (Nat.le_of_ble_eq_true rfl) (by decide +kernel) ?_
    refine am_icmp_ge C0 (off := 59) (tgt := 116) (by decide +kernel) (fun hc9 => ?_) (fun hc9 => ?_)
    · rw [if_pos hc9] at hf
      refine am_wk [some (.ref 20), some (.int (p1)), some (.int (p2)), some (.int (l3)), none] ⟨rfl, rfl, rfl, rfl, trivial⟩ rfl ?_
      exact hk116 (l3) (w) hf
    · rw [if_neg hc9] at hf
      refine am_b1 C0 am_YYk (pc := 60) (pc2 := 63) [(.iload 4, 0, 0, .null), (.iload_n 1, 0, 0, .null)] (L := [some (.ref 20), some (.int (p1)), some (.int (p2)), some (.int (l3)), some (.int (l4))]) (st := []) (L' := [some (.ref 20), some (.int (p1)), some (.int (p2)), some (.int (l3)), some (.int (l4))]) (st' := [.int (p1), .int (l4)]) (g' := g) (w' := w) (cl := []) (by decide +kernel) rfl trivial ?_
      refine am_icmp_ne C0 (off := 13) (tgt := 76) (by decide +kernel) (fun hc8 => ?_) (fun hc8 => ?_)
      · rw [if_neg hc8] at hf
        refine am_b1 C0 am_YYk (pc := 76) (pc2 := 82) [(.aload_n 0, 0, 0, .null), (.getfield 15, 6, 0, .null), (.iload 4, 0, 0, .null)] (L := [some (.ref 20), some (.int (p1)), some (.int (p2)), some (.int (l3)), some (.int (l4))]) (st := []) (L' := [some (.ref 20), some (.int (p1)), some (.int (p2)), some (.int (l3)), some (.int (l4))]) (st' := [.int (l4), .ref 3]) (g' := g) (w' := w) (cl := []) (by decide +kernel) rfl trivial ?_
        obtain ⟨q2, hq2, hf⟩ := Option.bind_eq_some_iff.mp hf
        refine am_callV (mi := mi_X2_kind) (rm := rm_X2_kind) [.int (l4)] C0.1 am_YYl cv_6_41 (M_X2_kind _ g w l4 _ hq2) (ci := 2) rfl (by decide) rfl (by rw [hR]; rfl) rfl rfl (Nat.le_of_ble_eq_true rfl) (by decide +kernel) ?_
        refine am_b1 C0 am_YYk (pc := 85) (pc2 := 86) [(.iconst 3, 0, 0, .int 3)] (L := [some (.ref 20), some (.int (p1)), some (.int (p2)), some (.int (l3)), some (.int (l4))]) (st := [.int (q2)]) (L' := [some (.ref 20), some (.int (p1)), some (.int (p2)), some (.int (l3)), some (.int (l4))]) (st' := [.int ((3 : Int32)), .int (q2)]) (g' := g) (w' := w) (cl := []) (by decide +kernel) rfl trivial ?_
        refine am_icmp_eq C0 (off := 24) (tgt := 110) (by decide +kernel) (fun hc6 => ?_) (fun hc6 => ?_)
        · rw [if_pos hc6] at hf
          exact B_X6_measure_110 x C0 hR F g p1 p2 R _ _ (fun l3 l4 w hf => ih l3 l4 w hf) hk116 (l3) (l4) (w) hf
        · rw [if_neg hc6] at hf
          refine am_b1 C0 am_YYk (pc := 89) (pc2 := 95) [(.iload_n 2, 0, 0, .null), (.iload 4, 0, 0, .null), (.ishr, 0, 0, .null), (.iconst 1, 0, 0, .int 1), (.iand, 0, 0, .null)] (L := [some (.ref 20), some (.int (p1)), some (.int (p2)), some (.int (l3)), some (.int (l4))]) (st := []) (L' := [some (.ref 20), some (.int (p1)), some (.int (p2)), some (.int (l3)), some (.int (l4))]) (st' := [.int ((p2 >>> (l4 &&& 31)) &&& (1 : Int32))]) (g' := g) (w' := w) (cl := []) (by decide +kernel) rfl trivial ?_
          refine am_if_ne C0 (off := 15) (tgt := 110) (by decide +kernel) (fun hc5 => ?_) (fun hc5 => ?_)
          · rw [if_neg hc5] at hf
            exact B_X6_measure_110 x C0 hR F g p1 p2 R _ _ (fun l3 l4 w hf => ih l3 l4 w hf) hk116 (l3) (l4) (w) hf
          · rw [if_pos hc5] at hf
            refine am_b1 C0 am_YYk (pc := 98) (pc2 := 104) [(.aload_n 0, 0, 0, .null), (.iload 4, 0, 0, .null), (.aload_n 0, 0, 0, .null), (.iload 4, 0, 0, .null)] (L := [some (.ref 20), some (.int (p1)), some (.int (p2)), some (.int (l3)), some (.int (l4))]) (st := []) (L' := [some (.ref 20), some (.int (p1)), some (.int (p2)), some (.int (l3)), some (.int (l4))]) (st' := [.int (l4), .ref 20, .int (l4), .ref 20]) (g' := g) (w' := w) (cl := []) (by decide +kernel) rfl trivial ?_
            obtain ⟨q3, hq3, hf⟩ := Option.bind_eq_some_iff.mp hf
            refine am_callV (mi := mi_X6_hoursAt) (rm := rm_X6_hoursAt) [.int (l4)] C0.1 am_YYl cv_6_45 (M_X6_hoursAt _ g w l4 _ hq3) (ci := 6) rfl (by decide) rfl (by rw [hR]; rfl) rfl rfl (Nat.le_of_ble_eq_true rfl) (by decide +kernel) ?_
            obtain ⟨q4, hq4, hf⟩ := Option.bind_eq_some_iff.mp hf
            refine am_callV (mi := mi_X6_goOn) (rm := rm_X6_goOn) [.int (l4), .int (q3)] C0.1 am_YYl cv_6_37 (M_X6_goOn _ F g w l4 q3 _ hq4) (ci := 6) rfl (by decide) rfl (by rw [hR]; rfl) rfl rfl (Nat.le_of_ble_eq_true rfl) (by decide +kernel) ?_
            exact B_X6_measure_110 x C0 hR F g p1 p2 R _ _ (fun l3 l4 w hf => ih l3 l4 w hf) hk116 (l3) (l4) (q4) hf
      · rw [if_pos hc8] at hf
        refine am_b1 C0 am_YYk (pc := 66) (pc2 := 70) [(.aload_n 0, 0, 0, .null), (.iload 4, 0, 0, .null), (.iconst 0, 0, 0, .int 0)] (L := [some (.ref 20), some (.int (p1)), some (.int (p2)), some (.int (l3)), some (.int (l4))]) (st := []) (L' := [some (.ref 20), some (.int (p1)), some (.int (p2)), some (.int (l3)), some (.int (l4))]) (st' := [.int ((0 : Int32)), .int (l4), .ref 20]) (g' := g) (w' := w) (cl := []) (by decide +kernel) rfl trivial ?_
        obtain ⟨q7, hq7, hf⟩ := Option.bind_eq_some_iff.mp hf
        refine am_callV (mi := mi_X6_goOn) (rm := rm_X6_goOn) [.int (l4), .int ((0 : Int32))] C0.1 am_YYl cv_6_37 (M_X6_goOn _ F g w l4 (0 : Int32) _ hq7) (ci := 6) rfl (by decide) rfl (by rw [hR]; rfl) rfl rfl (Nat.le_of_ble_eq_true rfl) (by decide +kernel) ?_
        refine am_goto C0 (off := 37) (tgt := 110) (by decide +kernel) ?_
        exact B_X6_measure_110 x C0 hR F g p1 p2 R _ _ (fun l3 l4 w hf => ih l3 l4 w hf) hk116 (l3) (l4) (q7) hf
def f_X6_measure_34 (F : Nat) (g : am_G) (p1 : Int32) (p2 : Int32)  : Nat → Int32 → am_J → Option (am_J)
  | 0, _, _ => none
  | n + 1, l3, w =>
    (f_X2_windows g).bind fun q10 =>
      if q10 ≤ l3 then
        some (w)
      else
        f_X6_measure_48 F g p1 p2 (fun l3 w => f_X6_measure_116 F g p1 p2 (fun l3 w => f_X6_measure_34 F g p1 p2 n l3 w) (l3) (w)) F (l3) ((0 : Int32)) (w)
set_option maxRecDepth 20000 in
theorem B_X6_measure_34 (x : am_X) (C0 : am_Cm x 6 cX6_measure 5 none) (hR : am_R x = rm_X6_measure) (F : Nat) (g : am_G) (p1 : Int32) (p2 : Int32) (R : am_J)   : ∀ (n : Nat) (l3 : Int32) (w : am_J), f_X6_measure_34 F g p1 p2 n l3 w = some R → am_Ev x 5 (0, 0) (am_Q x (0, 0) none am_YY g R) 34 [some (.ref 20), some (.int (p1)), some (.int (p2)), some (.int (l3)), none] [] am_YY g w := by
  intro n
  induction n with
  | zero => intro l3 w hf; cases hf
  | succ n ih =>
    intro l3 w hf
    rw [f_X6_measure_34.eq_2] at hf
    refine am_b1 C0 am_YYk (pc := 34) (pc2 := 39) [(.iload_n 3, 0, 0, .null), (.aload_n 0, 0, 0, .null), (.getfield 15, 6, 0, .null)] (L := [some (.ref 20), some (.int (p1)), some (.int (p2)), some (.int (l3)), none]) (st := []) (L' := [some (.ref 20), some (.int (p1)), some (.int (p2)), some (.int (l3)), none]) (st' := [.ref 3, .int (l3)]) (g' := g) (w' := w) (cl := []) (by decide +kernel) rfl trivial ?_
    obtain ⟨q10, hq10, hf⟩ := Option.bind_eq_some_iff.mp hf
    refine am_callV (mi := mi_X2_windows) (rm := rm_X2_windows) [] C0.1 am_YYl cv_6_33 (M_X2_windows _ g w _ hq10) (ci := 2) rfl (by decide) rfl (by rw [hR]; rfl) rfl rfl (Nat.le_of_ble_eq_true rfl) (by decide +kernel) ?_
    refine am_icmp_ge C0 (off := 80) (tgt := 122) (by decide +kernel) (fun hc11 => ?_) (fun hc11 => ?_)
    · rw [if_pos hc11] at hf
      cases hf
      exact am_vret C0 (by decide +kernel)
    · rw [if_neg hc11] at hf
      refine am_b1 C0 am_YYk (pc := 45) (pc2 := 48) [(.iconst 0, 0, 0, .int 0), (.istore 4, 0, 0, .null)] (L := [some (.ref 20), some (.int (p1)), some (.int (p2)), some (.int (l3)), none]) (st := []) (L' := [some (.ref 20), some (.int (p1)), some (.int (p2)), some (.int (l3)), some (.int ((0 : Int32)))]) (st' := []) (g' := g) (w' := w) (cl := []) (by decide +kernel) rfl trivial ?_
      refine B_X6_measure_48 x C0 hR F g p1 p2 R _ ?_ F (l3) ((0 : Int32)) (w) hf
      · intro l3 w hf
        exact B_X6_measure_116 x C0 hR F g p1 p2 R _ (fun l3 w hf => ih l3 w hf) (l3) (w) hf
def f_X6_measure (F : Nat) (g : am_G) (w : am_J) (p1 : Int32) (p2 : Int32) : Option (am_J) :=
  (f_J7_fill_d0a16 F w (1000000000 : Int64)).bind fun q12 =>
    (f_X2_has g p1).bind fun q13 =>
      if q13 = 0 then
        some (q12)
      else
        if am_in p1 6 then
          f_X6_measure_34 F g p1 p2 F ((0 : Int32)) (am_ul q12 21 (Int32.toNatClampNeg p1) (Int32.toInt64 (p1 + (1 : Int32))))
        else none
set_option maxRecDepth 20000 in
theorem M_X6_measure (l : Launch) (F : Nat) (g : am_G) (w : am_J) (p1 : Int32) (p2 : Int32) (R : am_J) (hf : f_X6_measure F g w p1 p2 = some R) : am_Met l mi_X6_measure rm_X6_measure [.ref 20, .int p1, .int p2] am_YY g w none am_YY g R := by
  refine am_met (own := 6) [some (.ref 20), some (.int (p1)), some (.int (p2)), none, none] (by decide) rfl rfl (by first | decide | exact Nat.le_of_ble_eq_true rfl) (fun x C0 hR hl hnm => ?_)
  unfold f_X6_measure at hf
  refine am_b1 C0 am_YYk (pc := 0) (pc2 := 7) [(.aload_n 0, 0, 0, .null), (.getfield 11, 6, 1, .null), (.ldc2_w 19, 0, 0, .long 1000000000)] (L := [some (.ref 20), some (.int (p1)), some (.int (p2)), none, none]) (st := []) (L' := [some (.ref 20), some (.int (p1)), some (.int (p2)), none, none]) (st' := [.long ((1000000000 : Int64)), .ref 21]) (g' := g) (w' := w) (cl := []) (by decide +kernel) rfl trivial ?_
  obtain ⟨q12, hq12, hf⟩ := Option.bind_eq_some_iff.mp hf
  refine am_callS (mi := mi_J7_fill_d0a16) (rm := rm_J7_fill_d0a16) [.ref 21, .long ((1000000000 : Int64))] C0.1 cv_6_21 (M_J7_fill_d0a16 _ F g w (1000000000 : Int64) _ hq12) (by rw [hR]; rfl) rfl rfl (Nat.le_of_ble_eq_true rfl) (by decide +kernel) ?_
  refine am_b1 C0 am_YYk (pc := 10) (pc2 := 15) [(.aload_n 0, 0, 0, .null), (.getfield 15, 6, 0, .null), (.iload_n 1, 0, 0, .null)] (L := [some (.ref 20), some (.int (p1)), some (.int (p2)), none, none]) (st := []) (L' := [some (.ref 20), some (.int (p1)), some (.int (p2)), none, none]) (st' := [.int (p1), .ref 3]) (g' := g) (w' := q12) (cl := []) (by decide +kernel) rfl trivial ?_
  obtain ⟨q13, hq13, hf⟩ := Option.bind_eq_some_iff.mp hf
  refine am_callV (mi := mi_X2_has) (rm := rm_X2_has) [.int (p1)] C0.1 am_YYl cv_6_27 (M_X2_has _ g q12 p1 _ hq13) (ci := 2) rfl (by decide) rfl (by rw [hR]; rfl) rfl rfl (Nat.le_of_ble_eq_true rfl) (by decide +kernel) ?_
  refine am_if_ne C0 (off := 4) (tgt := 22) (by decide +kernel) (fun hc15 => ?_) (fun hc15 => ?_)
  · rw [if_neg hc15] at hf
    obtain ⟨hg14, hf⟩ := am_g hf
    refine am_b1 C0 am_YYk (pc := 22) (pc2 := 34) [(.aload_n 0, 0, 0, .null), (.getfield 11, 6, 1, .null), (.iload_n 1, 0, 0, .null), (.iload_n 1, 0, 0, .null), (.iconst 1, 0, 0, .int 1), (.iadd, 0, 0, .null), (.i2l, 0, 0, .null), (.lastore, 0, 0, .null), (.iconst 0, 0, 0, .int 0), (.istore_n 3, 0, 0, .null)] (L := [some (.ref 20), some (.int (p1)), some (.int (p2)), none, none]) (st := []) (L' := [some (.ref 20), some (.int (p1)), some (.int (p2)), some (.int ((0 : Int32))), none]) (st' := []) (g' := g) (w' := am_ul q12 21 (Int32.toNatClampNeg p1) (Int32.toInt64 (p1 + (1 : Int32)))) (cl := [am_in p1 6]) (by decide +kernel) rfl ⟨hg14, trivial⟩ ?_
    refine B_X6_measure_34 x C0 hR F g p1 p2 R   F ((0 : Int32)) (am_ul q12 21 (Int32.toNatClampNeg p1) (Int32.toInt64 (p1 + (1 : Int32)))) hf
  · rw [if_pos hc15] at hf
    cases hf
    exact am_vret C0 (by decide +kernel)
/-! ShutterTown$Ways.wayTo(I)I at (20,) -/
def f_X6_wayTo (g : am_G) (w : am_J) (p1 : Int32) : Option (Int32) :=
  (f_X6_comesTo g w p1).bind fun q1 =>
    if q1 = 0 then
      some ((-9 : Int32))
    else
      if am_in p1 6 then
        some (Int64.toInt32 ((w 21 (Int32.toNatClampNeg p1)) - (w 21 (Int32.toNatClampNeg p1)) / (10000000 : Int64) * (10000000 : Int64)))
      else none
set_option maxRecDepth 20000 in
theorem M_X6_wayTo (l : Launch) (g : am_G) (w : am_J) (p1 : Int32) (R : Int32) (hf : f_X6_wayTo g w p1 = some R) : am_Met l mi_X6_wayTo rm_X6_wayTo [.ref 20, .int p1] am_YY g w (some (.int R)) am_YY g w := by
  refine am_met (own := 6) [some (.ref 20), some (.int (p1))] (by decide) rfl rfl (by first | decide | exact Nat.le_of_ble_eq_true rfl) (fun x C0 hR hl hnm => ?_)
  unfold f_X6_wayTo at hf
  refine am_b1 C0 am_YYk (pc := 0) (pc2 := 2) [(.aload_n 0, 0, 0, .null), (.iload_n 1, 0, 0, .null)] (L := [some (.ref 20), some (.int (p1))]) (st := []) (L' := [some (.ref 20), some (.int (p1))]) (st' := [.int (p1), .ref 20]) (g' := g) (w' := w) (cl := []) (by decide +kernel) rfl trivial ?_
  obtain ⟨q1, hq1, hf⟩ := Option.bind_eq_some_iff.mp hf
  refine am_callV (mi := mi_X6_comesTo) (rm := rm_X6_comesTo) [.int (p1)] C0.1 am_YYl cv_6_48 (M_X6_comesTo _ g w p1 _ hq1) (ci := 6) rfl (by decide) rfl (by rw [hR]; rfl) rfl rfl (Nat.le_of_ble_eq_true rfl) (by decide +kernel) ?_
  refine am_if_eq C0 (off := 17) (tgt := 22) (by decide +kernel) (fun hc3 => ?_) (fun hc3 => ?_)
  · rw [if_pos hc3] at hf
    refine am_b1 C0 am_YYk (pc := 22) (pc2 := 24) [(.bipush (-9), 0, 0, .int (-9))] (L := [some (.ref 20), some (.int (p1))]) (st := []) (L' := [some (.ref 20), some (.int (p1))]) (st' := [.int ((-9 : Int32))]) (g' := g) (w' := w) (cl := []) (by decide +kernel) rfl trivial ?_
    cases hf
    exact am_iret C0 (by decide +kernel)
  · rw [if_neg hc3] at hf
    obtain ⟨hg2, hf⟩ := am_g hf
    refine am_b1 C0 am_YYk (pc := 8) (pc2 := 19) [(.aload_n 0, 0, 0, .null), (.getfield 11, 6, 1, .null), (.iload_n 1, 0, 0, .null), (.laload, 0, 0, .null), (.ldc2_w 51, 0, 0, .long 10000000), (.lrem, 0, 0, .null), (.l2i, 0, 0, .null)] (L := [some (.ref 20), some (.int (p1))]) (st := []) (L' := [some (.ref 20), some (.int (p1))]) (st' := [.int (Int64.toInt32 ((w 21 (Int32.toNatClampNeg p1)) - (w 21 (Int32.toNatClampNeg p1)) / (10000000 : Int64) * (10000000 : Int64)))]) (g' := g) (w' := w) (cl := [am_in p1 6, ¬ (10000000 : Int64) = 0]) (by decide +kernel) rfl ⟨hg2, by decide, trivial⟩ ?_
    refine am_goto C0 (off := 5) (tgt := 24) (by decide +kernel) ?_
    cases hf
    exact am_iret C0 (by decide +kernel)
/-! ShutterTown$Ways.hoursTo(I)I at (20,) -/
def f_X6_hoursTo (g : am_G) (w : am_J) (p1 : Int32) : Option (Int32) :=
  (f_X6_comesTo g w p1).bind fun q1 =>
    if q1 = 0 then
      some ((-9 : Int32))
    else
      if am_in p1 6 then
        some (Int64.toInt32 ((w 21 (Int32.toNatClampNeg p1)) / (10000000 : Int64)))
      else none
set_option maxRecDepth 20000 in
theorem M_X6_hoursTo (l : Launch) (g : am_G) (w : am_J) (p1 : Int32) (R : Int32) (hf : f_X6_hoursTo g w p1 = some R) : am_Met l mi_X6_hoursTo rm_X6_hoursTo [.ref 20, .int p1] am_YY g w (some (.int R)) am_YY g w := by
  refine am_met (own := 6) [some (.ref 20), some (.int (p1))] (by decide) rfl rfl (by first | decide | exact Nat.le_of_ble_eq_true rfl) (fun x C0 hR hl hnm => ?_)
  unfold f_X6_hoursTo at hf
  refine am_b1 C0 am_YYk (pc := 0) (pc2 := 2) [(.aload_n 0, 0, 0, .null), (.iload_n 1, 0, 0, .null)] (L := [some (.ref 20), some (.int (p1))]) (st := []) (L' := [some (.ref 20), some (.int (p1))]) (st' := [.int (p1), .ref 20]) (g' := g) (w' := w) (cl := []) (by decide +kernel) rfl trivial ?_
  obtain ⟨q1, hq1, hf⟩ := Option.bind_eq_some_iff.mp hf
  refine am_callV (mi := mi_X6_comesTo) (rm := rm_X6_comesTo) [.int (p1)] C0.1 am_YYl cv_6_48 (M_X6_comesTo _ g w p1 _ hq1) (ci := 6) rfl (by decide) rfl (by rw [hR]; rfl) rfl rfl (Nat.le_of_ble_eq_true rfl) (by decide +kernel) ?_
  refine am_if_eq C0 (off := 17) (tgt := 22) (by decide +kernel) (fun hc3 => ?_) (fun hc3 => ?_)
  · rw [if_pos hc3] at hf
    refine am_b1 C0 am_YYk (pc := 22) (pc2 := 24) [(.bipush (-9), 0, 0, .int (-9))] (L := [some (.ref 20), some (.int (p1))]) (st := []) (L' := [some (.ref 20), some (.int (p1))]) (st' := [.int ((-9 : Int32))]) (g' := g) (w' := w) (cl := []) (by decide +kernel) rfl trivial ?_
    cases hf
    exact am_iret C0 (by decide +kernel)
  · rw [if_neg hc3] at hf
    obtain ⟨hg2, hf⟩ := am_g hf
    refine am_b1 C0 am_YYk (pc := 8) (pc2 := 19) [(.aload_n 0, 0, 0, .null), (.getfield 11, 6, 1, .null), (.iload_n 1, 0, 0, .null), (.laload, 0, 0, .null), (.ldc2_w 51, 0, 0, .long 10000000), (.ldiv, 0, 0, .null), (.l2i, 0, 0, .null)] (L := [some (.ref 20), some (.int (p1))]) (st := []) (L' := [some (.ref 20), some (.int (p1))]) (st' := [.int (Int64.toInt32 ((w 21 (Int32.toNatClampNeg p1)) / (10000000 : Int64)))]) (g' := g) (w' := w) (cl := [am_in p1 6, ¬ (10000000 : Int64) = 0]) (by decide +kernel) rfl ⟨hg2, by decide, trivial⟩ ?_
    refine am_goto C0 (off := 5) (tgt := 24) (by decide +kernel) ?_
    cases hf
    exact am_iret C0 (by decide +kernel)
/-! ShutterTown.soonest(IIZ)I at (0,) -/
def f_X7_soonest (F : Nat) (g : am_G) (w : am_J) (p1 : Int32) (p2 : Int32) (p3 : Int32) : Option (Int32 × am_J) :=
  (f_X7_refusalOfTwo g p1 p2).bind fun q1 =>
    if q1 = (-9 : Int32) then
      (f_X6_measure F g w p1 (0 : Int32)).bind fun q2 =>
        if p3 = 0 then
          (f_X6_hoursTo g q2 p2).bind fun q3 =>
            some (q3, q2)
        else
          (f_X6_wayTo g q2 p2).bind fun q4 =>
            some (q4, q2)
    else
      some (q1, w)
set_option maxRecDepth 20000 in
theorem M_X7_soonest (l : Launch) (F : Nat) (g : am_G) (w : am_J) (p1 : Int32) (p2 : Int32) (p3 : Int32) (R : Int32 × am_J) (hf : f_X7_soonest F g w p1 p2 p3 = some R) : am_Met l mi_X7_soonest rm_X7_soonest [.ref 0, .int p1, .int p2, .int p3] am_YY g w (some (.int R.1)) am_YY g (R.2) := by
  refine am_met (own := 7) [some (.ref 0), some (.int (p1)), some (.int (p2)), some (.int (p3)), none] (by decide) rfl rfl (by first | decide | exact Nat.le_of_ble_eq_true rfl) (fun x C0 hR hl hnm => ?_)
  unfold f_X7_soonest at hf
  refine am_b1 C0 am_YYk (pc := 0) (pc2 := 3) [(.aload_n 0, 0, 0, .null), (.iload_n 1, 0, 0, .null), (.iload_n 2, 0, 0, .null)] (L := [some (.ref 0), some (.int (p1)), some (.int (p2)), some (.int (p3)), none]) (st := []) (L' := [some (.ref 0), some (.int (p1)), some (.int (p2)), some (.int (p3)), none]) (st' := [.int (p2), .int (p1), .ref 0]) (g' := g) (w' := w) (cl := []) (by decide +kernel) rfl trivial ?_
  obtain ⟨q1, hq1, hf⟩ := Option.bind_eq_some_iff.mp hf
  refine am_callV (mi := mi_X7_refusalOfTwo) (rm := rm_X7_refusalOfTwo) [.int (p1), .int (p2)] C0.1 am_YYl cv_7_155 (M_X7_refusalOfTwo _ g w p1 p2 _ hq1) (ci := 7) rfl (by decide) rfl (by rw [hR]; rfl) rfl rfl (Nat.le_of_ble_eq_true rfl) (by decide +kernel) ?_
  refine am_b1 C0 am_YYk (pc := 6) (pc2 := 12) [(.istore 4, 0, 0, .null), (.iload 4, 0, 0, .null), (.bipush (-9), 0, 0, .int (-9))] (L := [some (.ref 0), some (.int (p1)), some (.int (p2)), some (.int (p3)), none]) (st := [.int (q1)]) (L' := [some (.ref 0), some (.int (p1)), some (.int (p2)), some (.int (p3)), some (.int (q1))]) (st' := [.int ((-9 : Int32)), .int (q1)]) (g' := g) (w' := w) (cl := []) (by decide +kernel) rfl trivial ?_
  refine am_icmp_eq C0 (off := 6) (tgt := 18) (by decide +kernel) (fun hc6 => ?_) (fun hc6 => ?_)
  · rw [if_pos hc6] at hf
    refine am_b1 C0 am_YYk (pc := 18) (pc2 := 24) [(.aload_n 0, 0, 0, .null), (.getfield 52, 7, 6, .null), (.iload_n 1, 0, 0, .null), (.iconst 0, 0, 0, .int 0)] (L := [some (.ref 0), some (.int (p1)), some (.int (p2)), some (.int (p3)), some (.int (q1))]) (st := []) (L' := [some (.ref 0), some (.int (p1)), some (.int (p2)), some (.int (p3)), some (.int (q1))]) (st' := [.int ((0 : Int32)), .int (p1), .ref 20]) (g' := g) (w' := w) (cl := []) (by decide +kernel) rfl trivial ?_
    obtain ⟨q2, hq2, hf⟩ := Option.bind_eq_some_iff.mp hf
    refine am_callV (mi := mi_X6_measure) (rm := rm_X6_measure) [.int (p1), .int ((0 : Int32))] C0.1 am_YYl cv_7_159 (M_X6_measure _ F g w p1 (0 : Int32) _ hq2) (ci := 6) rfl (by decide) rfl (by rw [hR]; rfl) rfl rfl (Nat.le_of_ble_eq_true rfl) (by decide +kernel) ?_
    refine am_b1 C0 am_YYk (pc := 27) (pc2 := 28) [(.iload_n 3, 0, 0, .null)] (L := [some (.ref 0), some (.int (p1)), some (.int (p2)), some (.int (p3)), some (.int (q1))]) (st := []) (L' := [some (.ref 0), some (.int (p1)), some (.int (p2)), some (.int (p3)), some (.int (q1))]) (st' := [.int (p3)]) (g' := g) (w' := q2) (cl := []) (by decide +kernel) rfl trivial ?_
    refine am_if_eq C0 (off := 14) (tgt := 42) (by decide +kernel) (fun hc5 => ?_) (fun hc5 => ?_)
    · rw [if_pos hc5] at hf
      refine am_b1 C0 am_YYk (pc := 42) (pc2 := 47) [(.aload_n 0, 0, 0, .null), (.getfield 52, 7, 6, .null), (.iload_n 2, 0, 0, .null)] (L := [some (.ref 0), some (.int (p1)), some (.int (p2)), some (.int (p3)), some (.int (q1))]) (st := []) (L' := [some (.ref 0), some (.int (p1)), some (.int (p2)), some (.int (p3)), some (.int (q1))]) (st' := [.int (p2), .ref 20]) (g' := g) (w' := q2) (cl := []) (by decide +kernel) rfl trivial ?_
      obtain ⟨q3, hq3, hf⟩ := Option.bind_eq_some_iff.mp hf
      refine am_callV (mi := mi_X6_hoursTo) (rm := rm_X6_hoursTo) [.int (p2)] C0.1 am_YYl cv_7_165 (M_X6_hoursTo _ g q2 p2 _ hq3) (ci := 6) rfl (by decide) rfl (by rw [hR]; rfl) rfl rfl (Nat.le_of_ble_eq_true rfl) (by decide +kernel) ?_
      cases hf
      exact am_iret C0 (by decide +kernel)
    · rw [if_neg hc5] at hf
      refine am_b1 C0 am_YYk (pc := 31) (pc2 := 36) [(.aload_n 0, 0, 0, .null), (.getfield 52, 7, 6, .null), (.iload_n 2, 0, 0, .null)] (L := [some (.ref 0), some (.int (p1)), some (.int (p2)), some (.int (p3)), some (.int (q1))]) (st := []) (L' := [some (.ref 0), some (.int (p1)), some (.int (p2)), some (.int (p3)), some (.int (q1))]) (st' := [.int (p2), .ref 20]) (g' := g) (w' := q2) (cl := []) (by decide +kernel) rfl trivial ?_
      obtain ⟨q4, hq4, hf⟩ := Option.bind_eq_some_iff.mp hf
      refine am_callV (mi := mi_X6_wayTo) (rm := rm_X6_wayTo) [.int (p2)] C0.1 am_YYl cv_7_162 (M_X6_wayTo _ g q2 p2 _ hq4) (ci := 6) rfl (by decide) rfl (by rw [hR]; rfl) rfl rfl (Nat.le_of_ble_eq_true rfl) (by decide +kernel) ?_
      refine am_goto C0 (off := 11) (tgt := 50) (by decide +kernel) ?_
      cases hf
      exact am_iret C0 (by decide +kernel)
  · rw [if_neg hc6] at hf
    refine am_b1 C0 am_YYk (pc := 15) (pc2 := 17) [(.iload 4, 0, 0, .null)] (L := [some (.ref 0), some (.int (p1)), some (.int (p2)), some (.int (p3)), some (.int (q1))]) (st := []) (L' := [some (.ref 0), some (.int (p1)), some (.int (p2)), some (.int (p3)), some (.int (q1))]) (st' := [.int (q1)]) (g' := g) (w' := w) (cl := []) (by decide +kernel) rfl trivial ?_
    cases hf
    exact am_iret C0 (by decide +kernel)
/-! ShutterTown.knows(II)I at (0,) -/
def f_X7_knows_84 (F : Nat) (g : am_G) (p1 : Int32) (p2 : Int32) (k40 : Int32 → Int32 → am_J → Option (Int32 × am_J)) (l3 : Int32) (l4 : Int32) (w : am_J) : Option (Int32 × am_J) :=
  k40 (l3) (l4 + (1 : Int32)) (w)
set_option maxRecDepth 20000 in
theorem B_X7_knows_84 (x : am_X) (C0 : am_Cm x 7 cX7_knows 5 (some .int)) (hR : am_R x = rm_X7_knows) (F : Nat) (g : am_G) (p1 : Int32) (p2 : Int32) (R : Int32 × am_J) (k40 : Int32 → Int32 → am_J → Option (Int32 × am_J)) (hk40 : ∀ (l3 : Int32) (l4 : Int32) (w : am_J), k40 l3 l4 w = some R → am_Ev x 5 (0, 0) (am_Q x (0, 0) (some (.int R.1)) am_YY g (R.2)) 40 [some (.ref 0), some (.int (p1)), some (.int (p2)), some (.int (l3)), some (.int (l4))] [] am_YY g w) (l3 : Int32) (l4 : Int32) (w : am_J) (hf : f_X7_knows_84 F g p1 p2 k40 l3 l4 w = some R) : am_Ev x 5 (0, 0) (am_Q x (0, 0) (some (.int R.1)) am_YY g (R.2)) 84 [some (.ref 0), some (.int (p1)), some (.int (p2)), some (.int (l3)), some (.int (l4))] [] am_YY g w := by
  unfold f_X7_knows_84 at hf
  refine am_b1 C0 am_YYk (pc := 84) (pc2 := 87) [(.iinc 4 1, 0, 0, .int 1)] (L := [some (.ref 0), some (.int (p1)), some (.int (p2)), some (.int (l3)), some (.int (l4))]) (st := []) (L' := [some (.ref 0), some (.int (p1)), some (.int (p2)), some (.int (l3)), some (.int (l4 + (1 : Int32)))]) (st' := []) (g' := g) (w' := w) (cl := []) (by decide +kernel) rfl trivial ?_
  refine am_goto C0 (off := (-47)) (tgt := 40) (by decide +kernel) ?_
  exact hk40 (l3) (l4 + (1 : Int32)) (w) hf
def f_X7_knows_40 (F : Nat) (g : am_G) (p1 : Int32) (p2 : Int32)  : Nat → Int32 → Int32 → am_J → Option (Int32 × am_J)
  | 0, _, _, _ => none
  | n + 1, l3, l4, w =>
    (f_X2_windows g).bind fun q1 =>
      if q1 ≤ l4 then
        some (l3, w)
      else
        (f_X6_comesTo g w l4).bind fun q2 =>
          if q2 = 0 then
            f_X7_knows_84 F g p1 p2 (fun l3 l4 w => f_X7_knows_40 F g p1 p2 n l3 l4 w) (l3) (l4) (w)
          else
            (f_X6_hoursTo g w l4).bind fun q3 =>
              if p2 < q3 then
                f_X7_knows_84 F g p1 p2 (fun l3 l4 w => f_X7_knows_40 F g p1 p2 n l3 l4 w) (l3) (l4) (w)
              else
                f_X7_knows_84 F g p1 p2 (fun l3 l4 w => f_X7_knows_40 F g p1 p2 n l3 l4 w) (l3 ||| ((1 : Int32) <<< (l4 &&& 31))) (l4) (w)
set_option maxRecDepth 20000 in
theorem B_X7_knows_40 (x : am_X) (C0 : am_Cm x 7 cX7_knows 5 (some .int)) (hR : am_R x = rm_X7_knows) (F : Nat) (g : am_G) (p1 : Int32) (p2 : Int32) (R : Int32 × am_J)   : ∀ (n : Nat) (l3 : Int32) (l4 : Int32) (w : am_J), f_X7_knows_40 F g p1 p2 n l3 l4 w = some R → am_Ev x 5 (0, 0) (am_Q x (0, 0) (some (.int R.1)) am_YY g (R.2)) 40 [some (.ref 0), some (.int (p1)), some (.int (p2)), some (.int (l3)), some (.int (l4))] [] am_YY g w := by
  intro n
  induction n with
  | zero => intro l3 l4 w hf; cases hf
  | succ n ih =>
    intro l3 l4 w hf
    rw [f_X7_knows_40.eq_2] at hf
    refine am_b1 C0 am_YYk (pc := 40) (pc2 := 46) [(.iload 4, 0, 0, .null), (.aload_n 0, 0, 0, .null), (.getfield 19, 7, 1, .null)] (L := [some (.ref 0), some (.int (p1)), some (.int (p2)), some (.int (l3)), some (.int (l4))]) (st := []) (L' := [some (.ref 0), some (.int (p1)), some (.int (p2)), some (.int (l3)), some (.int (l4))]) (st' := [.ref 3, .int (l4)]) (g' := g) (w' := w) (cl := []) (by decide +kernel) rfl trivial ?_
    obtain ⟨q1, hq1, hf⟩ := Option.bind_eq_some_iff.mp hf
    refine am_callV (mi := mi_X2_windows) (rm := rm_X2_windows) [] C0.1 am_YYl cv_7_93 (M_X2_windows _ g w _ hq1) (ci := 2) rfl (by decide) rfl (by rw [hR]; rfl) rfl rfl (Nat.le_of_ble_eq_true rfl) (by decide +kernel) ?_
    refine am_icmp_ge C0 (off := 41) (tgt := 90) (by decide +kernel) (fun hc6 => ?_) (fun hc6 => ?_)
    · rw [if_pos hc6] at hf
      refine am_b1 C0 am_YYk (pc := 90) (pc2 := 91) [(.iload_n 3, 0, 0, .null)] (L := [some (.ref 0), some (.int (p1)), some (.int (p2)), some (.int (l3)), some (.int (l4))]) (st := []) (L' := [some (.ref 0), some (.int (p1)), some (.int (p2)), some (.int (l3)), some (.int (l4))]) (st' := [.int (l3)]) (g' := g) (w' := w) (cl := []) (by decide +kernel) rfl trivial ?_
      cases hf
      exact am_iret C0 (by decide +kernel)
    · rw [if_neg hc6] at hf
      refine am_b1 C0 am_YYk (pc := 52) (pc2 := 58) [(.aload_n 0, 0, 0, .null), (.getfield 52, 7, 6, .null), (.iload 4, 0, 0, .null)] (L := [some (.ref 0), some (.int (p1)), some (.int (p2)), some (.int (l3)), some (.int (l4))]) (st := []) (L' := [some (.ref 0), some (.int (p1)), some (.int (p2)), some (.int (l3)), some (.int (l4))]) (st' := [.int (l4), .ref 20]) (g' := g) (w' := w) (cl := []) (by decide +kernel) rfl trivial ?_
      obtain ⟨q2, hq2, hf⟩ := Option.bind_eq_some_iff.mp hf
      refine am_callV (mi := mi_X6_comesTo) (rm := rm_X6_comesTo) [.int (l4)] C0.1 am_YYl cv_7_168 (M_X6_comesTo _ g w l4 _ hq2) (ci := 6) rfl (by decide) rfl (by rw [hR]; rfl) rfl rfl (Nat.le_of_ble_eq_true rfl) (by decide +kernel) ?_
      refine am_if_eq C0 (off := 23) (tgt := 84) (by decide +kernel) (fun hc5 => ?_) (fun hc5 => ?_)
      · rw [if_pos hc5] at hf
        exact B_X7_knows_84 x C0 hR F g p1 p2 R _ (fun l3 l4 w hf => ih l3 l4 w hf) (l3) (l4) (w) hf
      · rw [if_neg hc5] at hf
        refine am_b1 C0 am_YYk (pc := 64) (pc2 := 70) [(.aload_n 0, 0, 0, .null), (.getfield 52, 7, 6, .null), (.iload 4, 0, 0, .null)] (L := [some (.ref 0), some (.int (p1)), some (.int (p2)), some (.int (l3)), some (.int (l4))]) (st := []) (L' := [some (.ref 0), some (.int (p1)), some (.int (p2)), some (.int (l3)), some (.int (l4))]) (st' := [.int (l4), .ref 20]) (g' := g) (w' := w) (cl := []) (by decide +kernel) rfl trivial ?_
        obtain ⟨q3, hq3, hf⟩ := Option.bind_eq_some_iff.mp hf
        refine am_callV (mi := mi_X6_hoursTo) (rm := rm_X6_hoursTo) [.int (l4)] C0.1 am_YYl cv_7_165 (M_X6_hoursTo _ g w l4 _ hq3) (ci := 6) rfl (by decide) rfl (by rw [hR]; rfl) rfl rfl (Nat.le_of_ble_eq_true rfl) (by decide +kernel) ?_
        refine am_b1 C0 am_YYk (pc := 73) (pc2 := 74) [(.iload_n 2, 0, 0, .null)] (L := [some (.ref 0), some (.int (p1)), some (.int (p2)), some (.int (l3)), some (.int (l4))]) (st := [.int (q3)]) (L' := [some (.ref 0), some (.int (p1)), some (.int (p2)), some (.int (l3)), some (.int (l4))]) (st' := [.int (p2), .int (q3)]) (g' := g) (w' := w) (cl := []) (by decide +kernel) rfl trivial ?_
        refine am_icmp_gt C0 (off := 10) (tgt := 84) (by decide +kernel) (fun hc4 => ?_) (fun hc4 => ?_)
        · rw [if_pos hc4] at hf
          exact B_X7_knows_84 x C0 hR F g p1 p2 R _ (fun l3 l4 w hf => ih l3 l4 w hf) (l3) (l4) (w) hf
        · rw [if_neg hc4] at hf
          refine am_b1 C0 am_YYk (pc := 77) (pc2 := 84) [(.iload_n 3, 0, 0, .null), (.iconst 1, 0, 0, .int 1), (.iload 4, 0, 0, .null), (.ishl, 0, 0, .null), (.ior, 0, 0, .null), (.istore_n 3, 0, 0, .null)] (L := [some (.ref 0), some (.int (p1)), some (.int (p2)), some (.int (l3)), some (.int (l4))]) (st := []) (L' := [some (.ref 0), some (.int (p1)), some (.int (p2)), some (.int (l3 ||| ((1 : Int32) <<< (l4 &&& 31)))), some (.int (l4))]) (st' := []) (g' := g) (w' := w) (cl := []) (by decide +kernel) rfl trivial ?_
          exact B_X7_knows_84 x C0 hR F g p1 p2 R _ (fun l3 l4 w hf => ih l3 l4 w hf) (l3 ||| ((1 : Int32) <<< (l4 &&& 31))) (l4) (w) hf
def f_X7_knows (F : Nat) (g : am_G) (w : am_J) (p1 : Int32) (p2 : Int32) : Option (Int32 × am_J) :=
  (f_X2_has g p1).bind fun q7 =>
    if q7 = 0 then
      some ((-1 : Int32), w)
    else
      if p2 < 0 then
        some ((-2 : Int32), w)
      else
        if p2 ≤ (9 : Int32) then
          (f_X6_measure F g w p1 (0 : Int32)).bind fun q8 =>
            f_X7_knows_40 F g p1 p2 F ((0 : Int32)) ((0 : Int32)) (q8)
        else
          some ((-2 : Int32), w)
set_option maxRecDepth 20000 in
theorem M_X7_knows (l : Launch) (F : Nat) (g : am_G) (w : am_J) (p1 : Int32) (p2 : Int32) (R : Int32 × am_J) (hf : f_X7_knows F g w p1 p2 = some R) : am_Met l mi_X7_knows rm_X7_knows [.ref 0, .int p1, .int p2] am_YY g w (some (.int R.1)) am_YY g (R.2) := by
  refine am_met (own := 7) [some (.ref 0), some (.int (p1)), some (.int (p2)), none, none] (by decide) rfl rfl (by first | decide | exact Nat.le_of_ble_eq_true rfl) (fun x C0 hR hl hnm => ?_)
  unfold f_X7_knows at hf
  refine am_b1 C0 am_YYk (pc := 0) (pc2 := 5) [(.aload_n 0, 0, 0, .null), (.getfield 19, 7, 1, .null), (.iload_n 1, 0, 0, .null)] (L := [some (.ref 0), some (.int (p1)), some (.int (p2)), none, none]) (st := []) (L' := [some (.ref 0), some (.int (p1)), some (.int (p2)), none, none]) (st' := [.int (p1), .ref 3]) (g' := g) (w' := w) (cl := []) (by decide +kernel) rfl trivial ?_
  obtain ⟨q7, hq7, hf⟩ := Option.bind_eq_some_iff.mp hf
  refine am_callV (mi := mi_X2_has) (rm := rm_X2_has) [.int (p1)] C0.1 am_YYl cv_7_96 (M_X2_has _ g w p1 _ hq7) (ci := 2) rfl (by decide) rfl (by rw [hR]; rfl) rfl rfl (Nat.le_of_ble_eq_true rfl) (by decide +kernel) ?_
  refine am_if_ne C0 (off := 5) (tgt := 13) (by decide +kernel) (fun hc11 => ?_) (fun hc11 => ?_)
  · rw [if_neg hc11] at hf
    refine am_b1 C0 am_YYk (pc := 13) (pc2 := 14) [(.iload_n 2, 0, 0, .null)] (L := [some (.ref 0), some (.int (p1)), some (.int (p2)), none, none]) (st := []) (L' := [some (.ref 0), some (.int (p1)), some (.int (p2)), none, none]) (st' := [.int (p2)]) (g' := g) (w' := w) (cl := []) (by decide +kernel) rfl trivial ?_
    refine am_if_lt C0 (off := 9) (tgt := 23) (by decide +kernel) (fun hc10 => ?_) (fun hc10 => ?_)
    · rw [if_pos hc10] at hf
      refine am_b1 C0 am_YYk (pc := 23) (pc2 := 25) [(.bipush (-2), 0, 0, .int (-2))] (L := [some (.ref 0), some (.int (p1)), some (.int (p2)), none, none]) (st := []) (L' := [some (.ref 0), some (.int (p1)), some (.int (p2)), none, none]) (st' := [.int ((-2 : Int32))]) (g' := g) (w' := w) (cl := []) (by decide +kernel) rfl trivial ?_
      cases hf
      exact am_iret C0 (by decide +kernel)
    · rw [if_neg hc10] at hf
      refine am_b1 C0 am_YYk (pc := 17) (pc2 := 20) [(.iload_n 2, 0, 0, .null), (.bipush 9, 0, 0, .int 9)] (L := [some (.ref 0), some (.int (p1)), some (.int (p2)), none, none]) (st := []) (L' := [some (.ref 0), some (.int (p1)), some (.int (p2)), none, none]) (st' := [.int ((9 : Int32)), .int (p2)]) (g' := g) (w' := w) (cl := []) (by decide +kernel) rfl trivial ?_
      refine am_icmp_le C0 (off := 6) (tgt := 26) (by decide +kernel) (fun hc9 => ?_) (fun hc9 => ?_)
      · rw [if_pos hc9] at hf
        refine am_b1 C0 am_YYk (pc := 26) (pc2 := 32) [(.aload_n 0, 0, 0, .null), (.getfield 52, 7, 6, .null), (.iload_n 1, 0, 0, .null), (.iconst 0, 0, 0, .int 0)] (L := [some (.ref 0), some (.int (p1)), some (.int (p2)), none, none]) (st := []) (L' := [some (.ref 0), some (.int (p1)), some (.int (p2)), none, none]) (st' := [.int ((0 : Int32)), .int (p1), .ref 20]) (g' := g) (w' := w) (cl := []) (by decide +kernel) rfl trivial ?_
        obtain ⟨q8, hq8, hf⟩ := Option.bind_eq_some_iff.mp hf
        refine am_callV (mi := mi_X6_measure) (rm := rm_X6_measure) [.int (p1), .int ((0 : Int32))] C0.1 am_YYl cv_7_159 (M_X6_measure _ F g w p1 (0 : Int32) _ hq8) (ci := 6) rfl (by decide) rfl (by rw [hR]; rfl) rfl rfl (Nat.le_of_ble_eq_true rfl) (by decide +kernel) ?_
        refine am_b1 C0 am_YYk (pc := 35) (pc2 := 40) [(.iconst 0, 0, 0, .int 0), (.istore_n 3, 0, 0, .null), (.iconst 0, 0, 0, .int 0), (.istore 4, 0, 0, .null)] (L := [some (.ref 0), some (.int (p1)), some (.int (p2)), none, none]) (st := []) (L' := [some (.ref 0), some (.int (p1)), some (.int (p2)), some (.int ((0 : Int32))), some (.int ((0 : Int32)))]) (st' := []) (g' := g) (w' := q8) (cl := []) (by decide +kernel) rfl trivial ?_
        refine B_X7_knows_40 x C0 hR F g p1 p2 R   F ((0 : Int32)) ((0 : Int32)) (q8) hf
      · rw [if_neg hc9] at hf
        refine am_b1 C0 am_YYk (pc := 23) (pc2 := 25) [(.bipush (-2), 0, 0, .int (-2))] (L := [some (.ref 0), some (.int (p1)), some (.int (p2)), none, none]) (st := []) (L' := [some (.ref 0), some (.int (p1)), some (.int (p2)), none, none]) (st' := [.int ((-2 : Int32))]) (g' := g) (w' := w) (cl := []) (by decide +kernel) rfl trivial ?_
        cases hf
        exact am_iret C0 (by decide +kernel)
  · rw [if_pos hc11] at hf
    refine am_b1 C0 am_YYk (pc := 11) (pc2 := 12) [(.iconst (-1), 0, 0, .int (-1))] (L := [some (.ref 0), some (.int (p1)), some (.int (p2)), none, none]) (st := []) (L' := [some (.ref 0), some (.int (p1)), some (.int (p2)), none, none]) (st' := [.int ((-1 : Int32))]) (g' := g) (w' := w) (cl := []) (by decide +kernel) rfl trivial ?_
    cases hf
    exact am_iret C0 (by decide +kernel)
/-! ShutterTown$Houses.sets()I at (3,) -/
def f_X2_sets (g : am_G) : Option (Int32) :=
  some ((1 : Int32) <<< ((g 3 7) &&& 31))
set_option maxRecDepth 20000 in
theorem M_X2_sets (l : Launch) (g : am_G) (w : am_J)  (R : Int32) (hf : f_X2_sets g = some R) : am_Met l mi_X2_sets rm_X2_sets [.ref 3] am_YY g w (some (.int R)) am_YY g w := by
  refine am_met (own := 2) [some (.ref 3)] (by decide) rfl rfl (by first | decide | exact Nat.le_of_ble_eq_true rfl) (fun x C0 hR hl hnm => ?_)
  unfold f_X2_sets at hf
  refine am_b1 C0 am_YYk (pc := 0) (pc2 := 6) [(.iconst 1, 0, 0, .int 1), (.aload_n 0, 0, 0, .null), (.getfield 53, 2, 7, .null), (.ishl, 0, 0, .null)] (L := [some (.ref 3)]) (st := []) (L' := [some (.ref 3)]) (st' := [.int ((1 : Int32) <<< ((g 3 7) &&& 31))]) (g' := g) (w' := w) (cl := []) (by decide +kernel) rfl trivial ?_
  cases hf
  exact am_iret C0 (by decide +kernel)
/-! ShutterTown$Houses.reachedBy(I)I at (3,) -/
def f_X2_reachedBy_31 (F : Nat) (g : am_G) (p1 : Int32) (k4 : Int32 → Int32 → Option (Int32)) (l3 : Int32) (s0 : Int32) (s1 : Int32) : Option (Int32) :=
  k4 (s0 ||| s1) (l3 + (1 : Int32))
set_option maxRecDepth 20000 in
theorem B_X2_reachedBy_31 (x : am_X) (C0 : am_Cm x 2 cX2_reachedBy 4 (some .int)) (hR : am_R x = rm_X2_reachedBy) (w : am_J) (F : Nat) (g : am_G) (p1 : Int32) (R : Int32) (k4 : Int32 → Int32 → Option (Int32)) (hk4 : ∀ (l2 : Int32) (l3 : Int32), k4 l2 l3 = some R → am_Ev x 4 (0, 0) (am_Q x (0, 0) (some (.int R)) am_YY g w) 4 [some (.ref 3), some (.int (p1)), some (.int (l2)), some (.int (l3))] [] am_YY g w) (l3 : Int32) (s0 : Int32) (s1 : Int32) (hf : f_X2_reachedBy_31 F g p1 k4 l3 s0 s1 = some R) : am_Ev x 4 (0, 0) (am_Q x (0, 0) (some (.int R)) am_YY g w) 31 [some (.ref 3), some (.int (p1)), none, some (.int (l3))] [.int (s1), .int (s0)] am_YY g w := by
  unfold f_X2_reachedBy_31 at hf
  refine am_b1 C0 am_YYk (pc := 31) (pc2 := 36) [(.ior, 0, 0, .null), (.istore_n 2, 0, 0, .null), (.iinc 3 1, 0, 0, .int 1)] (L := [some (.ref 3), some (.int (p1)), none, some (.int (l3))]) (st := [.int (s1), .int (s0)]) (L' := [some (.ref 3), some (.int (p1)), some (.int (s0 ||| s1)), some (.int (l3 + (1 : Int32)))]) (st' := []) (g' := g) (w' := w) (cl := []) (by decide +kernel) rfl trivial ?_
  refine am_goto C0 (off := (-32)) (tgt := 4) (by decide +kernel) ?_
  exact hk4 (s0 ||| s1) (l3 + (1 : Int32)) hf
def f_X2_reachedBy_4 (F : Nat) (g : am_G) (p1 : Int32)  : Nat → Int32 → Int32 → Option (Int32)
  | 0, _, _ => none
  | n + 1, l2, l3 =>
    if (g 3 7) ≤ l3 then
      some (l2)
    else
      if ((p1 >>> (l3 &&& 31)) &&& (1 : Int32)) = (1 : Int32) then
        (f_X2_sees g l3).bind fun q1 =>
          f_X2_reachedBy_31 F g p1 (fun l2 l3 => f_X2_reachedBy_4 F g p1 n l2 l3) (l3) (l2) (q1)
      else
        f_X2_reachedBy_31 F g p1 (fun l2 l3 => f_X2_reachedBy_4 F g p1 n l2 l3) (l3) (l2) ((0 : Int32))
set_option maxRecDepth 20000 in
theorem B_X2_reachedBy_4 (x : am_X) (C0 : am_Cm x 2 cX2_reachedBy 4 (some .int)) (hR : am_R x = rm_X2_reachedBy) (w : am_J) (F : Nat) (g : am_G) (p1 : Int32) (R : Int32)   : ∀ (n : Nat) (l2 : Int32) (l3 : Int32), f_X2_reachedBy_4 F g p1 n l2 l3 = some R → am_Ev x 4 (0, 0) (am_Q x (0, 0) (some (.int R)) am_YY g w) 4 [some (.ref 3), some (.int (p1)), some (.int (l2)), some (.int (l3))] [] am_YY g w := by
  intro n
  induction n with
  | zero => intro l2 l3 hf; cases hf
  | succ n ih =>
    intro l2 l3 hf
    rw [f_X2_reachedBy_4.eq_2] at hf
    refine am_b1 C0 am_YYk (pc := 4) (pc2 := 9) [(.iload_n 3, 0, 0, .null), (.aload_n 0, 0, 0, .null), (.getfield 53, 2, 7, .null)] (L := [some (.ref 3), some (.int (p1)), some (.int (l2)), some (.int (l3))]) (st := []) (L' := [some (.ref 3), some (.int (p1)), some (.int (l2)), some (.int (l3))]) (st' := [.int (g 3 7), .int (l3)]) (g' := g) (w' := w) (cl := []) (by decide +kernel) rfl trivial ?_
    refine am_icmp_ge C0 (off := 30) (tgt := 39) (by decide +kernel) (fun hc3 => ?_) (fun hc3 => ?_)
    · rw [if_pos hc3] at hf
      refine am_b1 C0 am_YYk (pc := 39) (pc2 := 40) [(.iload_n 2, 0, 0, .null)] (L := [some (.ref 3), some (.int (p1)), some (.int (l2)), some (.int (l3))]) (st := []) (L' := [some (.ref 3), some (.int (p1)), some (.int (l2)), some (.int (l3))]) (st' := [.int (l2)]) (g' := g) (w' := w) (cl := []) (by decide +kernel) rfl trivial ?_
      cases hf
      exact am_iret C0 (by decide +kernel)
    · rw [if_neg hc3] at hf
      refine am_b1 C0 am_YYk (pc := 12) (pc2 := 19) [(.iload_n 2, 0, 0, .null), (.iload_n 1, 0, 0, .null), (.iload_n 3, 0, 0, .null), (.ishr, 0, 0, .null), (.iconst 1, 0, 0, .int 1), (.iand, 0, 0, .null), (.iconst 1, 0, 0, .int 1)] (L := [some (.ref 3), some (.int (p1)), some (.int (l2)), some (.int (l3))]) (st := []) (L' := [some (.ref 3), some (.int (p1)), some (.int (l2)), some (.int (l3))]) (st' := [.int ((1 : Int32)), .int ((p1 >>> (l3 &&& 31)) &&& (1 : Int32)), .int (l2)]) (g' := g) (w' := w) (cl := []) (by decide +kernel) rfl trivial ?_
      refine am_icmp_ne C0 (off := 11) (tgt := 30) (by decide +kernel) (fun hc2 => ?_) (fun hc2 => ?_)
      · rw [if_neg hc2] at hf
        refine am_b1 C0 am_YYk (pc := 30) (pc2 := 31) [(.iconst 0, 0, 0, .int 0)] (L := [some (.ref 3), some (.int (p1)), some (.int (l2)), some (.int (l3))]) (st := [.int (l2)]) (L' := [some (.ref 3), some (.int (p1)), some (.int (l2)), some (.int (l3))]) (st' := [.int ((0 : Int32)), .int (l2)]) (g' := g) (w' := w) (cl := []) (by decide +kernel) rfl trivial ?_
        refine am_wk [some (.ref 3), some (.int (p1)), none, some (.int (l3))] ⟨rfl, rfl, rfl, trivial⟩ rfl ?_
        exact B_X2_reachedBy_31 x C0 hR w F g p1 R _ (fun l2 l3 hf => ih l2 l3 hf) (l3) (l2) ((0 : Int32)) hf
      · rw [if_pos hc2] at hf
        refine am_b1 C0 am_YYk (pc := 22) (pc2 := 24) [(.aload_n 0, 0, 0, .null), (.iload_n 3, 0, 0, .null)] (L := [some (.ref 3), some (.int (p1)), some (.int (l2)), some (.int (l3))]) (st := [.int (l2)]) (L' := [some (.ref 3), some (.int (p1)), some (.int (l2)), some (.int (l3))]) (st' := [.int (l3), .ref 3, .int (l2)]) (g' := g) (w' := w) (cl := []) (by decide +kernel) rfl trivial ?_
        obtain ⟨q1, hq1, hf⟩ := Option.bind_eq_some_iff.mp hf
        refine am_callV (mi := mi_X2_sees) (rm := rm_X2_sees) [.int (l3)] C0.1 am_YYl cv_2_63 (M_X2_sees _ g w l3 _ hq1) (ci := 2) rfl (by decide) rfl (by rw [hR]; rfl) rfl rfl (Nat.le_of_ble_eq_true rfl) (by decide +kernel) ?_
        refine am_goto C0 (off := 4) (tgt := 31) (by decide +kernel) ?_
        refine am_wk [some (.ref 3), some (.int (p1)), none, some (.int (l3))] ⟨rfl, rfl, rfl, trivial⟩ rfl ?_
        exact B_X2_reachedBy_31 x C0 hR w F g p1 R _ (fun l2 l3 hf => ih l2 l3 hf) (l3) (l2) (q1) hf
def f_X2_reachedBy (F : Nat) (g : am_G) (p1 : Int32) : Option (Int32) :=
  f_X2_reachedBy_4 F g p1 F (p1) ((0 : Int32))
set_option maxRecDepth 20000 in
theorem M_X2_reachedBy (l : Launch) (F : Nat) (g : am_G) (w : am_J) (p1 : Int32) (R : Int32) (hf : f_X2_reachedBy F g p1 = some R) : am_Met l mi_X2_reachedBy rm_X2_reachedBy [.ref 3, .int p1] am_YY g w (some (.int R)) am_YY g w := by
  refine am_met (own := 2) [some (.ref 3), some (.int (p1)), none, none] (by decide) rfl rfl (by first | decide | exact Nat.le_of_ble_eq_true rfl) (fun x C0 hR hl hnm => ?_)
  unfold f_X2_reachedBy at hf
  refine am_b1 C0 am_YYk (pc := 0) (pc2 := 4) [(.iload_n 1, 0, 0, .null), (.istore_n 2, 0, 0, .null), (.iconst 0, 0, 0, .int 0), (.istore_n 3, 0, 0, .null)] (L := [some (.ref 3), some (.int (p1)), none, none]) (st := []) (L' := [some (.ref 3), some (.int (p1)), some (.int (p1)), some (.int ((0 : Int32)))]) (st' := []) (g' := g) (w' := w) (cl := []) (by decide +kernel) rfl trivial ?_
  refine B_X2_reachedBy_4 x C0 hR w F g p1 R   F (p1) ((0 : Int32)) hf
/-! java/lang/Integer.bitCount(I)I at () -/
def f_J6_bitCount_0f7a4_34   (l0 : Int32) : Option (Int32) :=
  some (((l0 + (am_ushr l0 (8 : Int32))) + (am_ushr (l0 + (am_ushr l0 (8 : Int32))) (16 : Int32))) &&& (63 : Int32))
set_option maxRecDepth 20000 in
theorem B_J6_bitCount_0f7a4_34 (x : am_X) (C0 : am_Cm x 9 cJ6_bitCount_0f7a4 1 (some .int)) (hR : am_R x = rm_J6_bitCount_0f7a4) (g : am_G) (w : am_J)  (R : Int32)   (l0 : Int32) (hf : f_J6_bitCount_0f7a4_34 l0 = some R) : am_Ev x 1 (0, 0) (am_Q x (0, 0) (some (.int R)) am_YY g w) 34 [some (.int (l0))] [] am_YY g w := by
  unfold f_J6_bitCount_0f7a4_34 at hf
  refine am_b1 C0 am_YYk (pc := 34) (pc2 := 52) [(.iload_n 0, 0, 0, .null), (.iload_n 0, 0, 0, .null), (.bipush 8, 0, 0, .int 8), (.iushr, 0, 0, .null), (.iadd, 0, 0, .null), (.istore_n 0, 0, 0, .null), (.iload_n 0, 0, 0, .null), (.iload_n 0, 0, 0, .null), (.bipush 16, 0, 0, .int 16), (.iushr, 0, 0, .null), (.iadd, 0, 0, .null), (.istore_n 0, 0, 0, .null), (.iload_n 0, 0, 0, .null), (.bipush 63, 0, 0, .int 63), (.iand, 0, 0, .null)] (L := [some (.int (l0))]) (st := []) (L' := [some (.int ((l0 + (am_ushr l0 (8 : Int32))) + (am_ushr (l0 + (am_ushr l0 (8 : Int32))) (16 : Int32))))]) (st' := [.int (((l0 + (am_ushr l0 (8 : Int32))) + (am_ushr (l0 + (am_ushr l0 (8 : Int32))) (16 : Int32))) &&& (63 : Int32))]) (g' := g) (w' := w) (cl := []) (by decide +kernel) rfl trivial ?_
  cases hf
  exact am_iret C0 (by decide +kernel)
def f_J6_bitCount_0f7a4 (p0 : Int32) : Option (Int32) :=
  f_J6_bitCount_0f7a4_34 (((((p0 - ((am_ushr p0 (1 : Int32)) &&& (1431655765 : Int32))) &&& (858993459 : Int32)) + ((am_ushr (p0 - ((am_ushr p0 (1 : Int32)) &&& (1431655765 : Int32))) (2 : Int32)) &&& (858993459 : Int32))) + (am_ushr (((p0 - ((am_ushr p0 (1 : Int32)) &&& (1431655765 : Int32))) &&& (858993459 : Int32)) + ((am_ushr (p0 - ((am_ushr p0 (1 : Int32)) &&& (1431655765 : Int32))) (2 : Int32)) &&& (858993459 : Int32))) (4 : Int32))) &&& (252645135 : Int32))
set_option maxRecDepth 20000 in
theorem M_J6_bitCount_0f7a4 (l : Launch) (g : am_G) (w : am_J) (p0 : Int32) (R : Int32) (hf : f_J6_bitCount_0f7a4 p0 = some R) : am_Met l mi_J6_bitCount_0f7a4 rm_J6_bitCount_0f7a4 [.int p0] am_YY g w (some (.int R)) am_YY g w := by
  refine am_met (own := 9) [some (.int (p0))] (by decide) rfl rfl (by first | decide | exact Nat.le_of_ble_eq_true rfl) (fun x C0 hR hl hnm => ?_)
  unfold f_J6_bitCount_0f7a4 at hf
  refine am_b1 C0 am_YYk (pc := 0) (pc2 := 34) [(.iload_n 0, 0, 0, .null), (.iload_n 0, 0, 0, .null), (.iconst 1, 0, 0, .int 1), (.iushr, 0, 0, .null), (.ldc_w 265, 0, 0, .int 1431655765), (.iand, 0, 0, .null), (.isub, 0, 0, .null), (.istore_n 0, 0, 0, .null), (.iload_n 0, 0, 0, .null), (.ldc_w 266, 0, 0, .int 858993459), (.iand, 0, 0, .null), (.iload_n 0, 0, 0, .null), (.iconst 2, 0, 0, .int 2), (.iushr, 0, 0, .null), (.ldc_w 266, 0, 0, .int 858993459), (.iand, 0, 0, .null), (.iadd, 0, 0, .null), (.istore_n 0, 0, 0, .null), (.iload_n 0, 0, 0, .null), (.iload_n 0, 0, 0, .null), (.iconst 4, 0, 0, .int 4), (.iushr, 0, 0, .null), (.iadd, 0, 0, .null), (.ldc_w 267, 0, 0, .int 252645135), (.iand, 0, 0, .null), (.istore_n 0, 0, 0, .null)] (L := [some (.int (p0))]) (st := []) (L' := [some (.int (((((p0 - ((am_ushr p0 (1 : Int32)) &&& (1431655765 : Int32))) &&& (858993459 : Int32)) + ((am_ushr (p0 - ((am_ushr p0 (1 : Int32)) &&& (1431655765 : Int32))) (2 : Int32)) &&& (858993459 : Int32))) + (am_ushr (((p0 - ((am_ushr p0 (1 : Int32)) &&& (1431655765 : Int32))) &&& (858993459 : Int32)) + ((am_ushr (p0 - ((am_ushr p0 (1 : Int32)) &&& (1431655765 : Int32))) (2 : Int32)) &&& (858993459 : Int32))) (4 : Int32))) &&& (252645135 : Int32)))]) (st' := []) (g' := g) (w' := w) (cl := []) (by decide +kernel) rfl trivial ?_
  exact B_J6_bitCount_0f7a4_34 x C0 hR g w  R  (((((p0 - ((am_ushr p0 (1 : Int32)) &&& (1431655765 : Int32))) &&& (858993459 : Int32)) + ((am_ushr (p0 - ((am_ushr p0 (1 : Int32)) &&& (1431655765 : Int32))) (2 : Int32)) &&& (858993459 : Int32))) + (am_ushr (((p0 - ((am_ushr p0 (1 : Int32)) &&& (1431655765 : Int32))) &&& (858993459 : Int32)) + ((am_ushr (p0 - ((am_ushr p0 (1 : Int32)) &&& (1431655765 : Int32))) (2 : Int32)) &&& (858993459 : Int32))) (4 : Int32))) &&& (252645135 : Int32)) hf
/-! ShutterTown.isFewer(II)Z at () -/
def f_X7_isFewer_17 (p0 : Int32) (p1 : Int32)   : Option (Int32) :=
  some ((1 : Int32))
set_option maxRecDepth 20000 in
theorem B_X7_isFewer_17 (x : am_X) (C0 : am_Cm x 7 cX7_isFewer 2 (some .boolean)) (hR : am_R x = rm_X7_isFewer) (g : am_G) (w : am_J) (p0 : Int32) (p1 : Int32) (R : Int32)    (hf : f_X7_isFewer_17 p0 p1 = some R) : am_Ev x 2 (0, 0) (am_Q x (0, 0) (some (.int R)) am_YY g w) 17 [some (.int (p0)), some (.int (p1))] [] am_YY g w := by
  unfold f_X7_isFewer_17 at hf
  refine am_b1 C0 am_YYk (pc := 17) (pc2 := 18) [(.iconst 1, 0, 0, .int 1)] (L := [some (.int (p0)), some (.int (p1))]) (st := []) (L' := [some (.int (p0)), some (.int (p1))]) (st' := [.int ((1 : Int32))]) (g' := g) (w' := w) (cl := []) (by decide +kernel) rfl trivial ?_
  refine am_goto C0 (off := 4) (tgt := 22) (by decide +kernel) ?_
  cases hf
  exact am_zret C0 (by decide +kernel) (Or.inr rfl)
def f_X7_isFewer (p0 : Int32) (p1 : Int32) : Option (Int32) :=
  if p1 = (-9 : Int32) then
    f_X7_isFewer_17 p0 p1
  else
    (f_J6_bitCount_0f7a4 p0).bind fun q1 =>
      (f_J6_bitCount_0f7a4 p1).bind fun q2 =>
        if q2 ≤ q1 then
          some ((0 : Int32))
        else
          f_X7_isFewer_17 p0 p1
set_option maxRecDepth 20000 in
theorem M_X7_isFewer (l : Launch) (g : am_G) (w : am_J) (p0 : Int32) (p1 : Int32) (R : Int32) (hf : f_X7_isFewer p0 p1 = some R) : am_Met l mi_X7_isFewer rm_X7_isFewer [.int p0, .int p1] am_YY g w (some (.int R)) am_YY g w := by
  refine am_met (own := 7) [some (.int (p0)), some (.int (p1))] (by decide) rfl rfl (by first | decide | exact Nat.le_of_ble_eq_true rfl) (fun x C0 hR hl hnm => ?_)
  unfold f_X7_isFewer at hf
  refine am_b1 C0 am_YYk (pc := 0) (pc2 := 3) [(.iload_n 1, 0, 0, .null), (.bipush (-9), 0, 0, .int (-9))] (L := [some (.int (p0)), some (.int (p1))]) (st := []) (L' := [some (.int (p0)), some (.int (p1))]) (st' := [.int ((-9 : Int32)), .int (p1)]) (g' := g) (w' := w) (cl := []) (by decide +kernel) rfl trivial ?_
  refine am_icmp_eq C0 (off := 14) (tgt := 17) (by decide +kernel) (fun hc4 => ?_) (fun hc4 => ?_)
  · rw [if_pos hc4] at hf
    exact B_X7_isFewer_17 x C0 hR g w p0 p1 R   hf
  · rw [if_neg hc4] at hf
    refine am_b1 C0 am_YYk (pc := 6) (pc2 := 7) [(.iload_n 0, 0, 0, .null)] (L := [some (.int (p0)), some (.int (p1))]) (st := []) (L' := [some (.int (p0)), some (.int (p1))]) (st' := [.int (p0)]) (g' := g) (w' := w) (cl := []) (by decide +kernel) rfl trivial ?_
    obtain ⟨q1, hq1, hf⟩ := Option.bind_eq_some_iff.mp hf
    refine am_callS (mi := mi_J6_bitCount_0f7a4) (rm := rm_J6_bitCount_0f7a4) [.int (p0)] C0.1 cv_7_265 (M_J6_bitCount_0f7a4 _ g w p0 _ hq1) (by rw [hR]; rfl) rfl rfl (Nat.le_of_ble_eq_true rfl) (by decide +kernel) ?_
    refine am_b1 C0 am_YYk (pc := 10) (pc2 := 11) [(.iload_n 1, 0, 0, .null)] (L := [some (.int (p0)), some (.int (p1))]) (st := [.int (q1)]) (L' := [some (.int (p0)), some (.int (p1))]) (st' := [.int (p1), .int (q1)]) (g' := g) (w' := w) (cl := []) (by decide +kernel) rfl trivial ?_
    obtain ⟨q2, hq2, hf⟩ := Option.bind_eq_some_iff.mp hf
    refine am_callS (mi := mi_J6_bitCount_0f7a4) (rm := rm_J6_bitCount_0f7a4) [.int (p1)] C0.1 cv_7_265 (M_J6_bitCount_0f7a4 _ g w p1 _ hq2) (by rw [hR]; rfl) rfl rfl (Nat.le_of_ble_eq_true rfl) (by decide +kernel) ?_
    refine am_icmp_ge C0 (off := 7) (tgt := 21) (by decide +kernel) (fun hc3 => ?_) (fun hc3 => ?_)
    · rw [if_pos hc3] at hf
      refine am_b1 C0 am_YYk (pc := 21) (pc2 := 22) [(.iconst 0, 0, 0, .int 0)] (L := [some (.int (p0)), some (.int (p1))]) (st := []) (L' := [some (.int (p0)), some (.int (p1))]) (st' := [.int ((0 : Int32))]) (g' := g) (w' := w) (cl := []) (by decide +kernel) rfl trivial ?_
      cases hf
      exact am_zret C0 (by decide +kernel) (Or.inl rfl)
    · rw [if_neg hc3] at hf
      exact B_X7_isFewer_17 x C0 hR g w p0 p1 R   hf
/-! ShutterTown.toTell(I)I at (0,) -/
def f_X7_toTell_56 (F : Nat) (g : am_G) (p1 : Int32) (k23 : Int32 → Int32 → Option (Int32)) (l2 : Int32) (l3 : Int32) : Option (Int32) :=
  k23 (l2) (l3 + (1 : Int32))
set_option maxRecDepth 20000 in
theorem B_X7_toTell_56 (x : am_X) (C0 : am_Cm x 7 cX7_toTell 4 (some .int)) (hR : am_R x = rm_X7_toTell) (w : am_J) (F : Nat) (g : am_G) (p1 : Int32) (R : Int32) (k23 : Int32 → Int32 → Option (Int32)) (hk23 : ∀ (l2 : Int32) (l3 : Int32), k23 l2 l3 = some R → am_Ev x 4 (0, 0) (am_Q x (0, 0) (some (.int R)) am_YY g w) 23 [some (.ref 0), some (.int (p1)), some (.int (l2)), some (.int (l3))] [] am_YY g w) (l2 : Int32) (l3 : Int32) (hf : f_X7_toTell_56 F g p1 k23 l2 l3 = some R) : am_Ev x 4 (0, 0) (am_Q x (0, 0) (some (.int R)) am_YY g w) 56 [some (.ref 0), some (.int (p1)), some (.int (l2)), some (.int (l3))] [] am_YY g w := by
  unfold f_X7_toTell_56 at hf
  refine am_b1 C0 am_YYk (pc := 56) (pc2 := 59) [(.iinc 3 1, 0, 0, .int 1)] (L := [some (.ref 0), some (.int (p1)), some (.int (l2)), some (.int (l3))]) (st := []) (L' := [some (.ref 0), some (.int (p1)), some (.int (l2)), some (.int (l3 + (1 : Int32)))]) (st' := []) (g' := g) (w' := w) (cl := []) (by decide +kernel) rfl trivial ?_
  refine am_goto C0 (off := (-36)) (tgt := 23) (by decide +kernel) ?_
  exact hk23 (l2) (l3 + (1 : Int32)) hf
def f_X7_toTell_23 (F : Nat) (g : am_G) (p1 : Int32)  : Nat → Int32 → Int32 → Option (Int32)
  | 0, _, _ => none
  | n + 1, l2, l3 =>
    (f_X2_sets g).bind fun q1 =>
      if q1 ≤ l3 then
        some (l2)
      else
        (f_X2_reachedBy F g l3).bind fun q2 =>
          if q2 = p1 then
            (f_X7_isFewer l3 l2).bind fun q3 =>
              if q3 = 0 then
                f_X7_toTell_56 F g p1 (fun l2 l3 => f_X7_toTell_23 F g p1 n l2 l3) (l2) (l3)
              else
                f_X7_toTell_56 F g p1 (fun l2 l3 => f_X7_toTell_23 F g p1 n l2 l3) (l3) (l3)
          else
            f_X7_toTell_56 F g p1 (fun l2 l3 => f_X7_toTell_23 F g p1 n l2 l3) (l2) (l3)
set_option maxRecDepth 20000 in
theorem B_X7_toTell_23 (x : am_X) (C0 : am_Cm x 7 cX7_toTell 4 (some .int)) (hR : am_R x = rm_X7_toTell) (w : am_J) (F : Nat) (g : am_G) (p1 : Int32) (R : Int32)   : ∀ (n : Nat) (l2 : Int32) (l3 : Int32), f_X7_toTell_23 F g p1 n l2 l3 = some R → am_Ev x 4 (0, 0) (am_Q x (0, 0) (some (.int R)) am_YY g w) 23 [some (.ref 0), some (.int (p1)), some (.int (l2)), some (.int (l3))] [] am_YY g w := by
  intro n
  induction n with
  | zero => intro l2 l3 hf; cases hf
  | succ n ih =>
    intro l2 l3 hf
    rw [f_X7_toTell_23.eq_2] at hf
    refine am_b1 C0 am_YYk (pc := 23) (pc2 := 28) [(.iload_n 3, 0, 0, .null), (.aload_n 0, 0, 0, .null), (.getfield 19, 7, 1, .null)] (L := [some (.ref 0), some (.int (p1)), some (.int (l2)), some (.int (l3))]) (st := []) (L' := [some (.ref 0), some (.int (p1)), some (.int (l2)), some (.int (l3))]) (st' := [.ref 3, .int (l3)]) (g' := g) (w' := w) (cl := []) (by decide +kernel) rfl trivial ?_
    obtain ⟨q1, hq1, hf⟩ := Option.bind_eq_some_iff.mp hf
    refine am_callV (mi := mi_X2_sets) (rm := rm_X2_sets) [] C0.1 am_YYl cv_7_171 (M_X2_sets _ g w _ hq1) (ci := 2) rfl (by decide) rfl (by rw [hR]; rfl) rfl rfl (Nat.le_of_ble_eq_true rfl) (by decide +kernel) ?_
    refine am_icmp_ge C0 (off := 31) (tgt := 62) (by decide +kernel) (fun hc6 => ?_) (fun hc6 => ?_)
    · rw [if_pos hc6] at hf
      refine am_b1 C0 am_YYk (pc := 62) (pc2 := 63) [(.iload_n 2, 0, 0, .null)] (L := [some (.ref 0), some (.int (p1)), some (.int (l2)), some (.int (l3))]) (st := []) (L' := [some (.ref 0), some (.int (p1)), some (.int (l2)), some (.int (l3))]) (st' := [.int (l2)]) (g' := g) (w' := w) (cl := []) (by decide +kernel) rfl trivial ?_
      cases hf
      exact am_iret C0 (by decide +kernel)
    · rw [if_neg hc6] at hf
      refine am_b1 C0 am_YYk (pc := 34) (pc2 := 39) [(.aload_n 0, 0, 0, .null), (.getfield 19, 7, 1, .null), (.iload_n 3, 0, 0, .null)] (L := [some (.ref 0), some (.int (p1)), some (.int (l2)), some (.int (l3))]) (st := []) (L' := [some (.ref 0), some (.int (p1)), some (.int (l2)), some (.int (l3))]) (st' := [.int (l3), .ref 3]) (g' := g) (w' := w) (cl := []) (by decide +kernel) rfl trivial ?_
      obtain ⟨q2, hq2, hf⟩ := Option.bind_eq_some_iff.mp hf
      refine am_callV (mi := mi_X2_reachedBy) (rm := rm_X2_reachedBy) [.int (l3)] C0.1 am_YYl cv_7_174 (M_X2_reachedBy _ F g w l3 _ hq2) (ci := 2) rfl (by decide) rfl (by rw [hR]; rfl) rfl rfl (Nat.le_of_ble_eq_true rfl) (by decide +kernel) ?_
      refine am_b1 C0 am_YYk (pc := 42) (pc2 := 43) [(.iload_n 1, 0, 0, .null)] (L := [some (.ref 0), some (.int (p1)), some (.int (l2)), some (.int (l3))]) (st := [.int (q2)]) (L' := [some (.ref 0), some (.int (p1)), some (.int (l2)), some (.int (l3))]) (st' := [.int (p1), .int (q2)]) (g' := g) (w' := w) (cl := []) (by decide +kernel) rfl trivial ?_
      refine am_icmp_ne C0 (off := 13) (tgt := 56) (by decide +kernel) (fun hc5 => ?_) (fun hc5 => ?_)
      · rw [if_neg hc5] at hf
        exact B_X7_toTell_56 x C0 hR w F g p1 R _ (fun l2 l3 hf => ih l2 l3 hf) (l2) (l3) hf
      · rw [if_pos hc5] at hf
        refine am_b1 C0 am_YYk (pc := 46) (pc2 := 48) [(.iload_n 3, 0, 0, .null), (.iload_n 2, 0, 0, .null)] (L := [some (.ref 0), some (.int (p1)), some (.int (l2)), some (.int (l3))]) (st := []) (L' := [some (.ref 0), some (.int (p1)), some (.int (l2)), some (.int (l3))]) (st' := [.int (l2), .int (l3)]) (g' := g) (w' := w) (cl := []) (by decide +kernel) rfl trivial ?_
        obtain ⟨q3, hq3, hf⟩ := Option.bind_eq_some_iff.mp hf
        refine am_callS (mi := mi_X7_isFewer) (rm := rm_X7_isFewer) [.int (l3), .int (l2)] C0.1 cv_7_177 (M_X7_isFewer _ g w l3 l2 _ hq3) (by rw [hR]; rfl) rfl rfl (Nat.le_of_ble_eq_true rfl) (by decide +kernel) ?_
        refine am_if_eq C0 (off := 5) (tgt := 56) (by decide +kernel) (fun hc4 => ?_) (fun hc4 => ?_)
        · rw [if_pos hc4] at hf
          exact B_X7_toTell_56 x C0 hR w F g p1 R _ (fun l2 l3 hf => ih l2 l3 hf) (l2) (l3) hf
        · rw [if_neg hc4] at hf
          refine am_b1 C0 am_YYk (pc := 54) (pc2 := 56) [(.iload_n 3, 0, 0, .null), (.istore_n 2, 0, 0, .null)] (L := [some (.ref 0), some (.int (p1)), some (.int (l2)), some (.int (l3))]) (st := []) (L' := [some (.ref 0), some (.int (p1)), some (.int (l3)), some (.int (l3))]) (st' := []) (g' := g) (w' := w) (cl := []) (by decide +kernel) rfl trivial ?_
          exact B_X7_toTell_56 x C0 hR w F g p1 R _ (fun l2 l3 hf => ih l2 l3 hf) (l3) (l3) hf
def f_X7_toTell (F : Nat) (g : am_G) (p1 : Int32) : Option (Int32) :=
  if p1 < 0 then
    some ((-2 : Int32))
  else
    (f_X2_sets g).bind fun q7 =>
      if p1 < q7 then
        f_X7_toTell_23 F g p1 F ((-9 : Int32)) ((0 : Int32))
      else
        some ((-2 : Int32))
set_option maxRecDepth 20000 in
theorem M_X7_toTell (l : Launch) (F : Nat) (g : am_G) (w : am_J) (p1 : Int32) (R : Int32) (hf : f_X7_toTell F g p1 = some R) : am_Met l mi_X7_toTell rm_X7_toTell [.ref 0, .int p1] am_YY g w (some (.int R)) am_YY g w := by
  refine am_met (own := 7) [some (.ref 0), some (.int (p1)), none, none] (by decide) rfl rfl (by first | decide | exact Nat.le_of_ble_eq_true rfl) (fun x C0 hR hl hnm => ?_)
  unfold f_X7_toTell at hf
  refine am_b1 C0 am_YYk (pc := 0) (pc2 := 1) [(.iload_n 1, 0, 0, .null)] (L := [some (.ref 0), some (.int (p1)), none, none]) (st := []) (L' := [some (.ref 0), some (.int (p1)), none, none]) (st' := [.int (p1)]) (g' := g) (w' := w) (cl := []) (by decide +kernel) rfl trivial ?_
  refine am_if_lt C0 (off := 14) (tgt := 15) (by decide +kernel) (fun hc9 => ?_) (fun hc9 => ?_)
  · rw [if_pos hc9] at hf
    refine am_b1 C0 am_YYk (pc := 15) (pc2 := 17) [(.bipush (-2), 0, 0, .int (-2))] (L := [some (.ref 0), some (.int (p1)), none, none]) (st := []) (L' := [some (.ref 0), some (.int (p1)), none, none]) (st' := [.int ((-2 : Int32))]) (g' := g) (w' := w) (cl := []) (by decide +kernel) rfl trivial ?_
    cases hf
    exact am_iret C0 (by decide +kernel)
  · rw [if_neg hc9] at hf
    refine am_b1 C0 am_YYk (pc := 4) (pc2 := 9) [(.iload_n 1, 0, 0, .null), (.aload_n 0, 0, 0, .null), (.getfield 19, 7, 1, .null)] (L := [some (.ref 0), some (.int (p1)), none, none]) (st := []) (L' := [some (.ref 0), some (.int (p1)), none, none]) (st' := [.ref 3, .int (p1)]) (g' := g) (w' := w) (cl := []) (by decide +kernel) rfl trivial ?_
    obtain ⟨q7, hq7, hf⟩ := Option.bind_eq_some_iff.mp hf
    refine am_callV (mi := mi_X2_sets) (rm := rm_X2_sets) [] C0.1 am_YYl cv_7_171 (M_X2_sets _ g w _ hq7) (ci := 2) rfl (by decide) rfl (by rw [hR]; rfl) rfl rfl (Nat.le_of_ble_eq_true rfl) (by decide +kernel) ?_
    refine am_icmp_lt C0 (off := 6) (tgt := 18) (by decide +kernel) (fun hc8 => ?_) (fun hc8 => ?_)
    · rw [if_pos hc8] at hf
      refine am_b1 C0 am_YYk (pc := 18) (pc2 := 23) [(.bipush (-9), 0, 0, .int (-9)), (.istore_n 2, 0, 0, .null), (.iconst 0, 0, 0, .int 0), (.istore_n 3, 0, 0, .null)] (L := [some (.ref 0), some (.int (p1)), none, none]) (st := []) (L' := [some (.ref 0), some (.int (p1)), some (.int ((-9 : Int32))), some (.int ((0 : Int32)))]) (st' := []) (g' := g) (w' := w) (cl := []) (by decide +kernel) rfl trivial ?_
      refine B_X7_toTell_23 x C0 hR w F g p1 R   F ((-9 : Int32)) ((0 : Int32)) hf
    · rw [if_neg hc8] at hf
      refine am_b1 C0 am_YYk (pc := 15) (pc2 := 17) [(.bipush (-2), 0, 0, .int (-2))] (L := [some (.ref 0), some (.int (p1)), none, none]) (st := []) (L' := [some (.ref 0), some (.int (p1)), none, none]) (st' := [.int ((-2 : Int32))]) (g' := g) (w' := w) (cl := []) (by decide +kernel) rfl trivial ?_
      cases hf
      exact am_iret C0 (by decide +kernel)
