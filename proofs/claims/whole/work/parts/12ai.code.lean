/-! ShutterTownModel.write(I)I at (26,) -/
def f_X8_write (g : am_G) (p1 : Int32) : Option (Int32 × am_G) :=
  (f_X8_in (Int32.toInt64 p1) (0 : Int64) (255 : Int64)).bind fun q1 =>
    if q1 = 0 then
      some ((-2 : Int32), g)
    else
      if (g 26 14) = (48 : Int32) then
        some ((-4 : Int32), g)
      else
        if am_in (g 26 14) 48 then
          some ((am_u (am_u g 35 (Int32.toNatClampNeg (g 26 14)) p1) 26 14 (((am_u g 35 (Int32.toNatClampNeg (g 26 14)) p1) 26 14) + (1 : Int32))) 26 14, am_u (am_u g 35 (Int32.toNatClampNeg (g 26 14)) p1) 26 14 (((am_u g 35 (Int32.toNatClampNeg (g 26 14)) p1) 26 14) + (1 : Int32)))
        else none
set_option maxRecDepth 20000 in
theorem M_X8_write (l : Launch) (g : am_G) (w : am_J) (p1 : Int32) (R : Int32 × am_G) (hf : f_X8_write g p1 = some R) : am_Met l mi_X8_write rm_X8_write [.ref 26, .int p1] am_YY g w (some (.int R.1)) am_YY (R.2) w := by
  refine am_met (own := 8) [some (.ref 26), some (.int (p1))] (by decide) rfl rfl (by first | decide | exact Nat.le_of_ble_eq_true rfl) (fun x C0 hR hl hnm => ?_)
  unfold f_X8_write at hf
  refine am_b1 C0 am_YYk (pc := 0) (pc2 := 6) [(.iload_n 1, 0, 0, .null), (.i2l, 0, 0, .null), (.lconst 0, 0, 0, .long 0), (.ldc2_w 63, 0, 0, .long 255)] (L := [some (.ref 26), some (.int (p1))]) (st := []) (L' := [some (.ref 26), some (.int (p1))]) (st' := [.long ((255 : Int64)), .long ((0 : Int64)), .long (Int32.toInt64 p1)]) (g' := g) (w' := w) (cl := []) (by decide +kernel) rfl trivial ?_
  obtain ⟨q1, hq1, hf⟩ := Option.bind_eq_some_iff.mp hf
  refine am_callS (mi := mi_X8_in) (rm := rm_X8_in) [.long (Int32.toInt64 p1), .long ((0 : Int64)), .long ((255 : Int64))] C0.1 cv_8_65 (M_X8_in _ g w (Int32.toInt64 p1) (0 : Int64) (255 : Int64) _ hq1) (by rw [hR]; rfl) rfl rfl (Nat.le_of_ble_eq_true rfl) (by decide +kernel) ?_
  refine am_if_ne C0 (off := 6) (tgt := 15) (by decide +kernel) (fun hc4 => ?_) (fun hc4 => ?_)
  · rw [if_neg hc4] at hf
    refine am_b1 C0 am_YYk (pc := 15) (pc2 := 21) [(.aload_n 0, 0, 0, .null), (.getfield 69, 8, 14, .null), (.bipush 48, 0, 0, .int 48)] (L := [some (.ref 26), some (.int (p1))]) (st := []) (L' := [some (.ref 26), some (.int (p1))]) (st' := [.int ((48 : Int32)), .int (g 26 14)]) (g' := g) (w' := w) (cl := []) (by decide +kernel) rfl trivial ?_
    refine am_icmp_ne C0 (off := 6) (tgt := 27) (by decide +kernel) (fun hc3 => ?_) (fun hc3 => ?_)
    · rw [if_neg hc3] at hf
      obtain ⟨hg2, hf⟩ := am_g hf
      refine am_b1 C0 am_YYk (pc := 27) (pc2 := 51) [(.aload_n 0, 0, 0, .null), (.getfield 34, 8, 13, .null), (.aload_n 0, 0, 0, .null), (.getfield 69, 8, 14, .null), (.iload_n 1, 0, 0, .null), (.iastore, 0, 0, .null), (.aload_n 0, 0, 0, .null), (.dup, 0, 0, .null), (.getfield 69, 8, 14, .null), (.iconst 1, 0, 0, .int 1), (.iadd, 0, 0, .null), (.putfield 69, 8, 14, .null), (.aload_n 0, 0, 0, .null), (.getfield 69, 8, 14, .null)] (L := [some (.ref 26), some (.int (p1))]) (st := []) (L' := [some (.ref 26), some (.int (p1))]) (st' := [.int ((am_u (am_u g 35 (Int32.toNatClampNeg (g 26 14)) p1) 26 14 (((am_u g 35 (Int32.toNatClampNeg (g 26 14)) p1) 26 14) + (1 : Int32))) 26 14)]) (g' := am_u (am_u g 35 (Int32.toNatClampNeg (g 26 14)) p1) 26 14 (((am_u g 35 (Int32.toNatClampNeg (g 26 14)) p1) 26 14) + (1 : Int32))) (w' := w) (cl := [am_in (g 26 14) 48]) (by decide +kernel) rfl ⟨hg2, trivial⟩ ?_
      cases hf
      exact am_iret C0 (by decide +kernel)
    · rw [if_pos hc3] at hf
      refine am_b1 C0 am_YYk (pc := 24) (pc2 := 26) [(.bipush (-4), 0, 0, .int (-4))] (L := [some (.ref 26), some (.int (p1))]) (st := []) (L' := [some (.ref 26), some (.int (p1))]) (st' := [.int ((-4 : Int32))]) (g' := g) (w' := w) (cl := []) (by decide +kernel) rfl trivial ?_
      cases hf
      exact am_iret C0 (by decide +kernel)
  · rw [if_pos hc4] at hf
    refine am_b1 C0 am_YYk (pc := 12) (pc2 := 14) [(.bipush (-2), 0, 0, .int (-2))] (L := [some (.ref 26), some (.int (p1))]) (st := []) (L' := [some (.ref 26), some (.int (p1))]) (st' := [.int ((-2 : Int32))]) (g' := g) (w' := w) (cl := []) (by decide +kernel) rfl trivial ?_
    cases hf
    exact am_iret C0 (by decide +kernel)
/-! ShutterTownModel.wipe()I at (26,) -/
def f_X8_wipe (g : am_G) : Option (Int32 × am_G) :=
  some (g 26 14, am_u g 26 14 (0 : Int32))
set_option maxRecDepth 20000 in
theorem M_X8_wipe (l : Launch) (g : am_G) (w : am_J)  (R : Int32 × am_G) (hf : f_X8_wipe g = some R) : am_Met l mi_X8_wipe rm_X8_wipe [.ref 26] am_YY g w (some (.int R.1)) am_YY (R.2) w := by
  refine am_met (own := 8) [some (.ref 26), none] (by decide) rfl rfl (by first | decide | exact Nat.le_of_ble_eq_true rfl) (fun x C0 hR hl hnm => ?_)
  unfold f_X8_wipe at hf
  refine am_b1 C0 am_YYk (pc := 0) (pc2 := 11) [(.aload_n 0, 0, 0, .null), (.getfield 69, 8, 14, .null), (.istore_n 1, 0, 0, .null), (.aload_n 0, 0, 0, .null), (.iconst 0, 0, 0, .int 0), (.putfield 69, 8, 14, .null), (.iload_n 1, 0, 0, .null)] (L := [some (.ref 26), none]) (st := []) (L' := [some (.ref 26), some (.int (g 26 14))]) (st' := [.int (g 26 14)]) (g' := am_u g 26 14 (0 : Int32)) (w' := w) (cl := []) (by decide +kernel) rfl trivial ?_
  cases hf
  exact am_iret C0 (by decide +kernel)
/-! ShutterTownModel.figure(II)I at (26,) -/
def f_X8_figure_37 (p1 : Int32) (p2 : Int32)  (s0 : Int32) (g : am_G) : Option (Int32 × am_G) :=
  (f_X8_in (Int32.toInt64 s0) (Int32.toInt64 p1) (Int32.toInt64 p2)).bind fun q1 =>
    if q1 = 0 then
      if (g 26 16) = (-9 : Int32) then
        some (p1, am_u g 26 16 (g 26 15))
      else
        some (p1, am_u g 26 16 (g 26 16))
    else
      some (s0, am_u g 26 15 ((g 26 15) + (1 : Int32)))
set_option maxRecDepth 20000 in
theorem B_X8_figure_37 (x : am_X) (C0 : am_Cm x 8 cX8_figure 4 (some .int)) (hR : am_R x = rm_X8_figure) (w : am_J) (p1 : Int32) (p2 : Int32) (R : Int32 × am_G)   (s0 : Int32) (g : am_G) (hf : f_X8_figure_37 p1 p2 s0 g = some R) : am_Ev x 4 (0, 0) (am_Q x (0, 0) (some (.int R.1)) am_YY (R.2) w) 37 [some (.ref 26), some (.int (p1)), some (.int (p2)), none] [.int (s0)] am_YY g w := by
  unfold f_X8_figure_37 at hf
  refine am_b1 C0 am_YYk (pc := 37) (pc2 := 44) [(.istore_n 3, 0, 0, .null), (.iload_n 3, 0, 0, .null), (.i2l, 0, 0, .null), (.iload_n 1, 0, 0, .null), (.i2l, 0, 0, .null), (.iload_n 2, 0, 0, .null), (.i2l, 0, 0, .null)] (L := [some (.ref 26), some (.int (p1)), some (.int (p2)), none]) (st := [.int (s0)]) (L' := [some (.ref 26), some (.int (p1)), some (.int (p2)), some (.int (s0))]) (st' := [.long (Int32.toInt64 p2), .long (Int32.toInt64 p1), .long (Int32.toInt64 s0)]) (g' := g) (w' := w) (cl := []) (by decide +kernel) rfl trivial ?_
  obtain ⟨q1, hq1, hf⟩ := Option.bind_eq_some_iff.mp hf
  refine am_callS (mi := mi_X8_in) (rm := rm_X8_in) [.long (Int32.toInt64 s0), .long (Int32.toInt64 p1), .long (Int32.toInt64 p2)] C0.1 cv_8_65 (M_X8_in _ g w (Int32.toInt64 s0) (Int32.toInt64 p1) (Int32.toInt64 p2) _ hq1) (by rw [hR]; rfl) rfl rfl (Nat.le_of_ble_eq_true rfl) (by decide +kernel) ?_
  refine am_if_ne C0 (off := 29) (tgt := 76) (by decide +kernel) (fun hc3 => ?_) (fun hc3 => ?_)
  · rw [if_neg hc3] at hf
    refine am_b1 C0 am_YYk (pc := 76) (pc2 := 87) [(.aload_n 0, 0, 0, .null), (.dup, 0, 0, .null), (.getfield 75, 8, 15, .null), (.iconst 1, 0, 0, .int 1), (.iadd, 0, 0, .null), (.putfield 75, 8, 15, .null), (.iload_n 3, 0, 0, .null)] (L := [some (.ref 26), some (.int (p1)), some (.int (p2)), some (.int (s0))]) (st := []) (L' := [some (.ref 26), some (.int (p1)), some (.int (p2)), some (.int (s0))]) (st' := [.int (s0)]) (g' := am_u g 26 15 ((g 26 15) + (1 : Int32))) (w' := w) (cl := []) (by decide +kernel) rfl trivial ?_
    cases hf
    exact am_iret C0 (by decide +kernel)
  · rw [if_pos hc3] at hf
    refine am_b1 C0 am_YYk (pc := 50) (pc2 := 57) [(.aload_n 0, 0, 0, .null), (.aload_n 0, 0, 0, .null), (.getfield 72, 8, 16, .null), (.bipush (-9), 0, 0, .int (-9))] (L := [some (.ref 26), some (.int (p1)), some (.int (p2)), some (.int (s0))]) (st := []) (L' := [some (.ref 26), some (.int (p1)), some (.int (p2)), some (.int (s0))]) (st' := [.int ((-9 : Int32)), .int (g 26 16), .ref 26]) (g' := g) (w' := w) (cl := []) (by decide +kernel) rfl trivial ?_
    refine am_icmp_ne C0 (off := 10) (tgt := 67) (by decide +kernel) (fun hc2 => ?_) (fun hc2 => ?_)
    · rw [if_neg hc2] at hf
      refine am_b1 C0 am_YYk (pc := 67) (pc2 := 75) [(.aload_n 0, 0, 0, .null), (.getfield 72, 8, 16, .null), (.putfield 72, 8, 16, .null), (.iload_n 1, 0, 0, .null)] (L := [some (.ref 26), some (.int (p1)), some (.int (p2)), some (.int (s0))]) (st := [.ref 26]) (L' := [some (.ref 26), some (.int (p1)), some (.int (p2)), some (.int (s0))]) (st' := [.int (p1)]) (g' := am_u g 26 16 (g 26 16)) (w' := w) (cl := []) (by decide +kernel) rfl trivial ?_
      cases hf
      exact am_iret C0 (by decide +kernel)
    · rw [if_pos hc2] at hf
      refine am_b1 C0 am_YYk (pc := 60) (pc2 := 64) [(.aload_n 0, 0, 0, .null), (.getfield 75, 8, 15, .null)] (L := [some (.ref 26), some (.int (p1)), some (.int (p2)), some (.int (s0))]) (st := [.ref 26]) (L' := [some (.ref 26), some (.int (p1)), some (.int (p2)), some (.int (s0))]) (st' := [.int (g 26 15), .ref 26]) (g' := g) (w' := w) (cl := []) (by decide +kernel) rfl trivial ?_
      refine am_goto C0 (off := 7) (tgt := 71) (by decide +kernel) ?_
      refine am_b1 C0 am_YYk (pc := 71) (pc2 := 75) [(.putfield 72, 8, 16, .null), (.iload_n 1, 0, 0, .null)] (L := [some (.ref 26), some (.int (p1)), some (.int (p2)), some (.int (s0))]) (st := [.int (g 26 15), .ref 26]) (L' := [some (.ref 26), some (.int (p1)), some (.int (p2)), some (.int (s0))]) (st' := [.int (p1)]) (g' := am_u g 26 16 (g 26 15)) (w' := w) (cl := []) (by decide +kernel) rfl trivial ?_
      cases hf
      exact am_iret C0 (by decide +kernel)
def f_X8_figure_35 (p1 : Int32) (p2 : Int32)  (g : am_G) : Option (Int32 × am_G) :=
  f_X8_figure_37 p1 p2 ((-9 : Int32)) (g)
set_option maxRecDepth 20000 in
theorem B_X8_figure_35 (x : am_X) (C0 : am_Cm x 8 cX8_figure 4 (some .int)) (hR : am_R x = rm_X8_figure) (w : am_J) (p1 : Int32) (p2 : Int32) (R : Int32 × am_G)   (g : am_G) (hf : f_X8_figure_35 p1 p2 g = some R) : am_Ev x 4 (0, 0) (am_Q x (0, 0) (some (.int R.1)) am_YY (R.2) w) 35 [some (.ref 26), some (.int (p1)), some (.int (p2)), none] [] am_YY g w := by
  unfold f_X8_figure_35 at hf
  refine am_b1 C0 am_YYk (pc := 35) (pc2 := 37) [(.bipush (-9), 0, 0, .int (-9))] (L := [some (.ref 26), some (.int (p1)), some (.int (p2)), none]) (st := []) (L' := [some (.ref 26), some (.int (p1)), some (.int (p2)), none]) (st' := [.int ((-9 : Int32))]) (g' := g) (w' := w) (cl := []) (by decide +kernel) rfl trivial ?_
  exact B_X8_figure_37 x C0 hR w p1 p2 R  ((-9 : Int32)) (g) hf
def f_X8_figure (g : am_G) (p1 : Int32) (p2 : Int32) : Option (Int32 × am_G) :=
  if (g 26 16) = (-9 : Int32) then
    if (g 26 14) ≤ (g 26 15) then
      f_X8_figure_35 p1 p2 (g)
    else
      if am_in (g 26 15) 48 then
        f_X8_figure_37 p1 p2 ((g 35 (Int32.toNatClampNeg (g 26 15))) - (48 : Int32)) (g)
      else none
  else
    f_X8_figure_35 p1 p2 (g)
set_option maxRecDepth 20000 in
theorem M_X8_figure (l : Launch) (g : am_G) (w : am_J) (p1 : Int32) (p2 : Int32) (R : Int32 × am_G) (hf : f_X8_figure g p1 p2 = some R) : am_Met l mi_X8_figure rm_X8_figure [.ref 26, .int p1, .int p2] am_YY g w (some (.int R.1)) am_YY (R.2) w := by
  refine am_met (own := 8) [some (.ref 26), some (.int (p1)), some (.int (p2)), none] (by decide) rfl rfl (by first | decide | exact Nat.le_of_ble_eq_true rfl) (fun x C0 hR hl hnm => ?_)
  unfold f_X8_figure at hf
  refine am_b1 C0 am_YYk (pc := 0) (pc2 := 6) [(.aload_n 0, 0, 0, .null), (.getfield 72, 8, 16, .null), (.bipush (-9), 0, 0, .int (-9))] (L := [some (.ref 26), some (.int (p1)), some (.int (p2)), none]) (st := []) (L' := [some (.ref 26), some (.int (p1)), some (.int (p2)), none]) (st' := [.int ((-9 : Int32)), .int (g 26 16)]) (g' := g) (w' := w) (cl := []) (by decide +kernel) rfl trivial ?_
  refine am_icmp_ne C0 (off := 29) (tgt := 35) (by decide +kernel) (fun hc6 => ?_) (fun hc6 => ?_)
  · rw [if_neg hc6] at hf
    exact B_X8_figure_35 x C0 hR w p1 p2 R  (g) hf
  · rw [if_pos hc6] at hf
    refine am_b1 C0 am_YYk (pc := 9) (pc2 := 17) [(.aload_n 0, 0, 0, .null), (.getfield 75, 8, 15, .null), (.aload_n 0, 0, 0, .null), (.getfield 69, 8, 14, .null)] (L := [some (.ref 26), some (.int (p1)), some (.int (p2)), none]) (st := []) (L' := [some (.ref 26), some (.int (p1)), some (.int (p2)), none]) (st' := [.int (g 26 14), .int (g 26 15)]) (g' := g) (w' := w) (cl := []) (by decide +kernel) rfl trivial ?_
    refine am_icmp_ge C0 (off := 18) (tgt := 35) (by decide +kernel) (fun hc5 => ?_) (fun hc5 => ?_)
    · rw [if_pos hc5] at hf
      exact B_X8_figure_35 x C0 hR w p1 p2 R  (g) hf
    · rw [if_neg hc5] at hf
      obtain ⟨hg4, hf⟩ := am_g hf
      refine am_b1 C0 am_YYk (pc := 20) (pc2 := 32) [(.aload_n 0, 0, 0, .null), (.getfield 34, 8, 13, .null), (.aload_n 0, 0, 0, .null), (.getfield 75, 8, 15, .null), (.iaload, 0, 0, .null), (.bipush 48, 0, 0, .int 48), (.isub, 0, 0, .null)] (L := [some (.ref 26), some (.int (p1)), some (.int (p2)), none]) (st := []) (L' := [some (.ref 26), some (.int (p1)), some (.int (p2)), none]) (st' := [.int ((g 35 (Int32.toNatClampNeg (g 26 15))) - (48 : Int32))]) (g' := g) (w' := w) (cl := [am_in (g 26 15) 48]) (by decide +kernel) rfl ⟨hg4, trivial⟩ ?_
      refine am_goto C0 (off := 5) (tgt := 37) (by decide +kernel) ?_
      exact B_X8_figure_37 x C0 hR w p1 p2 R  ((g 35 (Int32.toNatClampNeg (g 26 15))) - (48 : Int32)) (g) hf
/-! ShutterTownModel.placesLeft()I at (26,) -/
def f_X8_placesLeft_32 (F : Nat) (g : am_G) (k4 : Int32 → Int32 → Option (Int32)) (l2 : Int32) (s0 : Int32) (s1 : Int32) : Option (Int32) :=
  k4 (s0 ||| s1) (l2 + (1 : Int32))
set_option maxRecDepth 20000 in
theorem B_X8_placesLeft_32 (x : am_X) (C0 : am_Cm x 8 cX8_placesLeft 3 (some .int)) (hR : am_R x = rm_X8_placesLeft) (w : am_J) (F : Nat) (g : am_G) (R : Int32) (k4 : Int32 → Int32 → Option (Int32)) (hk4 : ∀ (l1 : Int32) (l2 : Int32), k4 l1 l2 = some R → am_Ev x 3 (0, 0) (am_Q x (0, 0) (some (.int R)) am_YY g w) 4 [some (.ref 26), some (.int (l1)), some (.int (l2))] [] am_YY g w) (l2 : Int32) (s0 : Int32) (s1 : Int32) (hf : f_X8_placesLeft_32 F g k4 l2 s0 s1 = some R) : am_Ev x 3 (0, 0) (am_Q x (0, 0) (some (.int R)) am_YY g w) 32 [some (.ref 26), none, some (.int (l2))] [.int (s1), .int (s0)] am_YY g w := by
  unfold f_X8_placesLeft_32 at hf
  refine am_b1 C0 am_YYk (pc := 32) (pc2 := 37) [(.ior, 0, 0, .null), (.istore_n 1, 0, 0, .null), (.iinc 2 1, 0, 0, .int 1)] (L := [some (.ref 26), none, some (.int (l2))]) (st := [.int (s1), .int (s0)]) (L' := [some (.ref 26), some (.int (s0 ||| s1)), some (.int (l2 + (1 : Int32)))]) (st' := []) (g' := g) (w' := w) (cl := []) (by decide +kernel) rfl trivial ?_
  refine am_goto C0 (off := (-33)) (tgt := 4) (by decide +kernel) ?_
  exact hk4 (s0 ||| s1) (l2 + (1 : Int32)) hf
def f_X8_placesLeft_4 (F : Nat) (g : am_G)  : Nat → Int32 → Int32 → Option (Int32)
  | 0, _, _ => none
  | n + 1, l1, l2 =>
    if (10 : Int32) ≤ l2 then
      some (l1)
    else
      if (((g 26 12) >>> (((2 : Int32) * l2) &&& 31)) &&& (3 : Int32)) = (3 : Int32) then
        f_X8_placesLeft_32 F g (fun l1 l2 => f_X8_placesLeft_4 F g n l1 l2) (l2) (l1) ((0 : Int32))
      else
        f_X8_placesLeft_32 F g (fun l1 l2 => f_X8_placesLeft_4 F g n l1 l2) (l2) (l1) ((1 : Int32) <<< (l2 &&& 31))
set_option maxRecDepth 20000 in
theorem B_X8_placesLeft_4 (x : am_X) (C0 : am_Cm x 8 cX8_placesLeft 3 (some .int)) (hR : am_R x = rm_X8_placesLeft) (w : am_J) (F : Nat) (g : am_G) (R : Int32)   : ∀ (n : Nat) (l1 : Int32) (l2 : Int32), f_X8_placesLeft_4 F g n l1 l2 = some R → am_Ev x 3 (0, 0) (am_Q x (0, 0) (some (.int R)) am_YY g w) 4 [some (.ref 26), some (.int (l1)), some (.int (l2))] [] am_YY g w := by
  intro n
  induction n with
  | zero => intro l1 l2 hf; cases hf
  | succ n ih =>
    intro l1 l2 hf
    rw [f_X8_placesLeft_4.eq_2] at hf
    refine am_b1 C0 am_YYk (pc := 4) (pc2 := 7) [(.iload_n 2, 0, 0, .null), (.bipush 10, 0, 0, .int 10)] (L := [some (.ref 26), some (.int (l1)), some (.int (l2))]) (st := []) (L' := [some (.ref 26), some (.int (l1)), some (.int (l2))]) (st' := [.int ((10 : Int32)), .int (l2)]) (g' := g) (w' := w) (cl := []) (by decide +kernel) rfl trivial ?_
    refine am_icmp_ge C0 (off := 33) (tgt := 40) (by decide +kernel) (fun hc2 => ?_) (fun hc2 => ?_)
    · rw [if_pos hc2] at hf
      refine am_b1 C0 am_YYk (pc := 40) (pc2 := 41) [(.iload_n 1, 0, 0, .null)] (L := [some (.ref 26), some (.int (l1)), some (.int (l2))]) (st := []) (L' := [some (.ref 26), some (.int (l1)), some (.int (l2))]) (st' := [.int (l1)]) (g' := g) (w' := w) (cl := []) (by decide +kernel) rfl trivial ?_
      cases hf
      exact am_iret C0 (by decide +kernel)
    · rw [if_neg hc2] at hf
      refine am_b1 C0 am_YYk (pc := 10) (pc2 := 22) [(.iload_n 1, 0, 0, .null), (.aload_n 0, 0, 0, .null), (.getfield 87, 8, 12, .null), (.iconst 2, 0, 0, .int 2), (.iload_n 2, 0, 0, .null), (.imul, 0, 0, .null), (.ishr, 0, 0, .null), (.iconst 3, 0, 0, .int 3), (.iand, 0, 0, .null), (.iconst 3, 0, 0, .int 3)] (L := [some (.ref 26), some (.int (l1)), some (.int (l2))]) (st := []) (L' := [some (.ref 26), some (.int (l1)), some (.int (l2))]) (st' := [.int ((3 : Int32)), .int (((g 26 12) >>> (((2 : Int32) * l2) &&& 31)) &&& (3 : Int32)), .int (l1)]) (g' := g) (w' := w) (cl := []) (by decide +kernel) rfl trivial ?_
      refine am_icmp_eq C0 (off := 9) (tgt := 31) (by decide +kernel) (fun hc1 => ?_) (fun hc1 => ?_)
      · rw [if_pos hc1] at hf
        refine am_b1 C0 am_YYk (pc := 31) (pc2 := 32) [(.iconst 0, 0, 0, .int 0)] (L := [some (.ref 26), some (.int (l1)), some (.int (l2))]) (st := [.int (l1)]) (L' := [some (.ref 26), some (.int (l1)), some (.int (l2))]) (st' := [.int ((0 : Int32)), .int (l1)]) (g' := g) (w' := w) (cl := []) (by decide +kernel) rfl trivial ?_
        refine am_wk [some (.ref 26), none, some (.int (l2))] ⟨rfl, rfl, trivial⟩ rfl ?_
        exact B_X8_placesLeft_32 x C0 hR w F g R _ (fun l1 l2 hf => ih l1 l2 hf) (l2) (l1) ((0 : Int32)) hf
      · rw [if_neg hc1] at hf
        refine am_b1 C0 am_YYk (pc := 25) (pc2 := 28) [(.iconst 1, 0, 0, .int 1), (.iload_n 2, 0, 0, .null), (.ishl, 0, 0, .null)] (L := [some (.ref 26), some (.int (l1)), some (.int (l2))]) (st := [.int (l1)]) (L' := [some (.ref 26), some (.int (l1)), some (.int (l2))]) (st' := [.int ((1 : Int32) <<< (l2 &&& 31)), .int (l1)]) (g' := g) (w' := w) (cl := []) (by decide +kernel) rfl trivial ?_
        refine am_goto C0 (off := 4) (tgt := 32) (by decide +kernel) ?_
        refine am_wk [some (.ref 26), none, some (.int (l2))] ⟨rfl, rfl, trivial⟩ rfl ?_
        exact B_X8_placesLeft_32 x C0 hR w F g R _ (fun l1 l2 hf => ih l1 l2 hf) (l2) (l1) ((1 : Int32) <<< (l2 &&& 31)) hf
def f_X8_placesLeft (F : Nat) (g : am_G) : Option (Int32) :=
  f_X8_placesLeft_4 F g F ((0 : Int32)) ((0 : Int32))
set_option maxRecDepth 20000 in
theorem M_X8_placesLeft (l : Launch) (F : Nat) (g : am_G) (w : am_J)  (R : Int32) (hf : f_X8_placesLeft F g = some R) : am_Met l mi_X8_placesLeft rm_X8_placesLeft [.ref 26] am_YY g w (some (.int R)) am_YY g w := by
  refine am_met (own := 8) [some (.ref 26), none, none] (by decide) rfl rfl (by first | decide | exact Nat.le_of_ble_eq_true rfl) (fun x C0 hR hl hnm => ?_)
  unfold f_X8_placesLeft at hf
  refine am_b1 C0 am_YYk (pc := 0) (pc2 := 4) [(.iconst 0, 0, 0, .int 0), (.istore_n 1, 0, 0, .null), (.iconst 0, 0, 0, .int 0), (.istore_n 2, 0, 0, .null)] (L := [some (.ref 26), none, none]) (st := []) (L' := [some (.ref 26), some (.int ((0 : Int32))), some (.int ((0 : Int32)))]) (st' := []) (g' := g) (w' := w) (cl := []) (by decide +kernel) rfl trivial ?_
  refine B_X8_placesLeft_4 x C0 hR w F g R   F ((0 : Int32)) ((0 : Int32)) hf
/-! ShutterTownModel.has(II)Z at () -/
def f_X8_has (p0 : Int32) (p1 : Int32) : Option (Int32) :=
  if ((p0 >>> (p1 &&& 31)) &&& (1 : Int32)) = (1 : Int32) then
    some ((1 : Int32))
  else
    some ((0 : Int32))
set_option maxRecDepth 20000 in
theorem M_X8_has (l : Launch) (g : am_G) (w : am_J) (p0 : Int32) (p1 : Int32) (R : Int32) (hf : f_X8_has p0 p1 = some R) : am_Met l mi_X8_has rm_X8_has [.int p0, .int p1] am_YY g w (some (.int R)) am_YY g w := by
  refine am_met (own := 8) [some (.int (p0)), some (.int (p1))] (by decide) rfl rfl (by first | decide | exact Nat.le_of_ble_eq_true rfl) (fun x C0 hR hl hnm => ?_)
  unfold f_X8_has at hf
  refine am_b1 C0 am_YYk (pc := 0) (pc2 := 6) [(.iload_n 0, 0, 0, .null), (.iload_n 1, 0, 0, .null), (.ishr, 0, 0, .null), (.iconst 1, 0, 0, .int 1), (.iand, 0, 0, .null), (.iconst 1, 0, 0, .int 1)] (L := [some (.int (p0)), some (.int (p1))]) (st := []) (L' := [some (.int (p0)), some (.int (p1))]) (st' := [.int ((1 : Int32)), .int ((p0 >>> (p1 &&& 31)) &&& (1 : Int32))]) (g' := g) (w' := w) (cl := []) (by decide +kernel) rfl trivial ?_
  refine am_icmp_ne C0 (off := 7) (tgt := 13) (by decide +kernel) (fun hc1 => ?_) (fun hc1 => ?_)
  · rw [if_neg hc1] at hf
    refine am_b1 C0 am_YYk (pc := 13) (pc2 := 14) [(.iconst 0, 0, 0, .int 0)] (L := [some (.int (p0)), some (.int (p1))]) (st := []) (L' := [some (.int (p0)), some (.int (p1))]) (st' := [.int ((0 : Int32))]) (g' := g) (w' := w) (cl := []) (by decide +kernel) rfl trivial ?_
    cases hf
    exact am_zret C0 (by decide +kernel) (Or.inl rfl)
  · rw [if_pos hc1] at hf
    refine am_b1 C0 am_YYk (pc := 9) (pc2 := 10) [(.iconst 1, 0, 0, .int 1)] (L := [some (.int (p0)), some (.int (p1))]) (st := []) (L' := [some (.int (p0)), some (.int (p1))]) (st' := [.int ((1 : Int32))]) (g' := g) (w' := w) (cl := []) (by decide +kernel) rfl trivial ?_
    refine am_goto C0 (off := 4) (tgt := 14) (by decide +kernel) ?_
    cases hf
    exact am_zret C0 (by decide +kernel) (Or.inr rfl)
/-! ShutterTownModel.figureOf(I)I at (26,) -/
def f_X8_figureOf_58 (p1 : Int32)  (g : am_G) : Option (Int32 × am_G) :=
  if (g 26 16) = (-9 : Int32) then
    some ((0 : Int32), am_u g 26 16 (g 26 15))
  else
    some ((0 : Int32), am_u g 26 16 (g 26 16))
set_option maxRecDepth 20000 in
theorem B_X8_figureOf_58 (x : am_X) (C0 : am_Cm x 8 cX8_figureOf 3 (some .int)) (hR : am_R x = rm_X8_figureOf) (w : am_J) (p1 : Int32) (R : Int32 × am_G)   (g : am_G) (hf : f_X8_figureOf_58 p1 g = some R) : am_Ev x 3 (0, 0) (am_Q x (0, 0) (some (.int R.1)) am_YY (R.2) w) 58 [some (.ref 26), some (.int (p1)), none] [] am_YY g w := by
  unfold f_X8_figureOf_58 at hf
  refine am_b1 C0 am_YYk (pc := 58) (pc2 := 65) [(.aload_n 0, 0, 0, .null), (.aload_n 0, 0, 0, .null), (.getfield 72, 8, 16, .null), (.bipush (-9), 0, 0, .int (-9))] (L := [some (.ref 26), some (.int (p1)), none]) (st := []) (L' := [some (.ref 26), some (.int (p1)), none]) (st' := [.int ((-9 : Int32)), .int (g 26 16), .ref 26]) (g' := g) (w' := w) (cl := []) (by decide +kernel) rfl trivial ?_
  refine am_icmp_ne C0 (off := 10) (tgt := 75) (by decide +kernel) (fun hc1 => ?_) (fun hc1 => ?_)
  · rw [if_neg hc1] at hf
    refine am_b1 C0 am_YYk (pc := 75) (pc2 := 83) [(.aload_n 0, 0, 0, .null), (.getfield 72, 8, 16, .null), (.putfield 72, 8, 16, .null), (.iconst 0, 0, 0, .int 0)] (L := [some (.ref 26), some (.int (p1)), none]) (st := [.ref 26]) (L' := [some (.ref 26), some (.int (p1)), none]) (st' := [.int ((0 : Int32))]) (g' := am_u g 26 16 (g 26 16)) (w' := w) (cl := []) (by decide +kernel) rfl trivial ?_
    cases hf
    exact am_iret C0 (by decide +kernel)
  · rw [if_pos hc1] at hf
    refine am_b1 C0 am_YYk (pc := 68) (pc2 := 72) [(.aload_n 0, 0, 0, .null), (.getfield 75, 8, 15, .null)] (L := [some (.ref 26), some (.int (p1)), none]) (st := [.ref 26]) (L' := [some (.ref 26), some (.int (p1)), none]) (st' := [.int (g 26 15), .ref 26]) (g' := g) (w' := w) (cl := []) (by decide +kernel) rfl trivial ?_
    refine am_goto C0 (off := 7) (tgt := 79) (by decide +kernel) ?_
    refine am_b1 C0 am_YYk (pc := 79) (pc2 := 83) [(.putfield 72, 8, 16, .null), (.iconst 0, 0, 0, .int 0)] (L := [some (.ref 26), some (.int (p1)), none]) (st := [.int (g 26 15), .ref 26]) (L' := [some (.ref 26), some (.int (p1)), none]) (st' := [.int ((0 : Int32))]) (g' := am_u g 26 16 (g 26 15)) (w' := w) (cl := []) (by decide +kernel) rfl trivial ?_
    cases hf
    exact am_iret C0 (by decide +kernel)
def f_X8_figureOf_37 (p1 : Int32)  (s0 : Int32) (g : am_G) : Option (Int32 × am_G) :=
  (f_X8_in (Int32.toInt64 s0) (0 : Int64) (9 : Int64)).bind fun q2 =>
    if q2 = 0 then
      f_X8_figureOf_58 p1 (g)
    else
      (f_X8_has p1 s0).bind fun q3 =>
        if q3 = 0 then
          f_X8_figureOf_58 p1 (g)
        else
          some (s0, am_u g 26 15 ((g 26 15) + (1 : Int32)))
set_option maxRecDepth 20000 in
theorem B_X8_figureOf_37 (x : am_X) (C0 : am_Cm x 8 cX8_figureOf 3 (some .int)) (hR : am_R x = rm_X8_figureOf) (w : am_J) (p1 : Int32) (R : Int32 × am_G)   (s0 : Int32) (g : am_G) (hf : f_X8_figureOf_37 p1 s0 g = some R) : am_Ev x 3 (0, 0) (am_Q x (0, 0) (some (.int R.1)) am_YY (R.2) w) 37 [some (.ref 26), some (.int (p1)), none] [.int (s0)] am_YY g w := by
  unfold f_X8_figureOf_37 at hf
  refine am_b1 C0 am_YYk (pc := 37) (pc2 := 44) [(.istore_n 2, 0, 0, .null), (.iload_n 2, 0, 0, .null), (.i2l, 0, 0, .null), (.lconst 0, 0, 0, .long 0), (.ldc2_w 78, 0, 0, .long 9)] (L := [some (.ref 26), some (.int (p1)), none]) (st := [.int (s0)]) (L' := [some (.ref 26), some (.int (p1)), some (.int (s0))]) (st' := [.long ((9 : Int64)), .long ((0 : Int64)), .long (Int32.toInt64 s0)]) (g' := g) (w' := w) (cl := []) (by decide +kernel) rfl trivial ?_
  obtain ⟨q2, hq2, hf⟩ := Option.bind_eq_some_iff.mp hf
  refine am_callS (mi := mi_X8_in) (rm := rm_X8_in) [.long (Int32.toInt64 s0), .long ((0 : Int64)), .long ((9 : Int64))] C0.1 cv_8_65 (M_X8_in _ g w (Int32.toInt64 s0) (0 : Int64) (9 : Int64) _ hq2) (by rw [hR]; rfl) rfl rfl (Nat.le_of_ble_eq_true rfl) (by decide +kernel) ?_
  refine am_if_eq C0 (off := 11) (tgt := 58) (by decide +kernel) (fun hc5 => ?_) (fun hc5 => ?_)
  · rw [if_pos hc5] at hf
    refine am_wk [some (.ref 26), some (.int (p1)), none] ⟨rfl, rfl, trivial⟩ rfl ?_
    exact B_X8_figureOf_58 x C0 hR w p1 R  (g) hf
  · rw [if_neg hc5] at hf
    refine am_b1 C0 am_YYk (pc := 50) (pc2 := 52) [(.iload_n 1, 0, 0, .null), (.iload_n 2, 0, 0, .null)] (L := [some (.ref 26), some (.int (p1)), some (.int (s0))]) (st := []) (L' := [some (.ref 26), some (.int (p1)), some (.int (s0))]) (st' := [.int (s0), .int (p1)]) (g' := g) (w' := w) (cl := []) (by decide +kernel) rfl trivial ?_
    obtain ⟨q3, hq3, hf⟩ := Option.bind_eq_some_iff.mp hf
    refine am_callS (mi := mi_X8_has) (rm := rm_X8_has) [.int (p1), .int (s0)] C0.1 cv_8_80 (M_X8_has _ g w p1 s0 _ hq3) (by rw [hR]; rfl) rfl rfl (Nat.le_of_ble_eq_true rfl) (by decide +kernel) ?_
    refine am_if_ne C0 (off := 29) (tgt := 84) (by decide +kernel) (fun hc4 => ?_) (fun hc4 => ?_)
    · rw [if_neg hc4] at hf
      refine am_b1 C0 am_YYk (pc := 84) (pc2 := 95) [(.aload_n 0, 0, 0, .null), (.dup, 0, 0, .null), (.getfield 75, 8, 15, .null), (.iconst 1, 0, 0, .int 1), (.iadd, 0, 0, .null), (.putfield 75, 8, 15, .null), (.iload_n 2, 0, 0, .null)] (L := [some (.ref 26), some (.int (p1)), some (.int (s0))]) (st := []) (L' := [some (.ref 26), some (.int (p1)), some (.int (s0))]) (st' := [.int (s0)]) (g' := am_u g 26 15 ((g 26 15) + (1 : Int32))) (w' := w) (cl := []) (by decide +kernel) rfl trivial ?_
      cases hf
      exact am_iret C0 (by decide +kernel)
    · rw [if_pos hc4] at hf
      refine am_wk [some (.ref 26), some (.int (p1)), none] ⟨rfl, rfl, trivial⟩ rfl ?_
      exact B_X8_figureOf_58 x C0 hR w p1 R  (g) hf
def f_X8_figureOf_35 (p1 : Int32)  (g : am_G) : Option (Int32 × am_G) :=
  f_X8_figureOf_37 p1 ((-9 : Int32)) (g)
set_option maxRecDepth 20000 in
theorem B_X8_figureOf_35 (x : am_X) (C0 : am_Cm x 8 cX8_figureOf 3 (some .int)) (hR : am_R x = rm_X8_figureOf) (w : am_J) (p1 : Int32) (R : Int32 × am_G)   (g : am_G) (hf : f_X8_figureOf_35 p1 g = some R) : am_Ev x 3 (0, 0) (am_Q x (0, 0) (some (.int R.1)) am_YY (R.2) w) 35 [some (.ref 26), some (.int (p1)), none] [] am_YY g w := by
  unfold f_X8_figureOf_35 at hf
  refine am_b1 C0 am_YYk (pc := 35) (pc2 := 37) [(.bipush (-9), 0, 0, .int (-9))] (L := [some (.ref 26), some (.int (p1)), none]) (st := []) (L' := [some (.ref 26), some (.int (p1)), none]) (st' := [.int ((-9 : Int32))]) (g' := g) (w' := w) (cl := []) (by decide +kernel) rfl trivial ?_
  exact B_X8_figureOf_37 x C0 hR w p1 R  ((-9 : Int32)) (g) hf
def f_X8_figureOf (g : am_G) (p1 : Int32) : Option (Int32 × am_G) :=
  if (g 26 16) = (-9 : Int32) then
    if (g 26 14) ≤ (g 26 15) then
      f_X8_figureOf_35 p1 (g)
    else
      if am_in (g 26 15) 48 then
        f_X8_figureOf_37 p1 ((g 35 (Int32.toNatClampNeg (g 26 15))) - (48 : Int32)) (g)
      else none
  else
    f_X8_figureOf_35 p1 (g)
set_option maxRecDepth 20000 in
theorem M_X8_figureOf (l : Launch) (g : am_G) (w : am_J) (p1 : Int32) (R : Int32 × am_G) (hf : f_X8_figureOf g p1 = some R) : am_Met l mi_X8_figureOf rm_X8_figureOf [.ref 26, .int p1] am_YY g w (some (.int R.1)) am_YY (R.2) w := by
  refine am_met (own := 8) [some (.ref 26), some (.int (p1)), none] (by decide) rfl rfl (by first | decide | exact Nat.le_of_ble_eq_true rfl) (fun x C0 hR hl hnm => ?_)
  unfold f_X8_figureOf at hf
  refine am_b1 C0 am_YYk (pc := 0) (pc2 := 6) [(.aload_n 0, 0, 0, .null), (.getfield 72, 8, 16, .null), (.bipush (-9), 0, 0, .int (-9))] (L := [some (.ref 26), some (.int (p1)), none]) (st := []) (L' := [some (.ref 26), some (.int (p1)), none]) (st' := [.int ((-9 : Int32)), .int (g 26 16)]) (g' := g) (w' := w) (cl := []) (by decide +kernel) rfl trivial ?_
  refine am_icmp_ne C0 (off := 29) (tgt := 35) (by decide +kernel) (fun hc8 => ?_) (fun hc8 => ?_)
  · rw [if_neg hc8] at hf
    exact B_X8_figureOf_35 x C0 hR w p1 R  (g) hf
  · rw [if_pos hc8] at hf
    refine am_b1 C0 am_YYk (pc := 9) (pc2 := 17) [(.aload_n 0, 0, 0, .null), (.getfield 75, 8, 15, .null), (.aload_n 0, 0, 0, .null), (.getfield 69, 8, 14, .null)] (L := [some (.ref 26), some (.int (p1)), none]) (st := []) (L' := [some (.ref 26), some (.int (p1)), none]) (st' := [.int (g 26 14), .int (g 26 15)]) (g' := g) (w' := w) (cl := []) (by decide +kernel) rfl trivial ?_
    refine am_icmp_ge C0 (off := 18) (tgt := 35) (by decide +kernel) (fun hc7 => ?_) (fun hc7 => ?_)
    · rw [if_pos hc7] at hf
      exact B_X8_figureOf_35 x C0 hR w p1 R  (g) hf
    · rw [if_neg hc7] at hf
      obtain ⟨hg6, hf⟩ := am_g hf
      refine am_b1 C0 am_YYk (pc := 20) (pc2 := 32) [(.aload_n 0, 0, 0, .null), (.getfield 34, 8, 13, .null), (.aload_n 0, 0, 0, .null), (.getfield 75, 8, 15, .null), (.iaload, 0, 0, .null), (.bipush 48, 0, 0, .int 48), (.isub, 0, 0, .null)] (L := [some (.ref 26), some (.int (p1)), none]) (st := []) (L' := [some (.ref 26), some (.int (p1)), none]) (st' := [.int ((g 35 (Int32.toNatClampNeg (g 26 15))) - (48 : Int32))]) (g' := g) (w' := w) (cl := [am_in (g 26 15) 48]) (by decide +kernel) rfl ⟨hg6, trivial⟩ ?_
      refine am_goto C0 (off := 5) (tgt := 37) (by decide +kernel) ?_
      exact B_X8_figureOf_37 x C0 hR w p1 R  ((g 35 (Int32.toNatClampNeg (g 26 15))) - (48 : Int32)) (g) hf
/-! ShutterTownModel.readWindow()V at (26,) -/
def f_X8_readWindow_130 (F : Nat)  (g : am_G) : Option (am_G) :=
  some (am_u g 26 11 ((g 26 11) + (1 : Int32)))
set_option maxRecDepth 20000 in
theorem B_X8_readWindow_130 (x : am_X) (C0 : am_Cm x 8 cX8_readWindow 2 none) (hR : am_R x = rm_X8_readWindow) (w : am_J) (F : Nat) (R : am_G)   (g : am_G) (hf : f_X8_readWindow_130 F g = some R) : am_Ev x 2 (0, 0) (am_Q x (0, 0) none am_YY R w) 130 [some (.ref 26), none] [] am_YY g w := by
  unfold f_X8_readWindow_130 at hf
  refine am_b1 C0 am_YYk (pc := 130) (pc2 := 140) [(.aload_n 0, 0, 0, .null), (.dup, 0, 0, .null), (.getfield 84, 8, 11, .null), (.iconst 1, 0, 0, .int 1), (.iadd, 0, 0, .null), (.putfield 84, 8, 11, .null)] (L := [some (.ref 26), none]) (st := []) (L' := [some (.ref 26), none]) (st' := []) (g' := am_u g 26 11 ((g 26 11) + (1 : Int32))) (w' := w) (cl := []) (by decide +kernel) rfl trivial ?_
  cases hf
  exact am_vret C0 (by decide +kernel)
def f_X8_readWindow (F : Nat) (g : am_G) : Option (am_G) :=
  (f_X8_placesLeft F (am_u g 26 15 ((g 26 15) + (1 : Int32)))).bind fun q1 =>
    (f_X8_figureOf (am_u g 26 15 ((g 26 15) + (1 : Int32))) q1).bind fun q2 =>
      if am_in ((5 : Int32) * ((am_u g 26 15 ((g 26 15) + (1 : Int32))) 26 11)) 30 then
        if am_in ((5 : Int32) * ((am_u g 26 15 ((g 26 15) + (1 : Int32))) 26 11)) 30 then
          (f_X8_figureOf (am_u q2.2 34 (Int32.toNatClampNeg ((5 : Int32) * ((am_u g 26 15 ((g 26 15) + (1 : Int32))) 26 11))) q2.1) ((3 : Int32) &&& ((((am_u q2.2 34 (Int32.toNatClampNeg ((5 : Int32) * ((am_u g 26 15 ((g 26 15) + (1 : Int32))) 26 11))) q2.1) 26 12) >>> (((2 : Int32) * ((am_u q2.2 34 (Int32.toNatClampNeg ((5 : Int32) * ((am_u g 26 15 ((g 26 15) + (1 : Int32))) 26 11))) q2.1) 34 (Int32.toNatClampNeg ((5 : Int32) * ((am_u g 26 15 ((g 26 15) + (1 : Int32))) 26 11))))) &&& 31)) ^^^ (-1 : Int32)))).bind fun q5 =>
            if am_in (((5 : Int32) * ((am_u g 26 15 ((g 26 15) + (1 : Int32))) 26 11)) + (1 : Int32)) 30 then
              (f_X8_figure (am_u q5.2 34 (Int32.toNatClampNeg (((5 : Int32) * ((am_u g 26 15 ((g 26 15) + (1 : Int32))) 26 11)) + (1 : Int32))) q5.1) (0 : Int32) (3 : Int32)).bind fun q7 =>
                if am_in (((5 : Int32) * ((am_u g 26 15 ((g 26 15) + (1 : Int32))) 26 11)) + (2 : Int32)) 30 then
                  (f_X8_figure (am_u q7.2 34 (Int32.toNatClampNeg (((5 : Int32) * ((am_u g 26 15 ((g 26 15) + (1 : Int32))) 26 11)) + (2 : Int32))) q7.1) (0 : Int32) (3 : Int32)).bind fun q9 =>
                    if am_in (((5 : Int32) * ((am_u g 26 15 ((g 26 15) + (1 : Int32))) 26 11)) + (3 : Int32)) 30 then
                      (f_X8_figure (am_u q9.2 34 (Int32.toNatClampNeg (((5 : Int32) * ((am_u g 26 15 ((g 26 15) + (1 : Int32))) 26 11)) + (3 : Int32))) q9.1) (0 : Int32) (3 : Int32)).bind fun q11 =>
                        if am_in (((5 : Int32) * ((am_u g 26 15 ((g 26 15) + (1 : Int32))) 26 11)) + (4 : Int32)) 30 then
                          if am_in ((5 : Int32) * ((am_u g 26 15 ((g 26 15) + (1 : Int32))) 26 11)) 30 then
                            if am_in (((5 : Int32) * ((am_u g 26 15 ((g 26 15) + (1 : Int32))) 26 11)) + (1 : Int32)) 30 then
                              f_X8_readWindow_130 F (am_u (am_u q11.2 34 (Int32.toNatClampNeg (((5 : Int32) * ((am_u g 26 15 ((g 26 15) + (1 : Int32))) 26 11)) + (4 : Int32))) q11.1) 26 12 (((am_u q11.2 34 (Int32.toNatClampNeg (((5 : Int32) * ((am_u g 26 15 ((g 26 15) + (1 : Int32))) 26 11)) + (4 : Int32))) q11.1) 26 12) ||| ((1 : Int32) <<< ((((2 : Int32) * ((am_u q11.2 34 (Int32.toNatClampNeg (((5 : Int32) * ((am_u g 26 15 ((g 26 15) + (1 : Int32))) 26 11)) + (4 : Int32))) q11.1) 34 (Int32.toNatClampNeg ((5 : Int32) * ((am_u g 26 15 ((g 26 15) + (1 : Int32))) 26 11))))) + ((am_u q11.2 34 (Int32.toNatClampNeg (((5 : Int32) * ((am_u g 26 15 ((g 26 15) + (1 : Int32))) 26 11)) + (4 : Int32))) q11.1) 34 (Int32.toNatClampNeg (((5 : Int32) * ((am_u g 26 15 ((g 26 15) + (1 : Int32))) 26 11)) + (1 : Int32))))) &&& 31))))
                            else none
                          else none
                        else none
                    else none
                else none
            else none
        else none
      else none
set_option maxRecDepth 20000 in
theorem M_X8_readWindow (l : Launch) (F : Nat) (g : am_G) (w : am_J)  (R : am_G) (hf : f_X8_readWindow F g = some R) : am_Met l mi_X8_readWindow rm_X8_readWindow [.ref 26] am_YY g w none am_YY R w := by
  refine am_met (own := 8) [some (.ref 26), none] (by decide) rfl rfl (by first | decide | exact Nat.le_of_ble_eq_true rfl) (fun x C0 hR hl hnm => ?_)
  unfold f_X8_readWindow at hf
  refine am_b1 C0 am_YYk (pc := 0) (pc2 := 24) [(.aload_n 0, 0, 0, .null), (.dup, 0, 0, .null), (.getfield 75, 8, 15, .null), (.iconst 1, 0, 0, .int 1), (.iadd, 0, 0, .null), (.putfield 75, 8, 15, .null), (.iconst 5, 0, 0, .int 5), (.aload_n 0, 0, 0, .null), (.getfield 84, 8, 11, .null), (.imul, 0, 0, .null), (.istore_n 1, 0, 0, .null), (.aload_n 0, 0, 0, .null), (.getfield 31, 8, 9, .null), (.iload_n 1, 0, 0, .null), (.aload_n 0, 0, 0, .null), (.aload_n 0, 0, 0, .null)] (L := [some (.ref 26), none]) (st := []) (L' := [some (.ref 26), some (.int ((5 : Int32) * ((am_u g 26 15 ((g 26 15) + (1 : Int32))) 26 11)))]) (st' := [.ref 26, .ref 26, .int ((5 : Int32) * ((am_u g 26 15 ((g 26 15) + (1 : Int32))) 26 11)), .ref 34]) (g' := am_u g 26 15 ((g 26 15) + (1 : Int32))) (w' := w) (cl := []) (by decide +kernel) rfl trivial ?_
  obtain ⟨q1, hq1, hf⟩ := Option.bind_eq_some_iff.mp hf
  refine am_callV (mi := mi_X8_placesLeft) (rm := rm_X8_placesLeft) [] C0.1 am_YYl cv_8_100 (M_X8_placesLeft _ F (am_u g 26 15 ((g 26 15) + (1 : Int32))) w _ hq1) (ci := 8) rfl (by decide) rfl (by rw [hR]; rfl) rfl rfl (Nat.le_of_ble_eq_true rfl) (by decide +kernel) ?_
  obtain ⟨q2, hq2, hf⟩ := Option.bind_eq_some_iff.mp hf
  refine am_callV (mi := mi_X8_figureOf) (rm := rm_X8_figureOf) [.int (q1)] C0.1 am_YYl cv_8_104 (M_X8_figureOf _ (am_u g 26 15 ((g 26 15) + (1 : Int32))) w q1 _ hq2) (ci := 8) rfl (by decide) rfl (by rw [hR]; rfl) rfl rfl (Nat.le_of_ble_eq_true rfl) (by decide +kernel) ?_
  obtain ⟨hg3, hf⟩ := am_g hf
  obtain ⟨hg4, hf⟩ := am_g hf
  refine am_b1 C0 am_YYk (pc := 30) (pc2 := 56) [(.iastore, 0, 0, .null), (.aload_n 0, 0, 0, .null), (.getfield 31, 8, 9, .null), (.iload_n 1, 0, 0, .null), (.iconst 1, 0, 0, .int 1), (.iadd, 0, 0, .null), (.aload_n 0, 0, 0, .null), (.iconst 3, 0, 0, .int 3), (.aload_n 0, 0, 0, .null), (.getfield 87, 8, 12, .null), (.iconst 2, 0, 0, .int 2), (.aload_n 0, 0, 0, .null), (.getfield 31, 8, 9, .null), (.iload_n 1, 0, 0, .null), (.iaload, 0, 0, .null), (.imul, 0, 0, .null), (.ishr, 0, 0, .null), (.iconst (-1), 0, 0, .int (-1)), (.ixor, 0, 0, .null), (.iand, 0, 0, .null)] (L := [some (.ref 26), some (.int ((5 : Int32) * ((am_u g 26 15 ((g 26 15) + (1 : Int32))) 26 11)))]) (st := [.int (q2.1), .int ((5 : Int32) * ((am_u g 26 15 ((g 26 15) + (1 : Int32))) 26 11)), .ref 34]) (L' := [some (.ref 26), some (.int ((5 : Int32) * ((am_u g 26 15 ((g 26 15) + (1 : Int32))) 26 11)))]) (st' := [.int ((3 : Int32) &&& ((((am_u q2.2 34 (Int32.toNatClampNeg ((5 : Int32) * ((am_u g 26 15 ((g 26 15) + (1 : Int32))) 26 11))) q2.1) 26 12) >>> (((2 : Int32) * ((am_u q2.2 34 (Int32.toNatClampNeg ((5 : Int32) * ((am_u g 26 15 ((g 26 15) + (1 : Int32))) 26 11))) q2.1) 34 (Int32.toNatClampNeg ((5 : Int32) * ((am_u g 26 15 ((g 26 15) + (1 : Int32))) 26 11))))) &&& 31)) ^^^ (-1 : Int32))), .ref 26, .int (((5 : Int32) * ((am_u g 26 15 ((g 26 15) + (1 : Int32))) 26 11)) + (1 : Int32)), .ref 34]) (g' := am_u q2.2 34 (Int32.toNatClampNeg ((5 : Int32) * ((am_u g 26 15 ((g 26 15) + (1 : Int32))) 26 11))) q2.1) (w' := w) (cl := [am_in ((5 : Int32) * ((am_u g 26 15 ((g 26 15) + (1 : Int32))) 26 11)) 30, am_in ((5 : Int32) * ((am_u g 26 15 ((g 26 15) + (1 : Int32))) 26 11)) 30]) (by decide +kernel) rfl ⟨hg3, hg4, trivial⟩ ?_
  obtain ⟨q5, hq5, hf⟩ := Option.bind_eq_some_iff.mp hf
  refine am_callV (mi := mi_X8_figureOf) (rm := rm_X8_figureOf) [.int ((3 : Int32) &&& ((((am_u q2.2 34 (Int32.toNatClampNeg ((5 : Int32) * ((am_u g 26 15 ((g 26 15) + (1 : Int32))) 26 11))) q2.1) 26 12) >>> (((2 : Int32) * ((am_u q2.2 34 (Int32.toNatClampNeg ((5 : Int32) * ((am_u g 26 15 ((g 26 15) + (1 : Int32))) 26 11))) q2.1) 34 (Int32.toNatClampNeg ((5 : Int32) * ((am_u g 26 15 ((g 26 15) + (1 : Int32))) 26 11))))) &&& 31)) ^^^ (-1 : Int32)))] C0.1 am_YYl cv_8_104 (M_X8_figureOf _ (am_u q2.2 34 (Int32.toNatClampNeg ((5 : Int32) * ((am_u g 26 15 ((g 26 15) + (1 : Int32))) 26 11))) q2.1) w ((3 : Int32) &&& ((((am_u q2.2 34 (Int32.toNatClampNeg ((5 : Int32) * ((am_u g 26 15 ((g 26 15) + (1 : Int32))) 26 11))) q2.1) 26 12) >>> (((2 : Int32) * ((am_u q2.2 34 (Int32.toNatClampNeg ((5 : Int32) * ((am_u g 26 15 ((g 26 15) + (1 : Int32))) 26 11))) q2.1) 34 (Int32.toNatClampNeg ((5 : Int32) * ((am_u g 26 15 ((g 26 15) + (1 : Int32))) 26 11))))) &&& 31)) ^^^ (-1 : Int32))) _ hq5) (ci := 8) rfl (by decide) rfl (by rw [hR]; rfl) rfl rfl (Nat.le_of_ble_eq_true rfl) (by decide +kernel) ?_
  obtain ⟨hg6, hf⟩ := am_g hf
  refine am_b1 C0 am_YYk (pc := 59) (pc2 := 70) [(.iastore, 0, 0, .null), (.aload_n 0, 0, 0, .null), (.getfield 31, 8, 9, .null), (.iload_n 1, 0, 0, .null), (.iconst 2, 0, 0, .int 2), (.iadd, 0, 0, .null), (.aload_n 0, 0, 0, .null), (.iconst 0, 0, 0, .int 0), (.iconst 3, 0, 0, .int 3)] (L := [some (.ref 26), some (.int ((5 : Int32) * ((am_u g 26 15 ((g 26 15) + (1 : Int32))) 26 11)))]) (st := [.int (q5.1), .int (((5 : Int32) * ((am_u g 26 15 ((g 26 15) + (1 : Int32))) 26 11)) + (1 : Int32)), .ref 34]) (L' := [some (.ref 26), some (.int ((5 : Int32) * ((am_u g 26 15 ((g 26 15) + (1 : Int32))) 26 11)))]) (st' := [.int ((3 : Int32)), .int ((0 : Int32)), .ref 26, .int (((5 : Int32) * ((am_u g 26 15 ((g 26 15) + (1 : Int32))) 26 11)) + (2 : Int32)), .ref 34]) (g' := am_u q5.2 34 (Int32.toNatClampNeg (((5 : Int32) * ((am_u g 26 15 ((g 26 15) + (1 : Int32))) 26 11)) + (1 : Int32))) q5.1) (w' := w) (cl := [am_in (((5 : Int32) * ((am_u g 26 15 ((g 26 15) + (1 : Int32))) 26 11)) + (1 : Int32)) 30]) (by decide +kernel) rfl ⟨hg6, trivial⟩ ?_
  obtain ⟨q7, hq7, hf⟩ := Option.bind_eq_some_iff.mp hf
  refine am_callV (mi := mi_X8_figure) (rm := rm_X8_figure) [.int ((0 : Int32)), .int ((3 : Int32))] C0.1 am_YYl cv_8_90 (M_X8_figure _ (am_u q5.2 34 (Int32.toNatClampNeg (((5 : Int32) * ((am_u g 26 15 ((g 26 15) + (1 : Int32))) 26 11)) + (1 : Int32))) q5.1) w (0 : Int32) (3 : Int32) _ hq7) (ci := 8) rfl (by decide) rfl (by rw [hR]; rfl) rfl rfl (Nat.le_of_ble_eq_true rfl) (by decide +kernel) ?_
  obtain ⟨hg8, hf⟩ := am_g hf
  refine am_b1 C0 am_YYk (pc := 73) (pc2 := 84) [(.iastore, 0, 0, .null), (.aload_n 0, 0, 0, .null), (.getfield 31, 8, 9, .null), (.iload_n 1, 0, 0, .null), (.iconst 3, 0, 0, .int 3), (.iadd, 0, 0, .null), (.aload_n 0, 0, 0, .null), (.iconst 0, 0, 0, .int 0), (.iconst 3, 0, 0, .int 3)] (L := [some (.ref 26), some (.int ((5 : Int32) * ((am_u g 26 15 ((g 26 15) + (1 : Int32))) 26 11)))]) (st := [.int (q7.1), .int (((5 : Int32) * ((am_u g 26 15 ((g 26 15) + (1 : Int32))) 26 11)) + (2 : Int32)), .ref 34]) (L' := [some (.ref 26), some (.int ((5 : Int32) * ((am_u g 26 15 ((g 26 15) + (1 : Int32))) 26 11)))]) (st' := [.int ((3 : Int32)), .int ((0 : Int32)), .ref 26, .int (((5 : Int32) * ((am_u g 26 15 ((g 26 15) + (1 : Int32))) 26 11)) + (3 : Int32)), .ref 34]) (g' := am_u q7.2 34 (Int32.toNatClampNeg (((5 : Int32) * ((am_u g 26 15 ((g 26 15) + (1 : Int32))) 26 11)) + (2 : Int32))) q7.1) (w' := w) (cl := [am_in (((5 : Int32) * ((am_u g 26 15 ((g 26 15) + (1 : Int32))) 26 11)) + (2 : Int32)) 30]) (by decide +kernel) rfl ⟨hg8, trivial⟩ ?_
  obtain ⟨q9, hq9, hf⟩ := Option.bind_eq_some_iff.mp hf
  refine am_callV (mi := mi_X8_figure) (rm := rm_X8_figure) [.int ((0 : Int32)), .int ((3 : Int32))] C0.1 am_YYl cv_8_90 (M_X8_figure _ (am_u q7.2 34 (Int32.toNatClampNeg (((5 : Int32) * ((am_u g 26 15 ((g 26 15) + (1 : Int32))) 26 11)) + (2 : Int32))) q7.1) w (0 : Int32) (3 : Int32) _ hq9) (ci := 8) rfl (by decide) rfl (by rw [hR]; rfl) rfl rfl (Nat.le_of_ble_eq_true rfl) (by decide +kernel) ?_
  obtain ⟨hg10, hf⟩ := am_g hf
  refine am_b1 C0 am_YYk (pc := 87) (pc2 := 98) [(.iastore, 0, 0, .null), (.aload_n 0, 0, 0, .null), (.getfield 31, 8, 9, .null), (.iload_n 1, 0, 0, .null), (.iconst 4, 0, 0, .int 4), (.iadd, 0, 0, .null), (.aload_n 0, 0, 0, .null), (.iconst 0, 0, 0, .int 0), (.iconst 3, 0, 0, .int 3)] (L := [some (.ref 26), some (.int ((5 : Int32) * ((am_u g 26 15 ((g 26 15) + (1 : Int32))) 26 11)))]) (st := [.int (q9.1), .int (((5 : Int32) * ((am_u g 26 15 ((g 26 15) + (1 : Int32))) 26 11)) + (3 : Int32)), .ref 34]) (L' := [some (.ref 26), some (.int ((5 : Int32) * ((am_u g 26 15 ((g 26 15) + (1 : Int32))) 26 11)))]) (st' := [.int ((3 : Int32)), .int ((0 : Int32)), .ref 26, .int (((5 : Int32) * ((am_u g 26 15 ((g 26 15) + (1 : Int32))) 26 11)) + (4 : Int32)), .ref 34]) (g' := am_u q9.2 34 (Int32.toNatClampNeg (((5 : Int32) * ((am_u g 26 15 ((g 26 15) + (1 : Int32))) 26 11)) + (3 : Int32))) q9.1) (w' := w) (cl := [am_in (((5 : Int32) * ((am_u g 26 15 ((g 26 15) + (1 : Int32))) 26 11)) + (3 : Int32)) 30]) (by decide +kernel) rfl ⟨hg10, trivial⟩ ?_
  obtain ⟨q11, hq11, hf⟩ := Option.bind_eq_some_iff.mp hf
  refine am_callV (mi := mi_X8_figure) (rm := rm_X8_figure) [.int ((0 : Int32)), .int ((3 : Int32))] C0.1 am_YYl cv_8_90 (M_X8_figure _ (am_u q9.2 34 (Int32.toNatClampNeg (((5 : Int32) * ((am_u g 26 15 ((g 26 15) + (1 : Int32))) 26 11)) + (3 : Int32))) q9.1) w (0 : Int32) (3 : Int32) _ hq11) (ci := 8) rfl (by decide) rfl (by rw [hR]; rfl) rfl rfl (Nat.le_of_ble_eq_true rfl) (by decide +kernel) ?_
  obtain ⟨hg12, hf⟩ := am_g hf
  obtain ⟨hg13, hf⟩ := am_g hf
  obtain ⟨hg14, hf⟩ := am_g hf
  refine am_b1 C0 am_YYk (pc := 101) (pc2 := 130) [(.iastore, 0, 0, .null), (.aload_n 0, 0, 0, .null), (.dup, 0, 0, .null), (.getfield 87, 8, 12, .null), (.iconst 1, 0, 0, .int 1), (.iconst 2, 0, 0, .int 2), (.aload_n 0, 0, 0, .null), (.getfield 31, 8, 9, .null), (.iload_n 1, 0, 0, .null), (.iaload, 0, 0, .null), (.imul, 0, 0, .null), (.aload_n 0, 0, 0, .null), (.getfield 31, 8, 9, .null), (.iload_n 1, 0, 0, .null), (.iconst 1, 0, 0, .int 1), (.iadd, 0, 0, .null), (.iaload, 0, 0, .null), (.iadd, 0, 0, .null), (.ishl, 0, 0, .null), (.ior, 0, 0, .null), (.putfield 87, 8, 12, .null)] (L := [some (.ref 26), some (.int ((5 : Int32) * ((am_u g 26 15 ((g 26 15) + (1 : Int32))) 26 11)))]) (st := [.int (q11.1), .int (((5 : Int32) * ((am_u g 26 15 ((g 26 15) + (1 : Int32))) 26 11)) + (4 : Int32)), .ref 34]) (L' := [some (.ref 26), some (.int ((5 : Int32) * ((am_u g 26 15 ((g 26 15) + (1 : Int32))) 26 11)))]) (st' := []) (g' := am_u (am_u q11.2 34 (Int32.toNatClampNeg (((5 : Int32) * ((am_u g 26 15 ((g 26 15) + (1 : Int32))) 26 11)) + (4 : Int32))) q11.1) 26 12 (((am_u q11.2 34 (Int32.toNatClampNeg (((5 : Int32) * ((am_u g 26 15 ((g 26 15) + (1 : Int32))) 26 11)) + (4 : Int32))) q11.1) 26 12) ||| ((1 : Int32) <<< ((((2 : Int32) * ((am_u q11.2 34 (Int32.toNatClampNeg (((5 : Int32) * ((am_u g 26 15 ((g 26 15) + (1 : Int32))) 26 11)) + (4 : Int32))) q11.1) 34 (Int32.toNatClampNeg ((5 : Int32) * ((am_u g 26 15 ((g 26 15) + (1 : Int32))) 26 11))))) + ((am_u q11.2 34 (Int32.toNatClampNeg (((5 : Int32) * ((am_u g 26 15 ((g 26 15) + (1 : Int32))) 26 11)) + (4 : Int32))) q11.1) 34 (Int32.toNatClampNeg (((5 : Int32) * ((am_u g 26 15 ((g 26 15) + (1 : Int32))) 26 11)) + (1 : Int32))))) &&& 31)))) (w' := w) (cl := [am_in (((5 : Int32) * ((am_u g 26 15 ((g 26 15) + (1 : Int32))) 26 11)) + (4 : Int32)) 30, am_in ((5 : Int32) * ((am_u g 26 15 ((g 26 15) + (1 : Int32))) 26 11)) 30, am_in (((5 : Int32) * ((am_u g 26 15 ((g 26 15) + (1 : Int32))) 26 11)) + (1 : Int32)) 30]) (by decide +kernel) rfl ⟨hg12, hg13, hg14, trivial⟩ ?_
  refine am_wk [some (.ref 26), none] ⟨rfl, trivial⟩ rfl ?_
  exact B_X8_readWindow_130 x C0 hR w F R  (am_u (am_u q11.2 34 (Int32.toNatClampNeg (((5 : Int32) * ((am_u g 26 15 ((g 26 15) + (1 : Int32))) 26 11)) + (4 : Int32))) q11.1) 26 12 (((am_u q11.2 34 (Int32.toNatClampNeg (((5 : Int32) * ((am_u g 26 15 ((g 26 15) + (1 : Int32))) 26 11)) + (4 : Int32))) q11.1) 26 12) ||| ((1 : Int32) <<< ((((2 : Int32) * ((am_u q11.2 34 (Int32.toNatClampNeg (((5 : Int32) * ((am_u g 26 15 ((g 26 15) + (1 : Int32))) 26 11)) + (4 : Int32))) q11.1) 34 (Int32.toNatClampNeg ((5 : Int32) * ((am_u g 26 15 ((g 26 15) + (1 : Int32))) 26 11))))) + ((am_u q11.2 34 (Int32.toNatClampNeg (((5 : Int32) * ((am_u g 26 15 ((g 26 15) + (1 : Int32))) 26 11)) + (4 : Int32))) q11.1) 34 (Int32.toNatClampNeg (((5 : Int32) * ((am_u g 26 15 ((g 26 15) + (1 : Int32))) 26 11)) + (1 : Int32))))) &&& 31)))) hf
/-! ShutterTownModel.readText()I at (26,) -/
def f_X8_readText_132 (F : Nat) (k82 : am_G → Option (Int32 × am_G)) (g : am_G) : Option (Int32 × am_G) :=
  k82 (am_u g 26 16 (g 26 15))
set_option maxRecDepth 20000 in
theorem B_X8_readText_132 (x : am_X) (C0 : am_Cm x 8 cX8_readText 2 (some .int)) (hR : am_R x = rm_X8_readText) (w : am_J) (F : Nat) (R : Int32 × am_G) (k82 : am_G → Option (Int32 × am_G)) (hk82 : ∀ (g : am_G), k82 g = some R → am_Ev x 2 (0, 0) (am_Q x (0, 0) (some (.int R.1)) am_YY (R.2) w) 82 [some (.ref 26), none] [] am_YY g w) (g : am_G) (hf : f_X8_readText_132 F k82 g = some R) : am_Ev x 2 (0, 0) (am_Q x (0, 0) (some (.int R.1)) am_YY (R.2) w) 132 [some (.ref 26), none] [] am_YY g w := by
  unfold f_X8_readText_132 at hf
  refine am_b1 C0 am_YYk (pc := 132) (pc2 := 140) [(.aload_n 0, 0, 0, .null), (.aload_n 0, 0, 0, .null), (.getfield 75, 8, 15, .null), (.putfield 72, 8, 16, .null)] (L := [some (.ref 26), none]) (st := []) (L' := [some (.ref 26), none]) (st' := []) (g' := am_u g 26 16 (g 26 15)) (w' := w) (cl := []) (by decide +kernel) rfl trivial ?_
  refine am_goto C0 (off := (-58)) (tgt := 82) (by decide +kernel) ?_
  exact hk82 (am_u g 26 16 (g 26 15)) hf
def f_X8_readText_82 (F : Nat)  : Nat → am_G → Option (Int32 × am_G)
  | 0, _ => none
  | n + 1, g =>
    if (g 26 16) = (-9 : Int32) then
      if (g 26 14) ≤ (g 26 15) then
        some (g 26 16, g)
      else
        if am_in (g 26 15) 48 then
          if (g 35 (Int32.toNatClampNeg (g 26 15))) = (87 : Int32) then
            if (6 : Int32) ≤ (g 26 11) then
              f_X8_readText_132 F (fun g => f_X8_readText_82 F n g) (g)
            else
              (f_X8_readWindow F g).bind fun q2 =>
                f_X8_readText_82 F n (q2)
          else
            f_X8_readText_132 F (fun g => f_X8_readText_82 F n g) (g)
        else none
    else
      some (g 26 16, g)
set_option maxRecDepth 20000 in
theorem B_X8_readText_82 (x : am_X) (C0 : am_Cm x 8 cX8_readText 2 (some .int)) (hR : am_R x = rm_X8_readText) (w : am_J) (F : Nat) (R : Int32 × am_G)   : ∀ (n : Nat) (g : am_G), f_X8_readText_82 F n g = some R → am_Ev x 2 (0, 0) (am_Q x (0, 0) (some (.int R.1)) am_YY (R.2) w) 82 [some (.ref 26), none] [] am_YY g w := by
  intro n
  induction n with
  | zero => intro g hf; cases hf
  | succ n ih =>
    intro g hf
    rw [f_X8_readText_82.eq_2] at hf
    refine am_b1 C0 am_YYk (pc := 82) (pc2 := 88) [(.aload_n 0, 0, 0, .null), (.getfield 72, 8, 16, .null), (.bipush (-9), 0, 0, .int (-9))] (L := [some (.ref 26), none]) (st := []) (L' := [some (.ref 26), none]) (st' := [.int ((-9 : Int32)), .int (g 26 16)]) (g' := g) (w' := w) (cl := []) (by decide +kernel) rfl trivial ?_
    refine am_icmp_ne C0 (off := 55) (tgt := 143) (by decide +kernel) (fun hc6 => ?_) (fun hc6 => ?_)
    · rw [if_neg hc6] at hf
      refine am_b1 C0 am_YYk (pc := 143) (pc2 := 147) [(.aload_n 0, 0, 0, .null), (.getfield 72, 8, 16, .null)] (L := [some (.ref 26), none]) (st := []) (L' := [some (.ref 26), none]) (st' := [.int (g 26 16)]) (g' := g) (w' := w) (cl := []) (by decide +kernel) rfl trivial ?_
      cases hf
      exact am_iret C0 (by decide +kernel)
    · rw [if_pos hc6] at hf
      refine am_b1 C0 am_YYk (pc := 91) (pc2 := 99) [(.aload_n 0, 0, 0, .null), (.getfield 75, 8, 15, .null), (.aload_n 0, 0, 0, .null), (.getfield 69, 8, 14, .null)] (L := [some (.ref 26), none]) (st := []) (L' := [some (.ref 26), none]) (st' := [.int (g 26 14), .int (g 26 15)]) (g' := g) (w' := w) (cl := []) (by decide +kernel) rfl trivial ?_
      refine am_icmp_ge C0 (off := 44) (tgt := 143) (by decide +kernel) (fun hc5 => ?_) (fun hc5 => ?_)
      · rw [if_pos hc5] at hf
        refine am_b1 C0 am_YYk (pc := 143) (pc2 := 147) [(.aload_n 0, 0, 0, .null), (.getfield 72, 8, 16, .null)] (L := [some (.ref 26), none]) (st := []) (L' := [some (.ref 26), none]) (st' := [.int (g 26 16)]) (g' := g) (w' := w) (cl := []) (by decide +kernel) rfl trivial ?_
        cases hf
        exact am_iret C0 (by decide +kernel)
      · rw [if_neg hc5] at hf
        obtain ⟨hg1, hf⟩ := am_g hf
        refine am_b1 C0 am_YYk (pc := 102) (pc2 := 113) [(.aload_n 0, 0, 0, .null), (.getfield 34, 8, 13, .null), (.aload_n 0, 0, 0, .null), (.getfield 75, 8, 15, .null), (.iaload, 0, 0, .null), (.bipush 87, 0, 0, .int 87)] (L := [some (.ref 26), none]) (st := []) (L' := [some (.ref 26), none]) (st' := [.int ((87 : Int32)), .int (g 35 (Int32.toNatClampNeg (g 26 15)))]) (g' := g) (w' := w) (cl := [am_in (g 26 15) 48]) (by decide +kernel) rfl ⟨hg1, trivial⟩ ?_
        refine am_icmp_ne C0 (off := 19) (tgt := 132) (by decide +kernel) (fun hc4 => ?_) (fun hc4 => ?_)
        · rw [if_neg hc4] at hf
          exact B_X8_readText_132 x C0 hR w F R _ (fun g hf => ih g hf) (g) hf
        · rw [if_pos hc4] at hf
          refine am_b1 C0 am_YYk (pc := 116) (pc2 := 122) [(.aload_n 0, 0, 0, .null), (.getfield 84, 8, 11, .null), (.bipush 6, 0, 0, .int 6)] (L := [some (.ref 26), none]) (st := []) (L' := [some (.ref 26), none]) (st' := [.int ((6 : Int32)), .int (g 26 11)]) (g' := g) (w' := w) (cl := []) (by decide +kernel) rfl trivial ?_
          refine am_icmp_ge C0 (off := 10) (tgt := 132) (by decide +kernel) (fun hc3 => ?_) (fun hc3 => ?_)
          · rw [if_pos hc3] at hf
            exact B_X8_readText_132 x C0 hR w F R _ (fun g hf => ih g hf) (g) hf
          · rw [if_neg hc3] at hf
            refine am_b1 C0 am_YYk (pc := 125) (pc2 := 126) [(.aload_n 0, 0, 0, .null)] (L := [some (.ref 26), none]) (st := []) (L' := [some (.ref 26), none]) (st' := [.ref 26]) (g' := g) (w' := w) (cl := []) (by decide +kernel) rfl trivial ?_
            obtain ⟨q2, hq2, hf⟩ := Option.bind_eq_some_iff.mp hf
            refine am_callV (mi := mi_X8_readWindow) (rm := rm_X8_readWindow) [] C0.1 am_YYl cv_8_97 (M_X8_readWindow _ F g w _ hq2) (ci := 8) rfl (by decide) rfl (by rw [hR]; rfl) rfl rfl (Nat.le_of_ble_eq_true rfl) (by decide +kernel) ?_
            refine am_goto C0 (off := (-47)) (tgt := 82) (by decide +kernel) ?_
            exact ih (q2) hf
def f_X8_readText_71 (F : Nat)  (g : am_G) : Option (Int32 × am_G) :=
  (f_X8_figure g (1 : Int32) (9 : Int32)).bind fun q7 =>
    f_X8_readText_82 F F (am_u q7.2 26 10 q7.1)
set_option maxRecDepth 20000 in
theorem B_X8_readText_71 (x : am_X) (C0 : am_Cm x 8 cX8_readText 2 (some .int)) (hR : am_R x = rm_X8_readText) (w : am_J) (F : Nat) (R : Int32 × am_G)   (g : am_G) (hf : f_X8_readText_71 F g = some R) : am_Ev x 2 (0, 0) (am_Q x (0, 0) (some (.int R.1)) am_YY (R.2) w) 71 [some (.ref 26), none] [] am_YY g w := by
  unfold f_X8_readText_71 at hf
  refine am_b1 C0 am_YYk (pc := 71) (pc2 := 76) [(.aload_n 0, 0, 0, .null), (.aload_n 0, 0, 0, .null), (.iconst 1, 0, 0, .int 1), (.bipush 9, 0, 0, .int 9)] (L := [some (.ref 26), none]) (st := []) (L' := [some (.ref 26), none]) (st' := [.int ((9 : Int32)), .int ((1 : Int32)), .ref 26, .ref 26]) (g' := g) (w' := w) (cl := []) (by decide +kernel) rfl trivial ?_
  obtain ⟨q7, hq7, hf⟩ := Option.bind_eq_some_iff.mp hf
  refine am_callV (mi := mi_X8_figure) (rm := rm_X8_figure) [.int ((1 : Int32)), .int ((9 : Int32))] C0.1 am_YYl cv_8_90 (M_X8_figure _ g w (1 : Int32) (9 : Int32) _ hq7) (ci := 8) rfl (by decide) rfl (by rw [hR]; rfl) rfl rfl (Nat.le_of_ble_eq_true rfl) (by decide +kernel) ?_
  refine am_b1 C0 am_YYk (pc := 79) (pc2 := 82) [(.putfield 94, 8, 10, .null)] (L := [some (.ref 26), none]) (st := [.int (q7.1), .ref 26]) (L' := [some (.ref 26), none]) (st' := []) (g' := am_u q7.2 26 10 q7.1) (w' := w) (cl := []) (by decide +kernel) rfl trivial ?_
  refine B_X8_readText_82 x C0 hR w F R   F (am_u q7.2 26 10 q7.1) hf
def f_X8_readText_48 (F : Nat) (k71 : am_G → Option (Int32 × am_G)) : Nat → Int32 → am_G → Option (Int32 × am_G)
  | 0, _, _ => none
  | n + 1, l1, g =>
    if (4 : Int32) ≤ l1 then
      k71 (g)
    else
      (f_X8_figure g (0 : Int32) (3 : Int32)).bind fun q8 =>
        if am_in l1 4 then
          f_X8_readText_48 F k71 n (l1 + (1 : Int32)) (am_u q8.2 33 (Int32.toNatClampNeg l1) q8.1)
        else none
set_option maxRecDepth 20000 in
theorem B_X8_readText_48 (x : am_X) (C0 : am_Cm x 8 cX8_readText 2 (some .int)) (hR : am_R x = rm_X8_readText) (w : am_J) (F : Nat) (R : Int32 × am_G) (k71 : am_G → Option (Int32 × am_G)) (hk71 : ∀ (g : am_G), k71 g = some R → am_Ev x 2 (0, 0) (am_Q x (0, 0) (some (.int R.1)) am_YY (R.2) w) 71 [some (.ref 26), none] [] am_YY g w) : ∀ (n : Nat) (l1 : Int32) (g : am_G), f_X8_readText_48 F k71 n l1 g = some R → am_Ev x 2 (0, 0) (am_Q x (0, 0) (some (.int R.1)) am_YY (R.2) w) 48 [some (.ref 26), some (.int (l1))] [] am_YY g w := by
  intro n
  induction n with
  | zero => intro l1 g hf; cases hf
  | succ n ih =>
    intro l1 g hf
    rw [f_X8_readText_48.eq_2] at hf
    refine am_b1 C0 am_YYk (pc := 48) (pc2 := 50) [(.iload_n 1, 0, 0, .null), (.iconst 4, 0, 0, .int 4)] (L := [some (.ref 26), some (.int (l1))]) (st := []) (L' := [some (.ref 26), some (.int (l1))]) (st' := [.int ((4 : Int32)), .int (l1)]) (g' := g) (w' := w) (cl := []) (by decide +kernel) rfl trivial ?_
    refine am_icmp_ge C0 (off := 21) (tgt := 71) (by decide +kernel) (fun hc10 => ?_) (fun hc10 => ?_)
    · rw [if_pos hc10] at hf
      refine am_wk [some (.ref 26), none] ⟨rfl, trivial⟩ rfl ?_
      exact hk71 (g) hf
    · rw [if_neg hc10] at hf
      refine am_b1 C0 am_YYk (pc := 53) (pc2 := 61) [(.aload_n 0, 0, 0, .null), (.getfield 28, 8, 8, .null), (.iload_n 1, 0, 0, .null), (.aload_n 0, 0, 0, .null), (.iconst 0, 0, 0, .int 0), (.iconst 3, 0, 0, .int 3)] (L := [some (.ref 26), some (.int (l1))]) (st := []) (L' := [some (.ref 26), some (.int (l1))]) (st' := [.int ((3 : Int32)), .int ((0 : Int32)), .ref 26, .int (l1), .ref 33]) (g' := g) (w' := w) (cl := []) (by decide +kernel) rfl trivial ?_
      obtain ⟨q8, hq8, hf⟩ := Option.bind_eq_some_iff.mp hf
      refine am_callV (mi := mi_X8_figure) (rm := rm_X8_figure) [.int ((0 : Int32)), .int ((3 : Int32))] C0.1 am_YYl cv_8_90 (M_X8_figure _ g w (0 : Int32) (3 : Int32) _ hq8) (ci := 8) rfl (by decide) rfl (by rw [hR]; rfl) rfl rfl (Nat.le_of_ble_eq_true rfl) (by decide +kernel) ?_
      obtain ⟨hg9, hf⟩ := am_g hf
      refine am_b1 C0 am_YYk (pc := 64) (pc2 := 68) [(.iastore, 0, 0, .null), (.iinc 1 1, 0, 0, .int 1)] (L := [some (.ref 26), some (.int (l1))]) (st := [.int (q8.1), .int (l1), .ref 33]) (L' := [some (.ref 26), some (.int (l1 + (1 : Int32)))]) (st' := []) (g' := am_u q8.2 33 (Int32.toNatClampNeg l1) q8.1) (w' := w) (cl := [am_in l1 4]) (by decide +kernel) rfl ⟨hg9, trivial⟩ ?_
      refine am_goto C0 (off := (-20)) (tgt := 48) (by decide +kernel) ?_
      exact ih (l1 + (1 : Int32)) (am_u q8.2 33 (Int32.toNatClampNeg l1) q8.1) hf
def f_X8_readText (F : Nat) (g : am_G) : Option (Int32 × am_G) :=
  if ((am_u (am_u (am_u (am_u g 26 15 (0 : Int32)) 26 16 (-9 : Int32)) 26 11 (0 : Int32)) 26 12 (0 : Int32)) 26 14) = 0 then
    some ((0 : Int32), am_u (am_u (am_u (am_u g 26 15 (0 : Int32)) 26 16 (-9 : Int32)) 26 11 (0 : Int32)) 26 12 (0 : Int32))
  else
    if ((am_u (am_u (am_u (am_u g 26 15 (0 : Int32)) 26 16 (-9 : Int32)) 26 11 (0 : Int32)) 26 12 (0 : Int32)) 35 (Int32.toNatClampNeg (0 : Int32))) = (83 : Int32) then
      f_X8_readText_48 F (fun g => f_X8_readText_71 F (g)) F ((0 : Int32)) (am_u (am_u (am_u (am_u (am_u g 26 15 (0 : Int32)) 26 16 (-9 : Int32)) 26 11 (0 : Int32)) 26 12 (0 : Int32)) 26 15 (1 : Int32))
    else
      some ((0 : Int32), am_u (am_u (am_u (am_u g 26 15 (0 : Int32)) 26 16 (-9 : Int32)) 26 11 (0 : Int32)) 26 12 (0 : Int32))
set_option maxRecDepth 20000 in
theorem M_X8_readText (l : Launch) (F : Nat) (g : am_G) (w : am_J)  (R : Int32 × am_G) (hf : f_X8_readText F g = some R) : am_Met l mi_X8_readText rm_X8_readText [.ref 26] am_YY g w (some (.int R.1)) am_YY (R.2) w := by
  refine am_met (own := 8) [some (.ref 26), none] (by decide) rfl rfl (by first | decide | exact Nat.le_of_ble_eq_true rfl) (fun x C0 hR hl hnm => ?_)
  unfold f_X8_readText at hf
  refine am_b1 C0 am_YYk (pc := 0) (pc2 := 25) [(.aload_n 0, 0, 0, .null), (.iconst 0, 0, 0, .int 0), (.putfield 75, 8, 15, .null), (.aload_n 0, 0, 0, .null), (.bipush (-9), 0, 0, .int (-9)), (.putfield 72, 8, 16, .null), (.aload_n 0, 0, 0, .null), (.iconst 0, 0, 0, .int 0), (.putfield 84, 8, 11, .null), (.aload_n 0, 0, 0, .null), (.iconst 0, 0, 0, .int 0), (.putfield 87, 8, 12, .null), (.aload_n 0, 0, 0, .null), (.getfield 69, 8, 14, .null)] (L := [some (.ref 26), none]) (st := []) (L' := [some (.ref 26), none]) (st' := [.int ((am_u (am_u (am_u (am_u g 26 15 (0 : Int32)) 26 16 (-9 : Int32)) 26 11 (0 : Int32)) 26 12 (0 : Int32)) 26 14)]) (g' := am_u (am_u (am_u (am_u g 26 15 (0 : Int32)) 26 16 (-9 : Int32)) 26 11 (0 : Int32)) 26 12 (0 : Int32)) (w' := w) (cl := []) (by decide +kernel) rfl trivial ?_
  refine am_if_eq C0 (off := 14) (tgt := 39) (by decide +kernel) (fun hc12 => ?_) (fun hc12 => ?_)
  · rw [if_pos hc12] at hf
    refine am_b1 C0 am_YYk (pc := 39) (pc2 := 40) [(.iconst 0, 0, 0, .int 0)] (L := [some (.ref 26), none]) (st := []) (L' := [some (.ref 26), none]) (st' := [.int ((0 : Int32))]) (g' := am_u (am_u (am_u (am_u g 26 15 (0 : Int32)) 26 16 (-9 : Int32)) 26 11 (0 : Int32)) 26 12 (0 : Int32)) (w' := w) (cl := []) (by decide +kernel) rfl trivial ?_
    cases hf
    exact am_iret C0 (by decide +kernel)
  · rw [if_neg hc12] at hf
    refine am_b1 C0 am_YYk (pc := 28) (pc2 := 36) [(.aload_n 0, 0, 0, .null), (.getfield 34, 8, 13, .null), (.iconst 0, 0, 0, .int 0), (.iaload, 0, 0, .null), (.bipush 83, 0, 0, .int 83)] (L := [some (.ref 26), none]) (st := []) (L' := [some (.ref 26), none]) (st' := [.int ((83 : Int32)), .int ((am_u (am_u (am_u (am_u g 26 15 (0 : Int32)) 26 16 (-9 : Int32)) 26 11 (0 : Int32)) 26 12 (0 : Int32)) 35 (Int32.toNatClampNeg (0 : Int32)))]) (g' := am_u (am_u (am_u (am_u g 26 15 (0 : Int32)) 26 16 (-9 : Int32)) 26 11 (0 : Int32)) 26 12 (0 : Int32)) (w' := w) (cl := [am_in (0 : Int32) 48]) (by decide +kernel) rfl ⟨by decide, trivial⟩ ?_
    refine am_icmp_eq C0 (off := 5) (tgt := 41) (by decide +kernel) (fun hc11 => ?_) (fun hc11 => ?_)
    · rw [if_pos hc11] at hf
      refine am_b1 C0 am_YYk (pc := 41) (pc2 := 48) [(.aload_n 0, 0, 0, .null), (.iconst 1, 0, 0, .int 1), (.putfield 75, 8, 15, .null), (.iconst 0, 0, 0, .int 0), (.istore_n 1, 0, 0, .null)] (L := [some (.ref 26), none]) (st := []) (L' := [some (.ref 26), some (.int ((0 : Int32)))]) (st' := []) (g' := am_u (am_u (am_u (am_u (am_u g 26 15 (0 : Int32)) 26 16 (-9 : Int32)) 26 11 (0 : Int32)) 26 12 (0 : Int32)) 26 15 (1 : Int32)) (w' := w) (cl := []) (by decide +kernel) rfl trivial ?_
      refine B_X8_readText_48 x C0 hR w F R _ ?_ F ((0 : Int32)) (am_u (am_u (am_u (am_u (am_u g 26 15 (0 : Int32)) 26 16 (-9 : Int32)) 26 11 (0 : Int32)) 26 12 (0 : Int32)) 26 15 (1 : Int32)) hf
      · intro g hf
        exact B_X8_readText_71 x C0 hR w F R  (g) hf
    · rw [if_neg hc11] at hf
      refine am_b1 C0 am_YYk (pc := 39) (pc2 := 40) [(.iconst 0, 0, 0, .int 0)] (L := [some (.ref 26), none]) (st := []) (L' := [some (.ref 26), none]) (st' := [.int ((0 : Int32))]) (g' := am_u (am_u (am_u (am_u g 26 15 (0 : Int32)) 26 16 (-9 : Int32)) 26 11 (0 : Int32)) 26 12 (0 : Int32)) (w' := w) (cl := []) (by decide +kernel) rfl trivial ?_
      cases hf
      exact am_iret C0 (by decide +kernel)
/-! ShutterTownModel.fault()I at (26,) -/
def f_X8_fault (F : Nat) (g : am_G) : Option (Int32 × am_G) :=
  (f_X8_readText F g).bind fun q1 =>
    some (q1.1, q1.2)
set_option maxRecDepth 20000 in
theorem M_X8_fault (l : Launch) (F : Nat) (g : am_G) (w : am_J)  (R : Int32 × am_G) (hf : f_X8_fault F g = some R) : am_Met l mi_X8_fault rm_X8_fault [.ref 26] am_YY g w (some (.int R.1)) am_YY (R.2) w := by
  refine am_met (own := 8) [some (.ref 26)] (by decide) rfl rfl (by first | decide | exact Nat.le_of_ble_eq_true rfl) (fun x C0 hR hl hnm => ?_)
  unfold f_X8_fault at hf
  refine am_b1 C0 am_YYk (pc := 0) (pc2 := 1) [(.aload_n 0, 0, 0, .null)] (L := [some (.ref 26)]) (st := []) (L' := [some (.ref 26)]) (st' := [.ref 26]) (g' := g) (w' := w) (cl := []) (by decide +kernel) rfl trivial ?_
  obtain ⟨q1, hq1, hf⟩ := Option.bind_eq_some_iff.mp hf
  refine am_callV (mi := mi_X8_readText) (rm := rm_X8_readText) [] C0.1 am_YYl cv_8_108 (M_X8_readText _ F g w _ hq1) (ci := 8) rfl (by decide) rfl (by rw [hR]; rfl) rfl rfl (Nat.le_of_ble_eq_true rfl) (by decide +kernel) ?_
  cases hf
  exact am_iret C0 (by decide +kernel)
