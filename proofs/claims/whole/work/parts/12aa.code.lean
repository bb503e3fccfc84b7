/-! ShutterTown$Letters.add(I)Z at (1,) -/
def f_X3_add (g : am_G) (p1 : Int32) : Option (Int32 × am_G) :=
  if (g 1 1) < 0 then
    some ((0 : Int32), g)
  else
    if (g 1 1) < (48 : Int32) then
      if am_in (g 1 1) 48 then
        some ((1 : Int32), am_u (am_u g 2 (Int32.toNatClampNeg (g 1 1)) p1) 1 1 (((am_u g 2 (Int32.toNatClampNeg (g 1 1)) p1) 1 1) + (1 : Int32)))
      else none
    else
      some ((0 : Int32), g)
set_option maxRecDepth 20000 in
theorem M_X3_add (l : Launch) (g : am_G) (w : am_J) (p1 : Int32) (R : Int32 × am_G) (hf : f_X3_add g p1 = some R) : am_Met l mi_X3_add rm_X3_add [.ref 1, .int p1] am_YY g w (some (.int R.1)) am_YY (R.2) w := by
  refine am_met (own := 3) [some (.ref 1), some (.int (p1))] (by decide) rfl rfl (by first | decide | exact Nat.le_of_ble_eq_true rfl) (fun x C0 hR hl hnm => ?_)
  unfold f_X3_add at hf
  refine am_b1 C0 am_YYk (pc := 0) (pc2 := 4) [(.aload_n 0, 0, 0, .null), (.getfield 15, 3, 1, .null)] (L := [some (.ref 1), some (.int (p1))]) (st := []) (L' := [some (.ref 1), some (.int (p1))]) (st' := [.int (g 1 1)]) (g' := g) (w' := w) (cl := []) (by decide +kernel) rfl trivial ?_
  refine am_if_lt C0 (off := 12) (tgt := 16) (by decide +kernel) (fun hc3 => ?_) (fun hc3 => ?_)
  · rw [if_pos hc3] at hf
    refine am_b1 C0 am_YYk (pc := 16) (pc2 := 17) [(.iconst 0, 0, 0, .int 0)] (L := [some (.ref 1), some (.int (p1))]) (st := []) (L' := [some (.ref 1), some (.int (p1))]) (st' := [.int ((0 : Int32))]) (g' := g) (w' := w) (cl := []) (by decide +kernel) rfl trivial ?_
    cases hf
    exact am_zret C0 (by decide +kernel) (Or.inl rfl)
  · rw [if_neg hc3] at hf
    refine am_b1 C0 am_YYk (pc := 7) (pc2 := 13) [(.aload_n 0, 0, 0, .null), (.getfield 15, 3, 1, .null), (.bipush 48, 0, 0, .int 48)] (L := [some (.ref 1), some (.int (p1))]) (st := []) (L' := [some (.ref 1), some (.int (p1))]) (st' := [.int ((48 : Int32)), .int (g 1 1)]) (g' := g) (w' := w) (cl := []) (by decide +kernel) rfl trivial ?_
    refine am_icmp_lt C0 (off := 5) (tgt := 18) (by decide +kernel) (fun hc2 => ?_) (fun hc2 => ?_)
    · rw [if_pos hc2] at hf
      obtain ⟨hg1, hf⟩ := am_g hf
      refine am_b1 C0 am_YYk (pc := 18) (pc2 := 39) [(.aload_n 0, 0, 0, .null), (.getfield 9, 3, 0, .null), (.aload_n 0, 0, 0, .null), (.getfield 15, 3, 1, .null), (.iload_n 1, 0, 0, .null), (.iastore, 0, 0, .null), (.aload_n 0, 0, 0, .null), (.dup, 0, 0, .null), (.getfield 15, 3, 1, .null), (.iconst 1, 0, 0, .int 1), (.iadd, 0, 0, .null), (.putfield 15, 3, 1, .null), (.iconst 1, 0, 0, .int 1)] (L := [some (.ref 1), some (.int (p1))]) (st := []) (L' := [some (.ref 1), some (.int (p1))]) (st' := [.int ((1 : Int32))]) (g' := am_u (am_u g 2 (Int32.toNatClampNeg (g 1 1)) p1) 1 1 (((am_u g 2 (Int32.toNatClampNeg (g 1 1)) p1) 1 1) + (1 : Int32))) (w' := w) (cl := [am_in (g 1 1) 48]) (by decide +kernel) rfl ⟨hg1, trivial⟩ ?_
      cases hf
      exact am_zret C0 (by decide +kernel) (Or.inr rfl)
    · rw [if_neg hc2] at hf
      refine am_b1 C0 am_YYk (pc := 16) (pc2 := 17) [(.iconst 0, 0, 0, .int 0)] (L := [some (.ref 1), some (.int (p1))]) (st := []) (L' := [some (.ref 1), some (.int (p1))]) (st' := [.int ((0 : Int32))]) (g' := g) (w' := w) (cl := []) (by decide +kernel) rfl trivial ?_
      cases hf
      exact am_zret C0 (by decide +kernel) (Or.inl rfl)
/-! ShutterTown$Letters.size()I at (1,) -/
def f_X3_size (g : am_G) : Option (Int32) :=
  some (g 1 1)
set_option maxRecDepth 20000 in
theorem M_X3_size (l : Launch) (g : am_G) (w : am_J)  (R : Int32) (hf : f_X3_size g = some R) : am_Met l mi_X3_size rm_X3_size [.ref 1] am_YY g w (some (.int R)) am_YY g w := by
  refine am_met (own := 3) [some (.ref 1)] (by decide) rfl rfl (by first | decide | exact Nat.le_of_ble_eq_true rfl) (fun x C0 hR hl hnm => ?_)
  unfold f_X3_size at hf
  refine am_b1 C0 am_YYk (pc := 0) (pc2 := 4) [(.aload_n 0, 0, 0, .null), (.getfield 15, 3, 1, .null)] (L := [some (.ref 1)]) (st := []) (L' := [some (.ref 1)]) (st' := [.int (g 1 1)]) (g' := g) (w' := w) (cl := []) (by decide +kernel) rfl trivial ?_
  cases hf
  exact am_iret C0 (by decide +kernel)
/-! ShutterTown.write(I)I at (0,) -/
def f_X7_write (g : am_G) (p1 : Int32) : Option (Int32 × am_G) :=
  if p1 < 0 then
    some ((-2 : Int32), g)
  else
    if p1 ≤ (255 : Int32) then
      (f_X3_add g p1).bind fun q1 =>
        if q1.1 = 0 then
          some ((-4 : Int32), q1.2)
        else
          (f_X3_size q1.2).bind fun q2 =>
            some (q2, q1.2)
    else
      some ((-2 : Int32), g)
set_option maxRecDepth 20000 in
theorem M_X7_write (l : Launch) (g : am_G) (w : am_J) (p1 : Int32) (R : Int32 × am_G) (hf : f_X7_write g p1 = some R) : am_Met l mi_X7_write rm_X7_write [.ref 0, .int p1] am_YY g w (some (.int R.1)) am_YY (R.2) w := by
  refine am_met (own := 7) [some (.ref 0), some (.int (p1))] (by decide) rfl rfl (by first | decide | exact Nat.le_of_ble_eq_true rfl) (fun x C0 hR hl hnm => ?_)
  unfold f_X7_write at hf
  refine am_b1 C0 am_YYk (pc := 0) (pc2 := 1) [(.iload_n 1, 0, 0, .null)] (L := [some (.ref 0), some (.int (p1))]) (st := []) (L' := [some (.ref 0), some (.int (p1))]) (st' := [.int (p1)]) (g' := g) (w' := w) (cl := []) (by decide +kernel) rfl trivial ?_
  refine am_if_lt C0 (off := 10) (tgt := 11) (by decide +kernel) (fun hc5 => ?_) (fun hc5 => ?_)
  · rw [if_pos hc5] at hf
    refine am_b1 C0 am_YYk (pc := 11) (pc2 := 13) [(.bipush (-2), 0, 0, .int (-2))] (L := [some (.ref 0), some (.int (p1))]) (st := []) (L' := [some (.ref 0), some (.int (p1))]) (st' := [.int ((-2 : Int32))]) (g' := g) (w' := w) (cl := []) (by decide +kernel) rfl trivial ?_
    cases hf
    exact am_iret C0 (by decide +kernel)
  · rw [if_neg hc5] at hf
    refine am_b1 C0 am_YYk (pc := 4) (pc2 := 8) [(.iload_n 1, 0, 0, .null), (.sipush 255, 0, 0, .int 255)] (L := [some (.ref 0), some (.int (p1))]) (st := []) (L' := [some (.ref 0), some (.int (p1))]) (st' := [.int ((255 : Int32)), .int (p1)]) (g' := g) (w' := w) (cl := []) (by decide +kernel) rfl trivial ?_
    refine am_icmp_le C0 (off := 6) (tgt := 14) (by decide +kernel) (fun hc4 => ?_) (fun hc4 => ?_)
    · rw [if_pos hc4] at hf
      refine am_b1 C0 am_YYk (pc := 14) (pc2 := 19) [(.aload_n 0, 0, 0, .null), (.getfield 12, 7, 0, .null), (.iload_n 1, 0, 0, .null)] (L := [some (.ref 0), some (.int (p1))]) (st := []) (L' := [some (.ref 0), some (.int (p1))]) (st' := [.int (p1), .ref 1]) (g' := g) (w' := w) (cl := []) (by decide +kernel) rfl trivial ?_
      obtain ⟨q1, hq1, hf⟩ := Option.bind_eq_some_iff.mp hf
      refine am_callV (mi := mi_X3_add) (rm := rm_X3_add) [.int (p1)] C0.1 am_YYl cv_7_70 (M_X3_add _ g w p1 _ hq1) (ci := 3) rfl (by decide) rfl (by rw [hR]; rfl) rfl rfl (Nat.le_of_ble_eq_true rfl) (by decide +kernel) ?_
      refine am_if_eq C0 (off := 13) (tgt := 35) (by decide +kernel) (fun hc3 => ?_) (fun hc3 => ?_)
      · rw [if_pos hc3] at hf
        refine am_b1 C0 am_YYk (pc := 35) (pc2 := 37) [(.bipush (-4), 0, 0, .int (-4))] (L := [some (.ref 0), some (.int (p1))]) (st := []) (L' := [some (.ref 0), some (.int (p1))]) (st' := [.int ((-4 : Int32))]) (g' := q1.2) (w' := w) (cl := []) (by decide +kernel) rfl trivial ?_
        cases hf
        exact am_iret C0 (by decide +kernel)
      · rw [if_neg hc3] at hf
        refine am_b1 C0 am_YYk (pc := 25) (pc2 := 29) [(.aload_n 0, 0, 0, .null), (.getfield 12, 7, 0, .null)] (L := [some (.ref 0), some (.int (p1))]) (st := []) (L' := [some (.ref 0), some (.int (p1))]) (st' := [.ref 1]) (g' := q1.2) (w' := w) (cl := []) (by decide +kernel) rfl trivial ?_
        obtain ⟨q2, hq2, hf⟩ := Option.bind_eq_some_iff.mp hf
        refine am_callV (mi := mi_X3_size) (rm := rm_X3_size) [] C0.1 am_YYl cv_7_74 (M_X3_size _ q1.2 w _ hq2) (ci := 3) rfl (by decide) rfl (by rw [hR]; rfl) rfl rfl (Nat.le_of_ble_eq_true rfl) (by decide +kernel) ?_
        refine am_goto C0 (off := 5) (tgt := 37) (by decide +kernel) ?_
        cases hf
        exact am_iret C0 (by decide +kernel)
    · rw [if_neg hc4] at hf
      refine am_b1 C0 am_YYk (pc := 11) (pc2 := 13) [(.bipush (-2), 0, 0, .int (-2))] (L := [some (.ref 0), some (.int (p1))]) (st := []) (L' := [some (.ref 0), some (.int (p1))]) (st' := [.int ((-2 : Int32))]) (g' := g) (w' := w) (cl := []) (by decide +kernel) rfl trivial ?_
      cases hf
      exact am_iret C0 (by decide +kernel)
/-! ShutterTown$Letters.clear()V at (1,) -/
def f_X3_clear (g : am_G) : Option (am_G) :=
  some (am_u g 1 1 (0 : Int32))
set_option maxRecDepth 20000 in
theorem M_X3_clear (l : Launch) (g : am_G) (w : am_J)  (R : am_G) (hf : f_X3_clear g = some R) : am_Met l mi_X3_clear rm_X3_clear [.ref 1] am_YY g w none am_YY R w := by
  refine am_met (own := 3) [some (.ref 1)] (by decide) rfl rfl (by first | decide | exact Nat.le_of_ble_eq_true rfl) (fun x C0 hR hl hnm => ?_)
  unfold f_X3_clear at hf
  refine am_b1 C0 am_YYk (pc := 0) (pc2 := 5) [(.aload_n 0, 0, 0, .null), (.iconst 0, 0, 0, .int 0), (.putfield 15, 3, 1, .null)] (L := [some (.ref 1)]) (st := []) (L' := [some (.ref 1)]) (st' := []) (g' := am_u g 1 1 (0 : Int32)) (w' := w) (cl := []) (by decide +kernel) rfl trivial ?_
  cases hf
  exact am_vret C0 (by decide +kernel)
/-! ShutterTown.wipe()I at (0,) -/
def f_X7_wipe (g : am_G) : Option (Int32 × am_G) :=
  (f_X3_size g).bind fun q1 =>
    (f_X3_clear g).bind fun q2 =>
      some (q1, q2)
set_option maxRecDepth 20000 in
theorem M_X7_wipe (l : Launch) (g : am_G) (w : am_J)  (R : Int32 × am_G) (hf : f_X7_wipe g = some R) : am_Met l mi_X7_wipe rm_X7_wipe [.ref 0] am_YY g w (some (.int R.1)) am_YY (R.2) w := by
  refine am_met (own := 7) [some (.ref 0), none] (by decide) rfl rfl (by first | decide | exact Nat.le_of_ble_eq_true rfl) (fun x C0 hR hl hnm => ?_)
  unfold f_X7_wipe at hf
  refine am_b1 C0 am_YYk (pc := 0) (pc2 := 4) [(.aload_n 0, 0, 0, .null), (.getfield 12, 7, 0, .null)] (L := [some (.ref 0), none]) (st := []) (L' := [some (.ref 0), none]) (st' := [.ref 1]) (g' := g) (w' := w) (cl := []) (by decide +kernel) rfl trivial ?_
  obtain ⟨q1, hq1, hf⟩ := Option.bind_eq_some_iff.mp hf
  refine am_callV (mi := mi_X3_size) (rm := rm_X3_size) [] C0.1 am_YYl cv_7_74 (M_X3_size _ g w _ hq1) (ci := 3) rfl (by decide) rfl (by rw [hR]; rfl) rfl rfl (Nat.le_of_ble_eq_true rfl) (by decide +kernel) ?_
  refine am_b1 C0 am_YYk (pc := 7) (pc2 := 12) [(.istore_n 1, 0, 0, .null), (.aload_n 0, 0, 0, .null), (.getfield 12, 7, 0, .null)] (L := [some (.ref 0), none]) (st := [.int (q1)]) (L' := [some (.ref 0), some (.int (q1))]) (st' := [.ref 1]) (g' := g) (w' := w) (cl := []) (by decide +kernel) rfl trivial ?_
  obtain ⟨q2, hq2, hf⟩ := Option.bind_eq_some_iff.mp hf
  refine am_callV (mi := mi_X3_clear) (rm := rm_X3_clear) [] C0.1 am_YYl cv_7_78 (M_X3_clear _ g w _ hq2) (ci := 3) rfl (by decide) rfl (by rw [hR]; rfl) rfl rfl (Nat.le_of_ble_eq_true rfl) (by decide +kernel) ?_
  refine am_b1 C0 am_YYk (pc := 15) (pc2 := 16) [(.iload_n 1, 0, 0, .null)] (L := [some (.ref 0), some (.int (q1))]) (st := []) (L' := [some (.ref 0), some (.int (q1))]) (st' := [.int (q1)]) (g' := q2) (w' := w) (cl := []) (by decide +kernel) rfl trivial ?_
  cases hf
  exact am_iret C0 (by decide +kernel)
/-! ShutterTown$Letters.isLetter(IC)Z at (1,) -/
def f_X3_isLetter (g : am_G) (p1 : Int32) (p2 : Int32) : Option (Int32) :=
  if p1 < 0 then
    some ((0 : Int32))
  else
    if (48 : Int32) ≤ p1 then
      some ((0 : Int32))
    else
      if am_in p1 48 then
        if (g 2 (Int32.toNatClampNeg p1)) = p2 then
          some ((1 : Int32))
        else
          some ((0 : Int32))
      else none
set_option maxRecDepth 20000 in
theorem M_X3_isLetter (l : Launch) (g : am_G) (w : am_J) (p1 : Int32) (p2 : Int32) (R : Int32) (hf : f_X3_isLetter g p1 p2 = some R) : am_Met l mi_X3_isLetter rm_X3_isLetter [.ref 1, .int p1, .int p2] am_YY g w (some (.int R)) am_YY g w := by
  refine am_met (own := 3) [some (.ref 1), some (.int (p1)), some (.int (p2))] (by decide) rfl rfl (by first | decide | exact Nat.le_of_ble_eq_true rfl) (fun x C0 hR hl hnm => ?_)
  unfold f_X3_isLetter at hf
  refine am_b1 C0 am_YYk (pc := 0) (pc2 := 1) [(.iload_n 1, 0, 0, .null)] (L := [some (.ref 1), some (.int (p1)), some (.int (p2))]) (st := []) (L' := [some (.ref 1), some (.int (p1)), some (.int (p2))]) (st' := [.int (p1)]) (g' := g) (w' := w) (cl := []) (by decide +kernel) rfl trivial ?_
  refine am_if_lt C0 (off := 23) (tgt := 24) (by decide +kernel) (fun hc4 => ?_) (fun hc4 => ?_)
  · rw [if_pos hc4] at hf
    refine am_b1 C0 am_YYk (pc := 24) (pc2 := 25) [(.iconst 0, 0, 0, .int 0)] (L := [some (.ref 1), some (.int (p1)), some (.int (p2))]) (st := []) (L' := [some (.ref 1), some (.int (p1)), some (.int (p2))]) (st' := [.int ((0 : Int32))]) (g' := g) (w' := w) (cl := []) (by decide +kernel) rfl trivial ?_
    cases hf
    exact am_zret C0 (by decide +kernel) (Or.inl rfl)
  · rw [if_neg hc4] at hf
    refine am_b1 C0 am_YYk (pc := 4) (pc2 := 7) [(.iload_n 1, 0, 0, .null), (.bipush 48, 0, 0, .int 48)] (L := [some (.ref 1), some (.int (p1)), some (.int (p2))]) (st := []) (L' := [some (.ref 1), some (.int (p1)), some (.int (p2))]) (st' := [.int ((48 : Int32)), .int (p1)]) (g' := g) (w' := w) (cl := []) (by decide +kernel) rfl trivial ?_
    refine am_icmp_ge C0 (off := 17) (tgt := 24) (by decide +kernel) (fun hc3 => ?_) (fun hc3 => ?_)
    · rw [if_pos hc3] at hf
      refine am_b1 C0 am_YYk (pc := 24) (pc2 := 25) [(.iconst 0, 0, 0, .int 0)] (L := [some (.ref 1), some (.int (p1)), some (.int (p2))]) (st := []) (L' := [some (.ref 1), some (.int (p1)), some (.int (p2))]) (st' := [.int ((0 : Int32))]) (g' := g) (w' := w) (cl := []) (by decide +kernel) rfl trivial ?_
      cases hf
      exact am_zret C0 (by decide +kernel) (Or.inl rfl)
    · rw [if_neg hc3] at hf
      obtain ⟨hg1, hf⟩ := am_g hf
      refine am_b1 C0 am_YYk (pc := 10) (pc2 := 17) [(.aload_n 0, 0, 0, .null), (.getfield 9, 3, 0, .null), (.iload_n 1, 0, 0, .null), (.iaload, 0, 0, .null), (.iload_n 2, 0, 0, .null)] (L := [some (.ref 1), some (.int (p1)), some (.int (p2))]) (st := []) (L' := [some (.ref 1), some (.int (p1)), some (.int (p2))]) (st' := [.int (p2), .int (g 2 (Int32.toNatClampNeg p1))]) (g' := g) (w' := w) (cl := [am_in p1 48]) (by decide +kernel) rfl ⟨hg1, trivial⟩ ?_
      refine am_icmp_ne C0 (off := 7) (tgt := 24) (by decide +kernel) (fun hc2 => ?_) (fun hc2 => ?_)
      · rw [if_neg hc2] at hf
        refine am_b1 C0 am_YYk (pc := 24) (pc2 := 25) [(.iconst 0, 0, 0, .int 0)] (L := [some (.ref 1), some (.int (p1)), some (.int (p2))]) (st := []) (L' := [some (.ref 1), some (.int (p1)), some (.int (p2))]) (st' := [.int ((0 : Int32))]) (g' := g) (w' := w) (cl := []) (by decide +kernel) rfl trivial ?_
        cases hf
        exact am_zret C0 (by decide +kernel) (Or.inl rfl)
      · rw [if_pos hc2] at hf
        refine am_b1 C0 am_YYk (pc := 20) (pc2 := 21) [(.iconst 1, 0, 0, .int 1)] (L := [some (.ref 1), some (.int (p1)), some (.int (p2))]) (st := []) (L' := [some (.ref 1), some (.int (p1)), some (.int (p2))]) (st' := [.int ((1 : Int32))]) (g' := g) (w' := w) (cl := []) (by decide +kernel) rfl trivial ?_
        refine am_goto C0 (off := 4) (tgt := 25) (by decide +kernel) ?_
        cases hf
        exact am_zret C0 (by decide +kernel) (Or.inr rfl)
/-! ShutterTown$Letters.figure(I)I at (1,) -/
def f_X3_figure (g : am_G) (p1 : Int32) : Option (Int32) :=
  if p1 < 0 then
    some ((-1 : Int32))
  else
    if (g 1 1) ≤ p1 then
      some ((-1 : Int32))
    else
      if p1 < (48 : Int32) then
        if am_in p1 48 then
          if (g 2 (Int32.toNatClampNeg p1)) < (48 : Int32) then
            some ((-1 : Int32))
          else
            if am_in p1 48 then
              if (57 : Int32) < (g 2 (Int32.toNatClampNeg p1)) then
                some ((-1 : Int32))
              else
                if am_in p1 48 then
                  some ((g 2 (Int32.toNatClampNeg p1)) - (48 : Int32))
                else none
            else none
        else none
      else
        some ((-1 : Int32))
set_option maxRecDepth 20000 in
theorem M_X3_figure (l : Launch) (g : am_G) (w : am_J) (p1 : Int32) (R : Int32) (hf : f_X3_figure g p1 = some R) : am_Met l mi_X3_figure rm_X3_figure [.ref 1, .int p1] am_YY g w (some (.int R)) am_YY g w := by
  refine am_met (own := 3) [some (.ref 1), some (.int (p1))] (by decide) rfl rfl (by first | decide | exact Nat.le_of_ble_eq_true rfl) (fun x C0 hR hl hnm => ?_)
  unfold f_X3_figure at hf
  refine am_b1 C0 am_YYk (pc := 0) (pc2 := 1) [(.iload_n 1, 0, 0, .null)] (L := [some (.ref 1), some (.int (p1))]) (st := []) (L' := [some (.ref 1), some (.int (p1))]) (st' := [.int (p1)]) (g' := g) (w' := w) (cl := []) (by decide +kernel) rfl trivial ?_
  refine am_if_lt C0 (off := 17) (tgt := 18) (by decide +kernel) (fun hc8 => ?_) (fun hc8 => ?_)
  · rw [if_pos hc8] at hf
    refine am_b1 C0 am_YYk (pc := 18) (pc2 := 19) [(.iconst (-1), 0, 0, .int (-1))] (L := [some (.ref 1), some (.int (p1))]) (st := []) (L' := [some (.ref 1), some (.int (p1))]) (st' := [.int ((-1 : Int32))]) (g' := g) (w' := w) (cl := []) (by decide +kernel) rfl trivial ?_
    cases hf
    exact am_iret C0 (by decide +kernel)
  · rw [if_neg hc8] at hf
    refine am_b1 C0 am_YYk (pc := 4) (pc2 := 9) [(.iload_n 1, 0, 0, .null), (.aload_n 0, 0, 0, .null), (.getfield 15, 3, 1, .null)] (L := [some (.ref 1), some (.int (p1))]) (st := []) (L' := [some (.ref 1), some (.int (p1))]) (st' := [.int (g 1 1), .int (p1)]) (g' := g) (w' := w) (cl := []) (by decide +kernel) rfl trivial ?_
    refine am_icmp_ge C0 (off := 9) (tgt := 18) (by decide +kernel) (fun hc7 => ?_) (fun hc7 => ?_)
    · rw [if_pos hc7] at hf
      refine am_b1 C0 am_YYk (pc := 18) (pc2 := 19) [(.iconst (-1), 0, 0, .int (-1))] (L := [some (.ref 1), some (.int (p1))]) (st := []) (L' := [some (.ref 1), some (.int (p1))]) (st' := [.int ((-1 : Int32))]) (g' := g) (w' := w) (cl := []) (by decide +kernel) rfl trivial ?_
      cases hf
      exact am_iret C0 (by decide +kernel)
    · rw [if_neg hc7] at hf
      refine am_b1 C0 am_YYk (pc := 12) (pc2 := 15) [(.iload_n 1, 0, 0, .null), (.bipush 48, 0, 0, .int 48)] (L := [some (.ref 1), some (.int (p1))]) (st := []) (L' := [some (.ref 1), some (.int (p1))]) (st' := [.int ((48 : Int32)), .int (p1)]) (g' := g) (w' := w) (cl := []) (by decide +kernel) rfl trivial ?_
      refine am_icmp_lt C0 (off := 5) (tgt := 20) (by decide +kernel) (fun hc6 => ?_) (fun hc6 => ?_)
      · rw [if_pos hc6] at hf
        obtain ⟨hg1, hf⟩ := am_g hf
        refine am_b1 C0 am_YYk (pc := 20) (pc2 := 28) [(.aload_n 0, 0, 0, .null), (.getfield 9, 3, 0, .null), (.iload_n 1, 0, 0, .null), (.iaload, 0, 0, .null), (.bipush 48, 0, 0, .int 48)] (L := [some (.ref 1), some (.int (p1))]) (st := []) (L' := [some (.ref 1), some (.int (p1))]) (st' := [.int ((48 : Int32)), .int (g 2 (Int32.toNatClampNeg p1))]) (g' := g) (w' := w) (cl := [am_in p1 48]) (by decide +kernel) rfl ⟨hg1, trivial⟩ ?_
        refine am_icmp_lt C0 (off := 26) (tgt := 54) (by decide +kernel) (fun hc5 => ?_) (fun hc5 => ?_)
        · rw [if_pos hc5] at hf
          refine am_b1 C0 am_YYk (pc := 54) (pc2 := 55) [(.iconst (-1), 0, 0, .int (-1))] (L := [some (.ref 1), some (.int (p1))]) (st := []) (L' := [some (.ref 1), some (.int (p1))]) (st' := [.int ((-1 : Int32))]) (g' := g) (w' := w) (cl := []) (by decide +kernel) rfl trivial ?_
          cases hf
          exact am_iret C0 (by decide +kernel)
        · rw [if_neg hc5] at hf
          obtain ⟨hg2, hf⟩ := am_g hf
          refine am_b1 C0 am_YYk (pc := 31) (pc2 := 39) [(.aload_n 0, 0, 0, .null), (.getfield 9, 3, 0, .null), (.iload_n 1, 0, 0, .null), (.iaload, 0, 0, .null), (.bipush 57, 0, 0, .int 57)] (L := [some (.ref 1), some (.int (p1))]) (st := []) (L' := [some (.ref 1), some (.int (p1))]) (st' := [.int ((57 : Int32)), .int (g 2 (Int32.toNatClampNeg p1))]) (g' := g) (w' := w) (cl := [am_in p1 48]) (by decide +kernel) rfl ⟨hg2, trivial⟩ ?_
          refine am_icmp_gt C0 (off := 15) (tgt := 54) (by decide +kernel) (fun hc4 => ?_) (fun hc4 => ?_)
          · rw [if_pos hc4] at hf
            refine am_b1 C0 am_YYk (pc := 54) (pc2 := 55) [(.iconst (-1), 0, 0, .int (-1))] (L := [some (.ref 1), some (.int (p1))]) (st := []) (L' := [some (.ref 1), some (.int (p1))]) (st' := [.int ((-1 : Int32))]) (g' := g) (w' := w) (cl := []) (by decide +kernel) rfl trivial ?_
            cases hf
            exact am_iret C0 (by decide +kernel)
          · rw [if_neg hc4] at hf
            obtain ⟨hg3, hf⟩ := am_g hf
            refine am_b1 C0 am_YYk (pc := 42) (pc2 := 51) [(.aload_n 0, 0, 0, .null), (.getfield 9, 3, 0, .null), (.iload_n 1, 0, 0, .null), (.iaload, 0, 0, .null), (.bipush 48, 0, 0, .int 48), (.isub, 0, 0, .null)] (L := [some (.ref 1), some (.int (p1))]) (st := []) (L' := [some (.ref 1), some (.int (p1))]) (st' := [.int ((g 2 (Int32.toNatClampNeg p1)) - (48 : Int32))]) (g' := g) (w' := w) (cl := [am_in p1 48]) (by decide +kernel) rfl ⟨hg3, trivial⟩ ?_
            refine am_goto C0 (off := 4) (tgt := 55) (by decide +kernel) ?_
            cases hf
            exact am_iret C0 (by decide +kernel)
      · rw [if_neg hc6] at hf
        refine am_b1 C0 am_YYk (pc := 18) (pc2 := 19) [(.iconst (-1), 0, 0, .int (-1))] (L := [some (.ref 1), some (.int (p1))]) (st := []) (L' := [some (.ref 1), some (.int (p1))]) (st' := [.int ((-1 : Int32))]) (g' := g) (w' := w) (cl := []) (by decide +kernel) rfl trivial ?_
        cases hf
        exact am_iret C0 (by decide +kernel)
/-! ShutterTown$Letters.isFigure(III)Z at (1,) -/
def f_X3_isFigure (g : am_G) (p1 : Int32) (p2 : Int32) (p3 : Int32) : Option (Int32) :=
  (f_X3_figure g p1).bind fun q1 =>
    if q1 < p2 then
      some ((0 : Int32))
    else
      if p3 < q1 then
        some ((0 : Int32))
      else
        some ((1 : Int32))
set_option maxRecDepth 20000 in
theorem M_X3_isFigure (l : Launch) (g : am_G) (w : am_J) (p1 : Int32) (p2 : Int32) (p3 : Int32) (R : Int32) (hf : f_X3_isFigure g p1 p2 p3 = some R) : am_Met l mi_X3_isFigure rm_X3_isFigure [.ref 1, .int p1, .int p2, .int p3] am_YY g w (some (.int R)) am_YY g w := by
  refine am_met (own := 3) [some (.ref 1), some (.int (p1)), some (.int (p2)), some (.int (p3)), none] (by decide) rfl rfl (by first | decide | exact Nat.le_of_ble_eq_true rfl) (fun x C0 hR hl hnm => ?_)
  unfold f_X3_isFigure at hf
  refine am_b1 C0 am_YYk (pc := 0) (pc2 := 2) [(.aload_n 0, 0, 0, .null), (.iload_n 1, 0, 0, .null)] (L := [some (.ref 1), some (.int (p1)), some (.int (p2)), some (.int (p3)), none]) (st := []) (L' := [some (.ref 1), some (.int (p1)), some (.int (p2)), some (.int (p3)), none]) (st' := [.int (p1), .ref 1]) (g' := g) (w' := w) (cl := []) (by decide +kernel) rfl trivial ?_
  obtain ⟨q1, hq1, hf⟩ := Option.bind_eq_some_iff.mp hf
  refine am_callV (mi := mi_X3_figure) (rm := rm_X3_figure) [.int (p1)] C0.1 am_YYl cv_3_26 (M_X3_figure _ g w p1 _ hq1) (ci := 3) rfl (by decide) rfl (by rw [hR]; rfl) rfl rfl (Nat.le_of_ble_eq_true rfl) (by decide +kernel) ?_
  refine am_b1 C0 am_YYk (pc := 5) (pc2 := 10) [(.istore 4, 0, 0, .null), (.iload 4, 0, 0, .null), (.iload_n 2, 0, 0, .null)] (L := [some (.ref 1), some (.int (p1)), some (.int (p2)), some (.int (p3)), none]) (st := [.int (q1)]) (L' := [some (.ref 1), some (.int (p1)), some (.int (p2)), some (.int (p3)), some (.int (q1))]) (st' := [.int (p2), .int (q1)]) (g' := g) (w' := w) (cl := []) (by decide +kernel) rfl trivial ?_
  refine am_icmp_lt C0 (off := 13) (tgt := 23) (by decide +kernel) (fun hc3 => ?_) (fun hc3 => ?_)
  · rw [if_pos hc3] at hf
    refine am_b1 C0 am_YYk (pc := 23) (pc2 := 24) [(.iconst 0, 0, 0, .int 0)] (L := [some (.ref 1), some (.int (p1)), some (.int (p2)), some (.int (p3)), some (.int (q1))]) (st := []) (L' := [some (.ref 1), some (.int (p1)), some (.int (p2)), some (.int (p3)), some (.int (q1))]) (st' := [.int ((0 : Int32))]) (g' := g) (w' := w) (cl := []) (by decide +kernel) rfl trivial ?_
    cases hf
    exact am_zret C0 (by decide +kernel) (Or.inl rfl)
  · rw [if_neg hc3] at hf
    refine am_b1 C0 am_YYk (pc := 13) (pc2 := 16) [(.iload 4, 0, 0, .null), (.iload_n 3, 0, 0, .null)] (L := [some (.ref 1), some (.int (p1)), some (.int (p2)), some (.int (p3)), some (.int (q1))]) (st := []) (L' := [some (.ref 1), some (.int (p1)), some (.int (p2)), some (.int (p3)), some (.int (q1))]) (st' := [.int (p3), .int (q1)]) (g' := g) (w' := w) (cl := []) (by decide +kernel) rfl trivial ?_
    refine am_icmp_gt C0 (off := 7) (tgt := 23) (by decide +kernel) (fun hc2 => ?_) (fun hc2 => ?_)
    · rw [if_pos hc2] at hf
      refine am_b1 C0 am_YYk (pc := 23) (pc2 := 24) [(.iconst 0, 0, 0, .int 0)] (L := [some (.ref 1), some (.int (p1)), some (.int (p2)), some (.int (p3)), some (.int (q1))]) (st := []) (L' := [some (.ref 1), some (.int (p1)), some (.int (p2)), some (.int (p3)), some (.int (q1))]) (st' := [.int ((0 : Int32))]) (g' := g) (w' := w) (cl := []) (by decide +kernel) rfl trivial ?_
      cases hf
      exact am_zret C0 (by decide +kernel) (Or.inl rfl)
    · rw [if_neg hc2] at hf
      refine am_b1 C0 am_YYk (pc := 19) (pc2 := 20) [(.iconst 1, 0, 0, .int 1)] (L := [some (.ref 1), some (.int (p1)), some (.int (p2)), some (.int (p3)), some (.int (q1))]) (st := []) (L' := [some (.ref 1), some (.int (p1)), some (.int (p2)), some (.int (p3)), some (.int (q1))]) (st' := [.int ((1 : Int32))]) (g' := g) (w' := w) (cl := []) (by decide +kernel) rfl trivial ?_
      refine am_goto C0 (off := 4) (tgt := 24) (by decide +kernel) ?_
      cases hf
      exact am_zret C0 (by decide +kernel) (Or.inr rfl)
/-! ShutterTown$Letters.fitsHead(I)Z at (1,) -/
def f_X3_fitsHead (g : am_G) (p1 : Int32) : Option (Int32) :=
  if p1 = 0 then
    (f_X3_isLetter g p1 (83 : Int32)).bind fun q6 =>
      if q6 = 0 ∨ q6 = 1 then
        some (q6)
      else none
  else
    if (5 : Int32) ≤ p1 then
      (f_X3_isFigure g p1 (1 : Int32) (9 : Int32)).bind fun q1 =>
        if q1 = 0 ∨ q1 = 1 then
          some (q1)
        else none
    else
      (f_X3_isFigure g p1 (0 : Int32) (3 : Int32)).bind fun q3 =>
        if q3 = 0 ∨ q3 = 1 then
          some (q3)
        else none
set_option maxRecDepth 20000 in
theorem M_X3_fitsHead (l : Launch) (g : am_G) (w : am_J) (p1 : Int32) (R : Int32) (hf : f_X3_fitsHead g p1 = some R) : am_Met l mi_X3_fitsHead rm_X3_fitsHead [.ref 1, .int p1] am_YY g w (some (.int R)) am_YY g w := by
  refine am_met (own := 3) [some (.ref 1), some (.int (p1))] (by decide) rfl rfl (by first | decide | exact Nat.le_of_ble_eq_true rfl) (fun x C0 hR hl hnm => ?_)
  unfold f_X3_fitsHead at hf
  refine am_b1 C0 am_YYk (pc := 0) (pc2 := 1) [(.iload_n 1, 0, 0, .null)] (L := [some (.ref 1), some (.int (p1))]) (st := []) (L' := [some (.ref 1), some (.int (p1))]) (st' := [.int (p1)]) (g' := g) (w' := w) (cl := []) (by decide +kernel) rfl trivial ?_
  refine am_if_ne C0 (off := 11) (tgt := 12) (by decide +kernel) (fun hc8 => ?_) (fun hc8 => ?_)
  · rw [if_neg hc8] at hf
    refine am_b1 C0 am_YYk (pc := 12) (pc2 := 14) [(.iload_n 1, 0, 0, .null), (.iconst 5, 0, 0, .int 5)] (L := [some (.ref 1), some (.int (p1))]) (st := []) (L' := [some (.ref 1), some (.int (p1))]) (st' := [.int ((5 : Int32)), .int (p1)]) (g' := g) (w' := w) (cl := []) (by decide +kernel) rfl trivial ?_
    refine am_icmp_ge C0 (off := 13) (tgt := 27) (by decide +kernel) (fun hc5 => ?_) (fun hc5 => ?_)
    · rw [if_pos hc5] at hf
      refine am_b1 C0 am_YYk (pc := 27) (pc2 := 32) [(.aload_n 0, 0, 0, .null), (.iload_n 1, 0, 0, .null), (.iconst 1, 0, 0, .int 1), (.bipush 9, 0, 0, .int 9)] (L := [some (.ref 1), some (.int (p1))]) (st := []) (L' := [some (.ref 1), some (.int (p1))]) (st' := [.int ((9 : Int32)), .int ((1 : Int32)), .int (p1), .ref 1]) (g' := g) (w' := w) (cl := []) (by decide +kernel) rfl trivial ?_
      obtain ⟨q1, hq1, hf⟩ := Option.bind_eq_some_iff.mp hf
      refine am_callV (mi := mi_X3_isFigure) (rm := rm_X3_isFigure) [.int (p1), .int ((1 : Int32)), .int ((9 : Int32))] C0.1 am_YYl cv_3_34 (M_X3_isFigure _ g w p1 (1 : Int32) (9 : Int32) _ hq1) (ci := 3) rfl (by decide) rfl (by rw [hR]; rfl) rfl rfl (Nat.le_of_ble_eq_true rfl) (by decide +kernel) ?_
      obtain ⟨hz2, hf⟩ := am_g hf
      cases hf
      exact am_zret C0 (by decide +kernel) hz2
    · rw [if_neg hc5] at hf
      refine am_b1 C0 am_YYk (pc := 17) (pc2 := 21) [(.aload_n 0, 0, 0, .null), (.iload_n 1, 0, 0, .null), (.iconst 0, 0, 0, .int 0), (.iconst 3, 0, 0, .int 3)] (L := [some (.ref 1), some (.int (p1))]) (st := []) (L' := [some (.ref 1), some (.int (p1))]) (st' := [.int ((3 : Int32)), .int ((0 : Int32)), .int (p1), .ref 1]) (g' := g) (w' := w) (cl := []) (by decide +kernel) rfl trivial ?_
      obtain ⟨q3, hq3, hf⟩ := Option.bind_eq_some_iff.mp hf
      refine am_callV (mi := mi_X3_isFigure) (rm := rm_X3_isFigure) [.int (p1), .int ((0 : Int32)), .int ((3 : Int32))] C0.1 am_YYl cv_3_34 (M_X3_isFigure _ g w p1 (0 : Int32) (3 : Int32) _ hq3) (ci := 3) rfl (by decide) rfl (by rw [hR]; rfl) rfl rfl (Nat.le_of_ble_eq_true rfl) (by decide +kernel) ?_
      refine am_goto C0 (off := 11) (tgt := 35) (by decide +kernel) ?_
      obtain ⟨hz4, hf⟩ := am_g hf
      cases hf
      exact am_zret C0 (by decide +kernel) hz4
  · rw [if_pos hc8] at hf
    refine am_b1 C0 am_YYk (pc := 4) (pc2 := 8) [(.aload_n 0, 0, 0, .null), (.iload_n 1, 0, 0, .null), (.bipush 83, 0, 0, .int 83)] (L := [some (.ref 1), some (.int (p1))]) (st := []) (L' := [some (.ref 1), some (.int (p1))]) (st' := [.int ((83 : Int32)), .int (p1), .ref 1]) (g' := g) (w' := w) (cl := []) (by decide +kernel) rfl trivial ?_
    obtain ⟨q6, hq6, hf⟩ := Option.bind_eq_some_iff.mp hf
    refine am_callV (mi := mi_X3_isLetter) (rm := rm_X3_isLetter) [.int (p1), .int ((83 : Int32))] C0.1 am_YYl cv_3_30 (M_X3_isLetter _ g w p1 (83 : Int32) _ hq6) (ci := 3) rfl (by decide) rfl (by rw [hR]; rfl) rfl rfl (Nat.le_of_ble_eq_true rfl) (by decide +kernel) ?_
    obtain ⟨hz7, hf⟩ := am_g hf
    cases hf
    exact am_zret C0 (by decide +kernel) hz7
/-! ShutterTown$Letters.isTaken(II)Z at (1,) -/
def f_X3_isTaken_34 (F : Nat) (g : am_G) (p1 : Int32) (p2 : Int32) (k3 : Int32 → Option (Int32)) (l3 : Int32) : Option (Int32) :=
  k3 (l3 + (6 : Int32))
set_option maxRecDepth 20000 in
theorem B_X3_isTaken_34 (x : am_X) (C0 : am_Cm x 3 cX3_isTaken 4 (some .boolean)) (hR : am_R x = rm_X3_isTaken) (w : am_J) (F : Nat) (g : am_G) (p1 : Int32) (p2 : Int32) (R : Int32) (k3 : Int32 → Option (Int32)) (hk3 : ∀ (l3 : Int32), k3 l3 = some R → am_Ev x 4 (0, 0) (am_Q x (0, 0) (some (.int R)) am_YY g w) 3 [some (.ref 1), some (.int (p1)), some (.int (p2)), some (.int (l3))] [] am_YY g w) (l3 : Int32) (hf : f_X3_isTaken_34 F g p1 p2 k3 l3 = some R) : am_Ev x 4 (0, 0) (am_Q x (0, 0) (some (.int R)) am_YY g w) 34 [some (.ref 1), some (.int (p1)), some (.int (p2)), some (.int (l3))] [] am_YY g w := by
  unfold f_X3_isTaken_34 at hf
  refine am_b1 C0 am_YYk (pc := 34) (pc2 := 37) [(.iinc 3 6, 0, 0, .int 6)] (L := [some (.ref 1), some (.int (p1)), some (.int (p2)), some (.int (l3))]) (st := []) (L' := [some (.ref 1), some (.int (p1)), some (.int (p2)), some (.int (l3 + (6 : Int32)))]) (st' := []) (g' := g) (w' := w) (cl := []) (by decide +kernel) rfl trivial ?_
  refine am_goto C0 (off := (-34)) (tgt := 3) (by decide +kernel) ?_
  exact hk3 (l3 + (6 : Int32)) hf
def f_X3_isTaken_3 (F : Nat) (g : am_G) (p1 : Int32) (p2 : Int32)  : Nat → Int32 → Option (Int32)
  | 0, _ => none
  | n + 1, l3 =>
    if p1 ≤ l3 then
      some ((0 : Int32))
    else
      (f_X3_figure g l3).bind fun q1 =>
        (f_X3_figure g p1).bind fun q2 =>
          if q1 = q2 then
            (f_X3_figure g (l3 + (1 : Int32))).bind fun q3 =>
              if q3 = p2 then
                some ((1 : Int32))
              else
                f_X3_isTaken_34 F g p1 p2 (fun l3 => f_X3_isTaken_3 F g p1 p2 n l3) (l3)
          else
            f_X3_isTaken_34 F g p1 p2 (fun l3 => f_X3_isTaken_3 F g p1 p2 n l3) (l3)
set_option maxRecDepth 20000 in
theorem B_X3_isTaken_3 (x : am_X) (C0 : am_Cm x 3 cX3_isTaken 4 (some .boolean)) (hR : am_R x = rm_X3_isTaken) (w : am_J) (F : Nat) (g : am_G) (p1 : Int32) (p2 : Int32) (R : Int32)   : ∀ (n : Nat) (l3 : Int32), f_X3_isTaken_3 F g p1 p2 n l3 = some R → am_Ev x 4 (0, 0) (am_Q x (0, 0) (some (.int R)) am_YY g w) 3 [some (.ref 1), some (.int (p1)), some (.int (p2)), some (.int (l3))] [] am_YY g w := by
  intro n
  induction n with
  | zero => intro l3 hf; cases hf
  | succ n ih =>
    intro l3 hf
    rw [f_X3_isTaken_3.eq_2] at hf
    refine am_b1 C0 am_YYk (pc := 3) (pc2 := 5) [(.iload_n 3, 0, 0, .null), (.iload_n 1, 0, 0, .null)] (L := [some (.ref 1), some (.int (p1)), some (.int (p2)), some (.int (l3))]) (st := []) (L' := [some (.ref 1), some (.int (p1)), some (.int (p2)), some (.int (l3))]) (st' := [.int (p1), .int (l3)]) (g' := g) (w' := w) (cl := []) (by decide +kernel) rfl trivial ?_
    refine am_icmp_ge C0 (off := 35) (tgt := 40) (by decide +kernel) (fun hc6 => ?_) (fun hc6 => ?_)
    · rw [if_pos hc6] at hf
      refine am_b1 C0 am_YYk (pc := 40) (pc2 := 41) [(.iconst 0, 0, 0, .int 0)] (L := [some (.ref 1), some (.int (p1)), some (.int (p2)), some (.int (l3))]) (st := []) (L' := [some (.ref 1), some (.int (p1)), some (.int (p2)), some (.int (l3))]) (st' := [.int ((0 : Int32))]) (g' := g) (w' := w) (cl := []) (by decide +kernel) rfl trivial ?_
      cases hf
      exact am_zret C0 (by decide +kernel) (Or.inl rfl)
    · rw [if_neg hc6] at hf
      refine am_b1 C0 am_YYk (pc := 8) (pc2 := 10) [(.aload_n 0, 0, 0, .null), (.iload_n 3, 0, 0, .null)] (L := [some (.ref 1), some (.int (p1)), some (.int (p2)), some (.int (l3))]) (st := []) (L' := [some (.ref 1), some (.int (p1)), some (.int (p2)), some (.int (l3))]) (st' := [.int (l3), .ref 1]) (g' := g) (w' := w) (cl := []) (by decide +kernel) rfl trivial ?_
      obtain ⟨q1, hq1, hf⟩ := Option.bind_eq_some_iff.mp hf
      refine am_callV (mi := mi_X3_figure) (rm := rm_X3_figure) [.int (l3)] C0.1 am_YYl cv_3_26 (M_X3_figure _ g w l3 _ hq1) (ci := 3) rfl (by decide) rfl (by rw [hR]; rfl) rfl rfl (Nat.le_of_ble_eq_true rfl) (by decide +kernel) ?_
      refine am_b1 C0 am_YYk (pc := 13) (pc2 := 15) [(.aload_n 0, 0, 0, .null), (.iload_n 1, 0, 0, .null)] (L := [some (.ref 1), some (.int (p1)), some (.int (p2)), some (.int (l3))]) (st := [.int (q1)]) (L' := [some (.ref 1), some (.int (p1)), some (.int (p2)), some (.int (l3))]) (st' := [.int (p1), .ref 1, .int (q1)]) (g' := g) (w' := w) (cl := []) (by decide +kernel) rfl trivial ?_
      obtain ⟨q2, hq2, hf⟩ := Option.bind_eq_some_iff.mp hf
      refine am_callV (mi := mi_X3_figure) (rm := rm_X3_figure) [.int (p1)] C0.1 am_YYl cv_3_26 (M_X3_figure _ g w p1 _ hq2) (ci := 3) rfl (by decide) rfl (by rw [hR]; rfl) rfl rfl (Nat.le_of_ble_eq_true rfl) (by decide +kernel) ?_
      refine am_icmp_ne C0 (off := 16) (tgt := 34) (by decide +kernel) (fun hc5 => ?_) (fun hc5 => ?_)
      · rw [if_neg hc5] at hf
        exact B_X3_isTaken_34 x C0 hR w F g p1 p2 R _ (fun l3 hf => ih l3 hf) (l3) hf
      · rw [if_pos hc5] at hf
        refine am_b1 C0 am_YYk (pc := 21) (pc2 := 25) [(.aload_n 0, 0, 0, .null), (.iload_n 3, 0, 0, .null), (.iconst 1, 0, 0, .int 1), (.iadd, 0, 0, .null)] (L := [some (.ref 1), some (.int (p1)), some (.int (p2)), some (.int (l3))]) (st := []) (L' := [some (.ref 1), some (.int (p1)), some (.int (p2)), some (.int (l3))]) (st' := [.int (l3 + (1 : Int32)), .ref 1]) (g' := g) (w' := w) (cl := []) (by decide +kernel) rfl trivial ?_
        obtain ⟨q3, hq3, hf⟩ := Option.bind_eq_some_iff.mp hf
        refine am_callV (mi := mi_X3_figure) (rm := rm_X3_figure) [.int (l3 + (1 : Int32))] C0.1 am_YYl cv_3_26 (M_X3_figure _ g w (l3 + (1 : Int32)) _ hq3) (ci := 3) rfl (by decide) rfl (by rw [hR]; rfl) rfl rfl (Nat.le_of_ble_eq_true rfl) (by decide +kernel) ?_
        refine am_b1 C0 am_YYk (pc := 28) (pc2 := 29) [(.iload_n 2, 0, 0, .null)] (L := [some (.ref 1), some (.int (p1)), some (.int (p2)), some (.int (l3))]) (st := [.int (q3)]) (L' := [some (.ref 1), some (.int (p1)), some (.int (p2)), some (.int (l3))]) (st' := [.int (p2), .int (q3)]) (g' := g) (w' := w) (cl := []) (by decide +kernel) rfl trivial ?_
        refine am_icmp_ne C0 (off := 5) (tgt := 34) (by decide +kernel) (fun hc4 => ?_) (fun hc4 => ?_)
        · rw [if_neg hc4] at hf
          exact B_X3_isTaken_34 x C0 hR w F g p1 p2 R _ (fun l3 hf => ih l3 hf) (l3) hf
        · rw [if_pos hc4] at hf
          refine am_b1 C0 am_YYk (pc := 32) (pc2 := 33) [(.iconst 1, 0, 0, .int 1)] (L := [some (.ref 1), some (.int (p1)), some (.int (p2)), some (.int (l3))]) (st := []) (L' := [some (.ref 1), some (.int (p1)), some (.int (p2)), some (.int (l3))]) (st' := [.int ((1 : Int32))]) (g' := g) (w' := w) (cl := []) (by decide +kernel) rfl trivial ?_
          cases hf
          exact am_zret C0 (by decide +kernel) (Or.inr rfl)
def f_X3_isTaken (F : Nat) (g : am_G) (p1 : Int32) (p2 : Int32) : Option (Int32) :=
  f_X3_isTaken_3 F g p1 p2 F ((7 : Int32))
set_option maxRecDepth 20000 in
theorem M_X3_isTaken (l : Launch) (F : Nat) (g : am_G) (w : am_J) (p1 : Int32) (p2 : Int32) (R : Int32) (hf : f_X3_isTaken F g p1 p2 = some R) : am_Met l mi_X3_isTaken rm_X3_isTaken [.ref 1, .int p1, .int p2] am_YY g w (some (.int R)) am_YY g w := by
  refine am_met (own := 3) [some (.ref 1), some (.int (p1)), some (.int (p2)), none] (by decide) rfl rfl (by first | decide | exact Nat.le_of_ble_eq_true rfl) (fun x C0 hR hl hnm => ?_)
  unfold f_X3_isTaken at hf
  refine am_b1 C0 am_YYk (pc := 0) (pc2 := 3) [(.bipush 7, 0, 0, .int 7), (.istore_n 3, 0, 0, .null)] (L := [some (.ref 1), some (.int (p1)), some (.int (p2)), none]) (st := []) (L' := [some (.ref 1), some (.int (p1)), some (.int (p2)), some (.int ((7 : Int32)))]) (st' := []) (g' := g) (w' := w) (cl := []) (by decide +kernel) rfl trivial ?_
  refine B_X3_isTaken_3 x C0 hR w F g p1 p2 R   F ((7 : Int32)) hf
/-! ShutterTown$Letters.fitsWindow(I)Z at (1,) -/
def f_X3_fitsWindow_86 (F : Nat) (g : am_G) (p1 : Int32)   : Option (Int32) :=
  some ((1 : Int32))
set_option maxRecDepth 20000 in
theorem B_X3_fitsWindow_86 (x : am_X) (C0 : am_Cm x 3 cX3_fitsWindow 2 (some .boolean)) (hR : am_R x = rm_X3_fitsWindow) (w : am_J) (F : Nat) (g : am_G) (p1 : Int32) (R : Int32)    (hf : f_X3_fitsWindow_86 F g p1 = some R) : am_Ev x 2 (0, 0) (am_Q x (0, 0) (some (.int R)) am_YY g w) 86 [none, some (.int (p1))] [] am_YY g w := by
  unfold f_X3_fitsWindow_86 at hf
  refine am_b1 C0 am_YYk (pc := 86) (pc2 := 87) [(.iconst 1, 0, 0, .int 1)] (L := [none, some (.int (p1))]) (st := []) (L' := [none, some (.int (p1))]) (st' := [.int ((1 : Int32))]) (g' := g) (w' := w) (cl := []) (by decide +kernel) rfl trivial ?_
  refine am_goto C0 (off := 4) (tgt := 91) (by decide +kernel) ?_
  cases hf
  exact am_zret C0 (by decide +kernel) (Or.inr rfl)
def f_X3_fitsWindow (F : Nat) (g : am_G) (p1 : Int32) : Option (Int32) :=
  if (p1 - p1 / (6 : Int32) * (6 : Int32)) = (0 : Int32) then
    (f_X3_isLetter g p1 (87 : Int32)).bind fun q1 =>
      if q1 = 0 then
        some ((0 : Int32))
      else
        if (6 : Int32) < (p1 / (6 : Int32)) then
          some ((0 : Int32))
        else
          some ((1 : Int32))
  else
  if (p1 - p1 / (6 : Int32) * (6 : Int32)) = (1 : Int32) then
    (f_X3_isFigure g p1 (0 : Int32) (9 : Int32)).bind fun q4 =>
      if q4 = 0 then
        some ((0 : Int32))
      else
        (f_X3_isTaken F g p1 (0 : Int32)).bind fun q5 =>
          if q5 = 0 then
            f_X3_fitsWindow_86 F g p1
          else
            (f_X3_isTaken F g p1 (1 : Int32)).bind fun q6 =>
              if q6 = 0 then
                f_X3_fitsWindow_86 F g p1
              else
                some ((0 : Int32))
  else
  if (p1 - p1 / (6 : Int32) * (6 : Int32)) = (2 : Int32) then
    (f_X3_isFigure g p1 (0 : Int32) (1 : Int32)).bind fun q10 =>
      if q10 = 0 then
        some ((0 : Int32))
      else
        (f_X3_figure g p1).bind fun q11 =>
          (f_X3_isTaken F g (p1 - (1 : Int32)) q11).bind fun q12 =>
            if q12 = 0 then
              some ((1 : Int32))
            else
              some ((0 : Int32))
  else
  (f_X3_isFigure g p1 (0 : Int32) (3 : Int32)).bind fun q15 =>
    if q15 = 0 ∨ q15 = 1 then
      some (q15)
    else none
set_option maxRecDepth 20000 in
theorem M_X3_fitsWindow (l : Launch) (F : Nat) (g : am_G) (w : am_J) (p1 : Int32) (R : Int32) (hf : f_X3_fitsWindow F g p1 = some R) : am_Met l mi_X3_fitsWindow rm_X3_fitsWindow [.ref 1, .int p1] am_YY g w (some (.int R)) am_YY g w := by
  refine am_met (own := 3) [some (.ref 1), some (.int (p1))] (by decide) rfl rfl (by first | decide | exact Nat.le_of_ble_eq_true rfl) (fun x C0 hR hl hnm => ?_)
  unfold f_X3_fitsWindow at hf
  refine am_b1 C0 am_YYk (pc := 0) (pc2 := 4) [(.iload_n 1, 0, 0, .null), (.bipush 6, 0, 0, .int 6), (.irem, 0, 0, .null)] (L := [some (.ref 1), some (.int (p1))]) (st := []) (L' := [some (.ref 1), some (.int (p1))]) (st' := [.int (p1 - p1 / (6 : Int32) * (6 : Int32))]) (g' := g) (w' := w) (cl := [¬ (6 : Int32) = 0]) (by decide +kernel) rfl ⟨by decide, trivial⟩ ?_
  by_cases hs17 : (p1 - p1 / (6 : Int32) * (6 : Int32)) = (0 : Int32)
  · rw [if_pos hs17] at hf
    refine am_swIn C0 (n := 28) (dflt := 119) (lo := 0) (hi := 2) (offs := #[28, 53, 88]) (by decide +kernel) (off := 28) (tgt := 32) (by rw [hs17]; decide) (by rw [hs17]; decide) (by rw [hs17]; rfl) (by decide) ?_
    refine am_b1 C0 am_YYk (pc := 32) (pc2 := 36) [(.aload_n 0, 0, 0, .null), (.iload_n 1, 0, 0, .null), (.bipush 87, 0, 0, .int 87)] (L := [some (.ref 1), some (.int (p1))]) (st := []) (L' := [some (.ref 1), some (.int (p1))]) (st' := [.int ((87 : Int32)), .int (p1), .ref 1]) (g' := g) (w' := w) (cl := []) (by decide +kernel) rfl trivial ?_
    obtain ⟨q1, hq1, hf⟩ := Option.bind_eq_some_iff.mp hf
    refine am_callV (mi := mi_X3_isLetter) (rm := rm_X3_isLetter) [.int (p1), .int ((87 : Int32))] C0.1 am_YYl cv_3_30 (M_X3_isLetter _ g w p1 (87 : Int32) _ hq1) (ci := 3) rfl (by decide) rfl (by rw [hR]; rfl) rfl rfl (Nat.le_of_ble_eq_true rfl) (by decide +kernel) ?_
    refine am_if_eq C0 (off := 16) (tgt := 55) (by decide +kernel) (fun hc3 => ?_) (fun hc3 => ?_)
    · rw [if_pos hc3] at hf
      refine am_b1 C0 am_YYk (pc := 55) (pc2 := 56) [(.iconst 0, 0, 0, .int 0)] (L := [some (.ref 1), some (.int (p1))]) (st := []) (L' := [some (.ref 1), some (.int (p1))]) (st' := [.int ((0 : Int32))]) (g' := g) (w' := w) (cl := []) (by decide +kernel) rfl trivial ?_
      cases hf
      exact am_zret C0 (by decide +kernel) (Or.inl rfl)
    · rw [if_neg hc3] at hf
      refine am_b1 C0 am_YYk (pc := 42) (pc2 := 48) [(.iload_n 1, 0, 0, .null), (.bipush 6, 0, 0, .int 6), (.idiv, 0, 0, .null), (.bipush 6, 0, 0, .int 6)] (L := [some (.ref 1), some (.int (p1))]) (st := []) (L' := [some (.ref 1), some (.int (p1))]) (st' := [.int ((6 : Int32)), .int (p1 / (6 : Int32))]) (g' := g) (w' := w) (cl := [¬ (6 : Int32) = 0]) (by decide +kernel) rfl ⟨by decide, trivial⟩ ?_
      refine am_icmp_gt C0 (off := 7) (tgt := 55) (by decide +kernel) (fun hc2 => ?_) (fun hc2 => ?_)
      · rw [if_pos hc2] at hf
        refine am_b1 C0 am_YYk (pc := 55) (pc2 := 56) [(.iconst 0, 0, 0, .int 0)] (L := [some (.ref 1), some (.int (p1))]) (st := []) (L' := [some (.ref 1), some (.int (p1))]) (st' := [.int ((0 : Int32))]) (g' := g) (w' := w) (cl := []) (by decide +kernel) rfl trivial ?_
        cases hf
        exact am_zret C0 (by decide +kernel) (Or.inl rfl)
      · rw [if_neg hc2] at hf
        refine am_b1 C0 am_YYk (pc := 51) (pc2 := 52) [(.iconst 1, 0, 0, .int 1)] (L := [some (.ref 1), some (.int (p1))]) (st := []) (L' := [some (.ref 1), some (.int (p1))]) (st' := [.int ((1 : Int32))]) (g' := g) (w' := w) (cl := []) (by decide +kernel) rfl trivial ?_
        refine am_goto C0 (off := 4) (tgt := 56) (by decide +kernel) ?_
        cases hf
        exact am_zret C0 (by decide +kernel) (Or.inr rfl)
  rw [if_neg hs17] at hf
  by_cases hs18 : (p1 - p1 / (6 : Int32) * (6 : Int32)) = (1 : Int32)
  · rw [if_pos hs18] at hf
    refine am_swIn C0 (n := 28) (dflt := 119) (lo := 0) (hi := 2) (offs := #[28, 53, 88]) (by decide +kernel) (off := 53) (tgt := 57) (by rw [hs18]; decide) (by rw [hs18]; decide) (by rw [hs18]; rfl) (by decide) ?_
    refine am_b1 C0 am_YYk (pc := 57) (pc2 := 62) [(.aload_n 0, 0, 0, .null), (.iload_n 1, 0, 0, .null), (.iconst 0, 0, 0, .int 0), (.bipush 9, 0, 0, .int 9)] (L := [some (.ref 1), some (.int (p1))]) (st := []) (L' := [some (.ref 1), some (.int (p1))]) (st' := [.int ((9 : Int32)), .int ((0 : Int32)), .int (p1), .ref 1]) (g' := g) (w' := w) (cl := []) (by decide +kernel) rfl trivial ?_
    obtain ⟨q4, hq4, hf⟩ := Option.bind_eq_some_iff.mp hf
    refine am_callV (mi := mi_X3_isFigure) (rm := rm_X3_isFigure) [.int (p1), .int ((0 : Int32)), .int ((9 : Int32))] C0.1 am_YYl cv_3_34 (M_X3_isFigure _ g w p1 (0 : Int32) (9 : Int32) _ hq4) (ci := 3) rfl (by decide) rfl (by rw [hR]; rfl) rfl rfl (Nat.le_of_ble_eq_true rfl) (by decide +kernel) ?_
    refine am_if_eq C0 (off := 25) (tgt := 90) (by decide +kernel) (fun hc9 => ?_) (fun hc9 => ?_)
    · rw [if_pos hc9] at hf
      refine am_b1 C0 am_YYk (pc := 90) (pc2 := 91) [(.iconst 0, 0, 0, .int 0)] (L := [some (.ref 1), some (.int (p1))]) (st := []) (L' := [some (.ref 1), some (.int (p1))]) (st' := [.int ((0 : Int32))]) (g' := g) (w' := w) (cl := []) (by decide +kernel) rfl trivial ?_
      cases hf
      exact am_zret C0 (by decide +kernel) (Or.inl rfl)
    · rw [if_neg hc9] at hf
      refine am_b1 C0 am_YYk (pc := 68) (pc2 := 71) [(.aload_n 0, 0, 0, .null), (.iload_n 1, 0, 0, .null), (.iconst 0, 0, 0, .int 0)] (L := [some (.ref 1), some (.int (p1))]) (st := []) (L' := [some (.ref 1), some (.int (p1))]) (st' := [.int ((0 : Int32)), .int (p1), .ref 1]) (g' := g) (w' := w) (cl := []) (by decide +kernel) rfl trivial ?_
      obtain ⟨q5, hq5, hf⟩ := Option.bind_eq_some_iff.mp hf
      refine am_callV (mi := mi_X3_isTaken) (rm := rm_X3_isTaken) [.int (p1), .int ((0 : Int32))] C0.1 am_YYl cv_3_38 (M_X3_isTaken _ F g w p1 (0 : Int32) _ hq5) (ci := 3) rfl (by decide) rfl (by rw [hR]; rfl) rfl rfl (Nat.le_of_ble_eq_true rfl) (by decide +kernel) ?_
      refine am_if_eq C0 (off := 12) (tgt := 86) (by decide +kernel) (fun hc8 => ?_) (fun hc8 => ?_)
      · rw [if_pos hc8] at hf
        refine am_wk [none, some (.int (p1))] ⟨rfl, trivial⟩ rfl ?_
        exact B_X3_fitsWindow_86 x C0 hR w F g p1 R   hf
      · rw [if_neg hc8] at hf
        refine am_b1 C0 am_YYk (pc := 77) (pc2 := 80) [(.aload_n 0, 0, 0, .null), (.iload_n 1, 0, 0, .null), (.iconst 1, 0, 0, .int 1)] (L := [some (.ref 1), some (.int (p1))]) (st := []) (L' := [some (.ref 1), some (.int (p1))]) (st' := [.int ((1 : Int32)), .int (p1), .ref 1]) (g' := g) (w' := w) (cl := []) (by decide +kernel) rfl trivial ?_
        obtain ⟨q6, hq6, hf⟩ := Option.bind_eq_some_iff.mp hf
        refine am_callV (mi := mi_X3_isTaken) (rm := rm_X3_isTaken) [.int (p1), .int ((1 : Int32))] C0.1 am_YYl cv_3_38 (M_X3_isTaken _ F g w p1 (1 : Int32) _ hq6) (ci := 3) rfl (by decide) rfl (by rw [hR]; rfl) rfl rfl (Nat.le_of_ble_eq_true rfl) (by decide +kernel) ?_
        refine am_if_ne C0 (off := 7) (tgt := 90) (by decide +kernel) (fun hc7 => ?_) (fun hc7 => ?_)
        · rw [if_neg hc7] at hf
          refine am_b1 C0 am_YYk (pc := 90) (pc2 := 91) [(.iconst 0, 0, 0, .int 0)] (L := [some (.ref 1), some (.int (p1))]) (st := []) (L' := [some (.ref 1), some (.int (p1))]) (st' := [.int ((0 : Int32))]) (g' := g) (w' := w) (cl := []) (by decide +kernel) rfl trivial ?_
          cases hf
          exact am_zret C0 (by decide +kernel) (Or.inl rfl)
        · rw [if_pos hc7] at hf
          refine am_wk [none, some (.int (p1))] ⟨rfl, trivial⟩ rfl ?_
          exact B_X3_fitsWindow_86 x C0 hR w F g p1 R   hf
  rw [if_neg hs18] at hf
  by_cases hs19 : (p1 - p1 / (6 : Int32) * (6 : Int32)) = (2 : Int32)
  · rw [if_pos hs19] at hf
    refine am_swIn C0 (n := 28) (dflt := 119) (lo := 0) (hi := 2) (offs := #[28, 53, 88]) (by decide +kernel) (off := 88) (tgt := 92) (by rw [hs19]; decide) (by rw [hs19]; decide) (by rw [hs19]; rfl) (by decide) ?_
    refine am_b1 C0 am_YYk (pc := 92) (pc2 := 96) [(.aload_n 0, 0, 0, .null), (.iload_n 1, 0, 0, .null), (.iconst 0, 0, 0, .int 0), (.iconst 1, 0, 0, .int 1)] (L := [some (.ref 1), some (.int (p1))]) (st := []) (L' := [some (.ref 1), some (.int (p1))]) (st' := [.int ((1 : Int32)), .int ((0 : Int32)), .int (p1), .ref 1]) (g' := g) (w' := w) (cl := []) (by decide +kernel) rfl trivial ?_
    obtain ⟨q10, hq10, hf⟩ := Option.bind_eq_some_iff.mp hf
    refine am_callV (mi := mi_X3_isFigure) (rm := rm_X3_isFigure) [.int (p1), .int ((0 : Int32)), .int ((1 : Int32))] C0.1 am_YYl cv_3_34 (M_X3_isFigure _ g w p1 (0 : Int32) (1 : Int32) _ hq10) (ci := 3) rfl (by decide) rfl (by rw [hR]; rfl) rfl rfl (Nat.le_of_ble_eq_true rfl) (by decide +kernel) ?_
    refine am_if_eq C0 (off := 22) (tgt := 121) (by decide +kernel) (fun hc14 => ?_) (fun hc14 => ?_)
    · rw [if_pos hc14] at hf
      refine am_b1 C0 am_YYk (pc := 121) (pc2 := 122) [(.iconst 0, 0, 0, .int 0)] (L := [some (.ref 1), some (.int (p1))]) (st := []) (L' := [some (.ref 1), some (.int (p1))]) (st' := [.int ((0 : Int32))]) (g' := g) (w' := w) (cl := []) (by decide +kernel) rfl trivial ?_
      cases hf
      exact am_zret C0 (by decide +kernel) (Or.inl rfl)
    · rw [if_neg hc14] at hf
      refine am_b1 C0 am_YYk (pc := 102) (pc2 := 108) [(.aload_n 0, 0, 0, .null), (.iload_n 1, 0, 0, .null), (.iconst 1, 0, 0, .int 1), (.isub, 0, 0, .null), (.aload_n 0, 0, 0, .null), (.iload_n 1, 0, 0, .null)] (L := [some (.ref 1), some (.int (p1))]) (st := []) (L' := [some (.ref 1), some (.int (p1))]) (st' := [.int (p1), .ref 1, .int (p1 - (1 : Int32)), .ref 1]) (g' := g) (w' := w) (cl := []) (by decide +kernel) rfl trivial ?_
      obtain ⟨q11, hq11, hf⟩ := Option.bind_eq_some_iff.mp hf
      refine am_callV (mi := mi_X3_figure) (rm := rm_X3_figure) [.int (p1)] C0.1 am_YYl cv_3_26 (M_X3_figure _ g w p1 _ hq11) (ci := 3) rfl (by decide) rfl (by rw [hR]; rfl) rfl rfl (Nat.le_of_ble_eq_true rfl) (by decide +kernel) ?_
      obtain ⟨q12, hq12, hf⟩ := Option.bind_eq_some_iff.mp hf
      refine am_callV (mi := mi_X3_isTaken) (rm := rm_X3_isTaken) [.int (p1 - (1 : Int32)), .int (q11)] C0.1 am_YYl cv_3_38 (M_X3_isTaken _ F g w (p1 - (1 : Int32)) q11 _ hq12) (ci := 3) rfl (by decide) rfl (by rw [hR]; rfl) rfl rfl (Nat.le_of_ble_eq_true rfl) (by decide +kernel) ?_
      refine am_if_ne C0 (off := 7) (tgt := 121) (by decide +kernel) (fun hc13 => ?_) (fun hc13 => ?_)
      · rw [if_neg hc13] at hf
        refine am_b1 C0 am_YYk (pc := 121) (pc2 := 122) [(.iconst 0, 0, 0, .int 0)] (L := [some (.ref 1), some (.int (p1))]) (st := []) (L' := [some (.ref 1), some (.int (p1))]) (st' := [.int ((0 : Int32))]) (g' := g) (w' := w) (cl := []) (by decide +kernel) rfl trivial ?_
        cases hf
        exact am_zret C0 (by decide +kernel) (Or.inl rfl)
      · rw [if_pos hc13] at hf
        refine am_b1 C0 am_YYk (pc := 117) (pc2 := 118) [(.iconst 1, 0, 0, .int 1)] (L := [some (.ref 1), some (.int (p1))]) (st := []) (L' := [some (.ref 1), some (.int (p1))]) (st' := [.int ((1 : Int32))]) (g' := g) (w' := w) (cl := []) (by decide +kernel) rfl trivial ?_
        refine am_goto C0 (off := 4) (tgt := 122) (by decide +kernel) ?_
        cases hf
        exact am_zret C0 (by decide +kernel) (Or.inr rfl)
  rw [if_neg hs19] at hf
  refine am_swOut C0 (n := 28) (dflt := 119) (lo := 0) (hi := 2) (offs := #[28, 53, 88]) (by decide +kernel) (tgt := 123) (am_sw2 hs17 hs18 hs19) (by decide) ?_
  refine am_b1 C0 am_YYk (pc := 123) (pc2 := 127) [(.aload_n 0, 0, 0, .null), (.iload_n 1, 0, 0, .null), (.iconst 0, 0, 0, .int 0), (.iconst 3, 0, 0, .int 3)] (L := [some (.ref 1), some (.int (p1))]) (st := []) (L' := [some (.ref 1), some (.int (p1))]) (st' := [.int ((3 : Int32)), .int ((0 : Int32)), .int (p1), .ref 1]) (g' := g) (w' := w) (cl := []) (by decide +kernel) rfl trivial ?_
  obtain ⟨q15, hq15, hf⟩ := Option.bind_eq_some_iff.mp hf
  refine am_callV (mi := mi_X3_isFigure) (rm := rm_X3_isFigure) [.int (p1), .int ((0 : Int32)), .int ((3 : Int32))] C0.1 am_YYl cv_3_34 (M_X3_isFigure _ g w p1 (0 : Int32) (3 : Int32) _ hq15) (ci := 3) rfl (by decide) rfl (by rw [hR]; rfl) rfl rfl (Nat.le_of_ble_eq_true rfl) (by decide +kernel) ?_
  obtain ⟨hz16, hf⟩ := am_g hf
  cases hf
  exact am_zret C0 (by decide +kernel) hz16
/-! ShutterTown$Letters.firstFault()I at (1,) -/
def f_X3_firstFault_42 (F : Nat) (g : am_G)   : Option (Int32) :=
  if (g 1 1) < (6 : Int32) then
    some (g 1 1)
  else
    if ((g 1 1) - (g 1 1) / (6 : Int32) * (6 : Int32)) = 0 then
      some ((-9 : Int32))
    else
      some (g 1 1)
set_option maxRecDepth 20000 in
theorem B_X3_firstFault_42 (x : am_X) (C0 : am_Cm x 3 cX3_firstFault 3 (some .int)) (hR : am_R x = rm_X3_firstFault) (w : am_J) (F : Nat) (g : am_G) (R : Int32)    (hf : f_X3_firstFault_42 F g = some R) : am_Ev x 3 (0, 0) (am_Q x (0, 0) (some (.int R)) am_YY g w) 42 [some (.ref 1), none, none] [] am_YY g w := by
  unfold f_X3_firstFault_42 at hf
  refine am_b1 C0 am_YYk (pc := 42) (pc2 := 48) [(.aload_n 0, 0, 0, .null), (.getfield 15, 3, 1, .null), (.bipush 6, 0, 0, .int 6)] (L := [some (.ref 1), none, none]) (st := []) (L' := [some (.ref 1), none, none]) (st' := [.int ((6 : Int32)), .int (g 1 1)]) (g' := g) (w' := w) (cl := []) (by decide +kernel) rfl trivial ?_
  refine am_icmp_lt C0 (off := 18) (tgt := 66) (by decide +kernel) (fun hc2 => ?_) (fun hc2 => ?_)
  · rw [if_pos hc2] at hf
    refine am_b1 C0 am_YYk (pc := 66) (pc2 := 70) [(.aload_n 0, 0, 0, .null), (.getfield 15, 3, 1, .null)] (L := [some (.ref 1), none, none]) (st := []) (L' := [some (.ref 1), none, none]) (st' := [.int (g 1 1)]) (g' := g) (w' := w) (cl := []) (by decide +kernel) rfl trivial ?_
    cases hf
    exact am_iret C0 (by decide +kernel)
  · rw [if_neg hc2] at hf
    refine am_b1 C0 am_YYk (pc := 51) (pc2 := 58) [(.aload_n 0, 0, 0, .null), (.getfield 15, 3, 1, .null), (.bipush 6, 0, 0, .int 6), (.irem, 0, 0, .null)] (L := [some (.ref 1), none, none]) (st := []) (L' := [some (.ref 1), none, none]) (st' := [.int ((g 1 1) - (g 1 1) / (6 : Int32) * (6 : Int32))]) (g' := g) (w' := w) (cl := [¬ (6 : Int32) = 0]) (by decide +kernel) rfl ⟨by decide, trivial⟩ ?_
    refine am_if_ne C0 (off := 8) (tgt := 66) (by decide +kernel) (fun hc1 => ?_) (fun hc1 => ?_)
    · rw [if_neg hc1] at hf
      refine am_b1 C0 am_YYk (pc := 66) (pc2 := 70) [(.aload_n 0, 0, 0, .null), (.getfield 15, 3, 1, .null)] (L := [some (.ref 1), none, none]) (st := []) (L' := [some (.ref 1), none, none]) (st' := [.int (g 1 1)]) (g' := g) (w' := w) (cl := []) (by decide +kernel) rfl trivial ?_
      cases hf
      exact am_iret C0 (by decide +kernel)
    · rw [if_pos hc1] at hf
      refine am_b1 C0 am_YYk (pc := 61) (pc2 := 63) [(.bipush (-9), 0, 0, .int (-9))] (L := [some (.ref 1), none, none]) (st := []) (L' := [some (.ref 1), none, none]) (st' := [.int ((-9 : Int32))]) (g' := g) (w' := w) (cl := []) (by decide +kernel) rfl trivial ?_
      refine am_goto C0 (off := 7) (tgt := 70) (by decide +kernel) ?_
      cases hf
      exact am_iret C0 (by decide +kernel)
def f_X3_firstFault_29 (F : Nat) (g : am_G) (k2 : Int32 → Option (Int32)) (k42 : Option (Int32)) (l1 : Int32) (s0 : Int32) : Option (Int32) :=
  if s0 = 0 then
    some (l1)
  else
    k2 (l1 + (1 : Int32))
set_option maxRecDepth 20000 in
theorem B_X3_firstFault_29 (x : am_X) (C0 : am_Cm x 3 cX3_firstFault 3 (some .int)) (hR : am_R x = rm_X3_firstFault) (w : am_J) (F : Nat) (g : am_G) (R : Int32) (k2 : Int32 → Option (Int32)) (k42 : Option (Int32)) (hk2 : ∀ (l1 : Int32), k2 l1 = some R → am_Ev x 3 (0, 0) (am_Q x (0, 0) (some (.int R)) am_YY g w) 2 [some (.ref 1), some (.int (l1)), none] [] am_YY g w) (hk42 : k42 = some R → am_Ev x 3 (0, 0) (am_Q x (0, 0) (some (.int R)) am_YY g w) 42 [some (.ref 1), none, none] [] am_YY g w) (l1 : Int32) (s0 : Int32) (hf : f_X3_firstFault_29 F g k2 k42 l1 s0 = some R) : am_Ev x 3 (0, 0) (am_Q x (0, 0) (some (.int R)) am_YY g w) 29 [some (.ref 1), some (.int (l1)), none] [.int (s0)] am_YY g w := by
  unfold f_X3_firstFault_29 at hf
  refine am_b1 C0 am_YYk (pc := 29) (pc2 := 31) [(.istore_n 2, 0, 0, .null), (.iload_n 2, 0, 0, .null)] (L := [some (.ref 1), some (.int (l1)), none]) (st := [.int (s0)]) (L' := [some (.ref 1), some (.int (l1)), some (.int (s0))]) (st' := [.int (s0)]) (g' := g) (w' := w) (cl := []) (by decide +kernel) rfl trivial ?_
  refine am_if_ne C0 (off := 5) (tgt := 36) (by decide +kernel) (fun hc3 => ?_) (fun hc3 => ?_)
  · rw [if_neg hc3] at hf
    refine am_b1 C0 am_YYk (pc := 36) (pc2 := 39) [(.iinc 1 1, 0, 0, .int 1)] (L := [some (.ref 1), some (.int (l1)), some (.int (s0))]) (st := []) (L' := [some (.ref 1), some (.int (l1 + (1 : Int32))), some (.int (s0))]) (st' := []) (g' := g) (w' := w) (cl := []) (by decide +kernel) rfl trivial ?_
    refine am_goto C0 (off := (-37)) (tgt := 2) (by decide +kernel) ?_
    refine am_wk [some (.ref 1), some (.int (l1 + (1 : Int32))), none] ⟨rfl, rfl, trivial⟩ rfl ?_
    exact hk2 (l1 + (1 : Int32)) hf
  · rw [if_pos hc3] at hf
    refine am_b1 C0 am_YYk (pc := 34) (pc2 := 35) [(.iload_n 1, 0, 0, .null)] (L := [some (.ref 1), some (.int (l1)), some (.int (s0))]) (st := []) (L' := [some (.ref 1), some (.int (l1)), some (.int (s0))]) (st' := [.int (l1)]) (g' := g) (w' := w) (cl := []) (by decide +kernel) rfl trivial ?_
    cases hf
    exact am_iret C0 (by decide +kernel)
def f_X3_firstFault_2 (F : Nat) (g : am_G) (k42 : Option (Int32)) : Nat → Int32 → Option (Int32)
  | 0, _ => none
  | n + 1, l1 =>
    if (g 1 1) ≤ l1 then
      k42
    else
      if (6 : Int32) ≤ l1 then
        (f_X3_fitsWindow F g l1).bind fun q4 =>
          f_X3_firstFault_29 F g (fun l1 => f_X3_firstFault_2 F g k42 n l1) k42 (l1) (q4)
      else
        (f_X3_fitsHead g l1).bind fun q5 =>
          f_X3_firstFault_29 F g (fun l1 => f_X3_firstFault_2 F g k42 n l1) k42 (l1) (q5)
set_option maxRecDepth 20000 in
theorem B_X3_firstFault_2 (x : am_X) (C0 : am_Cm x 3 cX3_firstFault 3 (some .int)) (hR : am_R x = rm_X3_firstFault) (w : am_J) (F : Nat) (g : am_G) (R : Int32) (k42 : Option (Int32)) (hk42 : k42 = some R → am_Ev x 3 (0, 0) (am_Q x (0, 0) (some (.int R)) am_YY g w) 42 [some (.ref 1), none, none] [] am_YY g w) : ∀ (n : Nat) (l1 : Int32), f_X3_firstFault_2 F g k42 n l1 = some R → am_Ev x 3 (0, 0) (am_Q x (0, 0) (some (.int R)) am_YY g w) 2 [some (.ref 1), some (.int (l1)), none] [] am_YY g w := by
  intro n
  induction n with
  | zero => intro l1 hf; cases hf
  | succ n ih =>
    intro l1 hf
    rw [f_X3_firstFault_2.eq_2] at hf
    refine am_b1 C0 am_YYk (pc := 2) (pc2 := 7) [(.iload_n 1, 0, 0, .null), (.aload_n 0, 0, 0, .null), (.getfield 15, 3, 1, .null)] (L := [some (.ref 1), some (.int (l1)), none]) (st := []) (L' := [some (.ref 1), some (.int (l1)), none]) (st' := [.int (g 1 1), .int (l1)]) (g' := g) (w' := w) (cl := []) (by decide +kernel) rfl trivial ?_
    refine am_icmp_ge C0 (off := 35) (tgt := 42) (by decide +kernel) (fun hc7 => ?_) (fun hc7 => ?_)
    · rw [if_pos hc7] at hf
      refine am_wk [some (.ref 1), none, none] ⟨rfl, trivial⟩ rfl ?_
      exact hk42  hf
    · rw [if_neg hc7] at hf
      refine am_b1 C0 am_YYk (pc := 10) (pc2 := 13) [(.iload_n 1, 0, 0, .null), (.bipush 6, 0, 0, .int 6)] (L := [some (.ref 1), some (.int (l1)), none]) (st := []) (L' := [some (.ref 1), some (.int (l1)), none]) (st' := [.int ((6 : Int32)), .int (l1)]) (g' := g) (w' := w) (cl := []) (by decide +kernel) rfl trivial ?_
      refine am_icmp_ge C0 (off := 11) (tgt := 24) (by decide +kernel) (fun hc6 => ?_) (fun hc6 => ?_)
      · rw [if_pos hc6] at hf
        refine am_b1 C0 am_YYk (pc := 24) (pc2 := 26) [(.aload_n 0, 0, 0, .null), (.iload_n 1, 0, 0, .null)] (L := [some (.ref 1), some (.int (l1)), none]) (st := []) (L' := [some (.ref 1), some (.int (l1)), none]) (st' := [.int (l1), .ref 1]) (g' := g) (w' := w) (cl := []) (by decide +kernel) rfl trivial ?_
        obtain ⟨q4, hq4, hf⟩ := Option.bind_eq_some_iff.mp hf
        refine am_callV (mi := mi_X3_fitsWindow) (rm := rm_X3_fitsWindow) [.int (l1)] C0.1 am_YYl cv_3_23 (M_X3_fitsWindow _ F g w l1 _ hq4) (ci := 3) rfl (by decide) rfl (by rw [hR]; rfl) rfl rfl (Nat.le_of_ble_eq_true rfl) (by decide +kernel) ?_
        exact B_X3_firstFault_29 x C0 hR w F g R _ _ (fun l1 hf => ih l1 hf) hk42 (l1) (q4) hf
      · rw [if_neg hc6] at hf
        refine am_b1 C0 am_YYk (pc := 16) (pc2 := 18) [(.aload_n 0, 0, 0, .null), (.iload_n 1, 0, 0, .null)] (L := [some (.ref 1), some (.int (l1)), none]) (st := []) (L' := [some (.ref 1), some (.int (l1)), none]) (st' := [.int (l1), .ref 1]) (g' := g) (w' := w) (cl := []) (by decide +kernel) rfl trivial ?_
        obtain ⟨q5, hq5, hf⟩ := Option.bind_eq_some_iff.mp hf
        refine am_callV (mi := mi_X3_fitsHead) (rm := rm_X3_fitsHead) [.int (l1)] C0.1 am_YYl cv_3_19 (M_X3_fitsHead _ g w l1 _ hq5) (ci := 3) rfl (by decide) rfl (by rw [hR]; rfl) rfl rfl (Nat.le_of_ble_eq_true rfl) (by decide +kernel) ?_
        refine am_goto C0 (off := 8) (tgt := 29) (by decide +kernel) ?_
        exact B_X3_firstFault_29 x C0 hR w F g R _ _ (fun l1 hf => ih l1 hf) hk42 (l1) (q5) hf
def f_X3_firstFault (F : Nat) (g : am_G) : Option (Int32) :=
  f_X3_firstFault_2 F g (f_X3_firstFault_42 F g) F ((0 : Int32))
set_option maxRecDepth 20000 in
theorem M_X3_firstFault (l : Launch) (F : Nat) (g : am_G) (w : am_J)  (R : Int32) (hf : f_X3_firstFault F g = some R) : am_Met l mi_X3_firstFault rm_X3_firstFault [.ref 1] am_YY g w (some (.int R)) am_YY g w := by
  refine am_met (own := 3) [some (.ref 1), none, none] (by decide) rfl rfl (by first | decide | exact Nat.le_of_ble_eq_true rfl) (fun x C0 hR hl hnm => ?_)
  unfold f_X3_firstFault at hf
  refine am_b1 C0 am_YYk (pc := 0) (pc2 := 2) [(.iconst 0, 0, 0, .int 0), (.istore_n 1, 0, 0, .null)] (L := [some (.ref 1), none, none]) (st := []) (L' := [some (.ref 1), some (.int ((0 : Int32))), none]) (st' := []) (g' := g) (w' := w) (cl := []) (by decide +kernel) rfl trivial ?_
  refine B_X3_firstFault_2 x C0 hR w F g R _ ?_ F ((0 : Int32)) hf
  · intro  hf
    exact B_X3_firstFault_42 x C0 hR w F g R   hf
/-! ShutterTown.fault()I at (0,) -/
def f_X7_fault (F : Nat) (g : am_G) : Option (Int32) :=
  (f_X3_firstFault F g).bind fun q1 =>
    some (q1)
set_option maxRecDepth 20000 in
theorem M_X7_fault (l : Launch) (F : Nat) (g : am_G) (w : am_J)  (R : Int32) (hf : f_X7_fault F g = some R) : am_Met l mi_X7_fault rm_X7_fault [.ref 0] am_YY g w (some (.int R)) am_YY g w := by
  refine am_met (own := 7) [some (.ref 0)] (by decide) rfl rfl (by first | decide | exact Nat.le_of_ble_eq_true rfl) (fun x C0 hR hl hnm => ?_)
  unfold f_X7_fault at hf
  refine am_b1 C0 am_YYk (pc := 0) (pc2 := 4) [(.aload_n 0, 0, 0, .null), (.getfield 12, 7, 0, .null)] (L := [some (.ref 0)]) (st := []) (L' := [some (.ref 0)]) (st' := [.ref 1]) (g' := g) (w' := w) (cl := []) (by decide +kernel) rfl trivial ?_
  obtain ⟨q1, hq1, hf⟩ := Option.bind_eq_some_iff.mp hf
  refine am_callV (mi := mi_X3_firstFault) (rm := rm_X3_firstFault) [] C0.1 am_YYl cv_7_81 (M_X3_firstFault _ F g w _ hq1) (ci := 3) rfl (by decide) rfl (by rw [hR]; rfl) rfl rfl (Nat.le_of_ble_eq_true rfl) (by decide +kernel) ?_
  cases hf
  exact am_iret C0 (by decide +kernel)
/-! ShutterTown$Houses.has(I)Z at (3,) -/
def f_X2_has (g : am_G) (p1 : Int32) : Option (Int32) :=
  if p1 < 0 then
    some ((0 : Int32))
  else
    if (g 3 7) ≤ p1 then
      some ((0 : Int32))
    else
      if (6 : Int32) ≤ p1 then
        some ((0 : Int32))
      else
        some ((1 : Int32))
set_option maxRecDepth 20000 in
theorem M_X2_has (l : Launch) (g : am_G) (w : am_J) (p1 : Int32) (R : Int32) (hf : f_X2_has g p1 = some R) : am_Met l mi_X2_has rm_X2_has [.ref 3, .int p1] am_YY g w (some (.int R)) am_YY g w := by
  refine am_met (own := 2) [some (.ref 3), some (.int (p1))] (by decide) rfl rfl (by first | decide | exact Nat.le_of_ble_eq_true rfl) (fun x C0 hR hl hnm => ?_)
  unfold f_X2_has at hf
  refine am_b1 C0 am_YYk (pc := 0) (pc2 := 1) [(.iload_n 1, 0, 0, .null)] (L := [some (.ref 3), some (.int (p1))]) (st := []) (L' := [some (.ref 3), some (.int (p1))]) (st' := [.int (p1)]) (g' := g) (w' := w) (cl := []) (by decide +kernel) rfl trivial ?_
  refine am_if_lt C0 (off := 21) (tgt := 22) (by decide +kernel) (fun hc3 => ?_) (fun hc3 => ?_)
  · rw [if_pos hc3] at hf
    refine am_b1 C0 am_YYk (pc := 22) (pc2 := 23) [(.iconst 0, 0, 0, .int 0)] (L := [some (.ref 3), some (.int (p1))]) (st := []) (L' := [some (.ref 3), some (.int (p1))]) (st' := [.int ((0 : Int32))]) (g' := g) (w' := w) (cl := []) (by decide +kernel) rfl trivial ?_
    cases hf
    exact am_zret C0 (by decide +kernel) (Or.inl rfl)
  · rw [if_neg hc3] at hf
    refine am_b1 C0 am_YYk (pc := 4) (pc2 := 9) [(.iload_n 1, 0, 0, .null), (.aload_n 0, 0, 0, .null), (.getfield 53, 2, 7, .null)] (L := [some (.ref 3), some (.int (p1))]) (st := []) (L' := [some (.ref 3), some (.int (p1))]) (st' := [.int (g 3 7), .int (p1)]) (g' := g) (w' := w) (cl := []) (by decide +kernel) rfl trivial ?_
    refine am_icmp_ge C0 (off := 13) (tgt := 22) (by decide +kernel) (fun hc2 => ?_) (fun hc2 => ?_)
    · rw [if_pos hc2] at hf
      refine am_b1 C0 am_YYk (pc := 22) (pc2 := 23) [(.iconst 0, 0, 0, .int 0)] (L := [some (.ref 3), some (.int (p1))]) (st := []) (L' := [some (.ref 3), some (.int (p1))]) (st' := [.int ((0 : Int32))]) (g' := g) (w' := w) (cl := []) (by decide +kernel) rfl trivial ?_
      cases hf
      exact am_zret C0 (by decide +kernel) (Or.inl rfl)
    · rw [if_neg hc2] at hf
      refine am_b1 C0 am_YYk (pc := 12) (pc2 := 15) [(.iload_n 1, 0, 0, .null), (.bipush 6, 0, 0, .int 6)] (L := [some (.ref 3), some (.int (p1))]) (st := []) (L' := [some (.ref 3), some (.int (p1))]) (st' := [.int ((6 : Int32)), .int (p1)]) (g' := g) (w' := w) (cl := []) (by decide +kernel) rfl trivial ?_
      refine am_icmp_ge C0 (off := 7) (tgt := 22) (by decide +kernel) (fun hc1 => ?_) (fun hc1 => ?_)
      · rw [if_pos hc1] at hf
        refine am_b1 C0 am_YYk (pc := 22) (pc2 := 23) [(.iconst 0, 0, 0, .int 0)] (L := [some (.ref 3), some (.int (p1))]) (st := []) (L' := [some (.ref 3), some (.int (p1))]) (st' := [.int ((0 : Int32))]) (g' := g) (w' := w) (cl := []) (by decide +kernel) rfl trivial ?_
        cases hf
        exact am_zret C0 (by decide +kernel) (Or.inl rfl)
      · rw [if_neg hc1] at hf
        refine am_b1 C0 am_YYk (pc := 18) (pc2 := 19) [(.iconst 1, 0, 0, .int 1)] (L := [some (.ref 3), some (.int (p1))]) (st := []) (L' := [some (.ref 3), some (.int (p1))]) (st' := [.int ((1 : Int32))]) (g' := g) (w' := w) (cl := []) (by decide +kernel) rfl trivial ?_
        refine am_goto C0 (off := 4) (tgt := 23) (by decide +kernel) ?_
        cases hf
        exact am_zret C0 (by decide +kernel) (Or.inr rfl)
/-! ShutterTown$Houses.side(I)I at (3,) -/
def f_X2_side (g : am_G) (p1 : Int32) : Option (Int32) :=
  (f_X2_has g p1).bind fun q1 =>
    if q1 = 0 then
      some ((-9 : Int32))
    else
      if am_in p1 6 then
        some (g 6 (Int32.toNatClampNeg p1))
      else none
set_option maxRecDepth 20000 in
theorem M_X2_side (l : Launch) (g : am_G) (w : am_J) (p1 : Int32) (R : Int32) (hf : f_X2_side g p1 = some R) : am_Met l mi_X2_side rm_X2_side [.ref 3, .int p1] am_YY g w (some (.int R)) am_YY g w := by
  refine am_met (own := 2) [some (.ref 3), some (.int (p1))] (by decide) rfl rfl (by first | decide | exact Nat.le_of_ble_eq_true rfl) (fun x C0 hR hl hnm => ?_)
  unfold f_X2_side at hf
  refine am_b1 C0 am_YYk (pc := 0) (pc2 := 2) [(.aload_n 0, 0, 0, .null), (.iload_n 1, 0, 0, .null)] (L := [some (.ref 3), some (.int (p1))]) (st := []) (L' := [some (.ref 3), some (.int (p1))]) (st' := [.int (p1), .ref 3]) (g' := g) (w' := w) (cl := []) (by decide +kernel) rfl trivial ?_
  obtain ⟨q1, hq1, hf⟩ := Option.bind_eq_some_iff.mp hf
  refine am_callV (mi := mi_X2_has) (rm := rm_X2_has) [.int (p1)] C0.1 am_YYl cv_2_59 (M_X2_has _ g w p1 _ hq1) (ci := 2) rfl (by decide) rfl (by rw [hR]; rfl) rfl rfl (Nat.le_of_ble_eq_true rfl) (by decide +kernel) ?_
  refine am_if_eq C0 (off := 12) (tgt := 17) (by decide +kernel) (fun hc3 => ?_) (fun hc3 => ?_)
  · rw [if_pos hc3] at hf
    refine am_b1 C0 am_YYk (pc := 17) (pc2 := 19) [(.bipush (-9), 0, 0, .int (-9))] (L := [some (.ref 3), some (.int (p1))]) (st := []) (L' := [some (.ref 3), some (.int (p1))]) (st' := [.int ((-9 : Int32))]) (g' := g) (w' := w) (cl := []) (by decide +kernel) rfl trivial ?_
    cases hf
    exact am_iret C0 (by decide +kernel)
  · rw [if_neg hc3] at hf
    obtain ⟨hg2, hf⟩ := am_g hf
    refine am_b1 C0 am_YYk (pc := 8) (pc2 := 14) [(.aload_n 0, 0, 0, .null), (.getfield 18, 2, 2, .null), (.iload_n 1, 0, 0, .null), (.iaload, 0, 0, .null)] (L := [some (.ref 3), some (.int (p1))]) (st := []) (L' := [some (.ref 3), some (.int (p1))]) (st' := [.int (g 6 (Int32.toNatClampNeg p1))]) (g' := g) (w' := w) (cl := [am_in p1 6]) (by decide +kernel) rfl ⟨hg2, trivial⟩ ?_
    refine am_goto C0 (off := 5) (tgt := 19) (by decide +kernel) ?_
    cases hf
    exact am_iret C0 (by decide +kernel)
/-! ShutterTown$Houses.place(I)I at (3,) -/
def f_X2_place (g : am_G) (p1 : Int32) : Option (Int32) :=
  (f_X2_has g p1).bind fun q1 =>
    if q1 = 0 then
      some ((-9 : Int32))
    else
      if am_in p1 6 then
        some (g 5 (Int32.toNatClampNeg p1))
      else none
set_option maxRecDepth 20000 in
theorem M_X2_place (l : Launch) (g : am_G) (w : am_J) (p1 : Int32) (R : Int32) (hf : f_X2_place g p1 = some R) : am_Met l mi_X2_place rm_X2_place [.ref 3, .int p1] am_YY g w (some (.int R)) am_YY g w := by
  refine am_met (own := 2) [some (.ref 3), some (.int (p1))] (by decide) rfl rfl (by first | decide | exact Nat.le_of_ble_eq_true rfl) (fun x C0 hR hl hnm => ?_)
  unfold f_X2_place at hf
  refine am_b1 C0 am_YYk (pc := 0) (pc2 := 2) [(.aload_n 0, 0, 0, .null), (.iload_n 1, 0, 0, .null)] (L := [some (.ref 3), some (.int (p1))]) (st := []) (L' := [some (.ref 3), some (.int (p1))]) (st' := [.int (p1), .ref 3]) (g' := g) (w' := w) (cl := []) (by decide +kernel) rfl trivial ?_
  obtain ⟨q1, hq1, hf⟩ := Option.bind_eq_some_iff.mp hf
  refine am_callV (mi := mi_X2_has) (rm := rm_X2_has) [.int (p1)] C0.1 am_YYl cv_2_59 (M_X2_has _ g w p1 _ hq1) (ci := 2) rfl (by decide) rfl (by rw [hR]; rfl) rfl rfl (Nat.le_of_ble_eq_true rfl) (by decide +kernel) ?_
  refine am_if_eq C0 (off := 12) (tgt := 17) (by decide +kernel) (fun hc3 => ?_) (fun hc3 => ?_)
  · rw [if_pos hc3] at hf
    refine am_b1 C0 am_YYk (pc := 17) (pc2 := 19) [(.bipush (-9), 0, 0, .int (-9))] (L := [some (.ref 3), some (.int (p1))]) (st := []) (L' := [some (.ref 3), some (.int (p1))]) (st' := [.int ((-9 : Int32))]) (g' := g) (w' := w) (cl := []) (by decide +kernel) rfl trivial ?_
    cases hf
    exact am_iret C0 (by decide +kernel)
  · rw [if_neg hc3] at hf
    obtain ⟨hg2, hf⟩ := am_g hf
    refine am_b1 C0 am_YYk (pc := 8) (pc2 := 14) [(.aload_n 0, 0, 0, .null), (.getfield 15, 2, 1, .null), (.iload_n 1, 0, 0, .null), (.iaload, 0, 0, .null)] (L := [some (.ref 3), some (.int (p1))]) (st := []) (L' := [some (.ref 3), some (.int (p1))]) (st' := [.int (g 5 (Int32.toNatClampNeg p1))]) (g' := g) (w' := w) (cl := [am_in p1 6]) (by decide +kernel) rfl ⟨hg2, trivial⟩ ?_
    refine am_goto C0 (off := 5) (tgt := 19) (by decide +kernel) ?_
    cases hf
    exact am_iret C0 (by decide +kernel)
/-! ShutterTown$Houses.floor(I)I at (3,) -/
def f_X2_floor (g : am_G) (p1 : Int32) : Option (Int32) :=
  (f_X2_has g p1).bind fun q1 =>
    if q1 = 0 then
      some ((-9 : Int32))
    else
      if am_in p1 6 then
        some (g 7 (Int32.toNatClampNeg p1))
      else none
set_option maxRecDepth 20000 in
theorem M_X2_floor (l : Launch) (g : am_G) (w : am_J) (p1 : Int32) (R : Int32) (hf : f_X2_floor g p1 = some R) : am_Met l mi_X2_floor rm_X2_floor [.ref 3, .int p1] am_YY g w (some (.int R)) am_YY g w := by
  refine am_met (own := 2) [some (.ref 3), some (.int (p1))] (by decide) rfl rfl (by first | decide | exact Nat.le_of_ble_eq_true rfl) (fun x C0 hR hl hnm => ?_)
  unfold f_X2_floor at hf
  refine am_b1 C0 am_YYk (pc := 0) (pc2 := 2) [(.aload_n 0, 0, 0, .null), (.iload_n 1, 0, 0, .null)] (L := [some (.ref 3), some (.int (p1))]) (st := []) (L' := [some (.ref 3), some (.int (p1))]) (st' := [.int (p1), .ref 3]) (g' := g) (w' := w) (cl := []) (by decide +kernel) rfl trivial ?_
  obtain ⟨q1, hq1, hf⟩ := Option.bind_eq_some_iff.mp hf
  refine am_callV (mi := mi_X2_has) (rm := rm_X2_has) [.int (p1)] C0.1 am_YYl cv_2_59 (M_X2_has _ g w p1 _ hq1) (ci := 2) rfl (by decide) rfl (by rw [hR]; rfl) rfl rfl (Nat.le_of_ble_eq_true rfl) (by decide +kernel) ?_
  refine am_if_eq C0 (off := 12) (tgt := 17) (by decide +kernel) (fun hc3 => ?_) (fun hc3 => ?_)
  · rw [if_pos hc3] at hf
    refine am_b1 C0 am_YYk (pc := 17) (pc2 := 19) [(.bipush (-9), 0, 0, .int (-9))] (L := [some (.ref 3), some (.int (p1))]) (st := []) (L' := [some (.ref 3), some (.int (p1))]) (st' := [.int ((-9 : Int32))]) (g' := g) (w' := w) (cl := []) (by decide +kernel) rfl trivial ?_
    cases hf
    exact am_iret C0 (by decide +kernel)
  · rw [if_neg hc3] at hf
    obtain ⟨hg2, hf⟩ := am_g hf
    refine am_b1 C0 am_YYk (pc := 8) (pc2 := 14) [(.aload_n 0, 0, 0, .null), (.getfield 21, 2, 3, .null), (.iload_n 1, 0, 0, .null), (.iaload, 0, 0, .null)] (L := [some (.ref 3), some (.int (p1))]) (st := []) (L' := [some (.ref 3), some (.int (p1))]) (st' := [.int (g 7 (Int32.toNatClampNeg p1))]) (g' := g) (w' := w) (cl := [am_in p1 6]) (by decide +kernel) rfl ⟨hg2, trivial⟩ ?_
    refine am_goto C0 (off := 5) (tgt := 19) (by decide +kernel) ?_
    cases hf
    exact am_iret C0 (by decide +kernel)
/-! ShutterTown$Houses.facing(I)I at (3,) -/
def f_X2_facing_108 (F : Nat) (g : am_G) (p1 : Int32) (k4 : Int32 → Int32 → Option (Int32)) (l3 : Int32) (s0 : Int32) (s1 : Int32) : Option (Int32) :=
  k4 (s0 ||| s1) (l3 + (1 : Int32))
set_option maxRecDepth 20000 in
theorem B_X2_facing_108 (x : am_X) (C0 : am_Cm x 2 cX2_facing 7 (some .int)) (hR : am_R x = rm_X2_facing) (w : am_J) (F : Nat) (g : am_G) (p1 : Int32) (R : Int32) (k4 : Int32 → Int32 → Option (Int32)) (hk4 : ∀ (l2 : Int32) (l3 : Int32), k4 l2 l3 = some R → am_Ev x 7 (0, 0) (am_Q x (0, 0) (some (.int R)) am_YY g w) 4 [some (.ref 3), some (.int (p1)), some (.int (l2)), some (.int (l3)), none, none, none] [] am_YY g w) (l3 : Int32) (s0 : Int32) (s1 : Int32) (hf : f_X2_facing_108 F g p1 k4 l3 s0 s1 = some R) : am_Ev x 7 (0, 0) (am_Q x (0, 0) (some (.int R)) am_YY g w) 108 [some (.ref 3), some (.int (p1)), none, some (.int (l3)), none, none, none] [.int (s1), .int (s0)] am_YY g w := by
  unfold f_X2_facing_108 at hf
  refine am_b1 C0 am_YYk (pc := 108) (pc2 := 113) [(.ior, 0, 0, .null), (.istore_n 2, 0, 0, .null), (.iinc 3 1, 0, 0, .int 1)] (L := [some (.ref 3), some (.int (p1)), none, some (.int (l3)), none, none, none]) (st := [.int (s1), .int (s0)]) (L' := [some (.ref 3), some (.int (p1)), some (.int (s0 ||| s1)), some (.int (l3 + (1 : Int32))), none, none, none]) (st' := []) (g' := g) (w' := w) (cl := []) (by decide +kernel) rfl trivial ?_
  refine am_goto C0 (off := (-109)) (tgt := 4) (by decide +kernel) ?_
  exact hk4 (s0 ||| s1) (l3 + (1 : Int32)) hf
def f_X2_facing_107 (F : Nat) (g : am_G) (p1 : Int32) (k4 : Int32 → Int32 → Option (Int32)) (l3 : Int32) (s0 : Int32) : Option (Int32) :=
  f_X2_facing_108 F g p1 k4 (l3) (s0) ((0 : Int32))
set_option maxRecDepth 20000 in
theorem B_X2_facing_107 (x : am_X) (C0 : am_Cm x 2 cX2_facing 7 (some .int)) (hR : am_R x = rm_X2_facing) (w : am_J) (F : Nat) (g : am_G) (p1 : Int32) (R : Int32) (k4 : Int32 → Int32 → Option (Int32)) (hk4 : ∀ (l2 : Int32) (l3 : Int32), k4 l2 l3 = some R → am_Ev x 7 (0, 0) (am_Q x (0, 0) (some (.int R)) am_YY g w) 4 [some (.ref 3), some (.int (p1)), some (.int (l2)), some (.int (l3)), none, none, none] [] am_YY g w) (l3 : Int32) (s0 : Int32) (hf : f_X2_facing_107 F g p1 k4 l3 s0 = some R) : am_Ev x 7 (0, 0) (am_Q x (0, 0) (some (.int R)) am_YY g w) 107 [some (.ref 3), some (.int (p1)), none, some (.int (l3)), none, none, none] [.int (s0)] am_YY g w := by
  unfold f_X2_facing_107 at hf
  refine am_b1 C0 am_YYk (pc := 107) (pc2 := 108) [(.iconst 0, 0, 0, .int 0)] (L := [some (.ref 3), some (.int (p1)), none, some (.int (l3)), none, none, none]) (st := [.int (s0)]) (L' := [some (.ref 3), some (.int (p1)), none, some (.int (l3)), none, none, none]) (st' := [.int ((0 : Int32)), .int (s0)]) (g' := g) (w' := w) (cl := []) (by decide +kernel) rfl trivial ?_
  exact B_X2_facing_108 x C0 hR w F g p1 R _ hk4 (l3) (s0) ((0 : Int32)) hf
def f_X2_facing_83 (F : Nat) (g : am_G) (p1 : Int32) (k4 : Int32 → Int32 → Option (Int32)) (l2 : Int32) (l3 : Int32) (l4 : Int32) (l5 : Int32) (s0 : Int32) : Option (Int32) :=
  if l4 = 0 then
    f_X2_facing_107 F g p1 k4 (l3) (l2)
  else
    if l5 = 0 then
      f_X2_facing_107 F g p1 k4 (l3) (l2)
    else
      if s0 = 0 then
        f_X2_facing_107 F g p1 k4 (l3) (l2)
      else
        f_X2_facing_108 F g p1 k4 (l3) (l2) ((1 : Int32) <<< (l3 &&& 31))
set_option maxRecDepth 20000 in
theorem B_X2_facing_83 (x : am_X) (C0 : am_Cm x 2 cX2_facing 7 (some .int)) (hR : am_R x = rm_X2_facing) (w : am_J) (F : Nat) (g : am_G) (p1 : Int32) (R : Int32) (k4 : Int32 → Int32 → Option (Int32)) (hk4 : ∀ (l2 : Int32) (l3 : Int32), k4 l2 l3 = some R → am_Ev x 7 (0, 0) (am_Q x (0, 0) (some (.int R)) am_YY g w) 4 [some (.ref 3), some (.int (p1)), some (.int (l2)), some (.int (l3)), none, none, none] [] am_YY g w) (l2 : Int32) (l3 : Int32) (l4 : Int32) (l5 : Int32) (s0 : Int32) (hf : f_X2_facing_83 F g p1 k4 l2 l3 l4 l5 s0 = some R) : am_Ev x 7 (0, 0) (am_Q x (0, 0) (some (.int R)) am_YY g w) 83 [some (.ref 3), some (.int (p1)), some (.int (l2)), some (.int (l3)), some (.int (l4)), some (.int (l5)), none] [.int (s0)] am_YY g w := by
  unfold f_X2_facing_83 at hf
  refine am_b1 C0 am_YYk (pc := 83) (pc2 := 88) [(.istore 6, 0, 0, .null), (.iload_n 2, 0, 0, .null), (.iload 4, 0, 0, .null)] (L := [some (.ref 3), some (.int (p1)), some (.int (l2)), some (.int (l3)), some (.int (l4)), some (.int (l5)), none]) (st := [.int (s0)]) (L' := [some (.ref 3), some (.int (p1)), some (.int (l2)), some (.int (l3)), some (.int (l4)), some (.int (l5)), some (.int (s0))]) (st' := [.int (l4), .int (l2)]) (g' := g) (w' := w) (cl := []) (by decide +kernel) rfl trivial ?_
  refine am_if_eq C0 (off := 19) (tgt := 107) (by decide +kernel) (fun hc3 => ?_) (fun hc3 => ?_)
  · rw [if_pos hc3] at hf
    refine am_wk [some (.ref 3), some (.int (p1)), none, some (.int (l3)), none, none, none] ⟨rfl, rfl, rfl, trivial⟩ rfl ?_
    exact B_X2_facing_107 x C0 hR w F g p1 R _ hk4 (l3) (l2) hf
  · rw [if_neg hc3] at hf
    refine am_b1 C0 am_YYk (pc := 91) (pc2 := 93) [(.iload 5, 0, 0, .null)] (L := [some (.ref 3), some (.int (p1)), some (.int (l2)), some (.int (l3)), some (.int (l4)), some (.int (l5)), some (.int (s0))]) (st := [.int (l2)]) (L' := [some (.ref 3), some (.int (p1)), some (.int (l2)), some (.int (l3)), some (.int (l4)), some (.int (l5)), some (.int (s0))]) (st' := [.int (l5), .int (l2)]) (g' := g) (w' := w) (cl := []) (by decide +kernel) rfl trivial ?_
    refine am_if_eq C0 (off := 14) (tgt := 107) (by decide +kernel) (fun hc2 => ?_) (fun hc2 => ?_)
    · rw [if_pos hc2] at hf
      refine am_wk [some (.ref 3), some (.int (p1)), none, some (.int (l3)), none, none, none] ⟨rfl, rfl, rfl, trivial⟩ rfl ?_
      exact B_X2_facing_107 x C0 hR w F g p1 R _ hk4 (l3) (l2) hf
    · rw [if_neg hc2] at hf
      refine am_b1 C0 am_YYk (pc := 96) (pc2 := 98) [(.iload 6, 0, 0, .null)] (L := [some (.ref 3), some (.int (p1)), some (.int (l2)), some (.int (l3)), some (.int (l4)), some (.int (l5)), some (.int (s0))]) (st := [.int (l2)]) (L' := [some (.ref 3), some (.int (p1)), some (.int (l2)), some (.int (l3)), some (.int (l4)), some (.int (l5)), some (.int (s0))]) (st' := [.int (s0), .int (l2)]) (g' := g) (w' := w) (cl := []) (by decide +kernel) rfl trivial ?_
      refine am_if_eq C0 (off := 9) (tgt := 107) (by decide +kernel) (fun hc1 => ?_) (fun hc1 => ?_)
      · rw [if_pos hc1] at hf
        refine am_wk [some (.ref 3), some (.int (p1)), none, some (.int (l3)), none, none, none] ⟨rfl, rfl, rfl, trivial⟩ rfl ?_
        exact B_X2_facing_107 x C0 hR w F g p1 R _ hk4 (l3) (l2) hf
      · rw [if_neg hc1] at hf
        refine am_b1 C0 am_YYk (pc := 101) (pc2 := 104) [(.iconst 1, 0, 0, .int 1), (.iload_n 3, 0, 0, .null), (.ishl, 0, 0, .null)] (L := [some (.ref 3), some (.int (p1)), some (.int (l2)), some (.int (l3)), some (.int (l4)), some (.int (l5)), some (.int (s0))]) (st := [.int (l2)]) (L' := [some (.ref 3), some (.int (p1)), some (.int (l2)), some (.int (l3)), some (.int (l4)), some (.int (l5)), some (.int (s0))]) (st' := [.int ((1 : Int32) <<< (l3 &&& 31)), .int (l2)]) (g' := g) (w' := w) (cl := []) (by decide +kernel) rfl trivial ?_
        refine am_goto C0 (off := 4) (tgt := 108) (by decide +kernel) ?_
        refine am_wk [some (.ref 3), some (.int (p1)), none, some (.int (l3)), none, none, none] ⟨rfl, rfl, rfl, trivial⟩ rfl ?_
        exact B_X2_facing_108 x C0 hR w F g p1 R _ hk4 (l3) (l2) ((1 : Int32) <<< (l3 &&& 31)) hf
def f_X2_facing_58 (F : Nat) (g : am_G) (p1 : Int32) (k4 : Int32 → Int32 → Option (Int32)) (l2 : Int32) (l3 : Int32) (l4 : Int32) (s0 : Int32) : Option (Int32) :=
  (f_X2_floor g p1).bind fun q4 =>
    (f_X2_floor g l3).bind fun q5 =>
      if (1 : Int32) < (am_abs (q4 - q5)) then
        f_X2_facing_83 F g p1 k4 (l2) (l3) (l4) (s0) ((0 : Int32))
      else
        f_X2_facing_83 F g p1 k4 (l2) (l3) (l4) (s0) ((1 : Int32))
set_option maxRecDepth 20000 in
theorem B_X2_facing_58 (x : am_X) (C0 : am_Cm x 2 cX2_facing 7 (some .int)) (hR : am_R x = rm_X2_facing) (w : am_J) (F : Nat) (g : am_G) (p1 : Int32) (R : Int32) (k4 : Int32 → Int32 → Option (Int32)) (hk4 : ∀ (l2 : Int32) (l3 : Int32), k4 l2 l3 = some R → am_Ev x 7 (0, 0) (am_Q x (0, 0) (some (.int R)) am_YY g w) 4 [some (.ref 3), some (.int (p1)), some (.int (l2)), some (.int (l3)), none, none, none] [] am_YY g w) (l2 : Int32) (l3 : Int32) (l4 : Int32) (s0 : Int32) (hf : f_X2_facing_58 F g p1 k4 l2 l3 l4 s0 = some R) : am_Ev x 7 (0, 0) (am_Q x (0, 0) (some (.int R)) am_YY g w) 58 [some (.ref 3), some (.int (p1)), some (.int (l2)), some (.int (l3)), some (.int (l4)), none, none] [.int (s0)] am_YY g w := by
  unfold f_X2_facing_58 at hf
  refine am_b1 C0 am_YYk (pc := 58) (pc2 := 62) [(.istore 5, 0, 0, .null), (.aload_n 0, 0, 0, .null), (.iload_n 1, 0, 0, .null)] (L := [some (.ref 3), some (.int (p1)), some (.int (l2)), some (.int (l3)), some (.int (l4)), none, none]) (st := [.int (s0)]) (L' := [some (.ref 3), some (.int (p1)), some (.int (l2)), some (.int (l3)), some (.int (l4)), some (.int (s0)), none]) (st' := [.int (p1), .ref 3]) (g' := g) (w' := w) (cl := []) (by decide +kernel) rfl trivial ?_
  obtain ⟨q4, hq4, hf⟩ := Option.bind_eq_some_iff.mp hf
  refine am_callV (mi := mi_X2_floor) (rm := rm_X2_floor) [.int (p1)] C0.1 am_YYl cv_2_89 (M_X2_floor _ g w p1 _ hq4) (ci := 2) rfl (by decide) rfl (by rw [hR]; rfl) rfl rfl (Nat.le_of_ble_eq_true rfl) (by decide +kernel) ?_
  refine am_b1 C0 am_YYk (pc := 65) (pc2 := 67) [(.aload_n 0, 0, 0, .null), (.iload_n 3, 0, 0, .null)] (L := [some (.ref 3), some (.int (p1)), some (.int (l2)), some (.int (l3)), some (.int (l4)), some (.int (s0)), none]) (st := [.int (q4)]) (L' := [some (.ref 3), some (.int (p1)), some (.int (l2)), some (.int (l3)), some (.int (l4)), some (.int (s0)), none]) (st' := [.int (l3), .ref 3, .int (q4)]) (g' := g) (w' := w) (cl := []) (by decide +kernel) rfl trivial ?_
  obtain ⟨q5, hq5, hf⟩ := Option.bind_eq_some_iff.mp hf
  refine am_callV (mi := mi_X2_floor) (rm := rm_X2_floor) [.int (l3)] C0.1 am_YYl cv_2_89 (M_X2_floor _ g w l3 _ hq5) (ci := 2) rfl (by decide) rfl (by rw [hR]; rfl) rfl rfl (Nat.le_of_ble_eq_true rfl) (by decide +kernel) ?_
  refine am_b1 C0 am_YYk (pc := 70) (pc2 := 71) [(.isub, 0, 0, .null)] (L := [some (.ref 3), some (.int (p1)), some (.int (l2)), some (.int (l3)), some (.int (l4)), some (.int (s0)), none]) (st := [.int (q5), .int (q4)]) (L' := [some (.ref 3), some (.int (p1)), some (.int (l2)), some (.int (l3)), some (.int (l4)), some (.int (s0)), none]) (st' := [.int (q4 - q5)]) (g' := g) (w' := w) (cl := []) (by decide +kernel) rfl trivial ?_
  refine am_mabs C0.1 mw_2_86 (by rw [hR]; decide) (Nat.le_of_ble_eq_true rfl) (by decide +kernel) ?_
  refine am_b1 C0 am_YYk (pc := 74) (pc2 := 75) [(.iconst 1, 0, 0, .int 1)] (L := [some (.ref 3), some (.int (p1)), some (.int (l2)), some (.int (l3)), some (.int (l4)), some (.int (s0)), none]) (st := [.int (am_abs (q4 - q5))]) (L' := [some (.ref 3), some (.int (p1)), some (.int (l2)), some (.int (l3)), some (.int (l4)), some (.int (s0)), none]) (st' := [.int ((1 : Int32)), .int (am_abs (q4 - q5))]) (g' := g) (w' := w) (cl := []) (by decide +kernel) rfl trivial ?_
  refine am_icmp_gt C0 (off := 7) (tgt := 82) (by decide +kernel) (fun hc6 => ?_) (fun hc6 => ?_)
  · rw [if_pos hc6] at hf
    refine am_b1 C0 am_YYk (pc := 82) (pc2 := 83) [(.iconst 0, 0, 0, .int 0)] (L := [some (.ref 3), some (.int (p1)), some (.int (l2)), some (.int (l3)), some (.int (l4)), some (.int (s0)), none]) (st := []) (L' := [some (.ref 3), some (.int (p1)), some (.int (l2)), some (.int (l3)), some (.int (l4)), some (.int (s0)), none]) (st' := [.int ((0 : Int32))]) (g' := g) (w' := w) (cl := []) (by decide +kernel) rfl trivial ?_
    exact B_X2_facing_83 x C0 hR w F g p1 R _ hk4 (l2) (l3) (l4) (s0) ((0 : Int32)) hf
  · rw [if_neg hc6] at hf
    refine am_b1 C0 am_YYk (pc := 78) (pc2 := 79) [(.iconst 1, 0, 0, .int 1)] (L := [some (.ref 3), some (.int (p1)), some (.int (l2)), some (.int (l3)), some (.int (l4)), some (.int (s0)), none]) (st := []) (L' := [some (.ref 3), some (.int (p1)), some (.int (l2)), some (.int (l3)), some (.int (l4)), some (.int (s0)), none]) (st' := [.int ((1 : Int32))]) (g' := g) (w' := w) (cl := []) (by decide +kernel) rfl trivial ?_
    refine am_goto C0 (off := 4) (tgt := 83) (by decide +kernel) ?_
    exact B_X2_facing_83 x C0 hR w F g p1 R _ hk4 (l2) (l3) (l4) (s0) ((1 : Int32)) hf
def f_X2_facing_30 (F : Nat) (g : am_G) (p1 : Int32) (k4 : Int32 → Int32 → Option (Int32)) (l2 : Int32) (l3 : Int32) (s0 : Int32) : Option (Int32) :=
  (f_X2_place g p1).bind fun q7 =>
    (f_X2_place g l3).bind fun q8 =>
      if (g 3 6) < (am_abs (q7 - q8)) then
        f_X2_facing_58 F g p1 k4 (l2) (l3) (s0) ((0 : Int32))
      else
        f_X2_facing_58 F g p1 k4 (l2) (l3) (s0) ((1 : Int32))
set_option maxRecDepth 20000 in
theorem B_X2_facing_30 (x : am_X) (C0 : am_Cm x 2 cX2_facing 7 (some .int)) (hR : am_R x = rm_X2_facing) (w : am_J) (F : Nat) (g : am_G) (p1 : Int32) (R : Int32) (k4 : Int32 → Int32 → Option (Int32)) (hk4 : ∀ (l2 : Int32) (l3 : Int32), k4 l2 l3 = some R → am_Ev x 7 (0, 0) (am_Q x (0, 0) (some (.int R)) am_YY g w) 4 [some (.ref 3), some (.int (p1)), some (.int (l2)), some (.int (l3)), none, none, none] [] am_YY g w) (l2 : Int32) (l3 : Int32) (s0 : Int32) (hf : f_X2_facing_30 F g p1 k4 l2 l3 s0 = some R) : am_Ev x 7 (0, 0) (am_Q x (0, 0) (some (.int R)) am_YY g w) 30 [some (.ref 3), some (.int (p1)), some (.int (l2)), some (.int (l3)), none, none, none] [.int (s0)] am_YY g w := by
  unfold f_X2_facing_30 at hf
  refine am_b1 C0 am_YYk (pc := 30) (pc2 := 34) [(.istore 4, 0, 0, .null), (.aload_n 0, 0, 0, .null), (.iload_n 1, 0, 0, .null)] (L := [some (.ref 3), some (.int (p1)), some (.int (l2)), some (.int (l3)), none, none, none]) (st := [.int (s0)]) (L' := [some (.ref 3), some (.int (p1)), some (.int (l2)), some (.int (l3)), some (.int (s0)), none, none]) (st' := [.int (p1), .ref 3]) (g' := g) (w' := w) (cl := []) (by decide +kernel) rfl trivial ?_
  obtain ⟨q7, hq7, hf⟩ := Option.bind_eq_some_iff.mp hf
  refine am_callV (mi := mi_X2_place) (rm := rm_X2_place) [.int (p1)] C0.1 am_YYl cv_2_83 (M_X2_place _ g w p1 _ hq7) (ci := 2) rfl (by decide) rfl (by rw [hR]; rfl) rfl rfl (Nat.le_of_ble_eq_true rfl) (by decide +kernel) ?_
  refine am_b1 C0 am_YYk (pc := 37) (pc2 := 39) [(.aload_n 0, 0, 0, .null), (.iload_n 3, 0, 0, .null)] (L := [some (.ref 3), some (.int (p1)), some (.int (l2)), some (.int (l3)), some (.int (s0)), none, none]) (st := [.int (q7)]) (L' := [some (.ref 3), some (.int (p1)), some (.int (l2)), some (.int (l3)), some (.int (s0)), none, none]) (st' := [.int (l3), .ref 3, .int (q7)]) (g' := g) (w' := w) (cl := []) (by decide +kernel) rfl trivial ?_
  obtain ⟨q8, hq8, hf⟩ := Option.bind_eq_some_iff.mp hf
  refine am_callV (mi := mi_X2_place) (rm := rm_X2_place) [.int (l3)] C0.1 am_YYl cv_2_83 (M_X2_place _ g w l3 _ hq8) (ci := 2) rfl (by decide) rfl (by rw [hR]; rfl) rfl rfl (Nat.le_of_ble_eq_true rfl) (by decide +kernel) ?_
  refine am_b1 C0 am_YYk (pc := 42) (pc2 := 43) [(.isub, 0, 0, .null)] (L := [some (.ref 3), some (.int (p1)), some (.int (l2)), some (.int (l3)), some (.int (s0)), none, none]) (st := [.int (q8), .int (q7)]) (L' := [some (.ref 3), some (.int (p1)), some (.int (l2)), some (.int (l3)), some (.int (s0)), none, none]) (st' := [.int (q7 - q8)]) (g' := g) (w' := w) (cl := []) (by decide +kernel) rfl trivial ?_
  refine am_mabs C0.1 mw_2_86 (by rw [hR]; decide) (Nat.le_of_ble_eq_true rfl) (by decide +kernel) ?_
  refine am_b1 C0 am_YYk (pc := 46) (pc2 := 50) [(.aload_n 0, 0, 0, .null), (.getfield 30, 2, 6, .null)] (L := [some (.ref 3), some (.int (p1)), some (.int (l2)), some (.int (l3)), some (.int (s0)), none, none]) (st := [.int (am_abs (q7 - q8))]) (L' := [some (.ref 3), some (.int (p1)), some (.int (l2)), some (.int (l3)), some (.int (s0)), none, none]) (st' := [.int (g 3 6), .int (am_abs (q7 - q8))]) (g' := g) (w' := w) (cl := []) (by decide +kernel) rfl trivial ?_
  refine am_icmp_gt C0 (off := 7) (tgt := 57) (by decide +kernel) (fun hc9 => ?_) (fun hc9 => ?_)
  · rw [if_pos hc9] at hf
    refine am_b1 C0 am_YYk (pc := 57) (pc2 := 58) [(.iconst 0, 0, 0, .int 0)] (L := [some (.ref 3), some (.int (p1)), some (.int (l2)), some (.int (l3)), some (.int (s0)), none, none]) (st := []) (L' := [some (.ref 3), some (.int (p1)), some (.int (l2)), some (.int (l3)), some (.int (s0)), none, none]) (st' := [.int ((0 : Int32))]) (g' := g) (w' := w) (cl := []) (by decide +kernel) rfl trivial ?_
    exact B_X2_facing_58 x C0 hR w F g p1 R _ hk4 (l2) (l3) (s0) ((0 : Int32)) hf
  · rw [if_neg hc9] at hf
    refine am_b1 C0 am_YYk (pc := 53) (pc2 := 54) [(.iconst 1, 0, 0, .int 1)] (L := [some (.ref 3), some (.int (p1)), some (.int (l2)), some (.int (l3)), some (.int (s0)), none, none]) (st := []) (L' := [some (.ref 3), some (.int (p1)), some (.int (l2)), some (.int (l3)), some (.int (s0)), none, none]) (st' := [.int ((1 : Int32))]) (g' := g) (w' := w) (cl := []) (by decide +kernel) rfl trivial ?_
    refine am_goto C0 (off := 4) (tgt := 58) (by decide +kernel) ?_
    exact B_X2_facing_58 x C0 hR w F g p1 R _ hk4 (l2) (l3) (s0) ((1 : Int32)) hf
def f_X2_facing_4 (F : Nat) (g : am_G) (p1 : Int32)  : Nat → Int32 → Int32 → Option (Int32)
  | 0, _, _ => none
  | n + 1, l2, l3 =>
    if (g 3 7) ≤ l3 then
      some (l2)
    else
      (f_X2_side g p1).bind fun q10 =>
        (f_X2_side g l3).bind fun q11 =>
          if q10 = q11 then
            f_X2_facing_30 F g p1 (fun l2 l3 => f_X2_facing_4 F g p1 n l2 l3) (l2) (l3) ((0 : Int32))
          else
            f_X2_facing_30 F g p1 (fun l2 l3 => f_X2_facing_4 F g p1 n l2 l3) (l2) (l3) ((1 : Int32))
set_option maxRecDepth 20000 in
theorem B_X2_facing_4 (x : am_X) (C0 : am_Cm x 2 cX2_facing 7 (some .int)) (hR : am_R x = rm_X2_facing) (w : am_J) (F : Nat) (g : am_G) (p1 : Int32) (R : Int32)   : ∀ (n : Nat) (l2 : Int32) (l3 : Int32), f_X2_facing_4 F g p1 n l2 l3 = some R → am_Ev x 7 (0, 0) (am_Q x (0, 0) (some (.int R)) am_YY g w) 4 [some (.ref 3), some (.int (p1)), some (.int (l2)), some (.int (l3)), none, none, none] [] am_YY g w := by
  intro n
  induction n with
  | zero => intro l2 l3 hf; cases hf
  | succ n ih =>
    intro l2 l3 hf
    rw [f_X2_facing_4.eq_2] at hf
    refine am_b1 C0 am_YYk (pc := 4) (pc2 := 9) [(.iload_n 3, 0, 0, .null), (.aload_n 0, 0, 0, .null), (.getfield 53, 2, 7, .null)] (L := [some (.ref 3), some (.int (p1)), some (.int (l2)), some (.int (l3)), none, none, none]) (st := []) (L' := [some (.ref 3), some (.int (p1)), some (.int (l2)), some (.int (l3)), none, none, none]) (st' := [.int (g 3 7), .int (l3)]) (g' := g) (w' := w) (cl := []) (by decide +kernel) rfl trivial ?_
    refine am_icmp_ge C0 (off := 107) (tgt := 116) (by decide +kernel) (fun hc13 => ?_) (fun hc13 => ?_)
    · rw [if_pos hc13] at hf
      refine am_b1 C0 am_YYk (pc := 116) (pc2 := 117) [(.iload_n 2, 0, 0, .null)] (L := [some (.ref 3), some (.int (p1)), some (.int (l2)), some (.int (l3)), none, none, none]) (st := []) (L' := [some (.ref 3), some (.int (p1)), some (.int (l2)), some (.int (l3)), none, none, none]) (st' := [.int (l2)]) (g' := g) (w' := w) (cl := []) (by decide +kernel) rfl trivial ?_
      cases hf
      exact am_iret C0 (by decide +kernel)
    · rw [if_neg hc13] at hf
      refine am_b1 C0 am_YYk (pc := 12) (pc2 := 14) [(.aload_n 0, 0, 0, .null), (.iload_n 1, 0, 0, .null)] (L := [some (.ref 3), some (.int (p1)), some (.int (l2)), some (.int (l3)), none, none, none]) (st := []) (L' := [some (.ref 3), some (.int (p1)), some (.int (l2)), some (.int (l3)), none, none, none]) (st' := [.int (p1), .ref 3]) (g' := g) (w' := w) (cl := []) (by decide +kernel) rfl trivial ?_
      obtain ⟨q10, hq10, hf⟩ := Option.bind_eq_some_iff.mp hf
      refine am_callV (mi := mi_X2_side) (rm := rm_X2_side) [.int (p1)] C0.1 am_YYl cv_2_80 (M_X2_side _ g w p1 _ hq10) (ci := 2) rfl (by decide) rfl (by rw [hR]; rfl) rfl rfl (Nat.le_of_ble_eq_true rfl) (by decide +kernel) ?_
      refine am_b1 C0 am_YYk (pc := 17) (pc2 := 19) [(.aload_n 0, 0, 0, .null), (.iload_n 3, 0, 0, .null)] (L := [some (.ref 3), some (.int (p1)), some (.int (l2)), some (.int (l3)), none, none, none]) (st := [.int (q10)]) (L' := [some (.ref 3), some (.int (p1)), some (.int (l2)), some (.int (l3)), none, none, none]) (st' := [.int (l3), .ref 3, .int (q10)]) (g' := g) (w' := w) (cl := []) (by decide +kernel) rfl trivial ?_
      obtain ⟨q11, hq11, hf⟩ := Option.bind_eq_some_iff.mp hf
      refine am_callV (mi := mi_X2_side) (rm := rm_X2_side) [.int (l3)] C0.1 am_YYl cv_2_80 (M_X2_side _ g w l3 _ hq11) (ci := 2) rfl (by decide) rfl (by rw [hR]; rfl) rfl rfl (Nat.le_of_ble_eq_true rfl) (by decide +kernel) ?_
      refine am_icmp_eq C0 (off := 7) (tgt := 29) (by decide +kernel) (fun hc12 => ?_) (fun hc12 => ?_)
      · rw [if_pos hc12] at hf
        refine am_b1 C0 am_YYk (pc := 29) (pc2 := 30) [(.iconst 0, 0, 0, .int 0)] (L := [some (.ref 3), some (.int (p1)), some (.int (l2)), some (.int (l3)), none, none, none]) (st := []) (L' := [some (.ref 3), some (.int (p1)), some (.int (l2)), some (.int (l3)), none, none, none]) (st' := [.int ((0 : Int32))]) (g' := g) (w' := w) (cl := []) (by decide +kernel) rfl trivial ?_
        exact B_X2_facing_30 x C0 hR w F g p1 R _ (fun l2 l3 hf => ih l2 l3 hf) (l2) (l3) ((0 : Int32)) hf
      · rw [if_neg hc12] at hf
        refine am_b1 C0 am_YYk (pc := 25) (pc2 := 26) [(.iconst 1, 0, 0, .int 1)] (L := [some (.ref 3), some (.int (p1)), some (.int (l2)), some (.int (l3)), none, none, none]) (st := []) (L' := [some (.ref 3), some (.int (p1)), some (.int (l2)), some (.int (l3)), none, none, none]) (st' := [.int ((1 : Int32))]) (g' := g) (w' := w) (cl := []) (by decide +kernel) rfl trivial ?_
        refine am_goto C0 (off := 4) (tgt := 30) (by decide +kernel) ?_
        exact B_X2_facing_30 x C0 hR w F g p1 R _ (fun l2 l3 hf => ih l2 l3 hf) (l2) (l3) ((1 : Int32)) hf
def f_X2_facing (F : Nat) (g : am_G) (p1 : Int32) : Option (Int32) :=
  f_X2_facing_4 F g p1 F ((0 : Int32)) ((0 : Int32))
set_option maxRecDepth 20000 in
theorem M_X2_facing (l : Launch) (F : Nat) (g : am_G) (w : am_J) (p1 : Int32) (R : Int32) (hf : f_X2_facing F g p1 = some R) : am_Met l mi_X2_facing rm_X2_facing [.ref 3, .int p1] am_YY g w (some (.int R)) am_YY g w := by
  refine am_met (own := 2) [some (.ref 3), some (.int (p1)), none, none, none, none, none] (by decide) rfl rfl (by first | decide | exact Nat.le_of_ble_eq_true rfl) (fun x C0 hR hl hnm => ?_)
  unfold f_X2_facing at hf
  refine am_b1 C0 am_YYk (pc := 0) (pc2 := 4) [(.iconst 0, 0, 0, .int 0), (.istore_n 2, 0, 0, .null), (.iconst 0, 0, 0, .int 0), (.istore_n 3, 0, 0, .null)] (L := [some (.ref 3), some (.int (p1)), none, none, none, none, none]) (st := []) (L' := [some (.ref 3), some (.int (p1)), some (.int ((0 : Int32))), some (.int ((0 : Int32))), none, none, none]) (st' := []) (g' := g) (w' := w) (cl := []) (by decide +kernel) rfl trivial ?_
  refine B_X2_facing_4 x C0 hR w F g p1 R   F ((0 : Int32)) ((0 : Int32)) hf
