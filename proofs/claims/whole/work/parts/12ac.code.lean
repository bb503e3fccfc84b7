/-! ShutterTown$Shutters.shift(II)V at (10,) -/
def f_X4_shift_10 (g : am_G) (p1 : Int32) (p2 : Int32) : Option (am_G) :=
  (f_X2_has g p1).bind fun q1 =>
    if q1 = 0 then
      some (g)
    else
      (f_X7_isState p2).bind fun q2 =>
        if q2 = 0 then
          some (g)
        else
          if am_in p1 6 then
            some (am_u g 11 (Int32.toNatClampNeg p1) p2)
          else none
set_option maxRecDepth 20000 in
theorem M_X4_shift_10 (l : Launch) (g : am_G) (w : am_J) (p1 : Int32) (p2 : Int32) (R : am_G) (hf : f_X4_shift_10 g p1 p2 = some R) : am_Met l mi_X4_shift rm_X4_shift [.ref 10, .int p1, .int p2] am_YY g w none am_YY R w := by
  refine am_met (own := 4) [some (.ref 10), some (.int (p1)), some (.int (p2))] (by decide) rfl rfl (by first | decide | exact Nat.le_of_ble_eq_true rfl) (fun x C0 hR hl hnm => ?_)
  unfold f_X4_shift_10 at hf
  refine am_b1 C0 am_YYk (pc := 0) (pc2 := 5) [(.aload_n 0, 0, 0, .null), (.getfield 18, 4, 0, .null), (.iload_n 1, 0, 0, .null)] (L := [some (.ref 10), some (.int (p1)), some (.int (p2))]) (st := []) (L' := [some (.ref 10), some (.int (p1)), some (.int (p2))]) (st' := [.int (p1), .ref 3]) (g' := g) (w' := w) (cl := []) (by decide +kernel) rfl trivial ?_
  obtain ⟨q1, hq1, hf⟩ := Option.bind_eq_some_iff.mp hf
  refine am_callV (mi := mi_X2_has) (rm := rm_X2_has) [.int (p1)] C0.1 am_YYl cv_4_44 (M_X2_has _ g w p1 _ hq1) (ci := 2) rfl (by decide) rfl (by rw [hR]; rfl) rfl rfl (Nat.le_of_ble_eq_true rfl) (by decide +kernel) ?_
  refine am_if_eq C0 (off := 17) (tgt := 25) (by decide +kernel) (fun hc5 => ?_) (fun hc5 => ?_)
  · rw [if_pos hc5] at hf
    cases hf
    exact am_vret C0 (by decide +kernel)
  · rw [if_neg hc5] at hf
    refine am_b1 C0 am_YYk (pc := 11) (pc2 := 12) [(.iload_n 2, 0, 0, .null)] (L := [some (.ref 10), some (.int (p1)), some (.int (p2))]) (st := []) (L' := [some (.ref 10), some (.int (p1)), some (.int (p2))]) (st' := [.int (p2)]) (g' := g) (w' := w) (cl := []) (by decide +kernel) rfl trivial ?_
    obtain ⟨q2, hq2, hf⟩ := Option.bind_eq_some_iff.mp hf
    refine am_callSN (mi := mi_X7_isState) (rm := rm_X7_isState) [.int (p2)] C0.1 cv_4_54 (M_X7_isState _ g w p2 _ hq2) (by rw [hR]; rfl) rfl rfl (Nat.le_of_ble_eq_true rfl) (by decide +kernel) ?_
    refine am_if_eq C0 (off := 10) (tgt := 25) (by decide +kernel) (fun hc4 => ?_) (fun hc4 => ?_)
    · rw [if_pos hc4] at hf
      cases hf
      exact am_vret C0 (by decide +kernel)
    · rw [if_neg hc4] at hf
      obtain ⟨hg3, hf⟩ := am_g hf
      refine am_b1 C0 am_YYk (pc := 18) (pc2 := 25) [(.aload_n 0, 0, 0, .null), (.getfield 9, 4, 1, .null), (.iload_n 1, 0, 0, .null), (.iload_n 2, 0, 0, .null), (.iastore, 0, 0, .null)] (L := [some (.ref 10), some (.int (p1)), some (.int (p2))]) (st := []) (L' := [some (.ref 10), some (.int (p1)), some (.int (p2))]) (st' := []) (g' := am_u g 11 (Int32.toNatClampNeg p1) p2) (w' := w) (cl := [am_in p1 6]) (by decide +kernel) rfl ⟨hg3, trivial⟩ ?_
      cases hf
      exact am_vret C0 (by decide +kernel)
/-! ShutterTown.move(II)I at (0,) -/
def f_X7_move (g : am_G) (p1 : Int32) (p2 : Int32) : Option (Int32 × am_G) :=
  (f_X2_has g p1).bind fun q1 =>
    if q1 = 0 then
      some ((-1 : Int32), g)
    else
      (f_X7_isState p2).bind fun q2 =>
        if q2 = 0 then
          some ((-2 : Int32), g)
        else
          (f_X4_canShift_10 g p1 p2).bind fun q3 =>
            if q3 = 0 then
              some ((-3 : Int32), g)
            else
              (f_X0_remember g).bind fun q4 =>
                (f_X4_shift_10 q4 p1 p2).bind fun q5 =>
                  (f_X4_word_10 q5 p1).bind fun q6 =>
                    some (q6, q5)
set_option maxRecDepth 20000 in
theorem M_X7_move (l : Launch) (g : am_G) (w : am_J) (p1 : Int32) (p2 : Int32) (R : Int32 × am_G) (hf : f_X7_move g p1 p2 = some R) : am_Met l mi_X7_move rm_X7_move [.ref 0, .int p1, .int p2] am_YY g w (some (.int R.1)) am_YY (R.2) w := by
  refine am_met (own := 7) [some (.ref 0), some (.int (p1)), some (.int (p2))] (by decide) rfl rfl (by first | decide | exact Nat.le_of_ble_eq_true rfl) (fun x C0 hR hl hnm => ?_)
  unfold f_X7_move at hf
  refine am_b1 C0 am_YYk (pc := 0) (pc2 := 5) [(.aload_n 0, 0, 0, .null), (.getfield 19, 7, 1, .null), (.iload_n 1, 0, 0, .null)] (L := [some (.ref 0), some (.int (p1)), some (.int (p2))]) (st := []) (L' := [some (.ref 0), some (.int (p1)), some (.int (p2))]) (st' := [.int (p1), .ref 3]) (g' := g) (w' := w) (cl := []) (by decide +kernel) rfl trivial ?_
  obtain ⟨q1, hq1, hf⟩ := Option.bind_eq_some_iff.mp hf
  refine am_callV (mi := mi_X2_has) (rm := rm_X2_has) [.int (p1)] C0.1 am_YYl cv_7_96 (M_X2_has _ g w p1 _ hq1) (ci := 2) rfl (by decide) rfl (by rw [hR]; rfl) rfl rfl (Nat.le_of_ble_eq_true rfl) (by decide +kernel) ?_
  refine am_if_ne C0 (off := 5) (tgt := 13) (by decide +kernel) (fun hc9 => ?_) (fun hc9 => ?_)
  · rw [if_neg hc9] at hf
    refine am_b1 C0 am_YYk (pc := 13) (pc2 := 14) [(.iload_n 2, 0, 0, .null)] (L := [some (.ref 0), some (.int (p1)), some (.int (p2))]) (st := []) (L' := [some (.ref 0), some (.int (p1)), some (.int (p2))]) (st' := [.int (p2)]) (g' := g) (w' := w) (cl := []) (by decide +kernel) rfl trivial ?_
    obtain ⟨q2, hq2, hf⟩ := Option.bind_eq_some_iff.mp hf
    refine am_callS (mi := mi_X7_isState) (rm := rm_X7_isState) [.int (p2)] C0.1 cv_7_124 (M_X7_isState _ g w p2 _ hq2) (by rw [hR]; rfl) rfl rfl (Nat.le_of_ble_eq_true rfl) (by decide +kernel) ?_
    refine am_if_ne C0 (off := 6) (tgt := 23) (by decide +kernel) (fun hc8 => ?_) (fun hc8 => ?_)
    · rw [if_neg hc8] at hf
      refine am_b1 C0 am_YYk (pc := 23) (pc2 := 29) [(.aload_n 0, 0, 0, .null), (.getfield 28, 7, 2, .null), (.iload_n 1, 0, 0, .null), (.iload_n 2, 0, 0, .null)] (L := [some (.ref 0), some (.int (p1)), some (.int (p2))]) (st := []) (L' := [some (.ref 0), some (.int (p1)), some (.int (p2))]) (st' := [.int (p2), .int (p1), .ref 10]) (g' := g) (w' := w) (cl := []) (by decide +kernel) rfl trivial ?_
      obtain ⟨q3, hq3, hf⟩ := Option.bind_eq_some_iff.mp hf
      refine am_callV (mi := mi_X4_canShift) (rm := rm_X4_canShift) [.int (p1), .int (p2)] C0.1 am_YYl cv_7_127 (M_X4_canShift_10 _ g w p1 p2 _ hq3) (ci := 4) rfl (by decide) rfl (by rw [hR]; rfl) rfl rfl (Nat.le_of_ble_eq_true rfl) (by decide +kernel) ?_
      refine am_if_ne C0 (off := 6) (tgt := 38) (by decide +kernel) (fun hc7 => ?_) (fun hc7 => ?_)
      · rw [if_neg hc7] at hf
        refine am_b1 C0 am_YYk (pc := 38) (pc2 := 46) [(.aload_n 0, 0, 0, .null), (.getfield 38, 7, 4, .null), (.aload_n 0, 0, 0, .null), (.getfield 28, 7, 2, .null)] (L := [some (.ref 0), some (.int (p1)), some (.int (p2))]) (st := []) (L' := [some (.ref 0), some (.int (p1)), some (.int (p2))]) (st' := [.ref 10, .ref 16]) (g' := g) (w' := w) (cl := []) (by decide +kernel) rfl trivial ?_
        obtain ⟨q4, hq4, hf⟩ := Option.bind_eq_some_iff.mp hf
        refine am_callV (mi := mi_X0_remember) (rm := rm_X0_remember) [.ref 10] C0.1 am_YYl cv_7_131 (M_X0_remember _ g w _ hq4) (ci := 0) rfl (by decide) rfl (by rw [hR]; rfl) rfl rfl (Nat.le_of_ble_eq_true rfl) (by decide +kernel) ?_
        refine am_b1 C0 am_YYk (pc := 49) (pc2 := 55) [(.aload_n 0, 0, 0, .null), (.getfield 28, 7, 2, .null), (.iload_n 1, 0, 0, .null), (.iload_n 2, 0, 0, .null)] (L := [some (.ref 0), some (.int (p1)), some (.int (p2))]) (st := []) (L' := [some (.ref 0), some (.int (p1)), some (.int (p2))]) (st' := [.int (p2), .int (p1), .ref 10]) (g' := q4) (w' := w) (cl := []) (by decide +kernel) rfl trivial ?_
        obtain ⟨q5, hq5, hf⟩ := Option.bind_eq_some_iff.mp hf
        refine am_callV (mi := mi_X4_shift) (rm := rm_X4_shift) [.int (p1), .int (p2)] C0.1 am_YYl cv_7_135 (M_X4_shift_10 _ q4 w p1 p2 _ hq5) (ci := 4) rfl (by decide) rfl (by rw [hR]; rfl) rfl rfl (Nat.le_of_ble_eq_true rfl) (by decide +kernel) ?_
        refine am_b1 C0 am_YYk (pc := 58) (pc2 := 63) [(.aload_n 0, 0, 0, .null), (.getfield 28, 7, 2, .null), (.iload_n 1, 0, 0, .null)] (L := [some (.ref 0), some (.int (p1)), some (.int (p2))]) (st := []) (L' := [some (.ref 0), some (.int (p1)), some (.int (p2))]) (st' := [.int (p1), .ref 10]) (g' := q5) (w' := w) (cl := []) (by decide +kernel) rfl trivial ?_
        obtain ⟨q6, hq6, hf⟩ := Option.bind_eq_some_iff.mp hf
        refine am_callV (mi := mi_X4_word) (rm := rm_X4_word) [.int (p1)] C0.1 am_YYl cv_7_115 (M_X4_word_10 _ q5 w p1 _ hq6) (ci := 4) rfl (by decide) rfl (by rw [hR]; rfl) rfl rfl (Nat.le_of_ble_eq_true rfl) (by decide +kernel) ?_
        cases hf
        exact am_iret C0 (by decide +kernel)
      · rw [if_pos hc7] at hf
        refine am_b1 C0 am_YYk (pc := 35) (pc2 := 37) [(.bipush (-3), 0, 0, .int (-3))] (L := [some (.ref 0), some (.int (p1)), some (.int (p2))]) (st := []) (L' := [some (.ref 0), some (.int (p1)), some (.int (p2))]) (st' := [.int ((-3 : Int32))]) (g' := g) (w' := w) (cl := []) (by decide +kernel) rfl trivial ?_
        cases hf
        exact am_iret C0 (by decide +kernel)
    · rw [if_pos hc8] at hf
      refine am_b1 C0 am_YYk (pc := 20) (pc2 := 22) [(.bipush (-2), 0, 0, .int (-2))] (L := [some (.ref 0), some (.int (p1)), some (.int (p2))]) (st := []) (L' := [some (.ref 0), some (.int (p1)), some (.int (p2))]) (st' := [.int ((-2 : Int32))]) (g' := g) (w' := w) (cl := []) (by decide +kernel) rfl trivial ?_
      cases hf
      exact am_iret C0 (by decide +kernel)
  · rw [if_pos hc9] at hf
    refine am_b1 C0 am_YYk (pc := 11) (pc2 := 12) [(.iconst (-1), 0, 0, .int (-1))] (L := [some (.ref 0), some (.int (p1)), some (.int (p2))]) (st := []) (L' := [some (.ref 0), some (.int (p1)), some (.int (p2))]) (st' := [.int ((-1 : Int32))]) (g' := g) (w' := w) (cl := []) (by decide +kernel) rfl trivial ?_
    cases hf
    exact am_iret C0 (by decide +kernel)
/-! ShutterTown$Houses.ofKind(I)I at (3,) -/
def f_X2_ofKind_29 (F : Nat) (g : am_G) (p1 : Int32) (k4 : Int32 → Int32 → Option (Int32)) (l3 : Int32) (s0 : Int32) (s1 : Int32) : Option (Int32) :=
  k4 (s0 ||| s1) (l3 + (1 : Int32))
set_option maxRecDepth 20000 in
theorem B_X2_ofKind_29 (x : am_X) (C0 : am_Cm x 2 cX2_ofKind 4 (some .int)) (hR : am_R x = rm_X2_ofKind) (w : am_J) (F : Nat) (g : am_G) (p1 : Int32) (R : Int32) (k4 : Int32 → Int32 → Option (Int32)) (hk4 : ∀ (l2 : Int32) (l3 : Int32), k4 l2 l3 = some R → am_Ev x 4 (0, 0) (am_Q x (0, 0) (some (.int R)) am_YY g w) 4 [some (.ref 3), some (.int (p1)), some (.int (l2)), some (.int (l3))] [] am_YY g w) (l3 : Int32) (s0 : Int32) (s1 : Int32) (hf : f_X2_ofKind_29 F g p1 k4 l3 s0 s1 = some R) : am_Ev x 4 (0, 0) (am_Q x (0, 0) (some (.int R)) am_YY g w) 29 [some (.ref 3), some (.int (p1)), none, some (.int (l3))] [.int (s1), .int (s0)] am_YY g w := by
  unfold f_X2_ofKind_29 at hf
  refine am_b1 C0 am_YYk (pc := 29) (pc2 := 34) [(.ior, 0, 0, .null), (.istore_n 2, 0, 0, .null), (.iinc 3 1, 0, 0, .int 1)] (L := [some (.ref 3), some (.int (p1)), none, some (.int (l3))]) (st := [.int (s1), .int (s0)]) (L' := [some (.ref 3), some (.int (p1)), some (.int (s0 ||| s1)), some (.int (l3 + (1 : Int32)))]) (st' := []) (g' := g) (w' := w) (cl := []) (by decide +kernel) rfl trivial ?_
  refine am_goto C0 (off := (-30)) (tgt := 4) (by decide +kernel) ?_
  exact hk4 (s0 ||| s1) (l3 + (1 : Int32)) hf
def f_X2_ofKind_4 (F : Nat) (g : am_G) (p1 : Int32)  : Nat → Int32 → Int32 → Option (Int32)
  | 0, _, _ => none
  | n + 1, l2, l3 =>
    if (g 3 7) ≤ l3 then
      some (l2)
    else
      (f_X2_kind g l3).bind fun q1 =>
        if q1 = p1 then
          f_X2_ofKind_29 F g p1 (fun l2 l3 => f_X2_ofKind_4 F g p1 n l2 l3) (l3) (l2) ((1 : Int32) <<< (l3 &&& 31))
        else
          f_X2_ofKind_29 F g p1 (fun l2 l3 => f_X2_ofKind_4 F g p1 n l2 l3) (l3) (l2) ((0 : Int32))
set_option maxRecDepth 20000 in
theorem B_X2_ofKind_4 (x : am_X) (C0 : am_Cm x 2 cX2_ofKind 4 (some .int)) (hR : am_R x = rm_X2_ofKind) (w : am_J) (F : Nat) (g : am_G) (p1 : Int32) (R : Int32)   : ∀ (n : Nat) (l2 : Int32) (l3 : Int32), f_X2_ofKind_4 F g p1 n l2 l3 = some R → am_Ev x 4 (0, 0) (am_Q x (0, 0) (some (.int R)) am_YY g w) 4 [some (.ref 3), some (.int (p1)), some (.int (l2)), some (.int (l3))] [] am_YY g w := by
  intro n
  induction n with
  | zero => intro l2 l3 hf; cases hf
  | succ n ih =>
    intro l2 l3 hf
    rw [f_X2_ofKind_4.eq_2] at hf
    refine am_b1 C0 am_YYk (pc := 4) (pc2 := 9) [(.iload_n 3, 0, 0, .null), (.aload_n 0, 0, 0, .null), (.getfield 53, 2, 7, .null)] (L := [some (.ref 3), some (.int (p1)), some (.int (l2)), some (.int (l3))]) (st := []) (L' := [some (.ref 3), some (.int (p1)), some (.int (l2)), some (.int (l3))]) (st' := [.int (g 3 7), .int (l3)]) (g' := g) (w' := w) (cl := []) (by decide +kernel) rfl trivial ?_
    refine am_icmp_ge C0 (off := 28) (tgt := 37) (by decide +kernel) (fun hc3 => ?_) (fun hc3 => ?_)
    · rw [if_pos hc3] at hf
      refine am_b1 C0 am_YYk (pc := 37) (pc2 := 38) [(.iload_n 2, 0, 0, .null)] (L := [some (.ref 3), some (.int (p1)), some (.int (l2)), some (.int (l3))]) (st := []) (L' := [some (.ref 3), some (.int (p1)), some (.int (l2)), some (.int (l3))]) (st' := [.int (l2)]) (g' := g) (w' := w) (cl := []) (by decide +kernel) rfl trivial ?_
      cases hf
      exact am_iret C0 (by decide +kernel)
    · rw [if_neg hc3] at hf
      refine am_b1 C0 am_YYk (pc := 12) (pc2 := 15) [(.iload_n 2, 0, 0, .null), (.aload_n 0, 0, 0, .null), (.iload_n 3, 0, 0, .null)] (L := [some (.ref 3), some (.int (p1)), some (.int (l2)), some (.int (l3))]) (st := []) (L' := [some (.ref 3), some (.int (p1)), some (.int (l2)), some (.int (l3))]) (st' := [.int (l3), .ref 3, .int (l2)]) (g' := g) (w' := w) (cl := []) (by decide +kernel) rfl trivial ?_
      obtain ⟨q1, hq1, hf⟩ := Option.bind_eq_some_iff.mp hf
      refine am_callV (mi := mi_X2_kind) (rm := rm_X2_kind) [.int (l3)] C0.1 am_YYl cv_2_66 (M_X2_kind _ g w l3 _ hq1) (ci := 2) rfl (by decide) rfl (by rw [hR]; rfl) rfl rfl (Nat.le_of_ble_eq_true rfl) (by decide +kernel) ?_
      refine am_b1 C0 am_YYk (pc := 18) (pc2 := 19) [(.iload_n 1, 0, 0, .null)] (L := [some (.ref 3), some (.int (p1)), some (.int (l2)), some (.int (l3))]) (st := [.int (q1), .int (l2)]) (L' := [some (.ref 3), some (.int (p1)), some (.int (l2)), some (.int (l3))]) (st' := [.int (p1), .int (q1), .int (l2)]) (g' := g) (w' := w) (cl := []) (by decide +kernel) rfl trivial ?_
      refine am_icmp_ne C0 (off := 9) (tgt := 28) (by decide +kernel) (fun hc2 => ?_) (fun hc2 => ?_)
      · rw [if_neg hc2] at hf
        refine am_b1 C0 am_YYk (pc := 28) (pc2 := 29) [(.iconst 0, 0, 0, .int 0)] (L := [some (.ref 3), some (.int (p1)), some (.int (l2)), some (.int (l3))]) (st := [.int (l2)]) (L' := [some (.ref 3), some (.int (p1)), some (.int (l2)), some (.int (l3))]) (st' := [.int ((0 : Int32)), .int (l2)]) (g' := g) (w' := w) (cl := []) (by decide +kernel) rfl trivial ?_
        refine am_wk [some (.ref 3), some (.int (p1)), none, some (.int (l3))] ⟨rfl, rfl, rfl, trivial⟩ rfl ?_
        exact B_X2_ofKind_29 x C0 hR w F g p1 R _ (fun l2 l3 hf => ih l2 l3 hf) (l3) (l2) ((0 : Int32)) hf
      · rw [if_pos hc2] at hf
        refine am_b1 C0 am_YYk (pc := 22) (pc2 := 25) [(.iconst 1, 0, 0, .int 1), (.iload_n 3, 0, 0, .null), (.ishl, 0, 0, .null)] (L := [some (.ref 3), some (.int (p1)), some (.int (l2)), some (.int (l3))]) (st := [.int (l2)]) (L' := [some (.ref 3), some (.int (p1)), some (.int (l2)), some (.int (l3))]) (st' := [.int ((1 : Int32) <<< (l3 &&& 31)), .int (l2)]) (g' := g) (w' := w) (cl := []) (by decide +kernel) rfl trivial ?_
        refine am_goto C0 (off := 4) (tgt := 29) (by decide +kernel) ?_
        refine am_wk [some (.ref 3), some (.int (p1)), none, some (.int (l3))] ⟨rfl, rfl, rfl, trivial⟩ rfl ?_
        exact B_X2_ofKind_29 x C0 hR w F g p1 R _ (fun l2 l3 hf => ih l2 l3 hf) (l3) (l2) ((1 : Int32) <<< (l3 &&& 31)) hf
def f_X2_ofKind (F : Nat) (g : am_G) (p1 : Int32) : Option (Int32) :=
  f_X2_ofKind_4 F g p1 F ((0 : Int32)) ((0 : Int32))
set_option maxRecDepth 20000 in
theorem M_X2_ofKind (l : Launch) (F : Nat) (g : am_G) (w : am_J) (p1 : Int32) (R : Int32) (hf : f_X2_ofKind F g p1 = some R) : am_Met l mi_X2_ofKind rm_X2_ofKind [.ref 3, .int p1] am_YY g w (some (.int R)) am_YY g w := by
  refine am_met (own := 2) [some (.ref 3), some (.int (p1)), none, none] (by decide) rfl rfl (by first | decide | exact Nat.le_of_ble_eq_true rfl) (fun x C0 hR hl hnm => ?_)
  unfold f_X2_ofKind at hf
  refine am_b1 C0 am_YYk (pc := 0) (pc2 := 4) [(.iconst 0, 0, 0, .int 0), (.istore_n 2, 0, 0, .null), (.iconst 0, 0, 0, .int 0), (.istore_n 3, 0, 0, .null)] (L := [some (.ref 3), some (.int (p1)), none, none]) (st := []) (L' := [some (.ref 3), some (.int (p1)), some (.int ((0 : Int32))), some (.int ((0 : Int32)))]) (st' := []) (g' := g) (w' := w) (cl := []) (by decide +kernel) rfl trivial ?_
  refine B_X2_ofKind_4 x C0 hR w F g p1 R   F ((0 : Int32)) ((0 : Int32)) hf
/-! ShutterTown$Shutters.blow()I at (10,) -/
def f_X4_blow_10_43 (F : Nat) (k11 : Int32 → Int32 → am_G → Option (Int32 × am_G)) (l1 : Int32) (l2 : Int32) (s1 : Int32) (s2 : Int32) (s3 : Int32) (g : am_G) : Option (Int32 × am_G) :=
  if am_in s1 6 then
    k11 (l1) (l2 + (1 : Int32)) (am_u g 11 (Int32.toNatClampNeg s1) (s2 ^^^ s3))
  else none
set_option maxRecDepth 20000 in
theorem B_X4_blow_10_43 (x : am_X) (C0 : am_Cm x 4 cX4_blow 3 (some .int)) (hR : am_R x = rm_X4_blow) (w : am_J) (F : Nat) (R : Int32 × am_G) (k11 : Int32 → Int32 → am_G → Option (Int32 × am_G)) (hk11 : ∀ (l1 : Int32) (l2 : Int32) (g : am_G), k11 l1 l2 g = some R → am_Ev x 3 (0, 0) (am_Q x (0, 0) (some (.int R.1)) am_YY (R.2) w) 11 [some (.ref 10), some (.int (l1)), some (.int (l2))] [] am_YY g w) (l1 : Int32) (l2 : Int32) (s1 : Int32) (s2 : Int32) (s3 : Int32) (g : am_G) (hf : f_X4_blow_10_43 F k11 l1 l2 s1 s2 s3 g = some R) : am_Ev x 3 (0, 0) (am_Q x (0, 0) (some (.int R.1)) am_YY (R.2) w) 43 [some (.ref 10), some (.int (l1)), some (.int (l2))] [.int (s3), .int (s2), .int (s1), .ref 11] am_YY g w := by
  unfold f_X4_blow_10_43 at hf
  obtain ⟨hg1, hf⟩ := am_g hf
  refine am_b1 C0 am_YYk (pc := 43) (pc2 := 48) [(.ixor, 0, 0, .null), (.iastore, 0, 0, .null), (.iinc 2 1, 0, 0, .int 1)] (L := [some (.ref 10), some (.int (l1)), some (.int (l2))]) (st := [.int (s3), .int (s2), .int (s1), .ref 11]) (L' := [some (.ref 10), some (.int (l1)), some (.int (l2 + (1 : Int32)))]) (st' := []) (g' := am_u g 11 (Int32.toNatClampNeg s1) (s2 ^^^ s3)) (w' := w) (cl := [am_in s1 6]) (by decide +kernel) rfl ⟨hg1, trivial⟩ ?_
  refine am_goto C0 (off := (-37)) (tgt := 11) (by decide +kernel) ?_
  exact hk11 (l1) (l2 + (1 : Int32)) (am_u g 11 (Int32.toNatClampNeg s1) (s2 ^^^ s3)) hf
def f_X4_blow_10_11 (F : Nat)  : Nat → Int32 → Int32 → am_G → Option (Int32 × am_G)
  | 0, _, _, _ => none
  | n + 1, l1, l2, g =>
    (f_X2_windows g).bind fun q2 =>
      if q2 ≤ l2 then
        some (l1, g)
      else
        if am_in l2 6 then
          if ((l1 >>> (l2 &&& 31)) &&& (1 : Int32)) = (1 : Int32) then
            f_X4_blow_10_43 F (fun l1 l2 g => f_X4_blow_10_11 F n l1 l2 g) (l1) (l2) (l2) (g 11 (Int32.toNatClampNeg l2)) ((1 : Int32)) (g)
          else
            f_X4_blow_10_43 F (fun l1 l2 g => f_X4_blow_10_11 F n l1 l2 g) (l1) (l2) (l2) (g 11 (Int32.toNatClampNeg l2)) ((0 : Int32)) (g)
        else none
set_option maxRecDepth 20000 in
theorem B_X4_blow_10_11 (x : am_X) (C0 : am_Cm x 4 cX4_blow 3 (some .int)) (hR : am_R x = rm_X4_blow) (w : am_J) (F : Nat) (R : Int32 × am_G)   : ∀ (n : Nat) (l1 : Int32) (l2 : Int32) (g : am_G), f_X4_blow_10_11 F n l1 l2 g = some R → am_Ev x 3 (0, 0) (am_Q x (0, 0) (some (.int R.1)) am_YY (R.2) w) 11 [some (.ref 10), some (.int (l1)), some (.int (l2))] [] am_YY g w := by
  intro n
  induction n with
  | zero => intro l1 l2 g hf; cases hf
  | succ n ih =>
    intro l1 l2 g hf
    rw [f_X4_blow_10_11.eq_2] at hf
    refine am_b1 C0 am_YYk (pc := 11) (pc2 := 16) [(.iload_n 2, 0, 0, .null), (.aload_n 0, 0, 0, .null), (.getfield 18, 4, 0, .null)] (L := [some (.ref 10), some (.int (l1)), some (.int (l2))]) (st := []) (L' := [some (.ref 10), some (.int (l1)), some (.int (l2))]) (st' := [.ref 3, .int (l2)]) (g' := g) (w' := w) (cl := []) (by decide +kernel) rfl trivial ?_
    obtain ⟨q2, hq2, hf⟩ := Option.bind_eq_some_iff.mp hf
    refine am_callV (mi := mi_X2_windows) (rm := rm_X2_windows) [] C0.1 am_YYl cv_4_22 (M_X2_windows _ g w _ hq2) (ci := 2) rfl (by decide) rfl (by rw [hR]; rfl) rfl rfl (Nat.le_of_ble_eq_true rfl) (by decide +kernel) ?_
    refine am_icmp_ge C0 (off := 32) (tgt := 51) (by decide +kernel) (fun hc5 => ?_) (fun hc5 => ?_)
    · rw [if_pos hc5] at hf
      refine am_b1 C0 am_YYk (pc := 51) (pc2 := 52) [(.iload_n 1, 0, 0, .null)] (L := [some (.ref 10), some (.int (l1)), some (.int (l2))]) (st := []) (L' := [some (.ref 10), some (.int (l1)), some (.int (l2))]) (st' := [.int (l1)]) (g' := g) (w' := w) (cl := []) (by decide +kernel) rfl trivial ?_
      cases hf
      exact am_iret C0 (by decide +kernel)
    · rw [if_neg hc5] at hf
      obtain ⟨hg3, hf⟩ := am_g hf
      refine am_b1 C0 am_YYk (pc := 22) (pc2 := 35) [(.aload_n 0, 0, 0, .null), (.getfield 9, 4, 1, .null), (.iload_n 2, 0, 0, .null), (.dup2, 0, 0, .null), (.iaload, 0, 0, .null), (.iload_n 1, 0, 0, .null), (.iload_n 2, 0, 0, .null), (.ishr, 0, 0, .null), (.iconst 1, 0, 0, .int 1), (.iand, 0, 0, .null), (.iconst 1, 0, 0, .int 1)] (L := [some (.ref 10), some (.int (l1)), some (.int (l2))]) (st := []) (L' := [some (.ref 10), some (.int (l1)), some (.int (l2))]) (st' := [.int ((1 : Int32)), .int ((l1 >>> (l2 &&& 31)) &&& (1 : Int32)), .int (g 11 (Int32.toNatClampNeg l2)), .int (l2), .ref 11]) (g' := g) (w' := w) (cl := [am_in l2 6]) (by decide +kernel) rfl ⟨hg3, trivial⟩ ?_
      refine am_icmp_ne C0 (off := 7) (tgt := 42) (by decide +kernel) (fun hc4 => ?_) (fun hc4 => ?_)
      · rw [if_neg hc4] at hf
        refine am_b1 C0 am_YYk (pc := 42) (pc2 := 43) [(.iconst 0, 0, 0, .int 0)] (L := [some (.ref 10), some (.int (l1)), some (.int (l2))]) (st := [.int (g 11 (Int32.toNatClampNeg l2)), .int (l2), .ref 11]) (L' := [some (.ref 10), some (.int (l1)), some (.int (l2))]) (st' := [.int ((0 : Int32)), .int (g 11 (Int32.toNatClampNeg l2)), .int (l2), .ref 11]) (g' := g) (w' := w) (cl := []) (by decide +kernel) rfl trivial ?_
        exact B_X4_blow_10_43 x C0 hR w F R _ (fun l1 l2 g hf => ih l1 l2 g hf) (l1) (l2) (l2) (g 11 (Int32.toNatClampNeg l2)) ((0 : Int32)) (g) hf
      · rw [if_pos hc4] at hf
        refine am_b1 C0 am_YYk (pc := 38) (pc2 := 39) [(.iconst 1, 0, 0, .int 1)] (L := [some (.ref 10), some (.int (l1)), some (.int (l2))]) (st := [.int (g 11 (Int32.toNatClampNeg l2)), .int (l2), .ref 11]) (L' := [some (.ref 10), some (.int (l1)), some (.int (l2))]) (st' := [.int ((1 : Int32)), .int (g 11 (Int32.toNatClampNeg l2)), .int (l2), .ref 11]) (g' := g) (w' := w) (cl := []) (by decide +kernel) rfl trivial ?_
        refine am_goto C0 (off := 4) (tgt := 43) (by decide +kernel) ?_
        exact B_X4_blow_10_43 x C0 hR w F R _ (fun l1 l2 g hf => ih l1 l2 g hf) (l1) (l2) (l2) (g 11 (Int32.toNatClampNeg l2)) ((1 : Int32)) (g) hf
def f_X4_blow_10 (F : Nat) (g : am_G) : Option (Int32 × am_G) :=
  (f_X2_ofKind F g (2 : Int32)).bind fun q6 =>
    f_X4_blow_10_11 F F (q6) ((0 : Int32)) (g)
set_option maxRecDepth 20000 in
theorem M_X4_blow_10 (l : Launch) (F : Nat) (g : am_G) (w : am_J)  (R : Int32 × am_G) (hf : f_X4_blow_10 F g = some R) : am_Met l mi_X4_blow rm_X4_blow [.ref 10] am_YY g w (some (.int R.1)) am_YY (R.2) w := by
  refine am_met (own := 4) [some (.ref 10), none, none] (by decide) rfl rfl (by first | decide | exact Nat.le_of_ble_eq_true rfl) (fun x C0 hR hl hnm => ?_)
  unfold f_X4_blow_10 at hf
  refine am_b1 C0 am_YYk (pc := 0) (pc2 := 5) [(.aload_n 0, 0, 0, .null), (.getfield 18, 4, 0, .null), (.iconst 2, 0, 0, .int 2)] (L := [some (.ref 10), none, none]) (st := []) (L' := [some (.ref 10), none, none]) (st' := [.int ((2 : Int32)), .ref 3]) (g' := g) (w' := w) (cl := []) (by decide +kernel) rfl trivial ?_
  obtain ⟨q6, hq6, hf⟩ := Option.bind_eq_some_iff.mp hf
  refine am_callV (mi := mi_X2_ofKind) (rm := rm_X2_ofKind) [.int ((2 : Int32))] C0.1 am_YYl cv_4_60 (M_X2_ofKind _ F g w (2 : Int32) _ hq6) (ci := 2) rfl (by decide) rfl (by rw [hR]; rfl) rfl rfl (Nat.le_of_ble_eq_true rfl) (by decide +kernel) ?_
  refine am_b1 C0 am_YYk (pc := 8) (pc2 := 11) [(.istore_n 1, 0, 0, .null), (.iconst 0, 0, 0, .int 0), (.istore_n 2, 0, 0, .null)] (L := [some (.ref 10), none, none]) (st := [.int (q6)]) (L' := [some (.ref 10), some (.int (q6)), some (.int ((0 : Int32)))]) (st' := []) (g' := g) (w' := w) (cl := []) (by decide +kernel) rfl trivial ?_
  refine B_X4_blow_10_11 x C0 hR w F R   F (q6) ((0 : Int32)) (g) hf
/-! ShutterTown.wind()I at (0,) -/
def f_X7_wind (F : Nat) (g : am_G) : Option (Int32 × am_G) :=
  (f_X0_remember g).bind fun q1 =>
    (f_X4_blow_10 F q1).bind fun q2 =>
      some (q2.1, q2.2)
set_option maxRecDepth 20000 in
theorem M_X7_wind (l : Launch) (F : Nat) (g : am_G) (w : am_J)  (R : Int32 × am_G) (hf : f_X7_wind F g = some R) : am_Met l mi_X7_wind rm_X7_wind [.ref 0] am_YY g w (some (.int R.1)) am_YY (R.2) w := by
  refine am_met (own := 7) [some (.ref 0)] (by decide) rfl rfl (by first | decide | exact Nat.le_of_ble_eq_true rfl) (fun x C0 hR hl hnm => ?_)
  unfold f_X7_wind at hf
  refine am_b1 C0 am_YYk (pc := 0) (pc2 := 8) [(.aload_n 0, 0, 0, .null), (.getfield 38, 7, 4, .null), (.aload_n 0, 0, 0, .null), (.getfield 28, 7, 2, .null)] (L := [some (.ref 0)]) (st := []) (L' := [some (.ref 0)]) (st' := [.ref 10, .ref 16]) (g' := g) (w' := w) (cl := []) (by decide +kernel) rfl trivial ?_
  obtain ⟨q1, hq1, hf⟩ := Option.bind_eq_some_iff.mp hf
  refine am_callV (mi := mi_X0_remember) (rm := rm_X0_remember) [.ref 10] C0.1 am_YYl cv_7_131 (M_X0_remember _ g w _ hq1) (ci := 0) rfl (by decide) rfl (by rw [hR]; rfl) rfl rfl (Nat.le_of_ble_eq_true rfl) (by decide +kernel) ?_
  refine am_b1 C0 am_YYk (pc := 11) (pc2 := 15) [(.aload_n 0, 0, 0, .null), (.getfield 28, 7, 2, .null)] (L := [some (.ref 0)]) (st := []) (L' := [some (.ref 0)]) (st' := [.ref 10]) (g' := q1) (w' := w) (cl := []) (by decide +kernel) rfl trivial ?_
  obtain ⟨q2, hq2, hf⟩ := Option.bind_eq_some_iff.mp hf
  refine am_callV (mi := mi_X4_blow) (rm := rm_X4_blow) [] C0.1 am_YYl cv_7_139 (M_X4_blow_10 _ F q1 w _ hq2) (ci := 4) rfl (by decide) rfl (by rw [hR]; rfl) rfl rfl (Nat.le_of_ble_eq_true rfl) (by decide +kernel) ?_
  cases hf
  exact am_iret C0 (by decide +kernel)
/-! ShutterTown$Houses.areFacing(II)Z at (3,) -/
def f_X2_areFacing (g : am_G) (p1 : Int32) (p2 : Int32) : Option (Int32) :=
  (f_X2_has g p2).bind fun q1 =>
    if q1 = 0 then
      some ((0 : Int32))
    else
      (f_X2_sees g p1).bind fun q2 =>
        if ((q2 >>> (p2 &&& 31)) &&& (1 : Int32)) = (1 : Int32) then
          some ((1 : Int32))
        else
          some ((0 : Int32))
set_option maxRecDepth 20000 in
theorem M_X2_areFacing (l : Launch) (g : am_G) (w : am_J) (p1 : Int32) (p2 : Int32) (R : Int32) (hf : f_X2_areFacing g p1 p2 = some R) : am_Met l mi_X2_areFacing rm_X2_areFacing [.ref 3, .int p1, .int p2] am_YY g w (some (.int R)) am_YY g w := by
  refine am_met (own := 2) [some (.ref 3), some (.int (p1)), some (.int (p2))] (by decide) rfl rfl (by first | decide | exact Nat.le_of_ble_eq_true rfl) (fun x C0 hR hl hnm => ?_)
  unfold f_X2_areFacing at hf
  refine am_b1 C0 am_YYk (pc := 0) (pc2 := 2) [(.aload_n 0, 0, 0, .null), (.iload_n 2, 0, 0, .null)] (L := [some (.ref 3), some (.int (p1)), some (.int (p2))]) (st := []) (L' := [some (.ref 3), some (.int (p1)), some (.int (p2))]) (st' := [.int (p2), .ref 3]) (g' := g) (w' := w) (cl := []) (by decide +kernel) rfl trivial ?_
  obtain ⟨q1, hq1, hf⟩ := Option.bind_eq_some_iff.mp hf
  refine am_callV (mi := mi_X2_has) (rm := rm_X2_has) [.int (p2)] C0.1 am_YYl cv_2_59 (M_X2_has _ g w p2 _ hq1) (ci := 2) rfl (by decide) rfl (by rw [hR]; rfl) rfl rfl (Nat.le_of_ble_eq_true rfl) (by decide +kernel) ?_
  refine am_if_eq C0 (off := 20) (tgt := 25) (by decide +kernel) (fun hc4 => ?_) (fun hc4 => ?_)
  · rw [if_pos hc4] at hf
    refine am_b1 C0 am_YYk (pc := 25) (pc2 := 26) [(.iconst 0, 0, 0, .int 0)] (L := [some (.ref 3), some (.int (p1)), some (.int (p2))]) (st := []) (L' := [some (.ref 3), some (.int (p1)), some (.int (p2))]) (st' := [.int ((0 : Int32))]) (g' := g) (w' := w) (cl := []) (by decide +kernel) rfl trivial ?_
    cases hf
    exact am_zret C0 (by decide +kernel) (Or.inl rfl)
  · rw [if_neg hc4] at hf
    refine am_b1 C0 am_YYk (pc := 8) (pc2 := 10) [(.aload_n 0, 0, 0, .null), (.iload_n 1, 0, 0, .null)] (L := [some (.ref 3), some (.int (p1)), some (.int (p2))]) (st := []) (L' := [some (.ref 3), some (.int (p1)), some (.int (p2))]) (st' := [.int (p1), .ref 3]) (g' := g) (w' := w) (cl := []) (by decide +kernel) rfl trivial ?_
    obtain ⟨q2, hq2, hf⟩ := Option.bind_eq_some_iff.mp hf
    refine am_callV (mi := mi_X2_sees) (rm := rm_X2_sees) [.int (p1)] C0.1 am_YYl cv_2_63 (M_X2_sees _ g w p1 _ hq2) (ci := 2) rfl (by decide) rfl (by rw [hR]; rfl) rfl rfl (Nat.le_of_ble_eq_true rfl) (by decide +kernel) ?_
    refine am_b1 C0 am_YYk (pc := 13) (pc2 := 18) [(.iload_n 2, 0, 0, .null), (.ishr, 0, 0, .null), (.iconst 1, 0, 0, .int 1), (.iand, 0, 0, .null), (.iconst 1, 0, 0, .int 1)] (L := [some (.ref 3), some (.int (p1)), some (.int (p2))]) (st := [.int (q2)]) (L' := [some (.ref 3), some (.int (p1)), some (.int (p2))]) (st' := [.int ((1 : Int32)), .int ((q2 >>> (p2 &&& 31)) &&& (1 : Int32))]) (g' := g) (w' := w) (cl := []) (by decide +kernel) rfl trivial ?_
    refine am_icmp_ne C0 (off := 7) (tgt := 25) (by decide +kernel) (fun hc3 => ?_) (fun hc3 => ?_)
    · rw [if_neg hc3] at hf
      refine am_b1 C0 am_YYk (pc := 25) (pc2 := 26) [(.iconst 0, 0, 0, .int 0)] (L := [some (.ref 3), some (.int (p1)), some (.int (p2))]) (st := []) (L' := [some (.ref 3), some (.int (p1)), some (.int (p2))]) (st' := [.int ((0 : Int32))]) (g' := g) (w' := w) (cl := []) (by decide +kernel) rfl trivial ?_
      cases hf
      exact am_zret C0 (by decide +kernel) (Or.inl rfl)
    · rw [if_pos hc3] at hf
      refine am_b1 C0 am_YYk (pc := 21) (pc2 := 22) [(.iconst 1, 0, 0, .int 1)] (L := [some (.ref 3), some (.int (p1)), some (.int (p2))]) (st := []) (L' := [some (.ref 3), some (.int (p1)), some (.int (p2))]) (st' := [.int ((1 : Int32))]) (g' := g) (w' := w) (cl := []) (by decide +kernel) rfl trivial ?_
      refine am_goto C0 (off := 4) (tgt := 26) (by decide +kernel) ?_
      cases hf
      exact am_zret C0 (by decide +kernel) (Or.inr rfl)
/-! ShutterTown$Houses.leastStateFor(I)I at (3,) -/
def f_X2_leastStateFor_2 (F : Nat) (g : am_G) (p1 : Int32)  : Nat → Int32 → Option (Int32)
  | 0, _ => none
  | n + 1, l2 =>
    if (4 : Int32) ≤ l2 then
      some ((-9 : Int32))
    else
      if am_in l2 4 then
        if (g 4 (Int32.toNatClampNeg l2)) = p1 then
          some (l2)
        else
          f_X2_leastStateFor_2 F g p1 n (l2 + (1 : Int32))
      else none
set_option maxRecDepth 20000 in
theorem B_X2_leastStateFor_2 (x : am_X) (C0 : am_Cm x 2 cX2_leastStateFor 3 (some .int)) (hR : am_R x = rm_X2_leastStateFor) (w : am_J) (F : Nat) (g : am_G) (p1 : Int32) (R : Int32)   : ∀ (n : Nat) (l2 : Int32), f_X2_leastStateFor_2 F g p1 n l2 = some R → am_Ev x 3 (0, 0) (am_Q x (0, 0) (some (.int R)) am_YY g w) 2 [some (.ref 3), some (.int (p1)), some (.int (l2))] [] am_YY g w := by
  intro n
  induction n with
  | zero => intro l2 hf; cases hf
  | succ n ih =>
    intro l2 hf
    rw [f_X2_leastStateFor_2.eq_2] at hf
    refine am_b1 C0 am_YYk (pc := 2) (pc2 := 4) [(.iload_n 2, 0, 0, .null), (.iconst 4, 0, 0, .int 4)] (L := [some (.ref 3), some (.int (p1)), some (.int (l2))]) (st := []) (L' := [some (.ref 3), some (.int (p1)), some (.int (l2))]) (st' := [.int ((4 : Int32)), .int (l2)]) (g' := g) (w' := w) (cl := []) (by decide +kernel) rfl trivial ?_
    refine am_icmp_ge C0 (off := 21) (tgt := 25) (by decide +kernel) (fun hc3 => ?_) (fun hc3 => ?_)
    · rw [if_pos hc3] at hf
      refine am_b1 C0 am_YYk (pc := 25) (pc2 := 27) [(.bipush (-9), 0, 0, .int (-9))] (L := [some (.ref 3), some (.int (p1)), some (.int (l2))]) (st := []) (L' := [some (.ref 3), some (.int (p1)), some (.int (l2))]) (st' := [.int ((-9 : Int32))]) (g' := g) (w' := w) (cl := []) (by decide +kernel) rfl trivial ?_
      cases hf
      exact am_iret C0 (by decide +kernel)
    · rw [if_neg hc3] at hf
      obtain ⟨hg1, hf⟩ := am_g hf
      refine am_b1 C0 am_YYk (pc := 7) (pc2 := 14) [(.aload_n 0, 0, 0, .null), (.getfield 9, 2, 0, .null), (.iload_n 2, 0, 0, .null), (.iaload, 0, 0, .null), (.iload_n 1, 0, 0, .null)] (L := [some (.ref 3), some (.int (p1)), some (.int (l2))]) (st := []) (L' := [some (.ref 3), some (.int (p1)), some (.int (l2))]) (st' := [.int (p1), .int (g 4 (Int32.toNatClampNeg l2))]) (g' := g) (w' := w) (cl := [am_in l2 4]) (by decide +kernel) rfl ⟨hg1, trivial⟩ ?_
      refine am_icmp_ne C0 (off := 5) (tgt := 19) (by decide +kernel) (fun hc2 => ?_) (fun hc2 => ?_)
      · rw [if_neg hc2] at hf
        refine am_b1 C0 am_YYk (pc := 19) (pc2 := 22) [(.iinc 2 1, 0, 0, .int 1)] (L := [some (.ref 3), some (.int (p1)), some (.int (l2))]) (st := []) (L' := [some (.ref 3), some (.int (p1)), some (.int (l2 + (1 : Int32)))]) (st' := []) (g' := g) (w' := w) (cl := []) (by decide +kernel) rfl trivial ?_
        refine am_goto C0 (off := (-20)) (tgt := 2) (by decide +kernel) ?_
        exact ih (l2 + (1 : Int32)) hf
      · rw [if_pos hc2] at hf
        refine am_b1 C0 am_YYk (pc := 17) (pc2 := 18) [(.iload_n 2, 0, 0, .null)] (L := [some (.ref 3), some (.int (p1)), some (.int (l2))]) (st := []) (L' := [some (.ref 3), some (.int (p1)), some (.int (l2))]) (st' := [.int (l2)]) (g' := g) (w' := w) (cl := []) (by decide +kernel) rfl trivial ?_
        cases hf
        exact am_iret C0 (by decide +kernel)
def f_X2_leastStateFor (F : Nat) (g : am_G) (p1 : Int32) : Option (Int32) :=
  f_X2_leastStateFor_2 F g p1 F ((0 : Int32))
set_option maxRecDepth 20000 in
theorem M_X2_leastStateFor (l : Launch) (F : Nat) (g : am_G) (w : am_J) (p1 : Int32) (R : Int32) (hf : f_X2_leastStateFor F g p1 = some R) : am_Met l mi_X2_leastStateFor rm_X2_leastStateFor [.ref 3, .int p1] am_YY g w (some (.int R)) am_YY g w := by
  refine am_met (own := 2) [some (.ref 3), some (.int (p1)), none] (by decide) rfl rfl (by first | decide | exact Nat.le_of_ble_eq_true rfl) (fun x C0 hR hl hnm => ?_)
  unfold f_X2_leastStateFor at hf
  refine am_b1 C0 am_YYk (pc := 0) (pc2 := 2) [(.iconst 0, 0, 0, .int 0), (.istore_n 2, 0, 0, .null)] (L := [some (.ref 3), some (.int (p1)), none]) (st := []) (L' := [some (.ref 3), some (.int (p1)), some (.int ((0 : Int32)))]) (st' := []) (g' := g) (w' := w) (cl := []) (by decide +kernel) rfl trivial ?_
  refine B_X2_leastStateFor_2 x C0 hR w F g p1 R   F ((0 : Int32)) hf
/-! ShutterTown$Shutters.takeUp(II)V at (10,) -/
def f_X4_takeUp (F : Nat) (g : am_G) (p1 : Int32) (p2 : Int32) : Option (am_G) :=
  (f_X2_has g p1).bind fun q1 =>
    if q1 = 0 then
      some (g)
    else
      (f_X2_kind g p1).bind fun q2 =>
        if q2 = (1 : Int32) then
          (f_X2_leastStateFor F g p2).bind fun q4 =>
            (f_X4_shift_10 g p1 q4).bind fun q5 =>
              some (q5)
        else
          if am_in p1 6 then
            some (am_u g 12 (Int32.toNatClampNeg p1) p2)
          else none
set_option maxRecDepth 20000 in
theorem M_X4_takeUp (l : Launch) (F : Nat) (g : am_G) (w : am_J) (p1 : Int32) (p2 : Int32) (R : am_G) (hf : f_X4_takeUp F g p1 p2 = some R) : am_Met l mi_X4_takeUp rm_X4_takeUp [.ref 10, .int p1, .int p2] am_YY g w none am_YY R w := by
  refine am_met (own := 4) [some (.ref 10), some (.int (p1)), some (.int (p2))] (by decide) rfl rfl (by first | decide | exact Nat.le_of_ble_eq_true rfl) (fun x C0 hR hl hnm => ?_)
  unfold f_X4_takeUp at hf
  refine am_b1 C0 am_YYk (pc := 0) (pc2 := 5) [(.aload_n 0, 0, 0, .null), (.getfield 18, 4, 0, .null), (.iload_n 1, 0, 0, .null)] (L := [some (.ref 10), some (.int (p1)), some (.int (p2))]) (st := []) (L' := [some (.ref 10), some (.int (p1)), some (.int (p2))]) (st' := [.int (p1), .ref 3]) (g' := g) (w' := w) (cl := []) (by decide +kernel) rfl trivial ?_
  obtain ⟨q1, hq1, hf⟩ := Option.bind_eq_some_iff.mp hf
  refine am_callV (mi := mi_X2_has) (rm := rm_X2_has) [.int (p1)] C0.1 am_YYl cv_4_44 (M_X2_has _ g w p1 _ hq1) (ci := 2) rfl (by decide) rfl (by rw [hR]; rfl) rfl rfl (Nat.le_of_ble_eq_true rfl) (by decide +kernel) ?_
  refine am_if_ne C0 (off := 4) (tgt := 12) (by decide +kernel) (fun hc7 => ?_) (fun hc7 => ?_)
  · rw [if_neg hc7] at hf
    refine am_b1 C0 am_YYk (pc := 12) (pc2 := 17) [(.aload_n 0, 0, 0, .null), (.getfield 18, 4, 0, .null), (.iload_n 1, 0, 0, .null)] (L := [some (.ref 10), some (.int (p1)), some (.int (p2))]) (st := []) (L' := [some (.ref 10), some (.int (p1)), some (.int (p2))]) (st' := [.int (p1), .ref 3]) (g' := g) (w' := w) (cl := []) (by decide +kernel) rfl trivial ?_
    obtain ⟨q2, hq2, hf⟩ := Option.bind_eq_some_iff.mp hf
    refine am_callV (mi := mi_X2_kind) (rm := rm_X2_kind) [.int (p1)] C0.1 am_YYl cv_4_57 (M_X2_kind _ g w p1 _ hq2) (ci := 2) rfl (by decide) rfl (by rw [hR]; rfl) rfl rfl (Nat.le_of_ble_eq_true rfl) (by decide +kernel) ?_
    refine am_b1 C0 am_YYk (pc := 20) (pc2 := 21) [(.iconst 1, 0, 0, .int 1)] (L := [some (.ref 10), some (.int (p1)), some (.int (p2))]) (st := [.int (q2)]) (L' := [some (.ref 10), some (.int (p1)), some (.int (p2))]) (st' := [.int ((1 : Int32)), .int (q2)]) (g' := g) (w' := w) (cl := []) (by decide +kernel) rfl trivial ?_
    refine am_icmp_ne C0 (off := 19) (tgt := 40) (by decide +kernel) (fun hc6 => ?_) (fun hc6 => ?_)
    · rw [if_neg hc6] at hf
      obtain ⟨hg3, hf⟩ := am_g hf
      refine am_b1 C0 am_YYk (pc := 40) (pc2 := 47) [(.aload_n 0, 0, 0, .null), (.getfield 15, 4, 2, .null), (.iload_n 1, 0, 0, .null), (.iload_n 2, 0, 0, .null), (.iastore, 0, 0, .null)] (L := [some (.ref 10), some (.int (p1)), some (.int (p2))]) (st := []) (L' := [some (.ref 10), some (.int (p1)), some (.int (p2))]) (st' := []) (g' := am_u g 12 (Int32.toNatClampNeg p1) p2) (w' := w) (cl := [am_in p1 6]) (by decide +kernel) rfl ⟨hg3, trivial⟩ ?_
      cases hf
      exact am_vret C0 (by decide +kernel)
    · rw [if_pos hc6] at hf
      refine am_b1 C0 am_YYk (pc := 24) (pc2 := 31) [(.aload_n 0, 0, 0, .null), (.iload_n 1, 0, 0, .null), (.aload_n 0, 0, 0, .null), (.getfield 18, 4, 0, .null), (.iload_n 2, 0, 0, .null)] (L := [some (.ref 10), some (.int (p1)), some (.int (p2))]) (st := []) (L' := [some (.ref 10), some (.int (p1)), some (.int (p2))]) (st' := [.int (p2), .ref 3, .int (p1), .ref 10]) (g' := g) (w' := w) (cl := []) (by decide +kernel) rfl trivial ?_
      obtain ⟨q4, hq4, hf⟩ := Option.bind_eq_some_iff.mp hf
      refine am_callV (mi := mi_X2_leastStateFor) (rm := rm_X2_leastStateFor) [.int (p2)] C0.1 am_YYl cv_4_63 (M_X2_leastStateFor _ F g w p2 _ hq4) (ci := 2) rfl (by decide) rfl (by rw [hR]; rfl) rfl rfl (Nat.le_of_ble_eq_true rfl) (by decide +kernel) ?_
      obtain ⟨q5, hq5, hf⟩ := Option.bind_eq_some_iff.mp hf
      refine am_callV (mi := mi_X4_shift) (rm := rm_X4_shift) [.int (p1), .int (q4)] C0.1 am_YYl cv_4_66 (M_X4_shift_10 _ g w p1 q4 _ hq5) (ci := 4) rfl (by decide) rfl (by rw [hR]; rfl) rfl rfl (Nat.le_of_ble_eq_true rfl) (by decide +kernel) ?_
      refine am_goto C0 (off := 10) (tgt := 47) (by decide +kernel) ?_
      cases hf
      exact am_vret C0 (by decide +kernel)
  · rw [if_pos hc7] at hf
    cases hf
    exact am_vret C0 (by decide +kernel)
/-! ShutterTown.pass(II)I at (0,) -/
def f_X7_pass (F : Nat) (g : am_G) (p1 : Int32) (p2 : Int32) : Option (Int32 × am_G) :=
  (f_X2_has g p1).bind fun q1 =>
    if q1 = 0 then
      some ((-1 : Int32), g)
    else
      (f_X2_has g p2).bind fun q2 =>
        if q2 = 0 then
          some ((-1 : Int32), g)
        else
          (f_X2_areFacing g p1 p2).bind fun q3 =>
            if q3 = 0 then
              some ((-3 : Int32), g)
            else
              (f_X2_kind g p1).bind fun q4 =>
                if q4 = (3 : Int32) then
                  some ((-3 : Int32), g)
                else
                  (f_X0_remember g).bind fun q5 =>
                    (f_X4_word_10 q5 p2).bind fun q6 =>
                      (f_X4_takeUp F q5 p1 q6).bind fun q7 =>
                        some (q6, q7)
set_option maxRecDepth 20000 in
theorem M_X7_pass (l : Launch) (F : Nat) (g : am_G) (w : am_J) (p1 : Int32) (p2 : Int32) (R : Int32 × am_G) (hf : f_X7_pass F g p1 p2 = some R) : am_Met l mi_X7_pass rm_X7_pass [.ref 0, .int p1, .int p2] am_YY g w (some (.int R.1)) am_YY (R.2) w := by
  refine am_met (own := 7) [some (.ref 0), some (.int (p1)), some (.int (p2)), none] (by decide) rfl rfl (by first | decide | exact Nat.le_of_ble_eq_true rfl) (fun x C0 hR hl hnm => ?_)
  unfold f_X7_pass at hf
  refine am_b1 C0 am_YYk (pc := 0) (pc2 := 5) [(.aload_n 0, 0, 0, .null), (.getfield 19, 7, 1, .null), (.iload_n 1, 0, 0, .null)] (L := [some (.ref 0), some (.int (p1)), some (.int (p2)), none]) (st := []) (L' := [some (.ref 0), some (.int (p1)), some (.int (p2)), none]) (st' := [.int (p1), .ref 3]) (g' := g) (w' := w) (cl := []) (by decide +kernel) rfl trivial ?_
  obtain ⟨q1, hq1, hf⟩ := Option.bind_eq_some_iff.mp hf
  refine am_callV (mi := mi_X2_has) (rm := rm_X2_has) [.int (p1)] C0.1 am_YYl cv_7_96 (M_X2_has _ g w p1 _ hq1) (ci := 2) rfl (by decide) rfl (by rw [hR]; rfl) rfl rfl (Nat.le_of_ble_eq_true rfl) (by decide +kernel) ?_
  refine am_if_eq C0 (off := 14) (tgt := 22) (by decide +kernel) (fun hc11 => ?_) (fun hc11 => ?_)
  · rw [if_pos hc11] at hf
    refine am_b1 C0 am_YYk (pc := 22) (pc2 := 23) [(.iconst (-1), 0, 0, .int (-1))] (L := [some (.ref 0), some (.int (p1)), some (.int (p2)), none]) (st := []) (L' := [some (.ref 0), some (.int (p1)), some (.int (p2)), none]) (st' := [.int ((-1 : Int32))]) (g' := g) (w' := w) (cl := []) (by decide +kernel) rfl trivial ?_
    cases hf
    exact am_iret C0 (by decide +kernel)
  · rw [if_neg hc11] at hf
    refine am_b1 C0 am_YYk (pc := 11) (pc2 := 16) [(.aload_n 0, 0, 0, .null), (.getfield 19, 7, 1, .null), (.iload_n 2, 0, 0, .null)] (L := [some (.ref 0), some (.int (p1)), some (.int (p2)), none]) (st := []) (L' := [some (.ref 0), some (.int (p1)), some (.int (p2)), none]) (st' := [.int (p2), .ref 3]) (g' := g) (w' := w) (cl := []) (by decide +kernel) rfl trivial ?_
    obtain ⟨q2, hq2, hf⟩ := Option.bind_eq_some_iff.mp hf
    refine am_callV (mi := mi_X2_has) (rm := rm_X2_has) [.int (p2)] C0.1 am_YYl cv_7_96 (M_X2_has _ g w p2 _ hq2) (ci := 2) rfl (by decide) rfl (by rw [hR]; rfl) rfl rfl (Nat.le_of_ble_eq_true rfl) (by decide +kernel) ?_
    refine am_if_ne C0 (off := 5) (tgt := 24) (by decide +kernel) (fun hc10 => ?_) (fun hc10 => ?_)
    · rw [if_neg hc10] at hf
      refine am_b1 C0 am_YYk (pc := 24) (pc2 := 30) [(.aload_n 0, 0, 0, .null), (.getfield 19, 7, 1, .null), (.iload_n 1, 0, 0, .null), (.iload_n 2, 0, 0, .null)] (L := [some (.ref 0), some (.int (p1)), some (.int (p2)), none]) (st := []) (L' := [some (.ref 0), some (.int (p1)), some (.int (p2)), none]) (st' := [.int (p2), .int (p1), .ref 3]) (g' := g) (w' := w) (cl := []) (by decide +kernel) rfl trivial ?_
      obtain ⟨q3, hq3, hf⟩ := Option.bind_eq_some_iff.mp hf
      refine am_callV (mi := mi_X2_areFacing) (rm := rm_X2_areFacing) [.int (p1), .int (p2)] C0.1 am_YYl cv_7_142 (M_X2_areFacing _ g w p1 p2 _ hq3) (ci := 2) rfl (by decide) rfl (by rw [hR]; rfl) rfl rfl (Nat.le_of_ble_eq_true rfl) (by decide +kernel) ?_
      refine am_if_eq C0 (off := 15) (tgt := 48) (by decide +kernel) (fun hc9 => ?_) (fun hc9 => ?_)
      · rw [if_pos hc9] at hf
        refine am_b1 C0 am_YYk (pc := 48) (pc2 := 50) [(.bipush (-3), 0, 0, .int (-3))] (L := [some (.ref 0), some (.int (p1)), some (.int (p2)), none]) (st := []) (L' := [some (.ref 0), some (.int (p1)), some (.int (p2)), none]) (st' := [.int ((-3 : Int32))]) (g' := g) (w' := w) (cl := []) (by decide +kernel) rfl trivial ?_
        cases hf
        exact am_iret C0 (by decide +kernel)
      · rw [if_neg hc9] at hf
        refine am_b1 C0 am_YYk (pc := 36) (pc2 := 41) [(.aload_n 0, 0, 0, .null), (.getfield 19, 7, 1, .null), (.iload_n 1, 0, 0, .null)] (L := [some (.ref 0), some (.int (p1)), some (.int (p2)), none]) (st := []) (L' := [some (.ref 0), some (.int (p1)), some (.int (p2)), none]) (st' := [.int (p1), .ref 3]) (g' := g) (w' := w) (cl := []) (by decide +kernel) rfl trivial ?_
        obtain ⟨q4, hq4, hf⟩ := Option.bind_eq_some_iff.mp hf
        refine am_callV (mi := mi_X2_kind) (rm := rm_X2_kind) [.int (p1)] C0.1 am_YYl cv_7_112 (M_X2_kind _ g w p1 _ hq4) (ci := 2) rfl (by decide) rfl (by rw [hR]; rfl) rfl rfl (Nat.le_of_ble_eq_true rfl) (by decide +kernel) ?_
        refine am_b1 C0 am_YYk (pc := 44) (pc2 := 45) [(.iconst 3, 0, 0, .int 3)] (L := [some (.ref 0), some (.int (p1)), some (.int (p2)), none]) (st := [.int (q4)]) (L' := [some (.ref 0), some (.int (p1)), some (.int (p2)), none]) (st' := [.int ((3 : Int32)), .int (q4)]) (g' := g) (w' := w) (cl := []) (by decide +kernel) rfl trivial ?_
        refine am_icmp_ne C0 (off := 6) (tgt := 51) (by decide +kernel) (fun hc8 => ?_) (fun hc8 => ?_)
        · rw [if_neg hc8] at hf
          refine am_b1 C0 am_YYk (pc := 51) (pc2 := 59) [(.aload_n 0, 0, 0, .null), (.getfield 38, 7, 4, .null), (.aload_n 0, 0, 0, .null), (.getfield 28, 7, 2, .null)] (L := [some (.ref 0), some (.int (p1)), some (.int (p2)), none]) (st := []) (L' := [some (.ref 0), some (.int (p1)), some (.int (p2)), none]) (st' := [.ref 10, .ref 16]) (g' := g) (w' := w) (cl := []) (by decide +kernel) rfl trivial ?_
          obtain ⟨q5, hq5, hf⟩ := Option.bind_eq_some_iff.mp hf
          refine am_callV (mi := mi_X0_remember) (rm := rm_X0_remember) [.ref 10] C0.1 am_YYl cv_7_131 (M_X0_remember _ g w _ hq5) (ci := 0) rfl (by decide) rfl (by rw [hR]; rfl) rfl rfl (Nat.le_of_ble_eq_true rfl) (by decide +kernel) ?_
          refine am_b1 C0 am_YYk (pc := 62) (pc2 := 67) [(.aload_n 0, 0, 0, .null), (.getfield 28, 7, 2, .null), (.iload_n 2, 0, 0, .null)] (L := [some (.ref 0), some (.int (p1)), some (.int (p2)), none]) (st := []) (L' := [some (.ref 0), some (.int (p1)), some (.int (p2)), none]) (st' := [.int (p2), .ref 10]) (g' := q5) (w' := w) (cl := []) (by decide +kernel) rfl trivial ?_
          obtain ⟨q6, hq6, hf⟩ := Option.bind_eq_some_iff.mp hf
          refine am_callV (mi := mi_X4_word) (rm := rm_X4_word) [.int (p2)] C0.1 am_YYl cv_7_115 (M_X4_word_10 _ q5 w p2 _ hq6) (ci := 4) rfl (by decide) rfl (by rw [hR]; rfl) rfl rfl (Nat.le_of_ble_eq_true rfl) (by decide +kernel) ?_
          refine am_b1 C0 am_YYk (pc := 70) (pc2 := 77) [(.istore_n 3, 0, 0, .null), (.aload_n 0, 0, 0, .null), (.getfield 28, 7, 2, .null), (.iload_n 1, 0, 0, .null), (.iload_n 3, 0, 0, .null)] (L := [some (.ref 0), some (.int (p1)), some (.int (p2)), none]) (st := [.int (q6)]) (L' := [some (.ref 0), some (.int (p1)), some (.int (p2)), some (.int (q6))]) (st' := [.int (q6), .int (p1), .ref 10]) (g' := q5) (w' := w) (cl := []) (by decide +kernel) rfl trivial ?_
          obtain ⟨q7, hq7, hf⟩ := Option.bind_eq_some_iff.mp hf
          refine am_callV (mi := mi_X4_takeUp) (rm := rm_X4_takeUp) [.int (p1), .int (q6)] C0.1 am_YYl cv_7_145 (M_X4_takeUp _ F q5 w p1 q6 _ hq7) (ci := 4) rfl (by decide) rfl (by rw [hR]; rfl) rfl rfl (Nat.le_of_ble_eq_true rfl) (by decide +kernel) ?_
          refine am_b1 C0 am_YYk (pc := 80) (pc2 := 81) [(.iload_n 3, 0, 0, .null)] (L := [some (.ref 0), some (.int (p1)), some (.int (p2)), some (.int (q6))]) (st := []) (L' := [some (.ref 0), some (.int (p1)), some (.int (p2)), some (.int (q6))]) (st' := [.int (q6)]) (g' := q7) (w' := w) (cl := []) (by decide +kernel) rfl trivial ?_
          cases hf
          exact am_iret C0 (by decide +kernel)
        · rw [if_pos hc8] at hf
          refine am_b1 C0 am_YYk (pc := 48) (pc2 := 50) [(.bipush (-3), 0, 0, .int (-3))] (L := [some (.ref 0), some (.int (p1)), some (.int (p2)), none]) (st := []) (L' := [some (.ref 0), some (.int (p1)), some (.int (p2)), none]) (st' := [.int ((-3 : Int32))]) (g' := g) (w' := w) (cl := []) (by decide +kernel) rfl trivial ?_
          cases hf
          exact am_iret C0 (by decide +kernel)
    · rw [if_pos hc10] at hf
      refine am_b1 C0 am_YYk (pc := 22) (pc2 := 23) [(.iconst (-1), 0, 0, .int (-1))] (L := [some (.ref 0), some (.int (p1)), some (.int (p2)), none]) (st := []) (L' := [some (.ref 0), some (.int (p1)), some (.int (p2)), none]) (st' := [.int ((-1 : Int32))]) (g' := g) (w' := w) (cl := []) (by decide +kernel) rfl trivial ?_
      cases hf
      exact am_iret C0 (by decide +kernel)
/-! ShutterTown$Shutters.strike()I at (10,) -/
def f_X4_strike_10_82 (F : Nat)  (l1 : Int32) (g : am_G) : Option (Int32 × am_G) :=
  some (l1, am_u g 10 3 ((g 10 3) + (1 : Int32)))
set_option maxRecDepth 20000 in
theorem B_X4_strike_10_82 (x : am_X) (C0 : am_Cm x 4 cX4_strike 3 (some .int)) (hR : am_R x = rm_X4_strike) (w : am_J) (F : Nat) (R : Int32 × am_G)   (l1 : Int32) (g : am_G) (hf : f_X4_strike_10_82 F l1 g = some R) : am_Ev x 3 (0, 0) (am_Q x (0, 0) (some (.int R.1)) am_YY (R.2) w) 82 [some (.ref 10), some (.int (l1)), none] [] am_YY g w := by
  unfold f_X4_strike_10_82 at hf
  refine am_b1 C0 am_YYk (pc := 82) (pc2 := 93) [(.aload_n 0, 0, 0, .null), (.dup, 0, 0, .null), (.getfield 40, 4, 3, .null), (.iconst 1, 0, 0, .int 1), (.iadd, 0, 0, .null), (.putfield 40, 4, 3, .null), (.iload_n 1, 0, 0, .null)] (L := [some (.ref 10), some (.int (l1)), none]) (st := []) (L' := [some (.ref 10), some (.int (l1)), none]) (st' := [.int (l1)]) (g' := am_u g 10 3 ((g 10 3) + (1 : Int32))) (w' := w) (cl := []) (by decide +kernel) rfl trivial ?_
  cases hf
  exact am_iret C0 (by decide +kernel)
def f_X4_strike_10_76 (F : Nat) (k4 : Int32 → Int32 → am_G → Option (Int32 × am_G)) (k82 : Int32 → am_G → Option (Int32 × am_G)) (l1 : Int32) (l2 : Int32) (g : am_G) : Option (Int32 × am_G) :=
  k4 (l1) (l2 + (1 : Int32)) (g)
set_option maxRecDepth 20000 in
theorem B_X4_strike_10_76 (x : am_X) (C0 : am_Cm x 4 cX4_strike 3 (some .int)) (hR : am_R x = rm_X4_strike) (w : am_J) (F : Nat) (R : Int32 × am_G) (k4 : Int32 → Int32 → am_G → Option (Int32 × am_G)) (k82 : Int32 → am_G → Option (Int32 × am_G)) (hk4 : ∀ (l1 : Int32) (l2 : Int32) (g : am_G), k4 l1 l2 g = some R → am_Ev x 3 (0, 0) (am_Q x (0, 0) (some (.int R.1)) am_YY (R.2) w) 4 [some (.ref 10), some (.int (l1)), some (.int (l2))] [] am_YY g w) (hk82 : ∀ (l1 : Int32) (g : am_G), k82 l1 g = some R → am_Ev x 3 (0, 0) (am_Q x (0, 0) (some (.int R.1)) am_YY (R.2) w) 82 [some (.ref 10), some (.int (l1)), none] [] am_YY g w) (l1 : Int32) (l2 : Int32) (g : am_G) (hf : f_X4_strike_10_76 F k4 k82 l1 l2 g = some R) : am_Ev x 3 (0, 0) (am_Q x (0, 0) (some (.int R.1)) am_YY (R.2) w) 76 [some (.ref 10), some (.int (l1)), some (.int (l2))] [] am_YY g w := by
  unfold f_X4_strike_10_76 at hf
  refine am_b1 C0 am_YYk (pc := 76) (pc2 := 79) [(.iinc 2 1, 0, 0, .int 1)] (L := [some (.ref 10), some (.int (l1)), some (.int (l2))]) (st := []) (L' := [some (.ref 10), some (.int (l1)), some (.int (l2 + (1 : Int32)))]) (st' := []) (g' := g) (w' := w) (cl := []) (by decide +kernel) rfl trivial ?_
  refine am_goto C0 (off := (-75)) (tgt := 4) (by decide +kernel) ?_
  exact hk4 (l1) (l2 + (1 : Int32)) (g) hf
def f_X4_strike_10_48 (F : Nat) (k4 : Int32 → Int32 → am_G → Option (Int32 × am_G)) (k82 : Int32 → am_G → Option (Int32 × am_G)) (l2 : Int32) (s0 : Int32) (s1 : Int32) (g : am_G) : Option (Int32 × am_G) :=
  if am_in l2 6 then
    (f_X2_leastStateFor F g (g 12 (Int32.toNatClampNeg l2))).bind fun q2 =>
      (f_X4_shift_10 g l2 q2).bind fun q3 =>
        if am_in l2 6 then
          f_X4_strike_10_76 F k4 k82 (s0 ||| s1) (l2) (am_u q3 12 (Int32.toNatClampNeg l2) (-9 : Int32))
        else none
  else none
set_option maxRecDepth 20000 in
theorem B_X4_strike_10_48 (x : am_X) (C0 : am_Cm x 4 cX4_strike 3 (some .int)) (hR : am_R x = rm_X4_strike) (w : am_J) (F : Nat) (R : Int32 × am_G) (k4 : Int32 → Int32 → am_G → Option (Int32 × am_G)) (k82 : Int32 → am_G → Option (Int32 × am_G)) (hk4 : ∀ (l1 : Int32) (l2 : Int32) (g : am_G), k4 l1 l2 g = some R → am_Ev x 3 (0, 0) (am_Q x (0, 0) (some (.int R.1)) am_YY (R.2) w) 4 [some (.ref 10), some (.int (l1)), some (.int (l2))] [] am_YY g w) (hk82 : ∀ (l1 : Int32) (g : am_G), k82 l1 g = some R → am_Ev x 3 (0, 0) (am_Q x (0, 0) (some (.int R.1)) am_YY (R.2) w) 82 [some (.ref 10), some (.int (l1)), none] [] am_YY g w) (l2 : Int32) (s0 : Int32) (s1 : Int32) (g : am_G) (hf : f_X4_strike_10_48 F k4 k82 l2 s0 s1 g = some R) : am_Ev x 3 (0, 0) (am_Q x (0, 0) (some (.int R.1)) am_YY (R.2) w) 48 [some (.ref 10), none, some (.int (l2))] [.int (s1), .int (s0)] am_YY g w := by
  unfold f_X4_strike_10_48 at hf
  obtain ⟨hg1, hf⟩ := am_g hf
  refine am_b1 C0 am_YYk (pc := 48) (pc2 := 62) [(.ior, 0, 0, .null), (.istore_n 1, 0, 0, .null), (.aload_n 0, 0, 0, .null), (.iload_n 2, 0, 0, .null), (.aload_n 0, 0, 0, .null), (.getfield 18, 4, 0, .null), (.aload_n 0, 0, 0, .null), (.getfield 15, 4, 2, .null), (.iload_n 2, 0, 0, .null), (.iaload, 0, 0, .null)] (L := [some (.ref 10), none, some (.int (l2))]) (st := [.int (s1), .int (s0)]) (L' := [some (.ref 10), some (.int (s0 ||| s1)), some (.int (l2))]) (st' := [.int (g 12 (Int32.toNatClampNeg l2)), .ref 3, .int (l2), .ref 10]) (g' := g) (w' := w) (cl := [am_in l2 6]) (by decide +kernel) rfl ⟨hg1, trivial⟩ ?_
  obtain ⟨q2, hq2, hf⟩ := Option.bind_eq_some_iff.mp hf
  refine am_callV (mi := mi_X2_leastStateFor) (rm := rm_X2_leastStateFor) [.int (g 12 (Int32.toNatClampNeg l2))] C0.1 am_YYl cv_4_63 (M_X2_leastStateFor _ F g w (g 12 (Int32.toNatClampNeg l2)) _ hq2) (ci := 2) rfl (by decide) rfl (by rw [hR]; rfl) rfl rfl (Nat.le_of_ble_eq_true rfl) (by decide +kernel) ?_
  obtain ⟨q3, hq3, hf⟩ := Option.bind_eq_some_iff.mp hf
  refine am_callV (mi := mi_X4_shift) (rm := rm_X4_shift) [.int (l2), .int (q2)] C0.1 am_YYl cv_4_66 (M_X4_shift_10 _ g w l2 q2 _ hq3) (ci := 4) rfl (by decide) rfl (by rw [hR]; rfl) rfl rfl (Nat.le_of_ble_eq_true rfl) (by decide +kernel) ?_
  obtain ⟨hg4, hf⟩ := am_g hf
  refine am_b1 C0 am_YYk (pc := 68) (pc2 := 76) [(.aload_n 0, 0, 0, .null), (.getfield 15, 4, 2, .null), (.iload_n 2, 0, 0, .null), (.bipush (-9), 0, 0, .int (-9)), (.iastore, 0, 0, .null)] (L := [some (.ref 10), some (.int (s0 ||| s1)), some (.int (l2))]) (st := []) (L' := [some (.ref 10), some (.int (s0 ||| s1)), some (.int (l2))]) (st' := []) (g' := am_u q3 12 (Int32.toNatClampNeg l2) (-9 : Int32)) (w' := w) (cl := [am_in l2 6]) (by decide +kernel) rfl ⟨hg4, trivial⟩ ?_
  exact B_X4_strike_10_76 x C0 hR w F R _ _ hk4 hk82 (s0 ||| s1) (l2) (am_u q3 12 (Int32.toNatClampNeg l2) (-9 : Int32)) hf
def f_X4_strike_10_4 (F : Nat) (k82 : Int32 → am_G → Option (Int32 × am_G)) : Nat → Int32 → Int32 → am_G → Option (Int32 × am_G)
  | 0, _, _, _ => none
  | n + 1, l1, l2, g =>
    (f_X2_windows g).bind fun q5 =>
      if q5 ≤ l2 then
        k82 (l1) (g)
      else
        if am_in l2 6 then
          if (g 12 (Int32.toNatClampNeg l2)) = (-9 : Int32) then
            f_X4_strike_10_76 F (fun l1 l2 g => f_X4_strike_10_4 F k82 n l1 l2 g) k82 (l1) (l2) (g)
          else
            (f_X4_word_10 g l2).bind fun q7 =>
              if am_in l2 6 then
                if q7 = (g 12 (Int32.toNatClampNeg l2)) then
                  f_X4_strike_10_48 F (fun l1 l2 g => f_X4_strike_10_4 F k82 n l1 l2 g) k82 (l2) (l1) ((0 : Int32)) (g)
                else
                  f_X4_strike_10_48 F (fun l1 l2 g => f_X4_strike_10_4 F k82 n l1 l2 g) k82 (l2) (l1) ((1 : Int32) <<< (l2 &&& 31)) (g)
              else none
        else none
set_option maxRecDepth 20000 in
theorem B_X4_strike_10_4 (x : am_X) (C0 : am_Cm x 4 cX4_strike 3 (some .int)) (hR : am_R x = rm_X4_strike) (w : am_J) (F : Nat) (R : Int32 × am_G) (k82 : Int32 → am_G → Option (Int32 × am_G)) (hk82 : ∀ (l1 : Int32) (g : am_G), k82 l1 g = some R → am_Ev x 3 (0, 0) (am_Q x (0, 0) (some (.int R.1)) am_YY (R.2) w) 82 [some (.ref 10), some (.int (l1)), none] [] am_YY g w) : ∀ (n : Nat) (l1 : Int32) (l2 : Int32) (g : am_G), f_X4_strike_10_4 F k82 n l1 l2 g = some R → am_Ev x 3 (0, 0) (am_Q x (0, 0) (some (.int R.1)) am_YY (R.2) w) 4 [some (.ref 10), some (.int (l1)), some (.int (l2))] [] am_YY g w := by
  intro n
  induction n with
  | zero => intro l1 l2 g hf; cases hf
  | succ n ih =>
    intro l1 l2 g hf
    rw [f_X4_strike_10_4.eq_2] at hf
    refine am_b1 C0 am_YYk (pc := 4) (pc2 := 9) [(.iload_n 2, 0, 0, .null), (.aload_n 0, 0, 0, .null), (.getfield 18, 4, 0, .null)] (L := [some (.ref 10), some (.int (l1)), some (.int (l2))]) (st := []) (L' := [some (.ref 10), some (.int (l1)), some (.int (l2))]) (st' := [.ref 3, .int (l2)]) (g' := g) (w' := w) (cl := []) (by decide +kernel) rfl trivial ?_
    obtain ⟨q5, hq5, hf⟩ := Option.bind_eq_some_iff.mp hf
    refine am_callV (mi := mi_X2_windows) (rm := rm_X2_windows) [] C0.1 am_YYl cv_4_22 (M_X2_windows _ g w _ hq5) (ci := 2) rfl (by decide) rfl (by rw [hR]; rfl) rfl rfl (Nat.le_of_ble_eq_true rfl) (by decide +kernel) ?_
    refine am_icmp_ge C0 (off := 70) (tgt := 82) (by decide +kernel) (fun hc11 => ?_) (fun hc11 => ?_)
    · rw [if_pos hc11] at hf
      refine am_wk [some (.ref 10), some (.int (l1)), none] ⟨rfl, rfl, trivial⟩ rfl ?_
      exact hk82 (l1) (g) hf
    · rw [if_neg hc11] at hf
      obtain ⟨hg6, hf⟩ := am_g hf
      refine am_b1 C0 am_YYk (pc := 15) (pc2 := 23) [(.aload_n 0, 0, 0, .null), (.getfield 15, 4, 2, .null), (.iload_n 2, 0, 0, .null), (.iaload, 0, 0, .null), (.bipush (-9), 0, 0, .int (-9))] (L := [some (.ref 10), some (.int (l1)), some (.int (l2))]) (st := []) (L' := [some (.ref 10), some (.int (l1)), some (.int (l2))]) (st' := [.int ((-9 : Int32)), .int (g 12 (Int32.toNatClampNeg l2))]) (g' := g) (w' := w) (cl := [am_in l2 6]) (by decide +kernel) rfl ⟨hg6, trivial⟩ ?_
      refine am_icmp_eq C0 (off := 53) (tgt := 76) (by decide +kernel) (fun hc10 => ?_) (fun hc10 => ?_)
      · rw [if_pos hc10] at hf
        exact B_X4_strike_10_76 x C0 hR w F R _ _ (fun l1 l2 g hf => ih l1 l2 g hf) hk82 (l1) (l2) (g) hf
      · rw [if_neg hc10] at hf
        refine am_b1 C0 am_YYk (pc := 26) (pc2 := 29) [(.iload_n 1, 0, 0, .null), (.aload_n 0, 0, 0, .null), (.iload_n 2, 0, 0, .null)] (L := [some (.ref 10), some (.int (l1)), some (.int (l2))]) (st := []) (L' := [some (.ref 10), some (.int (l1)), some (.int (l2))]) (st' := [.int (l2), .ref 10, .int (l1)]) (g' := g) (w' := w) (cl := []) (by decide +kernel) rfl trivial ?_
        obtain ⟨q7, hq7, hf⟩ := Option.bind_eq_some_iff.mp hf
        refine am_callV (mi := mi_X4_word) (rm := rm_X4_word) [.int (l2)] C0.1 am_YYl cv_4_70 (M_X4_word_10 _ g w l2 _ hq7) (ci := 4) rfl (by decide) rfl (by rw [hR]; rfl) rfl rfl (Nat.le_of_ble_eq_true rfl) (by decide +kernel) ?_
        obtain ⟨hg8, hf⟩ := am_g hf
        refine am_b1 C0 am_YYk (pc := 32) (pc2 := 38) [(.aload_n 0, 0, 0, .null), (.getfield 15, 4, 2, .null), (.iload_n 2, 0, 0, .null), (.iaload, 0, 0, .null)] (L := [some (.ref 10), some (.int (l1)), some (.int (l2))]) (st := [.int (q7), .int (l1)]) (L' := [some (.ref 10), some (.int (l1)), some (.int (l2))]) (st' := [.int (g 12 (Int32.toNatClampNeg l2)), .int (q7), .int (l1)]) (g' := g) (w' := w) (cl := [am_in l2 6]) (by decide +kernel) rfl ⟨hg8, trivial⟩ ?_
        refine am_icmp_eq C0 (off := 9) (tgt := 47) (by decide +kernel) (fun hc9 => ?_) (fun hc9 => ?_)
        · rw [if_pos hc9] at hf
          refine am_b1 C0 am_YYk (pc := 47) (pc2 := 48) [(.iconst 0, 0, 0, .int 0)] (L := [some (.ref 10), some (.int (l1)), some (.int (l2))]) (st := [.int (l1)]) (L' := [some (.ref 10), some (.int (l1)), some (.int (l2))]) (st' := [.int ((0 : Int32)), .int (l1)]) (g' := g) (w' := w) (cl := []) (by decide +kernel) rfl trivial ?_
          refine am_wk [some (.ref 10), none, some (.int (l2))] ⟨rfl, rfl, trivial⟩ rfl ?_
          exact B_X4_strike_10_48 x C0 hR w F R _ _ (fun l1 l2 g hf => ih l1 l2 g hf) hk82 (l2) (l1) ((0 : Int32)) (g) hf
        · rw [if_neg hc9] at hf
          refine am_b1 C0 am_YYk (pc := 41) (pc2 := 44) [(.iconst 1, 0, 0, .int 1), (.iload_n 2, 0, 0, .null), (.ishl, 0, 0, .null)] (L := [some (.ref 10), some (.int (l1)), some (.int (l2))]) (st := [.int (l1)]) (L' := [some (.ref 10), some (.int (l1)), some (.int (l2))]) (st' := [.int ((1 : Int32) <<< (l2 &&& 31)), .int (l1)]) (g' := g) (w' := w) (cl := []) (by decide +kernel) rfl trivial ?_
          refine am_goto C0 (off := 4) (tgt := 48) (by decide +kernel) ?_
          refine am_wk [some (.ref 10), none, some (.int (l2))] ⟨rfl, rfl, trivial⟩ rfl ?_
          exact B_X4_strike_10_48 x C0 hR w F R _ _ (fun l1 l2 g hf => ih l1 l2 g hf) hk82 (l2) (l1) ((1 : Int32) <<< (l2 &&& 31)) (g) hf
def f_X4_strike_10 (F : Nat) (g : am_G) : Option (Int32 × am_G) :=
  f_X4_strike_10_4 F (fun l1 g => f_X4_strike_10_82 F (l1) (g)) F ((0 : Int32)) ((0 : Int32)) (g)
set_option maxRecDepth 20000 in
theorem M_X4_strike_10 (l : Launch) (F : Nat) (g : am_G) (w : am_J)  (R : Int32 × am_G) (hf : f_X4_strike_10 F g = some R) : am_Met l mi_X4_strike rm_X4_strike [.ref 10] am_YY g w (some (.int R.1)) am_YY (R.2) w := by
  refine am_met (own := 4) [some (.ref 10), none, none] (by decide) rfl rfl (by first | decide | exact Nat.le_of_ble_eq_true rfl) (fun x C0 hR hl hnm => ?_)
  unfold f_X4_strike_10 at hf
  refine am_b1 C0 am_YYk (pc := 0) (pc2 := 4) [(.iconst 0, 0, 0, .int 0), (.istore_n 1, 0, 0, .null), (.iconst 0, 0, 0, .int 0), (.istore_n 2, 0, 0, .null)] (L := [some (.ref 10), none, none]) (st := []) (L' := [some (.ref 10), some (.int ((0 : Int32))), some (.int ((0 : Int32)))]) (st' := []) (g' := g) (w' := w) (cl := []) (by decide +kernel) rfl trivial ?_
  refine B_X4_strike_10_4 x C0 hR w F R _ ?_ F ((0 : Int32)) ((0 : Int32)) (g) hf
  · intro l1 g hf
    exact B_X4_strike_10_82 x C0 hR w F R  (l1) (g) hf
/-! ShutterTown.hour()I at (0,) -/
def f_X7_hour (F : Nat) (g : am_G) : Option (Int32 × am_G) :=
  (f_X0_remember g).bind fun q1 =>
    (f_X4_strike_10 F q1).bind fun q2 =>
      some (q2.1, q2.2)
set_option maxRecDepth 20000 in
theorem M_X7_hour (l : Launch) (F : Nat) (g : am_G) (w : am_J)  (R : Int32 × am_G) (hf : f_X7_hour F g = some R) : am_Met l mi_X7_hour rm_X7_hour [.ref 0] am_YY g w (some (.int R.1)) am_YY (R.2) w := by
  refine am_met (own := 7) [some (.ref 0)] (by decide) rfl rfl (by first | decide | exact Nat.le_of_ble_eq_true rfl) (fun x C0 hR hl hnm => ?_)
  unfold f_X7_hour at hf
  refine am_b1 C0 am_YYk (pc := 0) (pc2 := 8) [(.aload_n 0, 0, 0, .null), (.getfield 38, 7, 4, .null), (.aload_n 0, 0, 0, .null), (.getfield 28, 7, 2, .null)] (L := [some (.ref 0)]) (st := []) (L' := [some (.ref 0)]) (st' := [.ref 10, .ref 16]) (g' := g) (w' := w) (cl := []) (by decide +kernel) rfl trivial ?_
  obtain ⟨q1, hq1, hf⟩ := Option.bind_eq_some_iff.mp hf
  refine am_callV (mi := mi_X0_remember) (rm := rm_X0_remember) [.ref 10] C0.1 am_YYl cv_7_131 (M_X0_remember _ g w _ hq1) (ci := 0) rfl (by decide) rfl (by rw [hR]; rfl) rfl rfl (Nat.le_of_ble_eq_true rfl) (by decide +kernel) ?_
  refine am_b1 C0 am_YYk (pc := 11) (pc2 := 15) [(.aload_n 0, 0, 0, .null), (.getfield 28, 7, 2, .null)] (L := [some (.ref 0)]) (st := []) (L' := [some (.ref 0)]) (st' := [.ref 10]) (g' := q1) (w' := w) (cl := []) (by decide +kernel) rfl trivial ?_
  obtain ⟨q2, hq2, hf⟩ := Option.bind_eq_some_iff.mp hf
  refine am_callV (mi := mi_X4_strike) (rm := rm_X4_strike) [] C0.1 am_YYl cv_7_148 (M_X4_strike_10 _ F q1 w _ hq2) (ci := 4) rfl (by decide) rfl (by rw [hR]; rfl) rfl rfl (Nat.le_of_ble_eq_true rfl) (by decide +kernel) ?_
  cases hf
  exact am_iret C0 (by decide +kernel)
/-! ShutterTown$Acts.size()I at (16,) -/
def f_X0_size (g : am_G) : Option (Int32) :=
  some (g 16 1)
set_option maxRecDepth 20000 in
theorem M_X0_size (l : Launch) (g : am_G) (w : am_J)  (R : Int32) (hf : f_X0_size g = some R) : am_Met l mi_X0_size rm_X0_size [.ref 16] am_YY g w (some (.int R)) am_YY g w := by
  refine am_met (own := 0) [some (.ref 16)] (by decide) rfl rfl (by first | decide | exact Nat.le_of_ble_eq_true rfl) (fun x C0 hR hl hnm => ?_)
  unfold f_X0_size at hf
  refine am_b1 C0 am_YYk (pc := 0) (pc2 := 4) [(.aload_n 0, 0, 0, .null), (.getfield 15, 0, 1, .null)] (L := [some (.ref 16)]) (st := []) (L' := [some (.ref 16)]) (st' := [.int (g 16 1)]) (g' := g) (w' := w) (cl := []) (by decide +kernel) rfl trivial ?_
  cases hf
  exact am_iret C0 (by decide +kernel)
/-! ShutterTown$Shutters.restore([II)V at (10, 17) -/
def f_X4_restore_10_17 (g : am_G) (p2 : Int32) : Option (am_G) :=
  if p2 < 0 then
    some (g)
  else
    if p2 ≤ ((Int32.ofNat 182) - (13 : Int32)) then
      if (¬ p2 < 0 ∧ ¬ (0 : Int32) < 0) ∧ ¬ (6 : Int32) < 0 ∧ Int32.toNatClampNeg p2 + Int32.toNatClampNeg (6 : Int32) ≤ 182 ∧ Int32.toNatClampNeg (0 : Int32) + Int32.toNatClampNeg (6 : Int32) ≤ 6 then
        if (¬ (p2 + (6 : Int32)) < 0 ∧ ¬ (0 : Int32) < 0) ∧ ¬ (6 : Int32) < 0 ∧ Int32.toNatClampNeg (p2 + (6 : Int32)) + Int32.toNatClampNeg (6 : Int32) ≤ 182 ∧ Int32.toNatClampNeg (0 : Int32) + Int32.toNatClampNeg (6 : Int32) ≤ 6 then
          if am_in ((p2 + (13 : Int32)) - (1 : Int32)) 182 then
            some (am_u (am_cp (am_cp g 17 11 (Int32.toNatClampNeg p2) (Int32.toNatClampNeg (0 : Int32)) (Int32.toNatClampNeg (6 : Int32))) 17 12 (Int32.toNatClampNeg (p2 + (6 : Int32))) (Int32.toNatClampNeg (0 : Int32)) (Int32.toNatClampNeg (6 : Int32))) 10 3 ((am_cp (am_cp g 17 11 (Int32.toNatClampNeg p2) (Int32.toNatClampNeg (0 : Int32)) (Int32.toNatClampNeg (6 : Int32))) 17 12 (Int32.toNatClampNeg (p2 + (6 : Int32))) (Int32.toNatClampNeg (0 : Int32)) (Int32.toNatClampNeg (6 : Int32))) 17 (Int32.toNatClampNeg ((p2 + (13 : Int32)) - (1 : Int32)))))
          else none
        else none
      else none
    else
      some (g)
set_option maxRecDepth 20000 in
theorem M_X4_restore_10_17 (l : Launch) (g : am_G) (w : am_J) (p2 : Int32) (R : am_G) (hf : f_X4_restore_10_17 g p2 = some R) : am_Met l mi_X4_restore rm_X4_restore [.ref 10, .ref 17, .int p2] am_YY g w none am_YY R w := by
  refine am_met (own := 4) [some (.ref 10), some (.ref 17), some (.int (p2))] (by decide) rfl rfl (by first | decide | exact Nat.le_of_ble_eq_true rfl) (fun x C0 hR hl hnm => ?_)
  unfold f_X4_restore_10_17 at hf
  refine am_b1 C0 am_YYk (pc := 0) (pc2 := 1) [(.iload_n 2, 0, 0, .null)] (L := [some (.ref 10), some (.ref 17), some (.int (p2))]) (st := []) (L' := [some (.ref 10), some (.ref 17), some (.int (p2))]) (st' := [.int (p2)]) (g' := g) (w' := w) (cl := []) (by decide +kernel) rfl trivial ?_
  refine am_if_lt C0 (off := 12) (tgt := 13) (by decide +kernel) (fun hc5 => ?_) (fun hc5 => ?_)
  · rw [if_pos hc5] at hf
    cases hf
    exact am_vret C0 (by decide +kernel)
  · rw [if_neg hc5] at hf
    refine am_b1 C0 am_YYk (pc := 4) (pc2 := 10) [(.iload_n 2, 0, 0, .null), (.aload_n 1, 0, 0, .null), (.arraylength, 0, 0, .null), (.bipush 13, 0, 0, .int 13), (.isub, 0, 0, .null)] (L := [some (.ref 10), some (.ref 17), some (.int (p2))]) (st := []) (L' := [some (.ref 10), some (.ref 17), some (.int (p2))]) (st' := [.int ((Int32.ofNat 182) - (13 : Int32)), .int (p2)]) (g' := g) (w' := w) (cl := []) (by decide +kernel) rfl trivial ?_
    refine am_icmp_le C0 (off := 4) (tgt := 14) (by decide +kernel) (fun hc4 => ?_) (fun hc4 => ?_)
    · rw [if_pos hc4] at hf
      refine am_b1 C0 am_YYk (pc := 14) (pc2 := 23) [(.aload_n 1, 0, 0, .null), (.iload_n 2, 0, 0, .null), (.aload_n 0, 0, 0, .null), (.getfield 9, 4, 1, .null), (.iconst 0, 0, 0, .int 0), (.bipush 6, 0, 0, .int 6)] (L := [some (.ref 10), some (.ref 17), some (.int (p2))]) (st := []) (L' := [some (.ref 10), some (.ref 17), some (.int (p2))]) (st' := [.int ((6 : Int32)), .int ((0 : Int32)), .ref 11, .int (p2), .ref 17]) (g' := g) (w' := w) (cl := []) (by decide +kernel) rfl trivial ?_
      obtain ⟨hg1, hf⟩ := am_g hf
      refine am_copy C0.1 am_YYl rfl rfl am_acw_4 hg1 (by rw [hR]; decide) (Nat.le_of_ble_eq_true rfl) (by decide +kernel) ?_
      refine am_b1 C0 am_YYk (pc := 26) (pc2 := 38) [(.aload_n 1, 0, 0, .null), (.iload_n 2, 0, 0, .null), (.bipush 6, 0, 0, .int 6), (.iadd, 0, 0, .null), (.aload_n 0, 0, 0, .null), (.getfield 15, 4, 2, .null), (.iconst 0, 0, 0, .int 0), (.bipush 6, 0, 0, .int 6)] (L := [some (.ref 10), some (.ref 17), some (.int (p2))]) (st := []) (L' := [some (.ref 10), some (.ref 17), some (.int (p2))]) (st' := [.int ((6 : Int32)), .int ((0 : Int32)), .ref 12, .int (p2 + (6 : Int32)), .ref 17]) (g' := am_cp g 17 11 (Int32.toNatClampNeg p2) (Int32.toNatClampNeg (0 : Int32)) (Int32.toNatClampNeg (6 : Int32))) (w' := w) (cl := []) (by decide +kernel) rfl trivial ?_
      obtain ⟨hg2, hf⟩ := am_g hf
      refine am_copy C0.1 am_YYl rfl rfl am_acw_4 hg2 (by rw [hR]; decide) (Nat.le_of_ble_eq_true rfl) (by decide +kernel) ?_
      obtain ⟨hg3, hf⟩ := am_g hf
      refine am_b1 C0 am_YYk (pc := 41) (pc2 := 53) [(.aload_n 0, 0, 0, .null), (.aload_n 1, 0, 0, .null), (.iload_n 2, 0, 0, .null), (.bipush 13, 0, 0, .int 13), (.iadd, 0, 0, .null), (.iconst 1, 0, 0, .int 1), (.isub, 0, 0, .null), (.iaload, 0, 0, .null), (.putfield 40, 4, 3, .null)] (L := [some (.ref 10), some (.ref 17), some (.int (p2))]) (st := []) (L' := [some (.ref 10), some (.ref 17), some (.int (p2))]) (st' := []) (g' := am_u (am_cp (am_cp g 17 11 (Int32.toNatClampNeg p2) (Int32.toNatClampNeg (0 : Int32)) (Int32.toNatClampNeg (6 : Int32))) 17 12 (Int32.toNatClampNeg (p2 + (6 : Int32))) (Int32.toNatClampNeg (0 : Int32)) (Int32.toNatClampNeg (6 : Int32))) 10 3 ((am_cp (am_cp g 17 11 (Int32.toNatClampNeg p2) (Int32.toNatClampNeg (0 : Int32)) (Int32.toNatClampNeg (6 : Int32))) 17 12 (Int32.toNatClampNeg (p2 + (6 : Int32))) (Int32.toNatClampNeg (0 : Int32)) (Int32.toNatClampNeg (6 : Int32))) 17 (Int32.toNatClampNeg ((p2 + (13 : Int32)) - (1 : Int32))))) (w' := w) (cl := [am_in ((p2 + (13 : Int32)) - (1 : Int32)) 182]) (by decide +kernel) rfl ⟨hg3, trivial⟩ ?_
      cases hf
      exact am_vret C0 (by decide +kernel)
    · rw [if_neg hc4] at hf
      cases hf
      exact am_vret C0 (by decide +kernel)
/-! ShutterTown$Acts.giveBack(LShutterTown$Shutters;)V at (16, 10) -/
def f_X0_giveBack (g : am_G) : Option (am_G) :=
  if (g 16 1) ≤ 0 then
    some (g)
  else
    (f_X4_restore_10_17 (am_u g 16 1 ((g 16 1) - (1 : Int32))) (((am_u g 16 1 ((g 16 1) - (1 : Int32))) 16 1) * (13 : Int32))).bind fun q1 =>
      some (q1)
set_option maxRecDepth 20000 in
theorem M_X0_giveBack (l : Launch) (g : am_G) (w : am_J)  (R : am_G) (hf : f_X0_giveBack g = some R) : am_Met l mi_X0_giveBack rm_X0_giveBack [.ref 16, .ref 10] am_YY g w none am_YY R w := by
  refine am_met (own := 0) [some (.ref 16), some (.ref 10)] (by decide) rfl rfl (by first | decide | exact Nat.le_of_ble_eq_true rfl) (fun x C0 hR hl hnm => ?_)
  unfold f_X0_giveBack at hf
  refine am_b1 C0 am_YYk (pc := 0) (pc2 := 4) [(.aload_n 0, 0, 0, .null), (.getfield 15, 0, 1, .null)] (L := [some (.ref 16), some (.ref 10)]) (st := []) (L' := [some (.ref 16), some (.ref 10)]) (st' := [.int (g 16 1)]) (g' := g) (w' := w) (cl := []) (by decide +kernel) rfl trivial ?_
  refine am_if_le C0 (off := 28) (tgt := 32) (by decide +kernel) (fun hc2 => ?_) (fun hc2 => ?_)
  · rw [if_pos hc2] at hf
    cases hf
    exact am_vret C0 (by decide +kernel)
  · rw [if_neg hc2] at hf
    refine am_b1 C0 am_YYk (pc := 7) (pc2 := 29) [(.aload_n 0, 0, 0, .null), (.dup, 0, 0, .null), (.getfield 15, 0, 1, .null), (.iconst 1, 0, 0, .int 1), (.isub, 0, 0, .null), (.putfield 15, 0, 1, .null), (.aload_n 1, 0, 0, .null), (.aload_n 0, 0, 0, .null), (.getfield 9, 0, 0, .null), (.aload_n 0, 0, 0, .null), (.getfield 15, 0, 1, .null), (.bipush 13, 0, 0, .int 13), (.imul, 0, 0, .null)] (L := [some (.ref 16), some (.ref 10)]) (st := []) (L' := [some (.ref 16), some (.ref 10)]) (st' := [.int (((am_u g 16 1 ((g 16 1) - (1 : Int32))) 16 1) * (13 : Int32)), .ref 17, .ref 10]) (g' := am_u g 16 1 ((g 16 1) - (1 : Int32))) (w' := w) (cl := []) (by decide +kernel) rfl trivial ?_
    obtain ⟨q1, hq1, hf⟩ := Option.bind_eq_some_iff.mp hf
    refine am_callV (mi := mi_X4_restore) (rm := rm_X4_restore) [.ref 17, .int (((am_u g 16 1 ((g 16 1) - (1 : Int32))) 16 1) * (13 : Int32))] C0.1 am_YYl cv_0_28 (M_X4_restore_10_17 _ (am_u g 16 1 ((g 16 1) - (1 : Int32))) w (((am_u g 16 1 ((g 16 1) - (1 : Int32))) 16 1) * (13 : Int32)) _ hq1) (ci := 4) rfl (by decide) rfl (by rw [hR]; rfl) rfl rfl (Nat.le_of_ble_eq_true rfl) (by decide +kernel) ?_
    cases hf
    exact am_vret C0 (by decide +kernel)
/-! ShutterTown.undo()I at (0,) -/
def f_X7_undo (g : am_G) : Option (Int32 × am_G) :=
  (f_X0_size g).bind fun q1 =>
    if q1 = 0 then
      some ((-3 : Int32), g)
    else
      (f_X0_giveBack g).bind fun q2 =>
        (f_X0_size q2).bind fun q3 =>
          some (q3, q2)
set_option maxRecDepth 20000 in
theorem M_X7_undo (l : Launch) (g : am_G) (w : am_J)  (R : Int32 × am_G) (hf : f_X7_undo g = some R) : am_Met l mi_X7_undo rm_X7_undo [.ref 0] am_YY g w (some (.int R.1)) am_YY (R.2) w := by
  refine am_met (own := 7) [some (.ref 0)] (by decide) rfl rfl (by first | decide | exact Nat.le_of_ble_eq_true rfl) (fun x C0 hR hl hnm => ?_)
  unfold f_X7_undo at hf
  refine am_b1 C0 am_YYk (pc := 0) (pc2 := 4) [(.aload_n 0, 0, 0, .null), (.getfield 38, 7, 4, .null)] (L := [some (.ref 0)]) (st := []) (L' := [some (.ref 0)]) (st' := [.ref 16]) (g' := g) (w' := w) (cl := []) (by decide +kernel) rfl trivial ?_
  obtain ⟨q1, hq1, hf⟩ := Option.bind_eq_some_iff.mp hf
  refine am_callV (mi := mi_X0_size) (rm := rm_X0_size) [] C0.1 am_YYl cv_7_151 (M_X0_size _ g w _ hq1) (ci := 0) rfl (by decide) rfl (by rw [hR]; rfl) rfl rfl (Nat.le_of_ble_eq_true rfl) (by decide +kernel) ?_
  refine am_if_ne C0 (off := 6) (tgt := 13) (by decide +kernel) (fun hc4 => ?_) (fun hc4 => ?_)
  · rw [if_neg hc4] at hf
    refine am_b1 C0 am_YYk (pc := 13) (pc2 := 21) [(.aload_n 0, 0, 0, .null), (.getfield 38, 7, 4, .null), (.aload_n 0, 0, 0, .null), (.getfield 28, 7, 2, .null)] (L := [some (.ref 0)]) (st := []) (L' := [some (.ref 0)]) (st' := [.ref 10, .ref 16]) (g' := g) (w' := w) (cl := []) (by decide +kernel) rfl trivial ?_
    obtain ⟨q2, hq2, hf⟩ := Option.bind_eq_some_iff.mp hf
    refine am_callV (mi := mi_X0_giveBack) (rm := rm_X0_giveBack) [.ref 10] C0.1 am_YYl cv_7_152 (M_X0_giveBack _ g w _ hq2) (ci := 0) rfl (by decide) rfl (by rw [hR]; rfl) rfl rfl (Nat.le_of_ble_eq_true rfl) (by decide +kernel) ?_
    refine am_b1 C0 am_YYk (pc := 24) (pc2 := 28) [(.aload_n 0, 0, 0, .null), (.getfield 38, 7, 4, .null)] (L := [some (.ref 0)]) (st := []) (L' := [some (.ref 0)]) (st' := [.ref 16]) (g' := q2) (w' := w) (cl := []) (by decide +kernel) rfl trivial ?_
    obtain ⟨q3, hq3, hf⟩ := Option.bind_eq_some_iff.mp hf
    refine am_callV (mi := mi_X0_size) (rm := rm_X0_size) [] C0.1 am_YYl cv_7_151 (M_X0_size _ q2 w _ hq3) (ci := 0) rfl (by decide) rfl (by rw [hR]; rfl) rfl rfl (Nat.le_of_ble_eq_true rfl) (by decide +kernel) ?_
    cases hf
    exact am_iret C0 (by decide +kernel)
  · rw [if_pos hc4] at hf
    refine am_b1 C0 am_YYk (pc := 10) (pc2 := 12) [(.bipush (-3), 0, 0, .int (-3))] (L := [some (.ref 0)]) (st := []) (L' := [some (.ref 0)]) (st' := [.int ((-3 : Int32))]) (g' := g) (w' := w) (cl := []) (by decide +kernel) rfl trivial ?_
    cases hf
    exact am_iret C0 (by decide +kernel)
/-! ShutterTown.refusalOfTwo(II)I at (0,) -/
def f_X7_refusalOfTwo (g : am_G) (p1 : Int32) (p2 : Int32) : Option (Int32) :=
  (f_X2_has g p1).bind fun q1 =>
    if q1 = 0 then
      some ((-1 : Int32))
    else
      (f_X2_has g p2).bind fun q2 =>
        if q2 = 0 then
          some ((-1 : Int32))
        else
          if p1 = p2 then
            some ((-2 : Int32))
          else
            some ((-9 : Int32))
set_option maxRecDepth 20000 in
theorem M_X7_refusalOfTwo (l : Launch) (g : am_G) (w : am_J) (p1 : Int32) (p2 : Int32) (R : Int32) (hf : f_X7_refusalOfTwo g p1 p2 = some R) : am_Met l mi_X7_refusalOfTwo rm_X7_refusalOfTwo [.ref 0, .int p1, .int p2] am_YY g w (some (.int R)) am_YY g w := by
  refine am_met (own := 7) [some (.ref 0), some (.int (p1)), some (.int (p2))] (by decide) rfl rfl (by first | decide | exact Nat.le_of_ble_eq_true rfl) (fun x C0 hR hl hnm => ?_)
  unfold f_X7_refusalOfTwo at hf
  refine am_b1 C0 am_YYk (pc := 0) (pc2 := 5) [(.aload_n 0, 0, 0, .null), (.getfield 19, 7, 1, .null), (.iload_n 1, 0, 0, .null)] (L := [some (.ref 0), some (.int (p1)), some (.int (p2))]) (st := []) (L' := [some (.ref 0), some (.int (p1)), some (.int (p2))]) (st' := [.int (p1), .ref 3]) (g' := g) (w' := w) (cl := []) (by decide +kernel) rfl trivial ?_
  obtain ⟨q1, hq1, hf⟩ := Option.bind_eq_some_iff.mp hf
  refine am_callV (mi := mi_X2_has) (rm := rm_X2_has) [.int (p1)] C0.1 am_YYl cv_7_96 (M_X2_has _ g w p1 _ hq1) (ci := 2) rfl (by decide) rfl (by rw [hR]; rfl) rfl rfl (Nat.le_of_ble_eq_true rfl) (by decide +kernel) ?_
  refine am_if_eq C0 (off := 14) (tgt := 22) (by decide +kernel) (fun hc5 => ?_) (fun hc5 => ?_)
  · rw [if_pos hc5] at hf
    refine am_b1 C0 am_YYk (pc := 22) (pc2 := 23) [(.iconst (-1), 0, 0, .int (-1))] (L := [some (.ref 0), some (.int (p1)), some (.int (p2))]) (st := []) (L' := [some (.ref 0), some (.int (p1)), some (.int (p2))]) (st' := [.int ((-1 : Int32))]) (g' := g) (w' := w) (cl := []) (by decide +kernel) rfl trivial ?_
    cases hf
    exact am_iret C0 (by decide +kernel)
  · rw [if_neg hc5] at hf
    refine am_b1 C0 am_YYk (pc := 11) (pc2 := 16) [(.aload_n 0, 0, 0, .null), (.getfield 19, 7, 1, .null), (.iload_n 2, 0, 0, .null)] (L := [some (.ref 0), some (.int (p1)), some (.int (p2))]) (st := []) (L' := [some (.ref 0), some (.int (p1)), some (.int (p2))]) (st' := [.int (p2), .ref 3]) (g' := g) (w' := w) (cl := []) (by decide +kernel) rfl trivial ?_
    obtain ⟨q2, hq2, hf⟩ := Option.bind_eq_some_iff.mp hf
    refine am_callV (mi := mi_X2_has) (rm := rm_X2_has) [.int (p2)] C0.1 am_YYl cv_7_96 (M_X2_has _ g w p2 _ hq2) (ci := 2) rfl (by decide) rfl (by rw [hR]; rfl) rfl rfl (Nat.le_of_ble_eq_true rfl) (by decide +kernel) ?_
    refine am_if_ne C0 (off := 5) (tgt := 24) (by decide +kernel) (fun hc4 => ?_) (fun hc4 => ?_)
    · rw [if_neg hc4] at hf
      refine am_b1 C0 am_YYk (pc := 24) (pc2 := 26) [(.iload_n 1, 0, 0, .null), (.iload_n 2, 0, 0, .null)] (L := [some (.ref 0), some (.int (p1)), some (.int (p2))]) (st := []) (L' := [some (.ref 0), some (.int (p1)), some (.int (p2))]) (st' := [.int (p2), .int (p1)]) (g' := g) (w' := w) (cl := []) (by decide +kernel) rfl trivial ?_
      refine am_icmp_ne C0 (off := 8) (tgt := 34) (by decide +kernel) (fun hc3 => ?_) (fun hc3 => ?_)
      · rw [if_neg hc3] at hf
        refine am_b1 C0 am_YYk (pc := 34) (pc2 := 36) [(.bipush (-9), 0, 0, .int (-9))] (L := [some (.ref 0), some (.int (p1)), some (.int (p2))]) (st := []) (L' := [some (.ref 0), some (.int (p1)), some (.int (p2))]) (st' := [.int ((-9 : Int32))]) (g' := g) (w' := w) (cl := []) (by decide +kernel) rfl trivial ?_
        cases hf
        exact am_iret C0 (by decide +kernel)
      · rw [if_pos hc3] at hf
        refine am_b1 C0 am_YYk (pc := 29) (pc2 := 31) [(.bipush (-2), 0, 0, .int (-2))] (L := [some (.ref 0), some (.int (p1)), some (.int (p2))]) (st := []) (L' := [some (.ref 0), some (.int (p1)), some (.int (p2))]) (st' := [.int ((-2 : Int32))]) (g' := g) (w' := w) (cl := []) (by decide +kernel) rfl trivial ?_
        refine am_goto C0 (off := 5) (tgt := 36) (by decide +kernel) ?_
        cases hf
        exact am_iret C0 (by decide +kernel)
    · rw [if_pos hc4] at hf
      refine am_b1 C0 am_YYk (pc := 22) (pc2 := 23) [(.iconst (-1), 0, 0, .int (-1))] (L := [some (.ref 0), some (.int (p1)), some (.int (p2))]) (st := []) (L' := [some (.ref 0), some (.int (p1)), some (.int (p2))]) (st' := [.int ((-1 : Int32))]) (g' := g) (w' := w) (cl := []) (by decide +kernel) rfl trivial ?_
      cases hf
      exact am_iret C0 (by decide +kernel)
/-! java/util/Arrays.fill([JJ)V at (21,) -/
def f_J7_fill_d0a16_6 (F : Nat) (p1 : Int64)  : Nat → Int32 → Int32 → am_J → Option (am_J)
  | 0, _, _, _ => none
  | n + 1, l3, l4, w =>
    if l4 ≤ l3 then
      some (w)
    else
      if am_in l3 6 then
        f_J7_fill_d0a16_6 F p1 n (l3 + (1 : Int32)) (l4) (am_ul w 21 (Int32.toNatClampNeg l3) p1)
      else none
set_option maxRecDepth 20000 in
theorem B_J7_fill_d0a16_6 (x : am_X) (C0 : am_Cm x 12 cJ7_fill_d0a16 5 none) (hR : am_R x = rm_J7_fill_d0a16) (g : am_G) (F : Nat) (p1 : Int64) (R : am_J)   : ∀ (n : Nat) (l3 : Int32) (l4 : Int32) (w : am_J), f_J7_fill_d0a16_6 F p1 n l3 l4 w = some R → am_Ev x 5 (0, 0) (am_Q x (0, 0) none am_YY g R) 6 [some (.ref 21), some (.long (p1)), none, some (.int (l3)), some (.int (l4))] [] am_YY g w := by
  intro n
  induction n with
  | zero => intro l3 l4 w hf; cases hf
  | succ n ih =>
    intro l3 l4 w hf
    rw [f_J7_fill_d0a16_6.eq_2] at hf
    refine am_b1 C0 am_YYk (pc := 6) (pc2 := 9) [(.iload_n 3, 0, 0, .null), (.iload 4, 0, 0, .null)] (L := [some (.ref 21), some (.long (p1)), none, some (.int (l3)), some (.int (l4))]) (st := []) (L' := [some (.ref 21), some (.long (p1)), none, some (.int (l3)), some (.int (l4))]) (st' := [.int (l4), .int (l3)]) (g' := g) (w' := w) (cl := []) (by decide +kernel) rfl trivial ?_
    refine am_icmp_ge C0 (off := 13) (tgt := 22) (by decide +kernel) (fun hc2 => ?_) (fun hc2 => ?_)
    · rw [if_pos hc2] at hf
      cases hf
      exact am_vret C0 (by decide +kernel)
    · rw [if_neg hc2] at hf
      obtain ⟨hg1, hf⟩ := am_g hf
      refine am_b1 C0 am_YYk (pc := 12) (pc2 := 19) [(.aload_n 0, 0, 0, .null), (.iload_n 3, 0, 0, .null), (.lload_n 1, 0, 0, .null), (.lastore, 0, 0, .null), (.iinc 3 1, 0, 0, .int 1)] (L := [some (.ref 21), some (.long (p1)), none, some (.int (l3)), some (.int (l4))]) (st := []) (L' := [some (.ref 21), some (.long (p1)), none, some (.int (l3 + (1 : Int32))), some (.int (l4))]) (st' := []) (g' := g) (w' := am_ul w 21 (Int32.toNatClampNeg l3) p1) (cl := [am_in l3 6]) (by decide +kernel) rfl ⟨hg1, trivial⟩ ?_
      refine am_goto C0 (off := (-13)) (tgt := 6) (by decide +kernel) ?_
      exact ih (l3 + (1 : Int32)) (l4) (am_ul w 21 (Int32.toNatClampNeg l3) p1) hf
def f_J7_fill_d0a16 (F : Nat) (w : am_J) (p1 : Int64) : Option (am_J) :=
  f_J7_fill_d0a16_6 F p1 F ((0 : Int32)) (Int32.ofNat 6) (w)
set_option maxRecDepth 20000 in
theorem M_J7_fill_d0a16 (l : Launch) (F : Nat) (g : am_G) (w : am_J) (p1 : Int64) (R : am_J) (hf : f_J7_fill_d0a16 F w p1 = some R) : am_Met l mi_J7_fill_d0a16 rm_J7_fill_d0a16 [.ref 21, .long p1] am_YY g w none am_YY g R := by
  refine am_met (own := 12) [some (.ref 21), some (.long (p1)), none, none, none] (by decide) rfl rfl (by first | decide | exact Nat.le_of_ble_eq_true rfl) (fun x C0 hR hl hnm => ?_)
  unfold f_J7_fill_d0a16 at hf
  refine am_b1 C0 am_YYk (pc := 0) (pc2 := 6) [(.iconst 0, 0, 0, .int 0), (.istore_n 3, 0, 0, .null), (.aload_n 0, 0, 0, .null), (.arraylength, 0, 0, .null), (.istore 4, 0, 0, .null)] (L := [some (.ref 21), some (.long (p1)), none, none, none]) (st := []) (L' := [some (.ref 21), some (.long (p1)), none, some (.int ((0 : Int32))), some (.int (Int32.ofNat 6))]) (st' := []) (g' := g) (w' := w) (cl := []) (by decide +kernel) rfl trivial ?_
  refine B_J7_fill_d0a16_6 x C0 hR g F p1 R   F ((0 : Int32)) (Int32.ofNat 6) (w) hf
