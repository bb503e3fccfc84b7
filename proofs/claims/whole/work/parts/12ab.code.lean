/-! ShutterTown$Houses.build(LShutterTown$Letters;)V at (3, 1) -/
def f_X2_build_134 (F : Nat)  : Nat → Int32 → am_G → Option (am_G)
  | 0, _, _ => none
  | n + 1, l2, g =>
    if (g 3 7) ≤ l2 then
      some (g)
    else
      (f_X2_facing F g l2).bind fun q1 =>
        if am_in l2 6 then
          f_X2_build_134 F n (l2 + (1 : Int32)) (am_u g 9 (Int32.toNatClampNeg l2) q1)
        else none
set_option maxRecDepth 20000 in
theorem B_X2_build_134 (x : am_X) (C0 : am_Cm x 2 cX2_build 4 none) (hR : am_R x = rm_X2_build) (w : am_J) (F : Nat) (R : am_G)   : ∀ (n : Nat) (l2 : Int32) (g : am_G), f_X2_build_134 F n l2 g = some R → am_Ev x 4 (0, 0) (am_Q x (0, 0) none am_YY R w) 134 [some (.ref 3), none, some (.int (l2)), none] [] am_YY g w := by
  intro n
  induction n with
  | zero => intro l2 g hf; cases hf
  | succ n ih =>
    intro l2 g hf
    rw [f_X2_build_134.eq_2] at hf
    refine am_b1 C0 am_YYk (pc := 134) (pc2 := 139) [(.iload_n 2, 0, 0, .null), (.aload_n 0, 0, 0, .null), (.getfield 53, 2, 7, .null)] (L := [some (.ref 3), none, some (.int (l2)), none]) (st := []) (L' := [some (.ref 3), none, some (.int (l2)), none]) (st' := [.int (g 3 7), .int (l2)]) (g' := g) (w' := w) (cl := []) (by decide +kernel) rfl trivial ?_
    refine am_icmp_ge C0 (off := 20) (tgt := 159) (by decide +kernel) (fun hc3 => ?_) (fun hc3 => ?_)
    · rw [if_pos hc3] at hf
      cases hf
      exact am_vret C0 (by decide +kernel)
    · rw [if_neg hc3] at hf
      refine am_b1 C0 am_YYk (pc := 142) (pc2 := 149) [(.aload_n 0, 0, 0, .null), (.getfield 27, 2, 5, .null), (.iload_n 2, 0, 0, .null), (.aload_n 0, 0, 0, .null), (.iload_n 2, 0, 0, .null)] (L := [some (.ref 3), none, some (.int (l2)), none]) (st := []) (L' := [some (.ref 3), none, some (.int (l2)), none]) (st' := [.int (l2), .ref 3, .int (l2), .ref 9]) (g' := g) (w' := w) (cl := []) (by decide +kernel) rfl trivial ?_
      obtain ⟨q1, hq1, hf⟩ := Option.bind_eq_some_iff.mp hf
      refine am_callV (mi := mi_X2_facing) (rm := rm_X2_facing) [.int (l2)] C0.1 am_YYl cv_2_56 (M_X2_facing _ F g w l2 _ hq1) (ci := 2) rfl (by decide) rfl (by rw [hR]; rfl) rfl rfl (Nat.le_of_ble_eq_true rfl) (by decide +kernel) ?_
      obtain ⟨hg2, hf⟩ := am_g hf
      refine am_b1 C0 am_YYk (pc := 152) (pc2 := 156) [(.iastore, 0, 0, .null), (.iinc 2 1, 0, 0, .int 1)] (L := [some (.ref 3), none, some (.int (l2)), none]) (st := [.int (q1), .int (l2), .ref 9]) (L' := [some (.ref 3), none, some (.int (l2 + (1 : Int32))), none]) (st' := []) (g' := am_u g 9 (Int32.toNatClampNeg l2) q1) (w' := w) (cl := [am_in l2 6]) (by decide +kernel) rfl ⟨hg2, trivial⟩ ?_
      refine am_goto C0 (off := (-22)) (tgt := 134) (by decide +kernel) ?_
      exact ih (l2 + (1 : Int32)) (am_u g 9 (Int32.toNatClampNeg l2) q1) hf
def f_X2_build_132 (F : Nat)  (g : am_G) : Option (am_G) :=
  f_X2_build_134 F F ((0 : Int32)) (g)
set_option maxRecDepth 20000 in
theorem B_X2_build_132 (x : am_X) (C0 : am_Cm x 2 cX2_build 4 none) (hR : am_R x = rm_X2_build) (w : am_J) (F : Nat) (R : am_G)   (g : am_G) (hf : f_X2_build_132 F g = some R) : am_Ev x 4 (0, 0) (am_Q x (0, 0) none am_YY R w) 132 [some (.ref 3), none, none, none] [] am_YY g w := by
  unfold f_X2_build_132 at hf
  refine am_b1 C0 am_YYk (pc := 132) (pc2 := 134) [(.iconst 0, 0, 0, .int 0), (.istore_n 2, 0, 0, .null)] (L := [some (.ref 3), none, none, none]) (st := []) (L' := [some (.ref 3), none, some (.int ((0 : Int32))), none]) (st' := []) (g' := g) (w' := w) (cl := []) (by decide +kernel) rfl trivial ?_
  refine B_X2_build_134 x C0 hR w F R   F ((0 : Int32)) (g) hf
def f_X2_build_59 (F : Nat) (k132 : am_G → Option (am_G)) : Nat → Int32 → am_G → Option (am_G)
  | 0, _, _ => none
  | n + 1, l2, g =>
    if (g 3 7) ≤ l2 then
      k132 (g)
    else
      (f_X3_figure g (((6 : Int32) * (l2 + (1 : Int32))) + (1 : Int32))).bind fun q4 =>
        if am_in l2 6 then
          (f_X3_figure (am_u g 5 (Int32.toNatClampNeg l2) q4) (((6 : Int32) * (l2 + (1 : Int32))) + (2 : Int32))).bind fun q6 =>
            if am_in l2 6 then
              (f_X3_figure (am_u (am_u g 5 (Int32.toNatClampNeg l2) q4) 6 (Int32.toNatClampNeg l2) q6) (((6 : Int32) * (l2 + (1 : Int32))) + (3 : Int32))).bind fun q8 =>
                if am_in l2 6 then
                  (f_X3_figure (am_u (am_u (am_u g 5 (Int32.toNatClampNeg l2) q4) 6 (Int32.toNatClampNeg l2) q6) 7 (Int32.toNatClampNeg l2) q8) (((6 : Int32) * (l2 + (1 : Int32))) + (5 : Int32))).bind fun q10 =>
                    if am_in l2 6 then
                      f_X2_build_59 F k132 n (l2 + (1 : Int32)) (am_u (am_u (am_u (am_u g 5 (Int32.toNatClampNeg l2) q4) 6 (Int32.toNatClampNeg l2) q6) 7 (Int32.toNatClampNeg l2) q8) 8 (Int32.toNatClampNeg l2) q10)
                    else none
                else none
            else none
        else none
set_option maxRecDepth 20000 in
theorem B_X2_build_59 (x : am_X) (C0 : am_Cm x 2 cX2_build 4 none) (hR : am_R x = rm_X2_build) (w : am_J) (F : Nat) (R : am_G) (k132 : am_G → Option (am_G)) (hk132 : ∀ (g : am_G), k132 g = some R → am_Ev x 4 (0, 0) (am_Q x (0, 0) none am_YY R w) 132 [some (.ref 3), none, none, none] [] am_YY g w) : ∀ (n : Nat) (l2 : Int32) (g : am_G), f_X2_build_59 F k132 n l2 g = some R → am_Ev x 4 (0, 0) (am_Q x (0, 0) none am_YY R w) 59 [some (.ref 3), some (.ref 1), some (.int (l2)), none] [] am_YY g w := by
  intro n
  induction n with
  | zero => intro l2 g hf; cases hf
  | succ n ih =>
    intro l2 g hf
    rw [f_X2_build_59.eq_2] at hf
    refine am_b1 C0 am_YYk (pc := 59) (pc2 := 64) [(.iload_n 2, 0, 0, .null), (.aload_n 0, 0, 0, .null), (.getfield 53, 2, 7, .null)] (L := [some (.ref 3), some (.ref 1), some (.int (l2)), none]) (st := []) (L' := [some (.ref 3), some (.ref 1), some (.int (l2)), none]) (st' := [.int (g 3 7), .int (l2)]) (g' := g) (w' := w) (cl := []) (by decide +kernel) rfl trivial ?_
    refine am_icmp_ge C0 (off := 68) (tgt := 132) (by decide +kernel) (fun hc12 => ?_) (fun hc12 => ?_)
    · rw [if_pos hc12] at hf
      refine am_wk [some (.ref 3), none, none, none] ⟨rfl, trivial⟩ rfl ?_
      exact hk132 (g) hf
    · rw [if_neg hc12] at hf
      refine am_b1 C0 am_YYk (pc := 67) (pc2 := 83) [(.bipush 6, 0, 0, .int 6), (.iload_n 2, 0, 0, .null), (.iconst 1, 0, 0, .int 1), (.iadd, 0, 0, .null), (.imul, 0, 0, .null), (.istore_n 3, 0, 0, .null), (.aload_n 0, 0, 0, .null), (.getfield 15, 2, 1, .null), (.iload_n 2, 0, 0, .null), (.aload_n 1, 0, 0, .null), (.iload_n 3, 0, 0, .null), (.iconst 1, 0, 0, .int 1), (.iadd, 0, 0, .null)] (L := [some (.ref 3), some (.ref 1), some (.int (l2)), none]) (st := []) (L' := [some (.ref 3), some (.ref 1), some (.int (l2)), some (.int ((6 : Int32) * (l2 + (1 : Int32))))]) (st' := [.int (((6 : Int32) * (l2 + (1 : Int32))) + (1 : Int32)), .ref 1, .int (l2), .ref 5]) (g' := g) (w' := w) (cl := []) (by decide +kernel) rfl trivial ?_
      obtain ⟨q4, hq4, hf⟩ := Option.bind_eq_some_iff.mp hf
      refine am_callV (mi := mi_X3_figure) (rm := rm_X3_figure) [.int (((6 : Int32) * (l2 + (1 : Int32))) + (1 : Int32))] C0.1 am_YYl cv_2_34 (M_X3_figure _ g w (((6 : Int32) * (l2 + (1 : Int32))) + (1 : Int32)) _ hq4) (ci := 3) rfl (by decide) rfl (by rw [hR]; rfl) rfl rfl (Nat.le_of_ble_eq_true rfl) (by decide +kernel) ?_
      obtain ⟨hg5, hf⟩ := am_g hf
      refine am_b1 C0 am_YYk (pc := 86) (pc2 := 96) [(.iastore, 0, 0, .null), (.aload_n 0, 0, 0, .null), (.getfield 18, 2, 2, .null), (.iload_n 2, 0, 0, .null), (.aload_n 1, 0, 0, .null), (.iload_n 3, 0, 0, .null), (.iconst 2, 0, 0, .int 2), (.iadd, 0, 0, .null)] (L := [some (.ref 3), some (.ref 1), some (.int (l2)), some (.int ((6 : Int32) * (l2 + (1 : Int32))))]) (st := [.int (q4), .int (l2), .ref 5]) (L' := [some (.ref 3), some (.ref 1), some (.int (l2)), some (.int ((6 : Int32) * (l2 + (1 : Int32))))]) (st' := [.int (((6 : Int32) * (l2 + (1 : Int32))) + (2 : Int32)), .ref 1, .int (l2), .ref 6]) (g' := am_u g 5 (Int32.toNatClampNeg l2) q4) (w' := w) (cl := [am_in l2 6]) (by decide +kernel) rfl ⟨hg5, trivial⟩ ?_
      obtain ⟨q6, hq6, hf⟩ := Option.bind_eq_some_iff.mp hf
      refine am_callV (mi := mi_X3_figure) (rm := rm_X3_figure) [.int (((6 : Int32) * (l2 + (1 : Int32))) + (2 : Int32))] C0.1 am_YYl cv_2_34 (M_X3_figure _ (am_u g 5 (Int32.toNatClampNeg l2) q4) w (((6 : Int32) * (l2 + (1 : Int32))) + (2 : Int32)) _ hq6) (ci := 3) rfl (by decide) rfl (by rw [hR]; rfl) rfl rfl (Nat.le_of_ble_eq_true rfl) (by decide +kernel) ?_
      obtain ⟨hg7, hf⟩ := am_g hf
      refine am_b1 C0 am_YYk (pc := 99) (pc2 := 109) [(.iastore, 0, 0, .null), (.aload_n 0, 0, 0, .null), (.getfield 21, 2, 3, .null), (.iload_n 2, 0, 0, .null), (.aload_n 1, 0, 0, .null), (.iload_n 3, 0, 0, .null), (.iconst 3, 0, 0, .int 3), (.iadd, 0, 0, .null)] (L := [some (.ref 3), some (.ref 1), some (.int (l2)), some (.int ((6 : Int32) * (l2 + (1 : Int32))))]) (st := [.int (q6), .int (l2), .ref 6]) (L' := [some (.ref 3), some (.ref 1), some (.int (l2)), some (.int ((6 : Int32) * (l2 + (1 : Int32))))]) (st' := [.int (((6 : Int32) * (l2 + (1 : Int32))) + (3 : Int32)), .ref 1, .int (l2), .ref 7]) (g' := am_u (am_u g 5 (Int32.toNatClampNeg l2) q4) 6 (Int32.toNatClampNeg l2) q6) (w' := w) (cl := [am_in l2 6]) (by decide +kernel) rfl ⟨hg7, trivial⟩ ?_
      obtain ⟨q8, hq8, hf⟩ := Option.bind_eq_some_iff.mp hf
      refine am_callV (mi := mi_X3_figure) (rm := rm_X3_figure) [.int (((6 : Int32) * (l2 + (1 : Int32))) + (3 : Int32))] C0.1 am_YYl cv_2_34 (M_X3_figure _ (am_u (am_u g 5 (Int32.toNatClampNeg l2) q4) 6 (Int32.toNatClampNeg l2) q6) w (((6 : Int32) * (l2 + (1 : Int32))) + (3 : Int32)) _ hq8) (ci := 3) rfl (by decide) rfl (by rw [hR]; rfl) rfl rfl (Nat.le_of_ble_eq_true rfl) (by decide +kernel) ?_
      obtain ⟨hg9, hf⟩ := am_g hf
      refine am_b1 C0 am_YYk (pc := 112) (pc2 := 122) [(.iastore, 0, 0, .null), (.aload_n 0, 0, 0, .null), (.getfield 24, 2, 4, .null), (.iload_n 2, 0, 0, .null), (.aload_n 1, 0, 0, .null), (.iload_n 3, 0, 0, .null), (.iconst 5, 0, 0, .int 5), (.iadd, 0, 0, .null)] (L := [some (.ref 3), some (.ref 1), some (.int (l2)), some (.int ((6 : Int32) * (l2 + (1 : Int32))))]) (st := [.int (q8), .int (l2), .ref 7]) (L' := [some (.ref 3), some (.ref 1), some (.int (l2)), some (.int ((6 : Int32) * (l2 + (1 : Int32))))]) (st' := [.int (((6 : Int32) * (l2 + (1 : Int32))) + (5 : Int32)), .ref 1, .int (l2), .ref 8]) (g' := am_u (am_u (am_u g 5 (Int32.toNatClampNeg l2) q4) 6 (Int32.toNatClampNeg l2) q6) 7 (Int32.toNatClampNeg l2) q8) (w' := w) (cl := [am_in l2 6]) (by decide +kernel) rfl ⟨hg9, trivial⟩ ?_
      obtain ⟨q10, hq10, hf⟩ := Option.bind_eq_some_iff.mp hf
      refine am_callV (mi := mi_X3_figure) (rm := rm_X3_figure) [.int (((6 : Int32) * (l2 + (1 : Int32))) + (5 : Int32))] C0.1 am_YYl cv_2_34 (M_X3_figure _ (am_u (am_u (am_u g 5 (Int32.toNatClampNeg l2) q4) 6 (Int32.toNatClampNeg l2) q6) 7 (Int32.toNatClampNeg l2) q8) w (((6 : Int32) * (l2 + (1 : Int32))) + (5 : Int32)) _ hq10) (ci := 3) rfl (by decide) rfl (by rw [hR]; rfl) rfl rfl (Nat.le_of_ble_eq_true rfl) (by decide +kernel) ?_
      obtain ⟨hg11, hf⟩ := am_g hf
      refine am_b1 C0 am_YYk (pc := 125) (pc2 := 129) [(.iastore, 0, 0, .null), (.iinc 2 1, 0, 0, .int 1)] (L := [some (.ref 3), some (.ref 1), some (.int (l2)), some (.int ((6 : Int32) * (l2 + (1 : Int32))))]) (st := [.int (q10), .int (l2), .ref 8]) (L' := [some (.ref 3), some (.ref 1), some (.int (l2 + (1 : Int32))), some (.int ((6 : Int32) * (l2 + (1 : Int32))))]) (st' := []) (g' := am_u (am_u (am_u (am_u g 5 (Int32.toNatClampNeg l2) q4) 6 (Int32.toNatClampNeg l2) q6) 7 (Int32.toNatClampNeg l2) q8) 8 (Int32.toNatClampNeg l2) q10) (w' := w) (cl := [am_in l2 6]) (by decide +kernel) rfl ⟨hg11, trivial⟩ ?_
      refine am_goto C0 (off := (-70)) (tgt := 59) (by decide +kernel) ?_
      refine am_wk [some (.ref 3), some (.ref 1), some (.int (l2 + (1 : Int32))), none] ⟨rfl, rfl, rfl, trivial⟩ rfl ?_
      exact ih (l2 + (1 : Int32)) (am_u (am_u (am_u (am_u g 5 (Int32.toNatClampNeg l2) q4) 6 (Int32.toNatClampNeg l2) q6) 7 (Int32.toNatClampNeg l2) q8) 8 (Int32.toNatClampNeg l2) q10) hf
def f_X2_build_26 (F : Nat)  (g : am_G) : Option (am_G) :=
  (f_X3_figure g (5 : Int32)).bind fun q13 =>
    (f_X3_size (am_u g 3 6 q13)).bind fun q14 =>
      f_X2_build_59 F (fun g => f_X2_build_132 F (g)) F ((0 : Int32)) (am_u (am_u g 3 6 q13) 3 7 (am_max (0 : Int32) (am_min (6 : Int32) ((q14 / (6 : Int32)) - (1 : Int32)))))
set_option maxRecDepth 20000 in
theorem B_X2_build_26 (x : am_X) (C0 : am_Cm x 2 cX2_build 4 none) (hR : am_R x = rm_X2_build) (w : am_J) (F : Nat) (R : am_G)   (g : am_G) (hf : f_X2_build_26 F g = some R) : am_Ev x 4 (0, 0) (am_Q x (0, 0) none am_YY R w) 26 [some (.ref 3), some (.ref 1), none, none] [] am_YY g w := by
  unfold f_X2_build_26 at hf
  refine am_b1 C0 am_YYk (pc := 26) (pc2 := 29) [(.aload_n 0, 0, 0, .null), (.aload_n 1, 0, 0, .null), (.iconst 5, 0, 0, .int 5)] (L := [some (.ref 3), some (.ref 1), none, none]) (st := []) (L' := [some (.ref 3), some (.ref 1), none, none]) (st' := [.int ((5 : Int32)), .ref 1, .ref 3]) (g' := g) (w' := w) (cl := []) (by decide +kernel) rfl trivial ?_
  obtain ⟨q13, hq13, hf⟩ := Option.bind_eq_some_iff.mp hf
  refine am_callV (mi := mi_X3_figure) (rm := rm_X3_figure) [.int ((5 : Int32))] C0.1 am_YYl cv_2_34 (M_X3_figure _ g w (5 : Int32) _ hq13) (ci := 3) rfl (by decide) rfl (by rw [hR]; rfl) rfl rfl (Nat.le_of_ble_eq_true rfl) (by decide +kernel) ?_
  refine am_b1 C0 am_YYk (pc := 32) (pc2 := 40) [(.putfield 30, 2, 6, .null), (.aload_n 0, 0, 0, .null), (.iconst 0, 0, 0, .int 0), (.bipush 6, 0, 0, .int 6), (.aload_n 1, 0, 0, .null)] (L := [some (.ref 3), some (.ref 1), none, none]) (st := [.int (q13), .ref 3]) (L' := [some (.ref 3), some (.ref 1), none, none]) (st' := [.ref 1, .int ((6 : Int32)), .int ((0 : Int32)), .ref 3]) (g' := am_u g 3 6 q13) (w' := w) (cl := []) (by decide +kernel) rfl trivial ?_
  obtain ⟨q14, hq14, hf⟩ := Option.bind_eq_some_iff.mp hf
  refine am_callV (mi := mi_X3_size) (rm := rm_X3_size) [] C0.1 am_YYl cv_2_40 (M_X3_size _ (am_u g 3 6 q13) w _ hq14) (ci := 3) rfl (by decide) rfl (by rw [hR]; rfl) rfl rfl (Nat.le_of_ble_eq_true rfl) (by decide +kernel) ?_
  refine am_b1 C0 am_YYk (pc := 43) (pc2 := 48) [(.bipush 6, 0, 0, .int 6), (.idiv, 0, 0, .null), (.iconst 1, 0, 0, .int 1), (.isub, 0, 0, .null)] (L := [some (.ref 3), some (.ref 1), none, none]) (st := [.int (q14), .int ((6 : Int32)), .int ((0 : Int32)), .ref 3]) (L' := [some (.ref 3), some (.ref 1), none, none]) (st' := [.int ((q14 / (6 : Int32)) - (1 : Int32)), .int ((6 : Int32)), .int ((0 : Int32)), .ref 3]) (g' := am_u g 3 6 q13) (w' := w) (cl := [¬ (6 : Int32) = 0]) (by decide +kernel) rfl ⟨by decide, trivial⟩ ?_
  refine am_mmin C0.1 mw_2_44 (by rw [hR]; decide) (Nat.le_of_ble_eq_true rfl) (by decide +kernel) ?_
  refine am_mmax C0.1 mw_2_50 (by rw [hR]; decide) (Nat.le_of_ble_eq_true rfl) (by decide +kernel) ?_
  refine am_b1 C0 am_YYk (pc := 54) (pc2 := 59) [(.putfield 53, 2, 7, .null), (.iconst 0, 0, 0, .int 0), (.istore_n 2, 0, 0, .null)] (L := [some (.ref 3), some (.ref 1), none, none]) (st := [.int (am_max (0 : Int32) (am_min (6 : Int32) ((q14 / (6 : Int32)) - (1 : Int32)))), .ref 3]) (L' := [some (.ref 3), some (.ref 1), some (.int ((0 : Int32))), none]) (st' := []) (g' := am_u (am_u g 3 6 q13) 3 7 (am_max (0 : Int32) (am_min (6 : Int32) ((q14 / (6 : Int32)) - (1 : Int32))))) (w' := w) (cl := []) (by decide +kernel) rfl trivial ?_
  refine B_X2_build_59 x C0 hR w F R _ ?_ F ((0 : Int32)) (am_u (am_u g 3 6 q13) 3 7 (am_max (0 : Int32) (am_min (6 : Int32) ((q14 / (6 : Int32)) - (1 : Int32))))) hf
  · intro g hf
    exact B_X2_build_132 x C0 hR w F R  (g) hf
def f_X2_build_2 (F : Nat) (k26 : am_G → Option (am_G)) : Nat → Int32 → am_G → Option (am_G)
  | 0, _, _ => none
  | n + 1, l2, g =>
    if (4 : Int32) ≤ l2 then
      k26 (g)
    else
      (f_X3_figure g ((1 : Int32) + l2)).bind fun q15 =>
        if am_in l2 4 then
          f_X2_build_2 F k26 n (l2 + (1 : Int32)) (am_u g 4 (Int32.toNatClampNeg l2) q15)
        else none
set_option maxRecDepth 20000 in
theorem B_X2_build_2 (x : am_X) (C0 : am_Cm x 2 cX2_build 4 none) (hR : am_R x = rm_X2_build) (w : am_J) (F : Nat) (R : am_G) (k26 : am_G → Option (am_G)) (hk26 : ∀ (g : am_G), k26 g = some R → am_Ev x 4 (0, 0) (am_Q x (0, 0) none am_YY R w) 26 [some (.ref 3), some (.ref 1), none, none] [] am_YY g w) : ∀ (n : Nat) (l2 : Int32) (g : am_G), f_X2_build_2 F k26 n l2 g = some R → am_Ev x 4 (0, 0) (am_Q x (0, 0) none am_YY R w) 2 [some (.ref 3), some (.ref 1), some (.int (l2)), none] [] am_YY g w := by
  intro n
  induction n with
  | zero => intro l2 g hf; cases hf
  | succ n ih =>
    intro l2 g hf
    rw [f_X2_build_2.eq_2] at hf
    refine am_b1 C0 am_YYk (pc := 2) (pc2 := 4) [(.iload_n 2, 0, 0, .null), (.iconst 4, 0, 0, .int 4)] (L := [some (.ref 3), some (.ref 1), some (.int (l2)), none]) (st := []) (L' := [some (.ref 3), some (.ref 1), some (.int (l2)), none]) (st' := [.int ((4 : Int32)), .int (l2)]) (g' := g) (w' := w) (cl := []) (by decide +kernel) rfl trivial ?_
    refine am_icmp_ge C0 (off := 22) (tgt := 26) (by decide +kernel) (fun hc17 => ?_) (fun hc17 => ?_)
    · rw [if_pos hc17] at hf
      refine am_wk [some (.ref 3), some (.ref 1), none, none] ⟨rfl, rfl, trivial⟩ rfl ?_
      exact hk26 (g) hf
    · rw [if_neg hc17] at hf
      refine am_b1 C0 am_YYk (pc := 7) (pc2 := 16) [(.aload_n 0, 0, 0, .null), (.getfield 9, 2, 0, .null), (.iload_n 2, 0, 0, .null), (.aload_n 1, 0, 0, .null), (.iconst 1, 0, 0, .int 1), (.iload_n 2, 0, 0, .null), (.iadd, 0, 0, .null)] (L := [some (.ref 3), some (.ref 1), some (.int (l2)), none]) (st := []) (L' := [some (.ref 3), some (.ref 1), some (.int (l2)), none]) (st' := [.int ((1 : Int32) + l2), .ref 1, .int (l2), .ref 4]) (g' := g) (w' := w) (cl := []) (by decide +kernel) rfl trivial ?_
      obtain ⟨q15, hq15, hf⟩ := Option.bind_eq_some_iff.mp hf
      refine am_callV (mi := mi_X3_figure) (rm := rm_X3_figure) [.int ((1 : Int32) + l2)] C0.1 am_YYl cv_2_34 (M_X3_figure _ g w ((1 : Int32) + l2) _ hq15) (ci := 3) rfl (by decide) rfl (by rw [hR]; rfl) rfl rfl (Nat.le_of_ble_eq_true rfl) (by decide +kernel) ?_
      obtain ⟨hg16, hf⟩ := am_g hf
      refine am_b1 C0 am_YYk (pc := 19) (pc2 := 23) [(.iastore, 0, 0, .null), (.iinc 2 1, 0, 0, .int 1)] (L := [some (.ref 3), some (.ref 1), some (.int (l2)), none]) (st := [.int (q15), .int (l2), .ref 4]) (L' := [some (.ref 3), some (.ref 1), some (.int (l2 + (1 : Int32))), none]) (st' := []) (g' := am_u g 4 (Int32.toNatClampNeg l2) q15) (w' := w) (cl := [am_in l2 4]) (by decide +kernel) rfl ⟨hg16, trivial⟩ ?_
      refine am_goto C0 (off := (-21)) (tgt := 2) (by decide +kernel) ?_
      exact ih (l2 + (1 : Int32)) (am_u g 4 (Int32.toNatClampNeg l2) q15) hf
def f_X2_build (F : Nat) (g : am_G) : Option (am_G) :=
  f_X2_build_2 F (fun g => f_X2_build_26 F (g)) F ((0 : Int32)) (g)
set_option maxRecDepth 20000 in
theorem M_X2_build (l : Launch) (F : Nat) (g : am_G) (w : am_J)  (R : am_G) (hf : f_X2_build F g = some R) : am_Met l mi_X2_build rm_X2_build [.ref 3, .ref 1] am_YY g w none am_YY R w := by
  refine am_met (own := 2) [some (.ref 3), some (.ref 1), none, none] (by decide) rfl rfl (by first | decide | exact Nat.le_of_ble_eq_true rfl) (fun x C0 hR hl hnm => ?_)
  unfold f_X2_build at hf
  refine am_b1 C0 am_YYk (pc := 0) (pc2 := 2) [(.iconst 0, 0, 0, .int 0), (.istore_n 2, 0, 0, .null)] (L := [some (.ref 3), some (.ref 1), none, none]) (st := []) (L' := [some (.ref 3), some (.ref 1), some (.int ((0 : Int32))), none]) (st' := []) (g' := g) (w' := w) (cl := []) (by decide +kernel) rfl trivial ?_
  refine B_X2_build_2 x C0 hR w F R _ ?_ F ((0 : Int32)) (g) hf
  · intro g hf
    exact B_X2_build_26 x C0 hR w F R  (g) hf
/-! ShutterTown$Houses.windows()I at (3,) -/
def f_X2_windows (g : am_G) : Option (Int32) :=
  some (g 3 7)
set_option maxRecDepth 20000 in
theorem M_X2_windows (l : Launch) (g : am_G) (w : am_J)  (R : Int32) (hf : f_X2_windows g = some R) : am_Met l mi_X2_windows rm_X2_windows [.ref 3] am_YY g w (some (.int R)) am_YY g w := by
  refine am_met (own := 2) [some (.ref 3)] (by decide) rfl rfl (by first | decide | exact Nat.le_of_ble_eq_true rfl) (fun x C0 hR hl hnm => ?_)
  unfold f_X2_windows at hf
  refine am_b1 C0 am_YYk (pc := 0) (pc2 := 4) [(.aload_n 0, 0, 0, .null), (.getfield 53, 2, 7, .null)] (L := [some (.ref 3)]) (st := []) (L' := [some (.ref 3)]) (st' := [.int (g 3 7)]) (g' := g) (w' := w) (cl := []) (by decide +kernel) rfl trivial ?_
  cases hf
  exact am_iret C0 (by decide +kernel)
/-! java/util/Arrays.fill([II)V at (12,) -/
def f_J7_fill_53178_12_5 (F : Nat) (p1 : Int32)  : Nat → Int32 → Int32 → am_G → Option (am_G)
  | 0, _, _, _ => none
  | n + 1, l2, l3, g =>
    if l3 ≤ l2 then
      some (g)
    else
      if am_in l2 6 then
        f_J7_fill_53178_12_5 F p1 n (l2 + (1 : Int32)) (l3) (am_u g 12 (Int32.toNatClampNeg l2) p1)
      else none
set_option maxRecDepth 20000 in
theorem B_J7_fill_53178_12_5 (x : am_X) (C0 : am_Cm x 12 cJ7_fill_53178 4 none) (hR : am_R x = rm_J7_fill_53178) (w : am_J) (F : Nat) (p1 : Int32) (R : am_G)   : ∀ (n : Nat) (l2 : Int32) (l3 : Int32) (g : am_G), f_J7_fill_53178_12_5 F p1 n l2 l3 g = some R → am_Ev x 4 (0, 0) (am_Q x (0, 0) none am_YY R w) 5 [some (.ref 12), some (.int (p1)), some (.int (l2)), some (.int (l3))] [] am_YY g w := by
  intro n
  induction n with
  | zero => intro l2 l3 g hf; cases hf
  | succ n ih =>
    intro l2 l3 g hf
    rw [f_J7_fill_53178_12_5.eq_2] at hf
    refine am_b1 C0 am_YYk (pc := 5) (pc2 := 7) [(.iload_n 2, 0, 0, .null), (.iload_n 3, 0, 0, .null)] (L := [some (.ref 12), some (.int (p1)), some (.int (l2)), some (.int (l3))]) (st := []) (L' := [some (.ref 12), some (.int (p1)), some (.int (l2)), some (.int (l3))]) (st' := [.int (l3), .int (l2)]) (g' := g) (w' := w) (cl := []) (by decide +kernel) rfl trivial ?_
    refine am_icmp_ge C0 (off := 13) (tgt := 20) (by decide +kernel) (fun hc2 => ?_) (fun hc2 => ?_)
    · rw [if_pos hc2] at hf
      cases hf
      exact am_vret C0 (by decide +kernel)
    · rw [if_neg hc2] at hf
      obtain ⟨hg1, hf⟩ := am_g hf
      refine am_b1 C0 am_YYk (pc := 10) (pc2 := 17) [(.aload_n 0, 0, 0, .null), (.iload_n 2, 0, 0, .null), (.iload_n 1, 0, 0, .null), (.iastore, 0, 0, .null), (.iinc 2 1, 0, 0, .int 1)] (L := [some (.ref 12), some (.int (p1)), some (.int (l2)), some (.int (l3))]) (st := []) (L' := [some (.ref 12), some (.int (p1)), some (.int (l2 + (1 : Int32))), some (.int (l3))]) (st' := []) (g' := am_u g 12 (Int32.toNatClampNeg l2) p1) (w' := w) (cl := [am_in l2 6]) (by decide +kernel) rfl ⟨hg1, trivial⟩ ?_
      refine am_goto C0 (off := (-12)) (tgt := 5) (by decide +kernel) ?_
      exact ih (l2 + (1 : Int32)) (l3) (am_u g 12 (Int32.toNatClampNeg l2) p1) hf
def f_J7_fill_53178_12 (F : Nat) (g : am_G) (p1 : Int32) : Option (am_G) :=
  f_J7_fill_53178_12_5 F p1 F ((0 : Int32)) (Int32.ofNat 6) (g)
set_option maxRecDepth 20000 in
theorem M_J7_fill_53178_12 (l : Launch) (F : Nat) (g : am_G) (w : am_J) (p1 : Int32) (R : am_G) (hf : f_J7_fill_53178_12 F g p1 = some R) : am_Met l mi_J7_fill_53178 rm_J7_fill_53178 [.ref 12, .int p1] am_YY g w none am_YY R w := by
  refine am_met (own := 12) [some (.ref 12), some (.int (p1)), none, none] (by decide) rfl rfl (by first | decide | exact Nat.le_of_ble_eq_true rfl) (fun x C0 hR hl hnm => ?_)
  unfold f_J7_fill_53178_12 at hf
  refine am_b1 C0 am_YYk (pc := 0) (pc2 := 5) [(.iconst 0, 0, 0, .int 0), (.istore_n 2, 0, 0, .null), (.aload_n 0, 0, 0, .null), (.arraylength, 0, 0, .null), (.istore_n 3, 0, 0, .null)] (L := [some (.ref 12), some (.int (p1)), none, none]) (st := []) (L' := [some (.ref 12), some (.int (p1)), some (.int ((0 : Int32))), some (.int (Int32.ofNat 6))]) (st' := []) (g' := g) (w' := w) (cl := []) (by decide +kernel) rfl trivial ?_
  refine B_J7_fill_53178_12_5 x C0 hR w F p1 R   F ((0 : Int32)) (Int32.ofNat 6) (g) hf
/-! ShutterTown$Shutters.begin(LShutterTown$Letters;)V at (10, 1) -/
def f_X4_begin_37 (F : Nat)  (g : am_G) : Option (am_G) :=
  (f_J7_fill_53178_12 F g (-9 : Int32)).bind fun q1 =>
    some (am_u q1 10 3 (0 : Int32))
set_option maxRecDepth 20000 in
theorem B_X4_begin_37 (x : am_X) (C0 : am_Cm x 4 cX4_begin 3 none) (hR : am_R x = rm_X4_begin) (w : am_J) (F : Nat) (R : am_G)   (g : am_G) (hf : f_X4_begin_37 F g = some R) : am_Ev x 3 (0, 0) (am_Q x (0, 0) none am_YY R w) 37 [some (.ref 10), none, none] [] am_YY g w := by
  unfold f_X4_begin_37 at hf
  refine am_b1 C0 am_YYk (pc := 37) (pc2 := 43) [(.aload_n 0, 0, 0, .null), (.getfield 15, 4, 2, .null), (.bipush (-9), 0, 0, .int (-9))] (L := [some (.ref 10), none, none]) (st := []) (L' := [some (.ref 10), none, none]) (st' := [.int ((-9 : Int32)), .ref 12]) (g' := g) (w' := w) (cl := []) (by decide +kernel) rfl trivial ?_
  obtain ⟨q1, hq1, hf⟩ := Option.bind_eq_some_iff.mp hf
  refine am_callS (mi := mi_J7_fill_53178) (rm := rm_J7_fill_53178) [.ref 12, .int ((-9 : Int32))] C0.1 cv_4_34 (M_J7_fill_53178_12 _ F g w (-9 : Int32) _ hq1) (by rw [hR]; rfl) rfl rfl (Nat.le_of_ble_eq_true rfl) (by decide +kernel) ?_
  refine am_b1 C0 am_YYk (pc := 46) (pc2 := 51) [(.aload_n 0, 0, 0, .null), (.iconst 0, 0, 0, .int 0), (.putfield 40, 4, 3, .null)] (L := [some (.ref 10), none, none]) (st := []) (L' := [some (.ref 10), none, none]) (st' := []) (g' := am_u q1 10 3 (0 : Int32)) (w' := w) (cl := []) (by decide +kernel) rfl trivial ?_
  cases hf
  exact am_vret C0 (by decide +kernel)
def f_X4_begin_2 (F : Nat) (k37 : am_G → Option (am_G)) : Nat → Int32 → am_G → Option (am_G)
  | 0, _, _ => none
  | n + 1, l2, g =>
    (f_X2_windows g).bind fun q2 =>
      if q2 ≤ l2 then
        k37 (g)
      else
        (f_X3_figure g (((6 : Int32) * (l2 + (1 : Int32))) + (4 : Int32))).bind fun q3 =>
          if am_in l2 6 then
            f_X4_begin_2 F k37 n (l2 + (1 : Int32)) (am_u g 11 (Int32.toNatClampNeg l2) q3)
          else none
set_option maxRecDepth 20000 in
theorem B_X4_begin_2 (x : am_X) (C0 : am_Cm x 4 cX4_begin 3 none) (hR : am_R x = rm_X4_begin) (w : am_J) (F : Nat) (R : am_G) (k37 : am_G → Option (am_G)) (hk37 : ∀ (g : am_G), k37 g = some R → am_Ev x 3 (0, 0) (am_Q x (0, 0) none am_YY R w) 37 [some (.ref 10), none, none] [] am_YY g w) : ∀ (n : Nat) (l2 : Int32) (g : am_G), f_X4_begin_2 F k37 n l2 g = some R → am_Ev x 3 (0, 0) (am_Q x (0, 0) none am_YY R w) 2 [some (.ref 10), some (.ref 1), some (.int (l2))] [] am_YY g w := by
  intro n
  induction n with
  | zero => intro l2 g hf; cases hf
  | succ n ih =>
    intro l2 g hf
    rw [f_X4_begin_2.eq_2] at hf
    refine am_b1 C0 am_YYk (pc := 2) (pc2 := 7) [(.iload_n 2, 0, 0, .null), (.aload_n 0, 0, 0, .null), (.getfield 18, 4, 0, .null)] (L := [some (.ref 10), some (.ref 1), some (.int (l2))]) (st := []) (L' := [some (.ref 10), some (.ref 1), some (.int (l2))]) (st' := [.ref 3, .int (l2)]) (g' := g) (w' := w) (cl := []) (by decide +kernel) rfl trivial ?_
    obtain ⟨q2, hq2, hf⟩ := Option.bind_eq_some_iff.mp hf
    refine am_callV (mi := mi_X2_windows) (rm := rm_X2_windows) [] C0.1 am_YYl cv_4_22 (M_X2_windows _ g w _ hq2) (ci := 2) rfl (by decide) rfl (by rw [hR]; rfl) rfl rfl (Nat.le_of_ble_eq_true rfl) (by decide +kernel) ?_
    refine am_icmp_ge C0 (off := 27) (tgt := 37) (by decide +kernel) (fun hc5 => ?_) (fun hc5 => ?_)
    · rw [if_pos hc5] at hf
      refine am_wk [some (.ref 10), none, none] ⟨rfl, trivial⟩ rfl ?_
      exact hk37 (g) hf
    · rw [if_neg hc5] at hf
      refine am_b1 C0 am_YYk (pc := 13) (pc2 := 27) [(.aload_n 0, 0, 0, .null), (.getfield 9, 4, 1, .null), (.iload_n 2, 0, 0, .null), (.aload_n 1, 0, 0, .null), (.bipush 6, 0, 0, .int 6), (.iload_n 2, 0, 0, .null), (.iconst 1, 0, 0, .int 1), (.iadd, 0, 0, .null), (.imul, 0, 0, .null), (.iconst 4, 0, 0, .int 4), (.iadd, 0, 0, .null)] (L := [some (.ref 10), some (.ref 1), some (.int (l2))]) (st := []) (L' := [some (.ref 10), some (.ref 1), some (.int (l2))]) (st' := [.int (((6 : Int32) * (l2 + (1 : Int32))) + (4 : Int32)), .ref 1, .int (l2), .ref 11]) (g' := g) (w' := w) (cl := []) (by decide +kernel) rfl trivial ?_
      obtain ⟨q3, hq3, hf⟩ := Option.bind_eq_some_iff.mp hf
      refine am_callV (mi := mi_X3_figure) (rm := rm_X3_figure) [.int (((6 : Int32) * (l2 + (1 : Int32))) + (4 : Int32))] C0.1 am_YYl cv_4_28 (M_X3_figure _ g w (((6 : Int32) * (l2 + (1 : Int32))) + (4 : Int32)) _ hq3) (ci := 3) rfl (by decide) rfl (by rw [hR]; rfl) rfl rfl (Nat.le_of_ble_eq_true rfl) (by decide +kernel) ?_
      obtain ⟨hg4, hf⟩ := am_g hf
      refine am_b1 C0 am_YYk (pc := 30) (pc2 := 34) [(.iastore, 0, 0, .null), (.iinc 2 1, 0, 0, .int 1)] (L := [some (.ref 10), some (.ref 1), some (.int (l2))]) (st := [.int (q3), .int (l2), .ref 11]) (L' := [some (.ref 10), some (.ref 1), some (.int (l2 + (1 : Int32)))]) (st' := []) (g' := am_u g 11 (Int32.toNatClampNeg l2) q3) (w' := w) (cl := [am_in l2 6]) (by decide +kernel) rfl ⟨hg4, trivial⟩ ?_
      refine am_goto C0 (off := (-32)) (tgt := 2) (by decide +kernel) ?_
      exact ih (l2 + (1 : Int32)) (am_u g 11 (Int32.toNatClampNeg l2) q3) hf
def f_X4_begin (F : Nat) (g : am_G) : Option (am_G) :=
  f_X4_begin_2 F (fun g => f_X4_begin_37 F (g)) F ((0 : Int32)) (g)
set_option maxRecDepth 20000 in
theorem M_X4_begin (l : Launch) (F : Nat) (g : am_G) (w : am_J)  (R : am_G) (hf : f_X4_begin F g = some R) : am_Met l mi_X4_begin rm_X4_begin [.ref 10, .ref 1] am_YY g w none am_YY R w := by
  refine am_met (own := 4) [some (.ref 10), some (.ref 1), none] (by decide) rfl rfl (by first | decide | exact Nat.le_of_ble_eq_true rfl) (fun x C0 hR hl hnm => ?_)
  unfold f_X4_begin at hf
  refine am_b1 C0 am_YYk (pc := 0) (pc2 := 2) [(.iconst 0, 0, 0, .int 0), (.istore_n 2, 0, 0, .null)] (L := [some (.ref 10), some (.ref 1), none]) (st := []) (L' := [some (.ref 10), some (.ref 1), some (.int ((0 : Int32)))]) (st' := []) (g' := g) (w' := w) (cl := []) (by decide +kernel) rfl trivial ?_
  refine B_X4_begin_2 x C0 hR w F R _ ?_ F ((0 : Int32)) (g) hf
  · intro g hf
    exact B_X4_begin_37 x C0 hR w F R  (g) hf
/-! ShutterTown$Acts.clear()V at (16,) -/
def f_X0_clear (g : am_G) : Option (am_G) :=
  some (am_u g 16 1 (0 : Int32))
set_option maxRecDepth 20000 in
theorem M_X0_clear (l : Launch) (g : am_G) (w : am_J)  (R : am_G) (hf : f_X0_clear g = some R) : am_Met l mi_X0_clear rm_X0_clear [.ref 16] am_YY g w none am_YY R w := by
  refine am_met (own := 0) [some (.ref 16)] (by decide) rfl rfl (by first | decide | exact Nat.le_of_ble_eq_true rfl) (fun x C0 hR hl hnm => ?_)
  unfold f_X0_clear at hf
  refine am_b1 C0 am_YYk (pc := 0) (pc2 := 5) [(.aload_n 0, 0, 0, .null), (.iconst 0, 0, 0, .int 0), (.putfield 15, 0, 1, .null)] (L := [some (.ref 16)]) (st := []) (L' := [some (.ref 16)]) (st' := []) (g' := am_u g 16 1 (0 : Int32)) (w' := w) (cl := []) (by decide +kernel) rfl trivial ?_
  cases hf
  exact am_vret C0 (by decide +kernel)
/-! ShutterTown$Slots.clear()V at (18,) -/
def f_X5_clear (g : am_G) : Option (am_G) :=
  some (am_u g 18 1 (0 : Int32))
set_option maxRecDepth 20000 in
theorem M_X5_clear (l : Launch) (g : am_G) (w : am_J)  (R : am_G) (hf : f_X5_clear g = some R) : am_Met l mi_X5_clear rm_X5_clear [.ref 18] am_YY g w none am_YY R w := by
  refine am_met (own := 5) [some (.ref 18)] (by decide) rfl rfl (by first | decide | exact Nat.le_of_ble_eq_true rfl) (fun x C0 hR hl hnm => ?_)
  unfold f_X5_clear at hf
  refine am_b1 C0 am_YYk (pc := 0) (pc2 := 5) [(.aload_n 0, 0, 0, .null), (.iconst 0, 0, 0, .int 0), (.putfield 19, 5, 1, .null)] (L := [some (.ref 18)]) (st := []) (L' := [some (.ref 18)]) (st' := []) (g' := am_u g 18 1 (0 : Int32)) (w' := w) (cl := []) (by decide +kernel) rfl trivial ?_
  cases hf
  exact am_vret C0 (by decide +kernel)
/-! ShutterTown.town()I at (0,) -/
def f_X7_town (F : Nat) (g : am_G) : Option (Int32 × am_G) :=
  (f_X3_firstFault F g).bind fun q1 =>
    if q1 = (-9 : Int32) then
      (f_X2_build F g).bind fun q2 =>
        (f_X4_begin F q2).bind fun q3 =>
          (f_X0_clear q3).bind fun q4 =>
            (f_X5_clear q4).bind fun q5 =>
              (f_X2_windows q5).bind fun q6 =>
                some (q6, q5)
    else
      some ((-3 : Int32), g)
set_option maxRecDepth 20000 in
theorem M_X7_town (l : Launch) (F : Nat) (g : am_G) (w : am_J)  (R : Int32 × am_G) (hf : f_X7_town F g = some R) : am_Met l mi_X7_town rm_X7_town [.ref 0] am_YY g w (some (.int R.1)) am_YY (R.2) w := by
  refine am_met (own := 7) [some (.ref 0)] (by decide) rfl rfl (by first | decide | exact Nat.le_of_ble_eq_true rfl) (fun x C0 hR hl hnm => ?_)
  unfold f_X7_town at hf
  refine am_b1 C0 am_YYk (pc := 0) (pc2 := 4) [(.aload_n 0, 0, 0, .null), (.getfield 12, 7, 0, .null)] (L := [some (.ref 0)]) (st := []) (L' := [some (.ref 0)]) (st' := [.ref 1]) (g' := g) (w' := w) (cl := []) (by decide +kernel) rfl trivial ?_
  obtain ⟨q1, hq1, hf⟩ := Option.bind_eq_some_iff.mp hf
  refine am_callV (mi := mi_X3_firstFault) (rm := rm_X3_firstFault) [] C0.1 am_YYl cv_7_81 (M_X3_firstFault _ F g w _ hq1) (ci := 3) rfl (by decide) rfl (by rw [hR]; rfl) rfl rfl (Nat.le_of_ble_eq_true rfl) (by decide +kernel) ?_
  refine am_b1 C0 am_YYk (pc := 7) (pc2 := 9) [(.bipush (-9), 0, 0, .int (-9))] (L := [some (.ref 0)]) (st := [.int (q1)]) (L' := [some (.ref 0)]) (st' := [.int ((-9 : Int32)), .int (q1)]) (g' := g) (w' := w) (cl := []) (by decide +kernel) rfl trivial ?_
  refine am_icmp_eq C0 (off := 6) (tgt := 15) (by decide +kernel) (fun hc7 => ?_) (fun hc7 => ?_)
  · rw [if_pos hc7] at hf
    refine am_b1 C0 am_YYk (pc := 15) (pc2 := 23) [(.aload_n 0, 0, 0, .null), (.getfield 19, 7, 1, .null), (.aload_n 0, 0, 0, .null), (.getfield 12, 7, 0, .null)] (L := [some (.ref 0)]) (st := []) (L' := [some (.ref 0)]) (st' := [.ref 1, .ref 3]) (g' := g) (w' := w) (cl := []) (by decide +kernel) rfl trivial ?_
    obtain ⟨q2, hq2, hf⟩ := Option.bind_eq_some_iff.mp hf
    refine am_callV (mi := mi_X2_build) (rm := rm_X2_build) [.ref 1] C0.1 am_YYl cv_7_84 (M_X2_build _ F g w _ hq2) (ci := 2) rfl (by decide) rfl (by rw [hR]; rfl) rfl rfl (Nat.le_of_ble_eq_true rfl) (by decide +kernel) ?_
    refine am_b1 C0 am_YYk (pc := 26) (pc2 := 34) [(.aload_n 0, 0, 0, .null), (.getfield 28, 7, 2, .null), (.aload_n 0, 0, 0, .null), (.getfield 12, 7, 0, .null)] (L := [some (.ref 0)]) (st := []) (L' := [some (.ref 0)]) (st' := [.ref 1, .ref 10]) (g' := q2) (w' := w) (cl := []) (by decide +kernel) rfl trivial ?_
    obtain ⟨q3, hq3, hf⟩ := Option.bind_eq_some_iff.mp hf
    refine am_callV (mi := mi_X4_begin) (rm := rm_X4_begin) [.ref 1] C0.1 am_YYl cv_7_88 (M_X4_begin _ F q2 w _ hq3) (ci := 4) rfl (by decide) rfl (by rw [hR]; rfl) rfl rfl (Nat.le_of_ble_eq_true rfl) (by decide +kernel) ?_
    refine am_b1 C0 am_YYk (pc := 37) (pc2 := 41) [(.aload_n 0, 0, 0, .null), (.getfield 38, 7, 4, .null)] (L := [some (.ref 0)]) (st := []) (L' := [some (.ref 0)]) (st' := [.ref 16]) (g' := q3) (w' := w) (cl := []) (by decide +kernel) rfl trivial ?_
    obtain ⟨q4, hq4, hf⟩ := Option.bind_eq_some_iff.mp hf
    refine am_callV (mi := mi_X0_clear) (rm := rm_X0_clear) [] C0.1 am_YYl cv_7_91 (M_X0_clear _ q3 w _ hq4) (ci := 0) rfl (by decide) rfl (by rw [hR]; rfl) rfl rfl (Nat.le_of_ble_eq_true rfl) (by decide +kernel) ?_
    refine am_b1 C0 am_YYk (pc := 44) (pc2 := 48) [(.aload_n 0, 0, 0, .null), (.getfield 45, 7, 5, .null)] (L := [some (.ref 0)]) (st := []) (L' := [some (.ref 0)]) (st' := [.ref 18]) (g' := q4) (w' := w) (cl := []) (by decide +kernel) rfl trivial ?_
    obtain ⟨q5, hq5, hf⟩ := Option.bind_eq_some_iff.mp hf
    refine am_callV (mi := mi_X5_clear) (rm := rm_X5_clear) [] C0.1 am_YYl cv_7_92 (M_X5_clear _ q4 w _ hq5) (ci := 5) rfl (by decide) rfl (by rw [hR]; rfl) rfl rfl (Nat.le_of_ble_eq_true rfl) (by decide +kernel) ?_
    refine am_b1 C0 am_YYk (pc := 51) (pc2 := 55) [(.aload_n 0, 0, 0, .null), (.getfield 19, 7, 1, .null)] (L := [some (.ref 0)]) (st := []) (L' := [some (.ref 0)]) (st' := [.ref 3]) (g' := q5) (w' := w) (cl := []) (by decide +kernel) rfl trivial ?_
    obtain ⟨q6, hq6, hf⟩ := Option.bind_eq_some_iff.mp hf
    refine am_callV (mi := mi_X2_windows) (rm := rm_X2_windows) [] C0.1 am_YYl cv_7_93 (M_X2_windows _ q5 w _ hq6) (ci := 2) rfl (by decide) rfl (by rw [hR]; rfl) rfl rfl (Nat.le_of_ble_eq_true rfl) (by decide +kernel) ?_
    cases hf
    exact am_iret C0 (by decide +kernel)
  · rw [if_neg hc7] at hf
    refine am_b1 C0 am_YYk (pc := 12) (pc2 := 14) [(.bipush (-3), 0, 0, .int (-3))] (L := [some (.ref 0)]) (st := []) (L' := [some (.ref 0)]) (st' := [.int ((-3 : Int32))]) (g' := g) (w' := w) (cl := []) (by decide +kernel) rfl trivial ?_
    cases hf
    exact am_iret C0 (by decide +kernel)
/-! ShutterTown$Shutters.state(I)I at (10,) -/
def f_X4_state_10 (g : am_G) (p1 : Int32) : Option (Int32) :=
  (f_X2_has g p1).bind fun q1 =>
    if q1 = 0 then
      some ((-9 : Int32))
    else
      if am_in p1 6 then
        some (g 11 (Int32.toNatClampNeg p1))
      else none
set_option maxRecDepth 20000 in
theorem M_X4_state_10 (l : Launch) (g : am_G) (w : am_J) (p1 : Int32) (R : Int32) (hf : f_X4_state_10 g p1 = some R) : am_Met l mi_X4_state rm_X4_state [.ref 10, .int p1] am_YY g w (some (.int R)) am_YY g w := by
  refine am_met (own := 4) [some (.ref 10), some (.int (p1))] (by decide) rfl rfl (by first | decide | exact Nat.le_of_ble_eq_true rfl) (fun x C0 hR hl hnm => ?_)
  unfold f_X4_state_10 at hf
  refine am_b1 C0 am_YYk (pc := 0) (pc2 := 5) [(.aload_n 0, 0, 0, .null), (.getfield 18, 4, 0, .null), (.iload_n 1, 0, 0, .null)] (L := [some (.ref 10), some (.int (p1))]) (st := []) (L' := [some (.ref 10), some (.int (p1))]) (st' := [.int (p1), .ref 3]) (g' := g) (w' := w) (cl := []) (by decide +kernel) rfl trivial ?_
  obtain ⟨q1, hq1, hf⟩ := Option.bind_eq_some_iff.mp hf
  refine am_callV (mi := mi_X2_has) (rm := rm_X2_has) [.int (p1)] C0.1 am_YYl cv_4_44 (M_X2_has _ g w p1 _ hq1) (ci := 2) rfl (by decide) rfl (by rw [hR]; rfl) rfl rfl (Nat.le_of_ble_eq_true rfl) (by decide +kernel) ?_
  refine am_if_eq C0 (off := 12) (tgt := 20) (by decide +kernel) (fun hc3 => ?_) (fun hc3 => ?_)
  · rw [if_pos hc3] at hf
    refine am_b1 C0 am_YYk (pc := 20) (pc2 := 22) [(.bipush (-9), 0, 0, .int (-9))] (L := [some (.ref 10), some (.int (p1))]) (st := []) (L' := [some (.ref 10), some (.int (p1))]) (st' := [.int ((-9 : Int32))]) (g' := g) (w' := w) (cl := []) (by decide +kernel) rfl trivial ?_
    cases hf
    exact am_iret C0 (by decide +kernel)
  · rw [if_neg hc3] at hf
    obtain ⟨hg2, hf⟩ := am_g hf
    refine am_b1 C0 am_YYk (pc := 11) (pc2 := 17) [(.aload_n 0, 0, 0, .null), (.getfield 9, 4, 1, .null), (.iload_n 1, 0, 0, .null), (.iaload, 0, 0, .null)] (L := [some (.ref 10), some (.int (p1))]) (st := []) (L' := [some (.ref 10), some (.int (p1))]) (st' := [.int (g 11 (Int32.toNatClampNeg p1))]) (g' := g) (w' := w) (cl := [am_in p1 6]) (by decide +kernel) rfl ⟨hg2, trivial⟩ ?_
    refine am_goto C0 (off := 5) (tgt := 22) (by decide +kernel) ?_
    cases hf
    exact am_iret C0 (by decide +kernel)
/-! ShutterTown$Houses.kind(I)I at (3,) -/
def f_X2_kind (g : am_G) (p1 : Int32) : Option (Int32) :=
  (f_X2_has g p1).bind fun q1 =>
    if q1 = 0 then
      some ((-9 : Int32))
    else
      if am_in p1 6 then
        some (g 8 (Int32.toNatClampNeg p1))
      else none
set_option maxRecDepth 20000 in
theorem M_X2_kind (l : Launch) (g : am_G) (w : am_J) (p1 : Int32) (R : Int32) (hf : f_X2_kind g p1 = some R) : am_Met l mi_X2_kind rm_X2_kind [.ref 3, .int p1] am_YY g w (some (.int R)) am_YY g w := by
  refine am_met (own := 2) [some (.ref 3), some (.int (p1))] (by decide) rfl rfl (by first | decide | exact Nat.le_of_ble_eq_true rfl) (fun x C0 hR hl hnm => ?_)
  unfold f_X2_kind at hf
  refine am_b1 C0 am_YYk (pc := 0) (pc2 := 2) [(.aload_n 0, 0, 0, .null), (.iload_n 1, 0, 0, .null)] (L := [some (.ref 3), some (.int (p1))]) (st := []) (L' := [some (.ref 3), some (.int (p1))]) (st' := [.int (p1), .ref 3]) (g' := g) (w' := w) (cl := []) (by decide +kernel) rfl trivial ?_
  obtain ⟨q1, hq1, hf⟩ := Option.bind_eq_some_iff.mp hf
  refine am_callV (mi := mi_X2_has) (rm := rm_X2_has) [.int (p1)] C0.1 am_YYl cv_2_59 (M_X2_has _ g w p1 _ hq1) (ci := 2) rfl (by decide) rfl (by rw [hR]; rfl) rfl rfl (Nat.le_of_ble_eq_true rfl) (by decide +kernel) ?_
  refine am_if_eq C0 (off := 12) (tgt := 17) (by decide +kernel) (fun hc3 => ?_) (fun hc3 => ?_)
  · rw [if_pos hc3] at hf
    refine am_b1 C0 am_YYk (pc := 17) (pc2 := 19) [(.bipush (-9), 0, 0, .int (-9))] (L := [some (.ref 3), some (.int (p1))]) (st := []) (L' := [some (.ref 3), some (.int (p1))]) (st' := [.int ((-9 : Int32))]) (g' := g) (w' := w) (cl := []) (by decide +kernel) rfl trivial ?_
    cases hf
    exact am_iret C0 (by decide +kernel)
  · rw [if_neg hc3] at hf
    obtain ⟨hg2, hf⟩ := am_g hf
    refine am_b1 C0 am_YYk (pc := 8) (pc2 := 14) [(.aload_n 0, 0, 0, .null), (.getfield 24, 2, 4, .null), (.iload_n 1, 0, 0, .null), (.iaload, 0, 0, .null)] (L := [some (.ref 3), some (.int (p1))]) (st := []) (L' := [some (.ref 3), some (.int (p1))]) (st' := [.int (g 8 (Int32.toNatClampNeg p1))]) (g' := g) (w' := w) (cl := [am_in p1 6]) (by decide +kernel) rfl ⟨hg2, trivial⟩ ?_
    refine am_goto C0 (off := 5) (tgt := 19) (by decide +kernel) ?_
    cases hf
    exact am_iret C0 (by decide +kernel)
/-! ShutterTown.isState(I)Z at () -/
def f_X7_isState (p0 : Int32) : Option (Int32) :=
  if p0 < 0 then
    some ((0 : Int32))
  else
    if (4 : Int32) ≤ p0 then
      some ((0 : Int32))
    else
      some ((1 : Int32))
set_option maxRecDepth 20000 in
theorem M_X7_isState (l : Launch) (g : am_G) (w : am_J) (p0 : Int32) (R : Int32) (hf : f_X7_isState p0 = some R) : am_Met l mi_X7_isState rm_X7_isState [.int p0] am_YY g w (some (.int R)) am_YY g w := by
  refine am_met (own := 7) [some (.int (p0))] (by decide) rfl rfl (by first | decide | exact Nat.le_of_ble_eq_true rfl) (fun x C0 hR hl hnm => ?_)
  unfold f_X7_isState at hf
  refine am_b1 C0 am_YYk (pc := 0) (pc2 := 1) [(.iload_n 0, 0, 0, .null)] (L := [some (.int (p0))]) (st := []) (L' := [some (.int (p0))]) (st' := [.int (p0)]) (g' := g) (w' := w) (cl := []) (by decide +kernel) rfl trivial ?_
  refine am_if_lt C0 (off := 12) (tgt := 13) (by decide +kernel) (fun hc2 => ?_) (fun hc2 => ?_)
  · rw [if_pos hc2] at hf
    refine am_b1 C0 am_YYk (pc := 13) (pc2 := 14) [(.iconst 0, 0, 0, .int 0)] (L := [some (.int (p0))]) (st := []) (L' := [some (.int (p0))]) (st' := [.int ((0 : Int32))]) (g' := g) (w' := w) (cl := []) (by decide +kernel) rfl trivial ?_
    cases hf
    exact am_zret C0 (by decide +kernel) (Or.inl rfl)
  · rw [if_neg hc2] at hf
    refine am_b1 C0 am_YYk (pc := 4) (pc2 := 6) [(.iload_n 0, 0, 0, .null), (.iconst 4, 0, 0, .int 4)] (L := [some (.int (p0))]) (st := []) (L' := [some (.int (p0))]) (st' := [.int ((4 : Int32)), .int (p0)]) (g' := g) (w' := w) (cl := []) (by decide +kernel) rfl trivial ?_
    refine am_icmp_ge C0 (off := 7) (tgt := 13) (by decide +kernel) (fun hc1 => ?_) (fun hc1 => ?_)
    · rw [if_pos hc1] at hf
      refine am_b1 C0 am_YYk (pc := 13) (pc2 := 14) [(.iconst 0, 0, 0, .int 0)] (L := [some (.int (p0))]) (st := []) (L' := [some (.int (p0))]) (st' := [.int ((0 : Int32))]) (g' := g) (w' := w) (cl := []) (by decide +kernel) rfl trivial ?_
      cases hf
      exact am_zret C0 (by decide +kernel) (Or.inl rfl)
    · rw [if_neg hc1] at hf
      refine am_b1 C0 am_YYk (pc := 9) (pc2 := 10) [(.iconst 1, 0, 0, .int 1)] (L := [some (.int (p0))]) (st := []) (L' := [some (.int (p0))]) (st' := [.int ((1 : Int32))]) (g' := g) (w' := w) (cl := []) (by decide +kernel) rfl trivial ?_
      refine am_goto C0 (off := 4) (tgt := 14) (by decide +kernel) ?_
      cases hf
      exact am_zret C0 (by decide +kernel) (Or.inr rfl)
/-! ShutterTown$Houses.wordOf(I)I at (3,) -/
def f_X2_wordOf (g : am_G) (p1 : Int32) : Option (Int32) :=
  (f_X7_isState p1).bind fun q1 =>
    if q1 = 0 then
      some ((-9 : Int32))
    else
      if am_in p1 4 then
        some (g 4 (Int32.toNatClampNeg p1))
      else none
set_option maxRecDepth 20000 in
theorem M_X2_wordOf (l : Launch) (g : am_G) (w : am_J) (p1 : Int32) (R : Int32) (hf : f_X2_wordOf g p1 = some R) : am_Met l mi_X2_wordOf rm_X2_wordOf [.ref 3, .int p1] am_YY g w (some (.int R)) am_YY g w := by
  refine am_met (own := 2) [some (.ref 3), some (.int (p1))] (by decide) rfl rfl (by first | decide | exact Nat.le_of_ble_eq_true rfl) (fun x C0 hR hl hnm => ?_)
  unfold f_X2_wordOf at hf
  refine am_b1 C0 am_YYk (pc := 0) (pc2 := 1) [(.iload_n 1, 0, 0, .null)] (L := [some (.ref 3), some (.int (p1))]) (st := []) (L' := [some (.ref 3), some (.int (p1))]) (st' := [.int (p1)]) (g' := g) (w' := w) (cl := []) (by decide +kernel) rfl trivial ?_
  obtain ⟨q1, hq1, hf⟩ := Option.bind_eq_some_iff.mp hf
  refine am_callSN (mi := mi_X7_isState) (rm := rm_X7_isState) [.int (p1)] C0.1 cv_2_69 (M_X7_isState _ g w p1 _ hq1) (by rw [hR]; rfl) rfl rfl (Nat.le_of_ble_eq_true rfl) (by decide +kernel) ?_
  refine am_if_eq C0 (off := 12) (tgt := 16) (by decide +kernel) (fun hc3 => ?_) (fun hc3 => ?_)
  · rw [if_pos hc3] at hf
    refine am_b1 C0 am_YYk (pc := 16) (pc2 := 18) [(.bipush (-9), 0, 0, .int (-9))] (L := [some (.ref 3), some (.int (p1))]) (st := []) (L' := [some (.ref 3), some (.int (p1))]) (st' := [.int ((-9 : Int32))]) (g' := g) (w' := w) (cl := []) (by decide +kernel) rfl trivial ?_
    cases hf
    exact am_iret C0 (by decide +kernel)
  · rw [if_neg hc3] at hf
    obtain ⟨hg2, hf⟩ := am_g hf
    refine am_b1 C0 am_YYk (pc := 7) (pc2 := 13) [(.aload_n 0, 0, 0, .null), (.getfield 9, 2, 0, .null), (.iload_n 1, 0, 0, .null), (.iaload, 0, 0, .null)] (L := [some (.ref 3), some (.int (p1))]) (st := []) (L' := [some (.ref 3), some (.int (p1))]) (st' := [.int (g 4 (Int32.toNatClampNeg p1))]) (g' := g) (w' := w) (cl := [am_in p1 4]) (by decide +kernel) rfl ⟨hg2, trivial⟩ ?_
    refine am_goto C0 (off := 5) (tgt := 18) (by decide +kernel) ?_
    cases hf
    exact am_iret C0 (by decide +kernel)
/-! ShutterTown$Shutters.word(I)I at (10,) -/
def f_X4_word_10 (g : am_G) (p1 : Int32) : Option (Int32) :=
  (f_X4_state_10 g p1).bind fun q1 =>
    (f_X2_wordOf g q1).bind fun q2 =>
      some (q2)
set_option maxRecDepth 20000 in
theorem M_X4_word_10 (l : Launch) (g : am_G) (w : am_J) (p1 : Int32) (R : Int32) (hf : f_X4_word_10 g p1 = some R) : am_Met l mi_X4_word rm_X4_word [.ref 10, .int p1] am_YY g w (some (.int R)) am_YY g w := by
  refine am_met (own := 4) [some (.ref 10), some (.int (p1))] (by decide) rfl rfl (by first | decide | exact Nat.le_of_ble_eq_true rfl) (fun x C0 hR hl hnm => ?_)
  unfold f_X4_word_10 at hf
  refine am_b1 C0 am_YYk (pc := 0) (pc2 := 6) [(.aload_n 0, 0, 0, .null), (.getfield 18, 4, 0, .null), (.aload_n 0, 0, 0, .null), (.iload_n 1, 0, 0, .null)] (L := [some (.ref 10), some (.int (p1))]) (st := []) (L' := [some (.ref 10), some (.int (p1))]) (st' := [.int (p1), .ref 10, .ref 3]) (g' := g) (w' := w) (cl := []) (by decide +kernel) rfl trivial ?_
  obtain ⟨q1, hq1, hf⟩ := Option.bind_eq_some_iff.mp hf
  refine am_callV (mi := mi_X4_state) (rm := rm_X4_state) [.int (p1)] C0.1 am_YYl cv_4_48 (M_X4_state_10 _ g w p1 _ hq1) (ci := 4) rfl (by decide) rfl (by rw [hR]; rfl) rfl rfl (Nat.le_of_ble_eq_true rfl) (by decide +kernel) ?_
  obtain ⟨q2, hq2, hf⟩ := Option.bind_eq_some_iff.mp hf
  refine am_callV (mi := mi_X2_wordOf) (rm := rm_X2_wordOf) [.int (q1)] C0.1 am_YYl cv_4_51 (M_X2_wordOf _ g w q1 _ hq2) (ci := 2) rfl (by decide) rfl (by rw [hR]; rfl) rfl rfl (Nat.le_of_ble_eq_true rfl) (by decide +kernel) ?_
  cases hf
  exact am_iret C0 (by decide +kernel)
/-! ShutterTown$Houses.sees(I)I at (3,) -/
def f_X2_sees (g : am_G) (p1 : Int32) : Option (Int32) :=
  (f_X2_has g p1).bind fun q1 =>
    if q1 = 0 then
      some ((0 : Int32))
    else
      if am_in p1 6 then
        some (g 9 (Int32.toNatClampNeg p1))
      else none
set_option maxRecDepth 20000 in
theorem M_X2_sees (l : Launch) (g : am_G) (w : am_J) (p1 : Int32) (R : Int32) (hf : f_X2_sees g p1 = some R) : am_Met l mi_X2_sees rm_X2_sees [.ref 3, .int p1] am_YY g w (some (.int R)) am_YY g w := by
  refine am_met (own := 2) [some (.ref 3), some (.int (p1))] (by decide) rfl rfl (by first | decide | exact Nat.le_of_ble_eq_true rfl) (fun x C0 hR hl hnm => ?_)
  unfold f_X2_sees at hf
  refine am_b1 C0 am_YYk (pc := 0) (pc2 := 2) [(.aload_n 0, 0, 0, .null), (.iload_n 1, 0, 0, .null)] (L := [some (.ref 3), some (.int (p1))]) (st := []) (L' := [some (.ref 3), some (.int (p1))]) (st' := [.int (p1), .ref 3]) (g' := g) (w' := w) (cl := []) (by decide +kernel) rfl trivial ?_
  obtain ⟨q1, hq1, hf⟩ := Option.bind_eq_some_iff.mp hf
  refine am_callV (mi := mi_X2_has) (rm := rm_X2_has) [.int (p1)] C0.1 am_YYl cv_2_59 (M_X2_has _ g w p1 _ hq1) (ci := 2) rfl (by decide) rfl (by rw [hR]; rfl) rfl rfl (Nat.le_of_ble_eq_true rfl) (by decide +kernel) ?_
  refine am_if_eq C0 (off := 12) (tgt := 17) (by decide +kernel) (fun hc3 => ?_) (fun hc3 => ?_)
  · rw [if_pos hc3] at hf
    refine am_b1 C0 am_YYk (pc := 17) (pc2 := 18) [(.iconst 0, 0, 0, .int 0)] (L := [some (.ref 3), some (.int (p1))]) (st := []) (L' := [some (.ref 3), some (.int (p1))]) (st' := [.int ((0 : Int32))]) (g' := g) (w' := w) (cl := []) (by decide +kernel) rfl trivial ?_
    cases hf
    exact am_iret C0 (by decide +kernel)
  · rw [if_neg hc3] at hf
    obtain ⟨hg2, hf⟩ := am_g hf
    refine am_b1 C0 am_YYk (pc := 8) (pc2 := 14) [(.aload_n 0, 0, 0, .null), (.getfield 27, 2, 5, .null), (.iload_n 1, 0, 0, .null), (.iaload, 0, 0, .null)] (L := [some (.ref 3), some (.int (p1))]) (st := []) (L' := [some (.ref 3), some (.int (p1))]) (st' := [.int (g 9 (Int32.toNatClampNeg p1))]) (g' := g) (w' := w) (cl := [am_in p1 6]) (by decide +kernel) rfl ⟨hg2, trivial⟩ ?_
    refine am_goto C0 (off := 4) (tgt := 18) (by decide +kernel) ?_
    cases hf
    exact am_iret C0 (by decide +kernel)
/-! ShutterTown$Shutters.due(I)I at (10,) -/
def f_X4_due (g : am_G) (p1 : Int32) : Option (Int32) :=
  (f_X2_has g p1).bind fun q1 =>
    if q1 = 0 then
      some ((-9 : Int32))
    else
      if am_in p1 6 then
        some (g 12 (Int32.toNatClampNeg p1))
      else none
set_option maxRecDepth 20000 in
theorem M_X4_due (l : Launch) (g : am_G) (w : am_J) (p1 : Int32) (R : Int32) (hf : f_X4_due g p1 = some R) : am_Met l mi_X4_due rm_X4_due [.ref 10, .int p1] am_YY g w (some (.int R)) am_YY g w := by
  refine am_met (own := 4) [some (.ref 10), some (.int (p1))] (by decide) rfl rfl (by first | decide | exact Nat.le_of_ble_eq_true rfl) (fun x C0 hR hl hnm => ?_)
  unfold f_X4_due at hf
  refine am_b1 C0 am_YYk (pc := 0) (pc2 := 5) [(.aload_n 0, 0, 0, .null), (.getfield 18, 4, 0, .null), (.iload_n 1, 0, 0, .null)] (L := [some (.ref 10), some (.int (p1))]) (st := []) (L' := [some (.ref 10), some (.int (p1))]) (st' := [.int (p1), .ref 3]) (g' := g) (w' := w) (cl := []) (by decide +kernel) rfl trivial ?_
  obtain ⟨q1, hq1, hf⟩ := Option.bind_eq_some_iff.mp hf
  refine am_callV (mi := mi_X2_has) (rm := rm_X2_has) [.int (p1)] C0.1 am_YYl cv_4_44 (M_X2_has _ g w p1 _ hq1) (ci := 2) rfl (by decide) rfl (by rw [hR]; rfl) rfl rfl (Nat.le_of_ble_eq_true rfl) (by decide +kernel) ?_
  refine am_if_eq C0 (off := 12) (tgt := 20) (by decide +kernel) (fun hc3 => ?_) (fun hc3 => ?_)
  · rw [if_pos hc3] at hf
    refine am_b1 C0 am_YYk (pc := 20) (pc2 := 22) [(.bipush (-9), 0, 0, .int (-9))] (L := [some (.ref 10), some (.int (p1))]) (st := []) (L' := [some (.ref 10), some (.int (p1))]) (st' := [.int ((-9 : Int32))]) (g' := g) (w' := w) (cl := []) (by decide +kernel) rfl trivial ?_
    cases hf
    exact am_iret C0 (by decide +kernel)
  · rw [if_neg hc3] at hf
    obtain ⟨hg2, hf⟩ := am_g hf
    refine am_b1 C0 am_YYk (pc := 11) (pc2 := 17) [(.aload_n 0, 0, 0, .null), (.getfield 15, 4, 2, .null), (.iload_n 1, 0, 0, .null), (.iaload, 0, 0, .null)] (L := [some (.ref 10), some (.int (p1))]) (st := []) (L' := [some (.ref 10), some (.int (p1))]) (st' := [.int (g 12 (Int32.toNatClampNeg p1))]) (g' := g) (w' := w) (cl := [am_in p1 6]) (by decide +kernel) rfl ⟨hg2, trivial⟩ ?_
    refine am_goto C0 (off := 5) (tgt := 22) (by decide +kernel) ?_
    cases hf
    exact am_iret C0 (by decide +kernel)
/-! ShutterTown.window(II)I at (0,) -/
def f_X7_window (g : am_G) (p1 : Int32) (p2 : Int32) : Option (Int32) :=
  (f_X2_has g p1).bind fun q1 =>
    if q1 = 0 then
      some ((-1 : Int32))
    else
      if p2 = (0 : Int32) then
        (f_X2_place g p1).bind fun q2 =>
          some (q2)
      else
      if p2 = (1 : Int32) then
        (f_X2_side g p1).bind fun q3 =>
          some (q3)
      else
      if p2 = (2 : Int32) then
        (f_X2_floor g p1).bind fun q4 =>
          some (q4)
      else
      if p2 = (3 : Int32) then
        (f_X4_state_10 g p1).bind fun q5 =>
          some (q5)
      else
      if p2 = (4 : Int32) then
        (f_X2_kind g p1).bind fun q6 =>
          some (q6)
      else
      if p2 = (5 : Int32) then
        (f_X4_word_10 g p1).bind fun q7 =>
          some (q7)
      else
      if p2 = (6 : Int32) then
        (f_X2_sees g p1).bind fun q8 =>
          some (q8)
      else
      if p2 = (7 : Int32) then
        (f_X4_due g p1).bind fun q9 =>
          some (q9)
      else
      some ((-2 : Int32))
set_option maxRecDepth 20000 in
theorem M_X7_window (l : Launch) (g : am_G) (w : am_J) (p1 : Int32) (p2 : Int32) (R : Int32) (hf : f_X7_window g p1 p2 = some R) : am_Met l mi_X7_window rm_X7_window [.ref 0, .int p1, .int p2] am_YY g w (some (.int R)) am_YY g w := by
  refine am_met (own := 7) [some (.ref 0), some (.int (p1)), some (.int (p2))] (by decide) rfl rfl (by first | decide | exact Nat.le_of_ble_eq_true rfl) (fun x C0 hR hl hnm => ?_)
  unfold f_X7_window at hf
  refine am_b1 C0 am_YYk (pc := 0) (pc2 := 5) [(.aload_n 0, 0, 0, .null), (.getfield 19, 7, 1, .null), (.iload_n 1, 0, 0, .null)] (L := [some (.ref 0), some (.int (p1)), some (.int (p2))]) (st := []) (L' := [some (.ref 0), some (.int (p1)), some (.int (p2))]) (st' := [.int (p1), .ref 3]) (g' := g) (w' := w) (cl := []) (by decide +kernel) rfl trivial ?_
  obtain ⟨q1, hq1, hf⟩ := Option.bind_eq_some_iff.mp hf
  refine am_callV (mi := mi_X2_has) (rm := rm_X2_has) [.int (p1)] C0.1 am_YYl cv_7_96 (M_X2_has _ g w p1 _ hq1) (ci := 2) rfl (by decide) rfl (by rw [hR]; rfl) rfl rfl (Nat.le_of_ble_eq_true rfl) (by decide +kernel) ?_
  refine am_if_ne C0 (off := 5) (tgt := 13) (by decide +kernel) (fun hc18 => ?_) (fun hc18 => ?_)
  · rw [if_neg hc18] at hf
    refine am_b1 C0 am_YYk (pc := 13) (pc2 := 14) [(.iload_n 2, 0, 0, .null)] (L := [some (.ref 0), some (.int (p1)), some (.int (p2))]) (st := []) (L' := [some (.ref 0), some (.int (p1)), some (.int (p2))]) (st' := [.int (p2)]) (g' := g) (w' := w) (cl := []) (by decide +kernel) rfl trivial ?_
    by_cases hs10 : p2 = (0 : Int32)
    · rw [if_pos hs10] at hf
      refine am_swIn C0 (n := 46) (dflt := 118) (lo := 0) (hi := 7) (offs := #[46, 55, 64, 73, 82, 91, 100, 109]) (by decide +kernel) (off := 46) (tgt := 60) (by rw [hs10]; decide) (by rw [hs10]; decide) (by rw [hs10]; rfl) (by decide) ?_
      refine am_b1 C0 am_YYk (pc := 60) (pc2 := 65) [(.aload_n 0, 0, 0, .null), (.getfield 19, 7, 1, .null), (.iload_n 1, 0, 0, .null)] (L := [some (.ref 0), some (.int (p1)), some (.int (p2))]) (st := []) (L' := [some (.ref 0), some (.int (p1)), some (.int (p2))]) (st' := [.int (p1), .ref 3]) (g' := g) (w' := w) (cl := []) (by decide +kernel) rfl trivial ?_
      obtain ⟨q2, hq2, hf⟩ := Option.bind_eq_some_iff.mp hf
      refine am_callV (mi := mi_X2_place) (rm := rm_X2_place) [.int (p1)] C0.1 am_YYl cv_7_99 (M_X2_place _ g w p1 _ hq2) (ci := 2) rfl (by decide) rfl (by rw [hR]; rfl) rfl rfl (Nat.le_of_ble_eq_true rfl) (by decide +kernel) ?_
      cases hf
      exact am_iret C0 (by decide +kernel)
    rw [if_neg hs10] at hf
    by_cases hs11 : p2 = (1 : Int32)
    · rw [if_pos hs11] at hf
      refine am_swIn C0 (n := 46) (dflt := 118) (lo := 0) (hi := 7) (offs := #[46, 55, 64, 73, 82, 91, 100, 109]) (by decide +kernel) (off := 55) (tgt := 69) (by rw [hs11]; decide) (by rw [hs11]; decide) (by rw [hs11]; rfl) (by decide) ?_
      refine am_b1 C0 am_YYk (pc := 69) (pc2 := 74) [(.aload_n 0, 0, 0, .null), (.getfield 19, 7, 1, .null), (.iload_n 1, 0, 0, .null)] (L := [some (.ref 0), some (.int (p1)), some (.int (p2))]) (st := []) (L' := [some (.ref 0), some (.int (p1)), some (.int (p2))]) (st' := [.int (p1), .ref 3]) (g' := g) (w' := w) (cl := []) (by decide +kernel) rfl trivial ?_
      obtain ⟨q3, hq3, hf⟩ := Option.bind_eq_some_iff.mp hf
      refine am_callV (mi := mi_X2_side) (rm := rm_X2_side) [.int (p1)] C0.1 am_YYl cv_7_103 (M_X2_side _ g w p1 _ hq3) (ci := 2) rfl (by decide) rfl (by rw [hR]; rfl) rfl rfl (Nat.le_of_ble_eq_true rfl) (by decide +kernel) ?_
      cases hf
      exact am_iret C0 (by decide +kernel)
    rw [if_neg hs11] at hf
    by_cases hs12 : p2 = (2 : Int32)
    · rw [if_pos hs12] at hf
      refine am_swIn C0 (n := 46) (dflt := 118) (lo := 0) (hi := 7) (offs := #[46, 55, 64, 73, 82, 91, 100, 109]) (by decide +kernel) (off := 64) (tgt := 78) (by rw [hs12]; decide) (by rw [hs12]; decide) (by rw [hs12]; rfl) (by decide) ?_
      refine am_b1 C0 am_YYk (pc := 78) (pc2 := 83) [(.aload_n 0, 0, 0, .null), (.getfield 19, 7, 1, .null), (.iload_n 1, 0, 0, .null)] (L := [some (.ref 0), some (.int (p1)), some (.int (p2))]) (st := []) (L' := [some (.ref 0), some (.int (p1)), some (.int (p2))]) (st' := [.int (p1), .ref 3]) (g' := g) (w' := w) (cl := []) (by decide +kernel) rfl trivial ?_
      obtain ⟨q4, hq4, hf⟩ := Option.bind_eq_some_iff.mp hf
      refine am_callV (mi := mi_X2_floor) (rm := rm_X2_floor) [.int (p1)] C0.1 am_YYl cv_7_106 (M_X2_floor _ g w p1 _ hq4) (ci := 2) rfl (by decide) rfl (by rw [hR]; rfl) rfl rfl (Nat.le_of_ble_eq_true rfl) (by decide +kernel) ?_
      cases hf
      exact am_iret C0 (by decide +kernel)
    rw [if_neg hs12] at hf
    by_cases hs13 : p2 = (3 : Int32)
    · rw [if_pos hs13] at hf
      refine am_swIn C0 (n := 46) (dflt := 118) (lo := 0) (hi := 7) (offs := #[46, 55, 64, 73, 82, 91, 100, 109]) (by decide +kernel) (off := 73) (tgt := 87) (by rw [hs13]; decide) (by rw [hs13]; decide) (by rw [hs13]; rfl) (by decide) ?_
      refine am_b1 C0 am_YYk (pc := 87) (pc2 := 92) [(.aload_n 0, 0, 0, .null), (.getfield 28, 7, 2, .null), (.iload_n 1, 0, 0, .null)] (L := [some (.ref 0), some (.int (p1)), some (.int (p2))]) (st := []) (L' := [some (.ref 0), some (.int (p1)), some (.int (p2))]) (st' := [.int (p1), .ref 10]) (g' := g) (w' := w) (cl := []) (by decide +kernel) rfl trivial ?_
      obtain ⟨q5, hq5, hf⟩ := Option.bind_eq_some_iff.mp hf
      refine am_callV (mi := mi_X4_state) (rm := rm_X4_state) [.int (p1)] C0.1 am_YYl cv_7_109 (M_X4_state_10 _ g w p1 _ hq5) (ci := 4) rfl (by decide) rfl (by rw [hR]; rfl) rfl rfl (Nat.le_of_ble_eq_true rfl) (by decide +kernel) ?_
      cases hf
      exact am_iret C0 (by decide +kernel)
    rw [if_neg hs13] at hf
    by_cases hs14 : p2 = (4 : Int32)
    · rw [if_pos hs14] at hf
      refine am_swIn C0 (n := 46) (dflt := 118) (lo := 0) (hi := 7) (offs := #[46, 55, 64, 73, 82, 91, 100, 109]) (by decide +kernel) (off := 82) (tgt := 96) (by rw [hs14]; decide) (by rw [hs14]; decide) (by rw [hs14]; rfl) (by decide) ?_
      refine am_b1 C0 am_YYk (pc := 96) (pc2 := 101) [(.aload_n 0, 0, 0, .null), (.getfield 19, 7, 1, .null), (.iload_n 1, 0, 0, .null)] (L := [some (.ref 0), some (.int (p1)), some (.int (p2))]) (st := []) (L' := [some (.ref 0), some (.int (p1)), some (.int (p2))]) (st' := [.int (p1), .ref 3]) (g' := g) (w' := w) (cl := []) (by decide +kernel) rfl trivial ?_
      obtain ⟨q6, hq6, hf⟩ := Option.bind_eq_some_iff.mp hf
      refine am_callV (mi := mi_X2_kind) (rm := rm_X2_kind) [.int (p1)] C0.1 am_YYl cv_7_112 (M_X2_kind _ g w p1 _ hq6) (ci := 2) rfl (by decide) rfl (by rw [hR]; rfl) rfl rfl (Nat.le_of_ble_eq_true rfl) (by decide +kernel) ?_
      cases hf
      exact am_iret C0 (by decide +kernel)
    rw [if_neg hs14] at hf
    by_cases hs15 : p2 = (5 : Int32)
    · rw [if_pos hs15] at hf
      refine am_swIn C0 (n := 46) (dflt := 118) (lo := 0) (hi := 7) (offs := #[46, 55, 64, 73, 82, 91, 100, 109]) (by decide +kernel) (off := 91) (tgt := 105) (by rw [hs15]; decide) (by rw [hs15]; decide) (by rw [hs15]; rfl) (by decide) ?_
      refine am_b1 C0 am_YYk (pc := 105) (pc2 := 110) [(.aload_n 0, 0, 0, .null), (.getfield 28, 7, 2, .null), (.iload_n 1, 0, 0, .null)] (L := [some (.ref 0), some (.int (p1)), some (.int (p2))]) (st := []) (L' := [some (.ref 0), some (.int (p1)), some (.int (p2))]) (st' := [.int (p1), .ref 10]) (g' := g) (w' := w) (cl := []) (by decide +kernel) rfl trivial ?_
      obtain ⟨q7, hq7, hf⟩ := Option.bind_eq_some_iff.mp hf
      refine am_callV (mi := mi_X4_word) (rm := rm_X4_word) [.int (p1)] C0.1 am_YYl cv_7_115 (M_X4_word_10 _ g w p1 _ hq7) (ci := 4) rfl (by decide) rfl (by rw [hR]; rfl) rfl rfl (Nat.le_of_ble_eq_true rfl) (by decide +kernel) ?_
      cases hf
      exact am_iret C0 (by decide +kernel)
    rw [if_neg hs15] at hf
    by_cases hs16 : p2 = (6 : Int32)
    · rw [if_pos hs16] at hf
      refine am_swIn C0 (n := 46) (dflt := 118) (lo := 0) (hi := 7) (offs := #[46, 55, 64, 73, 82, 91, 100, 109]) (by decide +kernel) (off := 100) (tgt := 114) (by rw [hs16]; decide) (by rw [hs16]; decide) (by rw [hs16]; rfl) (by decide) ?_
      refine am_b1 C0 am_YYk (pc := 114) (pc2 := 119) [(.aload_n 0, 0, 0, .null), (.getfield 19, 7, 1, .null), (.iload_n 1, 0, 0, .null)] (L := [some (.ref 0), some (.int (p1)), some (.int (p2))]) (st := []) (L' := [some (.ref 0), some (.int (p1)), some (.int (p2))]) (st' := [.int (p1), .ref 3]) (g' := g) (w' := w) (cl := []) (by decide +kernel) rfl trivial ?_
      obtain ⟨q8, hq8, hf⟩ := Option.bind_eq_some_iff.mp hf
      refine am_callV (mi := mi_X2_sees) (rm := rm_X2_sees) [.int (p1)] C0.1 am_YYl cv_7_118 (M_X2_sees _ g w p1 _ hq8) (ci := 2) rfl (by decide) rfl (by rw [hR]; rfl) rfl rfl (Nat.le_of_ble_eq_true rfl) (by decide +kernel) ?_
      cases hf
      exact am_iret C0 (by decide +kernel)
    rw [if_neg hs16] at hf
    by_cases hs17 : p2 = (7 : Int32)
    · rw [if_pos hs17] at hf
      refine am_swIn C0 (n := 46) (dflt := 118) (lo := 0) (hi := 7) (offs := #[46, 55, 64, 73, 82, 91, 100, 109]) (by decide +kernel) (off := 109) (tgt := 123) (by rw [hs17]; decide) (by rw [hs17]; decide) (by rw [hs17]; rfl) (by decide) ?_
      refine am_b1 C0 am_YYk (pc := 123) (pc2 := 128) [(.aload_n 0, 0, 0, .null), (.getfield 28, 7, 2, .null), (.iload_n 1, 0, 0, .null)] (L := [some (.ref 0), some (.int (p1)), some (.int (p2))]) (st := []) (L' := [some (.ref 0), some (.int (p1)), some (.int (p2))]) (st' := [.int (p1), .ref 10]) (g' := g) (w' := w) (cl := []) (by decide +kernel) rfl trivial ?_
      obtain ⟨q9, hq9, hf⟩ := Option.bind_eq_some_iff.mp hf
      refine am_callV (mi := mi_X4_due) (rm := rm_X4_due) [.int (p1)] C0.1 am_YYl cv_7_121 (M_X4_due _ g w p1 _ hq9) (ci := 4) rfl (by decide) rfl (by rw [hR]; rfl) rfl rfl (Nat.le_of_ble_eq_true rfl) (by decide +kernel) ?_
      cases hf
      exact am_iret C0 (by decide +kernel)
    rw [if_neg hs17] at hf
    refine am_swOut C0 (n := 46) (dflt := 118) (lo := 0) (hi := 7) (offs := #[46, 55, 64, 73, 82, 91, 100, 109]) (by decide +kernel) (tgt := 132) (am_sw7 hs10 hs11 hs12 hs13 hs14 hs15 hs16 hs17) (by decide) ?_
    refine am_b1 C0 am_YYk (pc := 132) (pc2 := 134) [(.bipush (-2), 0, 0, .int (-2))] (L := [some (.ref 0), some (.int (p1)), some (.int (p2))]) (st := []) (L' := [some (.ref 0), some (.int (p1)), some (.int (p2))]) (st' := [.int ((-2 : Int32))]) (g' := g) (w' := w) (cl := []) (by decide +kernel) rfl trivial ?_
    cases hf
    exact am_iret C0 (by decide +kernel)
  · rw [if_pos hc18] at hf
    refine am_b1 C0 am_YYk (pc := 11) (pc2 := 12) [(.iconst (-1), 0, 0, .int (-1))] (L := [some (.ref 0), some (.int (p1)), some (.int (p2))]) (st := []) (L' := [some (.ref 0), some (.int (p1)), some (.int (p2))]) (st' := [.int ((-1 : Int32))]) (g' := g) (w' := w) (cl := []) (by decide +kernel) rfl trivial ?_
    cases hf
    exact am_iret C0 (by decide +kernel)
/-! ShutterTown$Shutters.canShift(II)Z at (10,) -/
def f_X4_canShift_10 (g : am_G) (p1 : Int32) (p2 : Int32) : Option (Int32) :=
  (f_X2_has g p1).bind fun q1 =>
    if q1 = 0 then
      some ((0 : Int32))
    else
      (f_X7_isState p2).bind fun q2 =>
        if q2 = 0 then
          some ((0 : Int32))
        else
          (f_X2_kind g p1).bind fun q3 =>
            if q3 = (3 : Int32) then
              some ((0 : Int32))
            else
              if am_in p1 6 then
                if (g 11 (Int32.toNatClampNeg p1)) = p2 then
                  some ((0 : Int32))
                else
                  some ((1 : Int32))
              else none
set_option maxRecDepth 20000 in
theorem M_X4_canShift_10 (l : Launch) (g : am_G) (w : am_J) (p1 : Int32) (p2 : Int32) (R : Int32) (hf : f_X4_canShift_10 g p1 p2 = some R) : am_Met l mi_X4_canShift rm_X4_canShift [.ref 10, .int p1, .int p2] am_YY g w (some (.int R)) am_YY g w := by
  refine am_met (own := 4) [some (.ref 10), some (.int (p1)), some (.int (p2))] (by decide) rfl rfl (by first | decide | exact Nat.le_of_ble_eq_true rfl) (fun x C0 hR hl hnm => ?_)
  unfold f_X4_canShift_10 at hf
  refine am_b1 C0 am_YYk (pc := 0) (pc2 := 5) [(.aload_n 0, 0, 0, .null), (.getfield 18, 4, 0, .null), (.iload_n 1, 0, 0, .null)] (L := [some (.ref 10), some (.int (p1)), some (.int (p2))]) (st := []) (L' := [some (.ref 10), some (.int (p1)), some (.int (p2))]) (st' := [.int (p1), .ref 3]) (g' := g) (w' := w) (cl := []) (by decide +kernel) rfl trivial ?_
  obtain ⟨q1, hq1, hf⟩ := Option.bind_eq_some_iff.mp hf
  refine am_callV (mi := mi_X2_has) (rm := rm_X2_has) [.int (p1)] C0.1 am_YYl cv_4_44 (M_X2_has _ g w p1 _ hq1) (ci := 2) rfl (by decide) rfl (by rw [hR]; rfl) rfl rfl (Nat.le_of_ble_eq_true rfl) (by decide +kernel) ?_
  refine am_if_eq C0 (off := 36) (tgt := 44) (by decide +kernel) (fun hc8 => ?_) (fun hc8 => ?_)
  · rw [if_pos hc8] at hf
    refine am_b1 C0 am_YYk (pc := 44) (pc2 := 45) [(.iconst 0, 0, 0, .int 0)] (L := [some (.ref 10), some (.int (p1)), some (.int (p2))]) (st := []) (L' := [some (.ref 10), some (.int (p1)), some (.int (p2))]) (st' := [.int ((0 : Int32))]) (g' := g) (w' := w) (cl := []) (by decide +kernel) rfl trivial ?_
    cases hf
    exact am_zret C0 (by decide +kernel) (Or.inl rfl)
  · rw [if_neg hc8] at hf
    refine am_b1 C0 am_YYk (pc := 11) (pc2 := 12) [(.iload_n 2, 0, 0, .null)] (L := [some (.ref 10), some (.int (p1)), some (.int (p2))]) (st := []) (L' := [some (.ref 10), some (.int (p1)), some (.int (p2))]) (st' := [.int (p2)]) (g' := g) (w' := w) (cl := []) (by decide +kernel) rfl trivial ?_
    obtain ⟨q2, hq2, hf⟩ := Option.bind_eq_some_iff.mp hf
    refine am_callSN (mi := mi_X7_isState) (rm := rm_X7_isState) [.int (p2)] C0.1 cv_4_54 (M_X7_isState _ g w p2 _ hq2) (by rw [hR]; rfl) rfl rfl (Nat.le_of_ble_eq_true rfl) (by decide +kernel) ?_
    refine am_if_eq C0 (off := 29) (tgt := 44) (by decide +kernel) (fun hc7 => ?_) (fun hc7 => ?_)
    · rw [if_pos hc7] at hf
      refine am_b1 C0 am_YYk (pc := 44) (pc2 := 45) [(.iconst 0, 0, 0, .int 0)] (L := [some (.ref 10), some (.int (p1)), some (.int (p2))]) (st := []) (L' := [some (.ref 10), some (.int (p1)), some (.int (p2))]) (st' := [.int ((0 : Int32))]) (g' := g) (w' := w) (cl := []) (by decide +kernel) rfl trivial ?_
      cases hf
      exact am_zret C0 (by decide +kernel) (Or.inl rfl)
    · rw [if_neg hc7] at hf
      refine am_b1 C0 am_YYk (pc := 18) (pc2 := 23) [(.aload_n 0, 0, 0, .null), (.getfield 18, 4, 0, .null), (.iload_n 1, 0, 0, .null)] (L := [some (.ref 10), some (.int (p1)), some (.int (p2))]) (st := []) (L' := [some (.ref 10), some (.int (p1)), some (.int (p2))]) (st' := [.int (p1), .ref 3]) (g' := g) (w' := w) (cl := []) (by decide +kernel) rfl trivial ?_
      obtain ⟨q3, hq3, hf⟩ := Option.bind_eq_some_iff.mp hf
      refine am_callV (mi := mi_X2_kind) (rm := rm_X2_kind) [.int (p1)] C0.1 am_YYl cv_4_57 (M_X2_kind _ g w p1 _ hq3) (ci := 2) rfl (by decide) rfl (by rw [hR]; rfl) rfl rfl (Nat.le_of_ble_eq_true rfl) (by decide +kernel) ?_
      refine am_b1 C0 am_YYk (pc := 26) (pc2 := 27) [(.iconst 3, 0, 0, .int 3)] (L := [some (.ref 10), some (.int (p1)), some (.int (p2))]) (st := [.int (q3)]) (L' := [some (.ref 10), some (.int (p1)), some (.int (p2))]) (st' := [.int ((3 : Int32)), .int (q3)]) (g' := g) (w' := w) (cl := []) (by decide +kernel) rfl trivial ?_
      refine am_icmp_eq C0 (off := 17) (tgt := 44) (by decide +kernel) (fun hc6 => ?_) (fun hc6 => ?_)
      · rw [if_pos hc6] at hf
        refine am_b1 C0 am_YYk (pc := 44) (pc2 := 45) [(.iconst 0, 0, 0, .int 0)] (L := [some (.ref 10), some (.int (p1)), some (.int (p2))]) (st := []) (L' := [some (.ref 10), some (.int (p1)), some (.int (p2))]) (st' := [.int ((0 : Int32))]) (g' := g) (w' := w) (cl := []) (by decide +kernel) rfl trivial ?_
        cases hf
        exact am_zret C0 (by decide +kernel) (Or.inl rfl)
      · rw [if_neg hc6] at hf
        obtain ⟨hg4, hf⟩ := am_g hf
        refine am_b1 C0 am_YYk (pc := 30) (pc2 := 37) [(.aload_n 0, 0, 0, .null), (.getfield 9, 4, 1, .null), (.iload_n 1, 0, 0, .null), (.iaload, 0, 0, .null), (.iload_n 2, 0, 0, .null)] (L := [some (.ref 10), some (.int (p1)), some (.int (p2))]) (st := []) (L' := [some (.ref 10), some (.int (p1)), some (.int (p2))]) (st' := [.int (p2), .int (g 11 (Int32.toNatClampNeg p1))]) (g' := g) (w' := w) (cl := [am_in p1 6]) (by decide +kernel) rfl ⟨hg4, trivial⟩ ?_
        refine am_icmp_eq C0 (off := 7) (tgt := 44) (by decide +kernel) (fun hc5 => ?_) (fun hc5 => ?_)
        · rw [if_pos hc5] at hf
          refine am_b1 C0 am_YYk (pc := 44) (pc2 := 45) [(.iconst 0, 0, 0, .int 0)] (L := [some (.ref 10), some (.int (p1)), some (.int (p2))]) (st := []) (L' := [some (.ref 10), some (.int (p1)), some (.int (p2))]) (st' := [.int ((0 : Int32))]) (g' := g) (w' := w) (cl := []) (by decide +kernel) rfl trivial ?_
          cases hf
          exact am_zret C0 (by decide +kernel) (Or.inl rfl)
        · rw [if_neg hc5] at hf
          refine am_b1 C0 am_YYk (pc := 40) (pc2 := 41) [(.iconst 1, 0, 0, .int 1)] (L := [some (.ref 10), some (.int (p1)), some (.int (p2))]) (st := []) (L' := [some (.ref 10), some (.int (p1)), some (.int (p2))]) (st' := [.int ((1 : Int32))]) (g' := g) (w' := w) (cl := []) (by decide +kernel) rfl trivial ?_
          refine am_goto C0 (off := 4) (tgt := 45) (by decide +kernel) ?_
          cases hf
          exact am_zret C0 (by decide +kernel) (Or.inr rfl)
/-! ShutterTown$Acts.forgetFirst()V at (16,) -/
def f_X0_forgetFirst (g : am_G) : Option (am_G) :=
  some (am_u (am_cp g 17 17 (Int32.toNatClampNeg (13 : Int32)) (Int32.toNatClampNeg (0 : Int32)) (Int32.toNatClampNeg (169 : Int32))) 16 1 (13 : Int32))
set_option maxRecDepth 20000 in
theorem M_X0_forgetFirst (l : Launch) (g : am_G) (w : am_J)  (R : am_G) (hf : f_X0_forgetFirst g = some R) : am_Met l mi_X0_forgetFirst rm_X0_forgetFirst [.ref 16] am_YY g w none am_YY R w := by
  refine am_met (own := 0) [some (.ref 16)] (by decide) rfl rfl (by first | decide | exact Nat.le_of_ble_eq_true rfl) (fun x C0 hR hl hnm => ?_)
  unfold f_X0_forgetFirst at hf
  refine am_b1 C0 am_YYk (pc := 0) (pc2 := 14) [(.aload_n 0, 0, 0, .null), (.getfield 9, 0, 0, .null), (.bipush 13, 0, 0, .int 13), (.aload_n 0, 0, 0, .null), (.getfield 9, 0, 0, .null), (.iconst 0, 0, 0, .int 0), (.sipush 169, 0, 0, .int 169)] (L := [some (.ref 16)]) (st := []) (L' := [some (.ref 16)]) (st' := [.int ((169 : Int32)), .int ((0 : Int32)), .ref 17, .int ((13 : Int32)), .ref 17]) (g' := g) (w' := w) (cl := []) (by decide +kernel) rfl trivial ?_
  refine am_copy C0.1 am_YYl rfl rfl am_acw_0 (by decide) (by rw [hR]; decide) (Nat.le_of_ble_eq_true rfl) (by decide +kernel) ?_
  refine am_b1 C0 am_YYk (pc := 17) (pc2 := 23) [(.aload_n 0, 0, 0, .null), (.bipush 13, 0, 0, .int 13), (.putfield 15, 0, 1, .null)] (L := [some (.ref 16)]) (st := []) (L' := [some (.ref 16)]) (st' := []) (g' := am_u (am_cp g 17 17 (Int32.toNatClampNeg (13 : Int32)) (Int32.toNatClampNeg (0 : Int32)) (Int32.toNatClampNeg (169 : Int32))) 16 1 (13 : Int32)) (w' := w) (cl := []) (by decide +kernel) rfl trivial ?_
  cases hf
  exact am_vret C0 (by decide +kernel)
/-! ShutterTown$Shutters.store([II)V at (10, 17) -/
def f_X4_store_10_17 (g : am_G) (p2 : Int32) : Option (am_G) :=
  if p2 < 0 then
    some (g)
  else
    if p2 ≤ ((Int32.ofNat 182) - (13 : Int32)) then
      if (¬ (0 : Int32) < 0 ∧ ¬ p2 < 0) ∧ ¬ (6 : Int32) < 0 ∧ Int32.toNatClampNeg (0 : Int32) + Int32.toNatClampNeg (6 : Int32) ≤ 6 ∧ Int32.toNatClampNeg p2 + Int32.toNatClampNeg (6 : Int32) ≤ 182 then
        if (¬ (0 : Int32) < 0 ∧ ¬ (p2 + (6 : Int32)) < 0) ∧ ¬ (6 : Int32) < 0 ∧ Int32.toNatClampNeg (0 : Int32) + Int32.toNatClampNeg (6 : Int32) ≤ 6 ∧ Int32.toNatClampNeg (p2 + (6 : Int32)) + Int32.toNatClampNeg (6 : Int32) ≤ 182 then
          if am_in ((p2 + (13 : Int32)) - (1 : Int32)) 182 then
            some (am_u (am_cp (am_cp g 11 17 (Int32.toNatClampNeg (0 : Int32)) (Int32.toNatClampNeg p2) (Int32.toNatClampNeg (6 : Int32))) 12 17 (Int32.toNatClampNeg (0 : Int32)) (Int32.toNatClampNeg (p2 + (6 : Int32))) (Int32.toNatClampNeg (6 : Int32))) 17 (Int32.toNatClampNeg ((p2 + (13 : Int32)) - (1 : Int32))) ((am_cp (am_cp g 11 17 (Int32.toNatClampNeg (0 : Int32)) (Int32.toNatClampNeg p2) (Int32.toNatClampNeg (6 : Int32))) 12 17 (Int32.toNatClampNeg (0 : Int32)) (Int32.toNatClampNeg (p2 + (6 : Int32))) (Int32.toNatClampNeg (6 : Int32))) 10 3))
          else none
        else none
      else none
    else
      some (g)
set_option maxRecDepth 20000 in
theorem M_X4_store_10_17 (l : Launch) (g : am_G) (w : am_J) (p2 : Int32) (R : am_G) (hf : f_X4_store_10_17 g p2 = some R) : am_Met l mi_X4_store rm_X4_store [.ref 10, .ref 17, .int p2] am_YY g w none am_YY R w := by
  refine am_met (own := 4) [some (.ref 10), some (.ref 17), some (.int (p2))] (by decide) rfl rfl (by first | decide | exact Nat.le_of_ble_eq_true rfl) (fun x C0 hR hl hnm => ?_)
  unfold f_X4_store_10_17 at hf
  refine am_b1 C0 am_YYk (pc := 0) (pc2 := 1) [(.iload_n 2, 0, 0, .null)] (L := [some (.ref 10), some (.ref 17), some (.int (p2))]) (st := []) (L' := [some (.ref 10), some (.ref 17), some (.int (p2))]) (st' := [.int (p2)]) (g' := g) (w' := w) (cl := []) (by decide +kernel) rfl trivial ?_
  refine am_if_lt C0 (off := 12) (tgt := 13) (by decide +kernel) (fun hc5 => ?_) (fun hc5 => ?_)
  · rw [if_pos hc5] at hf
    cases hf
    exact am_vret C0 (by decide +kernel)
  · rw [if_neg hc5] at hf
    refine am_b1 C0 am_YYk (pc := 4) (pc2 := 10) [(.iload_n 2, 0, 0, .null), (.aload_n 1, 0, 0, .null), (.arraylength, 0, 0, .null), (.bipush 13, 0, 0, .int 13), (.isub, 0, 0, .null)] (L := [some (.ref 10), some (.ref 17), some (.int (p2))]) (st := []) (L' := [some (.ref 10), some (.ref 17), some (.int (p2))]) (st' := [.int ((Int32.ofNat 182) - (13 : Int32)), .int (p2)]) (g' := g) (w' := w) (cl := []) (by decide +kernel) rfl trivial ?_
    refine am_icmp_le C0 (off := 4) (tgt := 14) (by decide +kernel) (fun hc4 => ?_) (fun hc4 => ?_)
    · rw [if_pos hc4] at hf
      refine am_b1 C0 am_YYk (pc := 14) (pc2 := 23) [(.aload_n 0, 0, 0, .null), (.getfield 9, 4, 1, .null), (.iconst 0, 0, 0, .int 0), (.aload_n 1, 0, 0, .null), (.iload_n 2, 0, 0, .null), (.bipush 6, 0, 0, .int 6)] (L := [some (.ref 10), some (.ref 17), some (.int (p2))]) (st := []) (L' := [some (.ref 10), some (.ref 17), some (.int (p2))]) (st' := [.int ((6 : Int32)), .int (p2), .ref 17, .int ((0 : Int32)), .ref 11]) (g' := g) (w' := w) (cl := []) (by decide +kernel) rfl trivial ?_
      obtain ⟨hg1, hf⟩ := am_g hf
      refine am_copy C0.1 am_YYl rfl rfl am_acw_4 hg1 (by rw [hR]; decide) (Nat.le_of_ble_eq_true rfl) (by decide +kernel) ?_
      refine am_b1 C0 am_YYk (pc := 26) (pc2 := 38) [(.aload_n 0, 0, 0, .null), (.getfield 15, 4, 2, .null), (.iconst 0, 0, 0, .int 0), (.aload_n 1, 0, 0, .null), (.iload_n 2, 0, 0, .null), (.bipush 6, 0, 0, .int 6), (.iadd, 0, 0, .null), (.bipush 6, 0, 0, .int 6)] (L := [some (.ref 10), some (.ref 17), some (.int (p2))]) (st := []) (L' := [some (.ref 10), some (.ref 17), some (.int (p2))]) (st' := [.int ((6 : Int32)), .int (p2 + (6 : Int32)), .ref 17, .int ((0 : Int32)), .ref 12]) (g' := am_cp g 11 17 (Int32.toNatClampNeg (0 : Int32)) (Int32.toNatClampNeg p2) (Int32.toNatClampNeg (6 : Int32))) (w' := w) (cl := []) (by decide +kernel) rfl trivial ?_
      obtain ⟨hg2, hf⟩ := am_g hf
      refine am_copy C0.1 am_YYl rfl rfl am_acw_4 hg2 (by rw [hR]; decide) (Nat.le_of_ble_eq_true rfl) (by decide +kernel) ?_
      obtain ⟨hg3, hf⟩ := am_g hf
      refine am_b1 C0 am_YYk (pc := 41) (pc2 := 53) [(.aload_n 1, 0, 0, .null), (.iload_n 2, 0, 0, .null), (.bipush 13, 0, 0, .int 13), (.iadd, 0, 0, .null), (.iconst 1, 0, 0, .int 1), (.isub, 0, 0, .null), (.aload_n 0, 0, 0, .null), (.getfield 40, 4, 3, .null), (.iastore, 0, 0, .null)] (L := [some (.ref 10), some (.ref 17), some (.int (p2))]) (st := []) (L' := [some (.ref 10), some (.ref 17), some (.int (p2))]) (st' := []) (g' := am_u (am_cp (am_cp g 11 17 (Int32.toNatClampNeg (0 : Int32)) (Int32.toNatClampNeg p2) (Int32.toNatClampNeg (6 : Int32))) 12 17 (Int32.toNatClampNeg (0 : Int32)) (Int32.toNatClampNeg (p2 + (6 : Int32))) (Int32.toNatClampNeg (6 : Int32))) 17 (Int32.toNatClampNeg ((p2 + (13 : Int32)) - (1 : Int32))) ((am_cp (am_cp g 11 17 (Int32.toNatClampNeg (0 : Int32)) (Int32.toNatClampNeg p2) (Int32.toNatClampNeg (6 : Int32))) 12 17 (Int32.toNatClampNeg (0 : Int32)) (Int32.toNatClampNeg (p2 + (6 : Int32))) (Int32.toNatClampNeg (6 : Int32))) 10 3)) (w' := w) (cl := [am_in ((p2 + (13 : Int32)) - (1 : Int32)) 182]) (by decide +kernel) rfl ⟨hg3, trivial⟩ ?_
      cases hf
      exact am_vret C0 (by decide +kernel)
    · rw [if_neg hc4] at hf
      cases hf
      exact am_vret C0 (by decide +kernel)
/-! ShutterTown$Acts.remember(LShutterTown$Shutters;)V at (16, 10) -/
def f_X0_remember_13   (g : am_G) : Option (am_G) :=
  (f_X4_store_10_17 g ((g 16 1) * (13 : Int32))).bind fun q1 =>
    some (am_u q1 16 1 ((q1 16 1) + (1 : Int32)))
set_option maxRecDepth 20000 in
theorem B_X0_remember_13 (x : am_X) (C0 : am_Cm x 0 cX0_remember 2 none) (hR : am_R x = rm_X0_remember) (w : am_J)  (R : am_G)   (g : am_G) (hf : f_X0_remember_13 g = some R) : am_Ev x 2 (0, 0) (am_Q x (0, 0) none am_YY R w) 13 [some (.ref 16), some (.ref 10)] [] am_YY g w := by
  unfold f_X0_remember_13 at hf
  refine am_b1 C0 am_YYk (pc := 13) (pc2 := 25) [(.aload_n 1, 0, 0, .null), (.aload_n 0, 0, 0, .null), (.getfield 9, 0, 0, .null), (.aload_n 0, 0, 0, .null), (.getfield 15, 0, 1, .null), (.bipush 13, 0, 0, .int 13), (.imul, 0, 0, .null)] (L := [some (.ref 16), some (.ref 10)]) (st := []) (L' := [some (.ref 16), some (.ref 10)]) (st' := [.int ((g 16 1) * (13 : Int32)), .ref 17, .ref 10]) (g' := g) (w' := w) (cl := []) (by decide +kernel) rfl trivial ?_
  obtain ⟨q1, hq1, hf⟩ := Option.bind_eq_some_iff.mp hf
  refine am_callV (mi := mi_X4_store) (rm := rm_X4_store) [.ref 17, .int ((g 16 1) * (13 : Int32))] C0.1 am_YYl cv_0_22 (M_X4_store_10_17 _ g w ((g 16 1) * (13 : Int32)) _ hq1) (ci := 4) rfl (by decide) rfl (by rw [hR]; rfl) rfl rfl (Nat.le_of_ble_eq_true rfl) (by decide +kernel) ?_
  refine am_b1 C0 am_YYk (pc := 28) (pc2 := 38) [(.aload_n 0, 0, 0, .null), (.dup, 0, 0, .null), (.getfield 15, 0, 1, .null), (.iconst 1, 0, 0, .int 1), (.iadd, 0, 0, .null), (.putfield 15, 0, 1, .null)] (L := [some (.ref 16), some (.ref 10)]) (st := []) (L' := [some (.ref 16), some (.ref 10)]) (st' := []) (g' := am_u q1 16 1 ((q1 16 1) + (1 : Int32))) (w' := w) (cl := []) (by decide +kernel) rfl trivial ?_
  cases hf
  exact am_vret C0 (by decide +kernel)
def f_X0_remember (g : am_G) : Option (am_G) :=
  if (g 16 1) < (14 : Int32) then
    f_X0_remember_13 (g)
  else
    (f_X0_forgetFirst g).bind fun q2 =>
      f_X0_remember_13 (q2)
set_option maxRecDepth 20000 in
theorem M_X0_remember (l : Launch) (g : am_G) (w : am_J)  (R : am_G) (hf : f_X0_remember g = some R) : am_Met l mi_X0_remember rm_X0_remember [.ref 16, .ref 10] am_YY g w none am_YY R w := by
  refine am_met (own := 0) [some (.ref 16), some (.ref 10)] (by decide) rfl rfl (by first | decide | exact Nat.le_of_ble_eq_true rfl) (fun x C0 hR hl hnm => ?_)
  unfold f_X0_remember at hf
  refine am_b1 C0 am_YYk (pc := 0) (pc2 := 6) [(.aload_n 0, 0, 0, .null), (.getfield 15, 0, 1, .null), (.bipush 14, 0, 0, .int 14)] (L := [some (.ref 16), some (.ref 10)]) (st := []) (L' := [some (.ref 16), some (.ref 10)]) (st' := [.int ((14 : Int32)), .int (g 16 1)]) (g' := g) (w' := w) (cl := []) (by decide +kernel) rfl trivial ?_
  refine am_icmp_lt C0 (off := 7) (tgt := 13) (by decide +kernel) (fun hc3 => ?_) (fun hc3 => ?_)
  · rw [if_pos hc3] at hf
    exact B_X0_remember_13 x C0 hR w  R  (g) hf
  · rw [if_neg hc3] at hf
    refine am_b1 C0 am_YYk (pc := 9) (pc2 := 10) [(.aload_n 0, 0, 0, .null)] (L := [some (.ref 16), some (.ref 10)]) (st := []) (L' := [some (.ref 16), some (.ref 10)]) (st' := [.ref 16]) (g' := g) (w' := w) (cl := []) (by decide +kernel) rfl trivial ?_
    obtain ⟨q2, hq2, hf⟩ := Option.bind_eq_some_iff.mp hf
    refine am_callV (mi := mi_X0_forgetFirst) (rm := rm_X0_forgetFirst) [] C0.1 am_YYl cv_0_19 (M_X0_forgetFirst _ g w _ hq2) (ci := 0) rfl (by decide) rfl (by rw [hR]; rfl) rfl rfl (Nat.le_of_ble_eq_true rfl) (by decide +kernel) ?_
    exact B_X0_remember_13 x C0 hR w  R  (q2) hf
