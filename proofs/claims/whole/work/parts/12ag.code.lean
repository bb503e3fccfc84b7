/-! ShutterTown$Ways.hoursBetween(II[I)V at (20, 25) -/
def f_X6_hoursBetween_20_25_82 (F : Nat) (p1 : Int32) (p2 : Int32) (k41 : Int32 → Int32 → Int32 → am_G → am_J → Option (am_G × am_J)) (l4 : Int32) (l5 : Int32) (l6 : Int32) (l7 : Int32) (g : am_G) (w : am_J) : Option (am_G × am_J) :=
  (f_X6_hoursAt g l7).bind fun q1 =>
    k41 (l4 - q1) (l5 / (10 : Int32)) (l6 + (1 : Int32)) (g) (w)
set_option maxRecDepth 20000 in
theorem B_X6_hoursBetween_20_25_82 (x : am_X) (C0 : am_Cm x 6 cX6_hoursBetween 8 none) (hR : am_R x = rm_X6_hoursBetween) (F : Nat) (p1 : Int32) (p2 : Int32) (R : am_G × am_J) (k41 : Int32 → Int32 → Int32 → am_G → am_J → Option (am_G × am_J)) (hk41 : ∀ (l4 : Int32) (l5 : Int32) (l6 : Int32) (g : am_G) (w : am_J), k41 l4 l5 l6 g w = some R → am_Ev x 8 (0, 0) (am_Q x (0, 0) none am_YY (R.1) (R.2)) 41 [some (.ref 20), some (.int (p1)), some (.int (p2)), some (.ref 25), some (.int (l4)), some (.int (l5)), some (.int (l6)), none] [] am_YY g w) (l4 : Int32) (l5 : Int32) (l6 : Int32) (l7 : Int32) (g : am_G) (w : am_J) (hf : f_X6_hoursBetween_20_25_82 F p1 p2 k41 l4 l5 l6 l7 g w = some R) : am_Ev x 8 (0, 0) (am_Q x (0, 0) none am_YY (R.1) (R.2)) 82 [some (.ref 20), some (.int (p1)), some (.int (p2)), some (.ref 25), some (.int (l4)), some (.int (l5)), some (.int (l6)), some (.int (l7))] [] am_YY g w := by
  unfold f_X6_hoursBetween_20_25_82 at hf
  refine am_b1 C0 am_YYk (pc := 82) (pc2 := 87) [(.iload 4, 0, 0, .null), (.aload_n 0, 0, 0, .null), (.iload 7, 0, 0, .null)] (L := [some (.ref 20), some (.int (p1)), some (.int (p2)), some (.ref 25), some (.int (l4)), some (.int (l5)), some (.int (l6)), some (.int (l7))]) (st := []) (L' := [some (.ref 20), some (.int (p1)), some (.int (p2)), some (.ref 25), some (.int (l4)), some (.int (l5)), some (.int (l6)), some (.int (l7))]) (st' := [.int (l7), .ref 20, .int (l4)]) (g' := g) (w' := w) (cl := []) (by decide +kernel) rfl trivial ?_
  obtain ⟨q1, hq1, hf⟩ := Option.bind_eq_some_iff.mp hf
  refine am_callV (mi := mi_X6_hoursAt) (rm := rm_X6_hoursAt) [.int (l7)] C0.1 am_YYl cv_6_45 (M_X6_hoursAt _ g w l7 _ hq1) (ci := 6) rfl (by decide) rfl (by rw [hR]; rfl) rfl rfl (Nat.le_of_ble_eq_true rfl) (by decide +kernel) ?_
  refine am_b1 C0 am_YYk (pc := 90) (pc2 := 103) [(.isub, 0, 0, .null), (.istore 4, 0, 0, .null), (.iload 5, 0, 0, .null), (.bipush 10, 0, 0, .int 10), (.idiv, 0, 0, .null), (.istore 5, 0, 0, .null), (.iinc 6 1, 0, 0, .int 1)] (L := [some (.ref 20), some (.int (p1)), some (.int (p2)), some (.ref 25), some (.int (l4)), some (.int (l5)), some (.int (l6)), some (.int (l7))]) (st := [.int (q1), .int (l4)]) (L' := [some (.ref 20), some (.int (p1)), some (.int (p2)), some (.ref 25), some (.int (l4 - q1)), some (.int (l5 / (10 : Int32))), some (.int (l6 + (1 : Int32))), some (.int (l7))]) (st' := []) (g' := g) (w' := w) (cl := [¬ (10 : Int32) = 0]) (by decide +kernel) rfl ⟨by decide, trivial⟩ ?_
  refine am_goto C0 (off := (-62)) (tgt := 41) (by decide +kernel) ?_
  refine am_wk [some (.ref 20), some (.int (p1)), some (.int (p2)), some (.ref 25), some (.int (l4 - q1)), some (.int (l5 / (10 : Int32))), some (.int (l6 + (1 : Int32))), none] ⟨rfl, rfl, rfl, rfl, rfl, rfl, rfl, trivial⟩ rfl ?_
  exact hk41 (l4 - q1) (l5 / (10 : Int32)) (l6 + (1 : Int32)) (g) (w) hf
def f_X6_hoursBetween_20_25_41 (F : Nat) (p1 : Int32) (p2 : Int32)  : Nat → Int32 → Int32 → Int32 → am_G → am_J → Option (am_G × am_J)
  | 0, _, _, _, _, _ => none
  | n + 1, l4, l5, l6, g, w =>
    if (6 : Int32) ≤ l6 then
      some (g, w)
    else
      if l5 < (10 : Int32) then
        some (g, w)
      else
        if ((l5 - l5 / (10 : Int32) * (10 : Int32)) - (1 : Int32)) < 0 then
          f_X6_hoursBetween_20_25_82 F p1 p2 (fun l4 l5 l6 g w => f_X6_hoursBetween_20_25_41 F p1 p2 n l4 l5 l6 g w) (l4) (l5) (l6) ((l5 - l5 / (10 : Int32) * (10 : Int32)) - (1 : Int32)) (g) (w)
        else
          if (Int32.ofNat 6) ≤ ((l5 - l5 / (10 : Int32) * (10 : Int32)) - (1 : Int32)) then
            f_X6_hoursBetween_20_25_82 F p1 p2 (fun l4 l5 l6 g w => f_X6_hoursBetween_20_25_41 F p1 p2 n l4 l5 l6 g w) (l4) (l5) (l6) ((l5 - l5 / (10 : Int32) * (10 : Int32)) - (1 : Int32)) (g) (w)
          else
            if am_in ((l5 - l5 / (10 : Int32) * (10 : Int32)) - (1 : Int32)) 6 then
              f_X6_hoursBetween_20_25_82 F p1 p2 (fun l4 l5 l6 g w => f_X6_hoursBetween_20_25_41 F p1 p2 n l4 l5 l6 g w) (l4) (l5) (l6) ((l5 - l5 / (10 : Int32) * (10 : Int32)) - (1 : Int32)) (am_u g 25 (Int32.toNatClampNeg ((l5 - l5 / (10 : Int32) * (10 : Int32)) - (1 : Int32))) l4) (w)
            else none
set_option maxRecDepth 20000 in
theorem B_X6_hoursBetween_20_25_41 (x : am_X) (C0 : am_Cm x 6 cX6_hoursBetween 8 none) (hR : am_R x = rm_X6_hoursBetween) (F : Nat) (p1 : Int32) (p2 : Int32) (R : am_G × am_J)   : ∀ (n : Nat) (l4 : Int32) (l5 : Int32) (l6 : Int32) (g : am_G) (w : am_J), f_X6_hoursBetween_20_25_41 F p1 p2 n l4 l5 l6 g w = some R → am_Ev x 8 (0, 0) (am_Q x (0, 0) none am_YY (R.1) (R.2)) 41 [some (.ref 20), some (.int (p1)), some (.int (p2)), some (.ref 25), some (.int (l4)), some (.int (l5)), some (.int (l6)), none] [] am_YY g w := by
  intro n
  induction n with
  | zero => intro l4 l5 l6 g w hf; cases hf
  | succ n ih =>
    intro l4 l5 l6 g w hf
    rw [f_X6_hoursBetween_20_25_41.eq_2] at hf
    refine am_b1 C0 am_YYk (pc := 41) (pc2 := 45) [(.iload 6, 0, 0, .null), (.bipush 6, 0, 0, .int 6)] (L := [some (.ref 20), some (.int (p1)), some (.int (p2)), some (.ref 25), some (.int (l4)), some (.int (l5)), some (.int (l6)), none]) (st := []) (L' := [some (.ref 20), some (.int (p1)), some (.int (p2)), some (.ref 25), some (.int (l4)), some (.int (l5)), some (.int (l6)), none]) (st' := [.int ((6 : Int32)), .int (l6)]) (g' := g) (w' := w) (cl := []) (by decide +kernel) rfl trivial ?_
    refine am_icmp_ge C0 (off := 61) (tgt := 106) (by decide +kernel) (fun hc6 => ?_) (fun hc6 => ?_)
    · rw [if_pos hc6] at hf
      cases hf
      exact am_vret C0 (by decide +kernel)
    · rw [if_neg hc6] at hf
      refine am_b1 C0 am_YYk (pc := 48) (pc2 := 52) [(.iload 5, 0, 0, .null), (.bipush 10, 0, 0, .int 10)] (L := [some (.ref 20), some (.int (p1)), some (.int (p2)), some (.ref 25), some (.int (l4)), some (.int (l5)), some (.int (l6)), none]) (st := []) (L' := [some (.ref 20), some (.int (p1)), some (.int (p2)), some (.ref 25), some (.int (l4)), some (.int (l5)), some (.int (l6)), none]) (st' := [.int ((10 : Int32)), .int (l5)]) (g' := g) (w' := w) (cl := []) (by decide +kernel) rfl trivial ?_
      refine am_icmp_lt C0 (off := 54) (tgt := 106) (by decide +kernel) (fun hc5 => ?_) (fun hc5 => ?_)
      · rw [if_pos hc5] at hf
        cases hf
        exact am_vret C0 (by decide +kernel)
      · rw [if_neg hc5] at hf
        refine am_b1 C0 am_YYk (pc := 55) (pc2 := 66) [(.iload 5, 0, 0, .null), (.bipush 10, 0, 0, .int 10), (.irem, 0, 0, .null), (.iconst 1, 0, 0, .int 1), (.isub, 0, 0, .null), (.istore 7, 0, 0, .null), (.iload 7, 0, 0, .null)] (L := [some (.ref 20), some (.int (p1)), some (.int (p2)), some (.ref 25), some (.int (l4)), some (.int (l5)), some (.int (l6)), none]) (st := []) (L' := [some (.ref 20), some (.int (p1)), some (.int (p2)), some (.ref 25), some (.int (l4)), some (.int (l5)), some (.int (l6)), some (.int ((l5 - l5 / (10 : Int32) * (10 : Int32)) - (1 : Int32)))]) (st' := [.int ((l5 - l5 / (10 : Int32) * (10 : Int32)) - (1 : Int32))]) (g' := g) (w' := w) (cl := [¬ (10 : Int32) = 0]) (by decide +kernel) rfl ⟨by decide, trivial⟩ ?_
        refine am_if_lt C0 (off := 16) (tgt := 82) (by decide +kernel) (fun hc4 => ?_) (fun hc4 => ?_)
        · rw [if_pos hc4] at hf
          exact B_X6_hoursBetween_20_25_82 x C0 hR F p1 p2 R _ (fun l4 l5 l6 g w hf => ih l4 l5 l6 g w hf) (l4) (l5) (l6) ((l5 - l5 / (10 : Int32) * (10 : Int32)) - (1 : Int32)) (g) (w) hf
        · rw [if_neg hc4] at hf
          refine am_b1 C0 am_YYk (pc := 69) (pc2 := 73) [(.iload 7, 0, 0, .null), (.aload_n 3, 0, 0, .null), (.arraylength, 0, 0, .null)] (L := [some (.ref 20), some (.int (p1)), some (.int (p2)), some (.ref 25), some (.int (l4)), some (.int (l5)), some (.int (l6)), some (.int ((l5 - l5 / (10 : Int32) * (10 : Int32)) - (1 : Int32)))]) (st := []) (L' := [some (.ref 20), some (.int (p1)), some (.int (p2)), some (.ref 25), some (.int (l4)), some (.int (l5)), some (.int (l6)), some (.int ((l5 - l5 / (10 : Int32) * (10 : Int32)) - (1 : Int32)))]) (st' := [.int (Int32.ofNat 6), .int ((l5 - l5 / (10 : Int32) * (10 : Int32)) - (1 : Int32))]) (g' := g) (w' := w) (cl := []) (by decide +kernel) rfl trivial ?_
          refine am_icmp_ge C0 (off := 9) (tgt := 82) (by decide +kernel) (fun hc3 => ?_) (fun hc3 => ?_)
          · rw [if_pos hc3] at hf
            exact B_X6_hoursBetween_20_25_82 x C0 hR F p1 p2 R _ (fun l4 l5 l6 g w hf => ih l4 l5 l6 g w hf) (l4) (l5) (l6) ((l5 - l5 / (10 : Int32) * (10 : Int32)) - (1 : Int32)) (g) (w) hf
          · rw [if_neg hc3] at hf
            obtain ⟨hg2, hf⟩ := am_g hf
            refine am_b1 C0 am_YYk (pc := 76) (pc2 := 82) [(.aload_n 3, 0, 0, .null), (.iload 7, 0, 0, .null), (.iload 4, 0, 0, .null), (.iastore, 0, 0, .null)] (L := [some (.ref 20), some (.int (p1)), some (.int (p2)), some (.ref 25), some (.int (l4)), some (.int (l5)), some (.int (l6)), some (.int ((l5 - l5 / (10 : Int32) * (10 : Int32)) - (1 : Int32)))]) (st := []) (L' := [some (.ref 20), some (.int (p1)), some (.int (p2)), some (.ref 25), some (.int (l4)), some (.int (l5)), some (.int (l6)), some (.int ((l5 - l5 / (10 : Int32) * (10 : Int32)) - (1 : Int32)))]) (st' := []) (g' := am_u g 25 (Int32.toNatClampNeg ((l5 - l5 / (10 : Int32) * (10 : Int32)) - (1 : Int32))) l4) (w' := w) (cl := [am_in ((l5 - l5 / (10 : Int32) * (10 : Int32)) - (1 : Int32)) 6]) (by decide +kernel) rfl ⟨hg2, trivial⟩ ?_
            exact B_X6_hoursBetween_20_25_82 x C0 hR F p1 p2 R _ (fun l4 l5 l6 g w hf => ih l4 l5 l6 g w hf) (l4) (l5) (l6) ((l5 - l5 / (10 : Int32) * (10 : Int32)) - (1 : Int32)) (am_u g 25 (Int32.toNatClampNeg ((l5 - l5 / (10 : Int32) * (10 : Int32)) - (1 : Int32))) l4) (w) hf
def f_X6_hoursBetween_20_25 (F : Nat) (g : am_G) (w : am_J) (p1 : Int32) (p2 : Int32) : Option (am_G × am_J) :=
  (f_J7_fill_53178_25 F g (-9 : Int32)).bind fun q7 =>
    (f_X6_measure F q7 w p1 (0 : Int32)).bind fun q8 =>
      (f_X6_comesTo q7 q8 p2).bind fun q9 =>
        if q9 = 0 then
          some (q7, q8)
        else
          (f_X6_hoursTo q7 q8 p2).bind fun q10 =>
            (f_X6_wayTo q7 q8 p2).bind fun q11 =>
              f_X6_hoursBetween_20_25_41 F p1 p2 F (q10) (q11 / (10 : Int32)) ((0 : Int32)) (q7) (q8)
set_option maxRecDepth 20000 in
theorem M_X6_hoursBetween_20_25 (l : Launch) (F : Nat) (g : am_G) (w : am_J) (p1 : Int32) (p2 : Int32) (R : am_G × am_J) (hf : f_X6_hoursBetween_20_25 F g w p1 p2 = some R) : am_Met l mi_X6_hoursBetween rm_X6_hoursBetween [.ref 20, .int p1, .int p2, .ref 25] am_YY g w none am_YY (R.1) (R.2) := by
  refine am_met (own := 6) [some (.ref 20), some (.int (p1)), some (.int (p2)), some (.ref 25), none, none, none, none] (by decide) rfl rfl (by first | decide | exact Nat.le_of_ble_eq_true rfl) (fun x C0 hR hl hnm => ?_)
  unfold f_X6_hoursBetween_20_25 at hf
  refine am_b1 C0 am_YYk (pc := 0) (pc2 := 3) [(.aload_n 3, 0, 0, .null), (.bipush (-9), 0, 0, .int (-9))] (L := [some (.ref 20), some (.int (p1)), some (.int (p2)), some (.ref 25), none, none, none, none]) (st := []) (L' := [some (.ref 20), some (.int (p1)), some (.int (p2)), some (.ref 25), none, none, none, none]) (st' := [.int ((-9 : Int32)), .ref 25]) (g' := g) (w' := w) (cl := []) (by decide +kernel) rfl trivial ?_
  obtain ⟨q7, hq7, hf⟩ := Option.bind_eq_some_iff.mp hf
  refine am_callS (mi := mi_J7_fill_53178) (rm := rm_J7_fill_53178) [.ref 25, .int ((-9 : Int32))] C0.1 cv_6_53 (M_J7_fill_53178_25 _ F g w (-9 : Int32) _ hq7) (by rw [hR]; rfl) rfl rfl (Nat.le_of_ble_eq_true rfl) (by decide +kernel) ?_
  refine am_b1 C0 am_YYk (pc := 6) (pc2 := 9) [(.aload_n 0, 0, 0, .null), (.iload_n 1, 0, 0, .null), (.iconst 0, 0, 0, .int 0)] (L := [some (.ref 20), some (.int (p1)), some (.int (p2)), some (.ref 25), none, none, none, none]) (st := []) (L' := [some (.ref 20), some (.int (p1)), some (.int (p2)), some (.ref 25), none, none, none, none]) (st' := [.int ((0 : Int32)), .int (p1), .ref 20]) (g' := q7) (w' := w) (cl := []) (by decide +kernel) rfl trivial ?_
  obtain ⟨q8, hq8, hf⟩ := Option.bind_eq_some_iff.mp hf
  refine am_callV (mi := mi_X6_measure) (rm := rm_X6_measure) [.int (p1), .int ((0 : Int32))] C0.1 am_YYl cv_6_56 (M_X6_measure _ F q7 w p1 (0 : Int32) _ hq8) (ci := 6) rfl (by decide) rfl (by rw [hR]; rfl) rfl rfl (Nat.le_of_ble_eq_true rfl) (by decide +kernel) ?_
  refine am_b1 C0 am_YYk (pc := 12) (pc2 := 14) [(.aload_n 0, 0, 0, .null), (.iload_n 2, 0, 0, .null)] (L := [some (.ref 20), some (.int (p1)), some (.int (p2)), some (.ref 25), none, none, none, none]) (st := []) (L' := [some (.ref 20), some (.int (p1)), some (.int (p2)), some (.ref 25), none, none, none, none]) (st' := [.int (p2), .ref 20]) (g' := q7) (w' := q8) (cl := []) (by decide +kernel) rfl trivial ?_
  obtain ⟨q9, hq9, hf⟩ := Option.bind_eq_some_iff.mp hf
  refine am_callV (mi := mi_X6_comesTo) (rm := rm_X6_comesTo) [.int (p2)] C0.1 am_YYl cv_6_48 (M_X6_comesTo _ q7 q8 p2 _ hq9) (ci := 6) rfl (by decide) rfl (by rw [hR]; rfl) rfl rfl (Nat.le_of_ble_eq_true rfl) (by decide +kernel) ?_
  refine am_if_ne C0 (off := 4) (tgt := 21) (by decide +kernel) (fun hc12 => ?_) (fun hc12 => ?_)
  · rw [if_neg hc12] at hf
    refine am_b1 C0 am_YYk (pc := 21) (pc2 := 23) [(.aload_n 0, 0, 0, .null), (.iload_n 2, 0, 0, .null)] (L := [some (.ref 20), some (.int (p1)), some (.int (p2)), some (.ref 25), none, none, none, none]) (st := []) (L' := [some (.ref 20), some (.int (p1)), some (.int (p2)), some (.ref 25), none, none, none, none]) (st' := [.int (p2), .ref 20]) (g' := q7) (w' := q8) (cl := []) (by decide +kernel) rfl trivial ?_
    obtain ⟨q10, hq10, hf⟩ := Option.bind_eq_some_iff.mp hf
    refine am_callV (mi := mi_X6_hoursTo) (rm := rm_X6_hoursTo) [.int (p2)] C0.1 am_YYl cv_6_59 (M_X6_hoursTo _ q7 q8 p2 _ hq10) (ci := 6) rfl (by decide) rfl (by rw [hR]; rfl) rfl rfl (Nat.le_of_ble_eq_true rfl) (by decide +kernel) ?_
    refine am_b1 C0 am_YYk (pc := 26) (pc2 := 30) [(.istore 4, 0, 0, .null), (.aload_n 0, 0, 0, .null), (.iload_n 2, 0, 0, .null)] (L := [some (.ref 20), some (.int (p1)), some (.int (p2)), some (.ref 25), none, none, none, none]) (st := [.int (q10)]) (L' := [some (.ref 20), some (.int (p1)), some (.int (p2)), some (.ref 25), some (.int (q10)), none, none, none]) (st' := [.int (p2), .ref 20]) (g' := q7) (w' := q8) (cl := []) (by decide +kernel) rfl trivial ?_
    obtain ⟨q11, hq11, hf⟩ := Option.bind_eq_some_iff.mp hf
    refine am_callV (mi := mi_X6_wayTo) (rm := rm_X6_wayTo) [.int (p2)] C0.1 am_YYl cv_6_62 (M_X6_wayTo _ q7 q8 p2 _ hq11) (ci := 6) rfl (by decide) rfl (by rw [hR]; rfl) rfl rfl (Nat.le_of_ble_eq_true rfl) (by decide +kernel) ?_
    refine am_b1 C0 am_YYk (pc := 33) (pc2 := 41) [(.bipush 10, 0, 0, .int 10), (.idiv, 0, 0, .null), (.istore 5, 0, 0, .null), (.iconst 0, 0, 0, .int 0), (.istore 6, 0, 0, .null)] (L := [some (.ref 20), some (.int (p1)), some (.int (p2)), some (.ref 25), some (.int (q10)), none, none, none]) (st := [.int (q11)]) (L' := [some (.ref 20), some (.int (p1)), some (.int (p2)), some (.ref 25), some (.int (q10)), some (.int (q11 / (10 : Int32))), some (.int ((0 : Int32))), none]) (st' := []) (g' := q7) (w' := q8) (cl := [¬ (10 : Int32) = 0]) (by decide +kernel) rfl ⟨by decide, trivial⟩ ?_
    refine B_X6_hoursBetween_20_25_41 x C0 hR F p1 p2 R   F (q10) (q11 / (10 : Int32)) ((0 : Int32)) (q7) (q8) hf
  · rw [if_pos hc12] at hf
    cases hf
    exact am_vret C0 (by decide +kernel)
/-! ShutterTown.cross(II)I at (0,) -/
def f_X7_cross_101 (F : Nat) (p1 : Int32) (p2 : Int32) (k48 : Int32 → Int32 → am_G → am_J → Option (Int32 × am_G × am_J)) (l4 : Int32) (l5 : Int32) (g : am_G) (w : am_J) : Option (Int32 × am_G × am_J) :=
  k48 (l4) (l5 + (1 : Int32)) (g) (w)
set_option maxRecDepth 20000 in
theorem B_X7_cross_101 (x : am_X) (C0 : am_Cm x 7 cX7_cross 7 (some .int)) (hR : am_R x = rm_X7_cross) (F : Nat) (p1 : Int32) (p2 : Int32) (R : Int32 × am_G × am_J) (k48 : Int32 → Int32 → am_G → am_J → Option (Int32 × am_G × am_J)) (hk48 : ∀ (l4 : Int32) (l5 : Int32) (g : am_G) (w : am_J), k48 l4 l5 g w = some R → am_Ev x 7 (0, 0) (am_Q x (0, 0) (some (.int R.1)) am_YY (R.2.1) (R.2.2)) 48 [some (.ref 0), some (.int (p1)), some (.int (p2)), none, some (.int (l4)), some (.int (l5)), none] [] am_YY g w) (l4 : Int32) (l5 : Int32) (g : am_G) (w : am_J) (hf : f_X7_cross_101 F p1 p2 k48 l4 l5 g w = some R) : am_Ev x 7 (0, 0) (am_Q x (0, 0) (some (.int R.1)) am_YY (R.2.1) (R.2.2)) 101 [some (.ref 0), some (.int (p1)), some (.int (p2)), none, some (.int (l4)), some (.int (l5)), none] [] am_YY g w := by
  unfold f_X7_cross_101 at hf
  refine am_b1 C0 am_YYk (pc := 101) (pc2 := 104) [(.iinc 5 1, 0, 0, .int 1)] (L := [some (.ref 0), some (.int (p1)), some (.int (p2)), none, some (.int (l4)), some (.int (l5)), none]) (st := []) (L' := [some (.ref 0), some (.int (p1)), some (.int (p2)), none, some (.int (l4)), some (.int (l5 + (1 : Int32))), none]) (st' := []) (g' := g) (w' := w) (cl := []) (by decide +kernel) rfl trivial ?_
  refine am_goto C0 (off := (-56)) (tgt := 48) (by decide +kernel) ?_
  exact hk48 (l4) (l5 + (1 : Int32)) (g) (w) hf
def f_X7_cross_97 (F : Nat) (p1 : Int32) (p2 : Int32) (k48 : Int32 → Int32 → am_G → am_J → Option (Int32 × am_G × am_J)) (l5 : Int32) (l6 : Int32) (g : am_G) (w : am_J) : Option (Int32 × am_G × am_J) :=
  f_X7_cross_101 F p1 p2 k48 (l6) (l5) (g) (w)
set_option maxRecDepth 20000 in
theorem B_X7_cross_97 (x : am_X) (C0 : am_Cm x 7 cX7_cross 7 (some .int)) (hR : am_R x = rm_X7_cross) (F : Nat) (p1 : Int32) (p2 : Int32) (R : Int32 × am_G × am_J) (k48 : Int32 → Int32 → am_G → am_J → Option (Int32 × am_G × am_J)) (hk48 : ∀ (l4 : Int32) (l5 : Int32) (g : am_G) (w : am_J), k48 l4 l5 g w = some R → am_Ev x 7 (0, 0) (am_Q x (0, 0) (some (.int R.1)) am_YY (R.2.1) (R.2.2)) 48 [some (.ref 0), some (.int (p1)), some (.int (p2)), none, some (.int (l4)), some (.int (l5)), none] [] am_YY g w) (l5 : Int32) (l6 : Int32) (g : am_G) (w : am_J) (hf : f_X7_cross_97 F p1 p2 k48 l5 l6 g w = some R) : am_Ev x 7 (0, 0) (am_Q x (0, 0) (some (.int R.1)) am_YY (R.2.1) (R.2.2)) 97 [some (.ref 0), some (.int (p1)), some (.int (p2)), none, none, some (.int (l5)), some (.int (l6))] [] am_YY g w := by
  unfold f_X7_cross_97 at hf
  refine am_b1 C0 am_YYk (pc := 97) (pc2 := 101) [(.iload 6, 0, 0, .null), (.istore 4, 0, 0, .null)] (L := [some (.ref 0), some (.int (p1)), some (.int (p2)), none, none, some (.int (l5)), some (.int (l6))]) (st := []) (L' := [some (.ref 0), some (.int (p1)), some (.int (p2)), none, some (.int (l6)), some (.int (l5)), some (.int (l6))]) (st' := []) (g' := g) (w' := w) (cl := []) (by decide +kernel) rfl trivial ?_
  refine am_wk [some (.ref 0), some (.int (p1)), some (.int (p2)), none, some (.int (l6)), some (.int (l5)), none] ⟨rfl, rfl, rfl, rfl, rfl, trivial⟩ rfl ?_
  exact B_X7_cross_101 x C0 hR F p1 p2 R _ hk48 (l6) (l5) (g) (w) hf
def f_X7_cross_48 (F : Nat) (p1 : Int32) (p2 : Int32)  : Nat → Int32 → Int32 → am_G → am_J → Option (Int32 × am_G × am_J)
  | 0, _, _, _, _ => none
  | n + 1, l4, l5, g, w =>
    if (6 : Int32) ≤ l5 then
      some (l4, g, w)
    else
      if am_in l5 6 then
        if (g 24 (Int32.toNatClampNeg l5)) = (-9 : Int32) then
          f_X7_cross_101 F p1 p2 (fun l4 l5 g w => f_X7_cross_48 F p1 p2 n l4 l5 g w) (l4) (l5) (g) (w)
        else
          if am_in l5 6 then
            if (g 24 (Int32.toNatClampNeg l5)) = (g 25 (Int32.toNatClampNeg l5)) then
              if l4 = (-9 : Int32) then
                f_X7_cross_97 F p1 p2 (fun l4 l5 g w => f_X7_cross_48 F p1 p2 n l4 l5 g w) (l5) (g 24 (Int32.toNatClampNeg l5)) (g) (w)
              else
                if l4 ≤ (g 24 (Int32.toNatClampNeg l5)) then
                  f_X7_cross_101 F p1 p2 (fun l4 l5 g w => f_X7_cross_48 F p1 p2 n l4 l5 g w) (l4) (l5) (g) (w)
                else
                  f_X7_cross_97 F p1 p2 (fun l4 l5 g w => f_X7_cross_48 F p1 p2 n l4 l5 g w) (l5) (g 24 (Int32.toNatClampNeg l5)) (g) (w)
            else
              f_X7_cross_101 F p1 p2 (fun l4 l5 g w => f_X7_cross_48 F p1 p2 n l4 l5 g w) (l4) (l5) (g) (w)
          else none
      else none
set_option maxRecDepth 20000 in
theorem B_X7_cross_48 (x : am_X) (C0 : am_Cm x 7 cX7_cross 7 (some .int)) (hR : am_R x = rm_X7_cross) (F : Nat) (p1 : Int32) (p2 : Int32) (R : Int32 × am_G × am_J)   : ∀ (n : Nat) (l4 : Int32) (l5 : Int32) (g : am_G) (w : am_J), f_X7_cross_48 F p1 p2 n l4 l5 g w = some R → am_Ev x 7 (0, 0) (am_Q x (0, 0) (some (.int R.1)) am_YY (R.2.1) (R.2.2)) 48 [some (.ref 0), some (.int (p1)), some (.int (p2)), none, some (.int (l4)), some (.int (l5)), none] [] am_YY g w := by
  intro n
  induction n with
  | zero => intro l4 l5 g w hf; cases hf
  | succ n ih =>
    intro l4 l5 g w hf
    rw [f_X7_cross_48.eq_2] at hf
    refine am_b1 C0 am_YYk (pc := 48) (pc2 := 52) [(.iload 5, 0, 0, .null), (.bipush 6, 0, 0, .int 6)] (L := [some (.ref 0), some (.int (p1)), some (.int (p2)), none, some (.int (l4)), some (.int (l5)), none]) (st := []) (L' := [some (.ref 0), some (.int (p1)), some (.int (p2)), none, some (.int (l4)), some (.int (l5)), none]) (st' := [.int ((6 : Int32)), .int (l5)]) (g' := g) (w' := w) (cl := []) (by decide +kernel) rfl trivial ?_
    refine am_icmp_ge C0 (off := 55) (tgt := 107) (by decide +kernel) (fun hc7 => ?_) (fun hc7 => ?_)
    · rw [if_pos hc7] at hf
      refine am_b1 C0 am_YYk (pc := 107) (pc2 := 109) [(.iload 4, 0, 0, .null)] (L := [some (.ref 0), some (.int (p1)), some (.int (p2)), none, some (.int (l4)), some (.int (l5)), none]) (st := []) (L' := [some (.ref 0), some (.int (p1)), some (.int (p2)), none, some (.int (l4)), some (.int (l5)), none]) (st' := [.int (l4)]) (g' := g) (w' := w) (cl := []) (by decide +kernel) rfl trivial ?_
      cases hf
      exact am_iret C0 (by decide +kernel)
    · rw [if_neg hc7] at hf
      obtain ⟨hg1, hf⟩ := am_g hf
      refine am_b1 C0 am_YYk (pc := 55) (pc2 := 68) [(.aload_n 0, 0, 0, .null), (.getfield 63, 7, 8, .null), (.iload 5, 0, 0, .null), (.iaload, 0, 0, .null), (.istore 6, 0, 0, .null), (.iload 6, 0, 0, .null), (.bipush (-9), 0, 0, .int (-9))] (L := [some (.ref 0), some (.int (p1)), some (.int (p2)), none, some (.int (l4)), some (.int (l5)), none]) (st := []) (L' := [some (.ref 0), some (.int (p1)), some (.int (p2)), none, some (.int (l4)), some (.int (l5)), some (.int (g 24 (Int32.toNatClampNeg l5)))]) (st' := [.int ((-9 : Int32)), .int (g 24 (Int32.toNatClampNeg l5))]) (g' := g) (w' := w) (cl := [am_in l5 6]) (by decide +kernel) rfl ⟨hg1, trivial⟩ ?_
      refine am_icmp_eq C0 (off := 33) (tgt := 101) (by decide +kernel) (fun hc6 => ?_) (fun hc6 => ?_)
      · rw [if_pos hc6] at hf
        refine am_wk [some (.ref 0), some (.int (p1)), some (.int (p2)), none, some (.int (l4)), some (.int (l5)), none] ⟨rfl, rfl, rfl, rfl, rfl, trivial⟩ rfl ?_
        exact B_X7_cross_101 x C0 hR F p1 p2 R _ (fun l4 l5 g w hf => ih l4 l5 g w hf) (l4) (l5) (g) (w) hf
      · rw [if_neg hc6] at hf
        obtain ⟨hg2, hf⟩ := am_g hf
        refine am_b1 C0 am_YYk (pc := 71) (pc2 := 80) [(.iload 6, 0, 0, .null), (.aload_n 0, 0, 0, .null), (.getfield 67, 7, 9, .null), (.iload 5, 0, 0, .null), (.iaload, 0, 0, .null)] (L := [some (.ref 0), some (.int (p1)), some (.int (p2)), none, some (.int (l4)), some (.int (l5)), some (.int (g 24 (Int32.toNatClampNeg l5)))]) (st := []) (L' := [some (.ref 0), some (.int (p1)), some (.int (p2)), none, some (.int (l4)), some (.int (l5)), some (.int (g 24 (Int32.toNatClampNeg l5)))]) (st' := [.int (g 25 (Int32.toNatClampNeg l5)), .int (g 24 (Int32.toNatClampNeg l5))]) (g' := g) (w' := w) (cl := [am_in l5 6]) (by decide +kernel) rfl ⟨hg2, trivial⟩ ?_
        refine am_icmp_ne C0 (off := 21) (tgt := 101) (by decide +kernel) (fun hc5 => ?_) (fun hc5 => ?_)
        · rw [if_neg hc5] at hf
          refine am_wk [some (.ref 0), some (.int (p1)), some (.int (p2)), none, some (.int (l4)), some (.int (l5)), none] ⟨rfl, rfl, rfl, rfl, rfl, trivial⟩ rfl ?_
          exact B_X7_cross_101 x C0 hR F p1 p2 R _ (fun l4 l5 g w hf => ih l4 l5 g w hf) (l4) (l5) (g) (w) hf
        · rw [if_pos hc5] at hf
          refine am_b1 C0 am_YYk (pc := 83) (pc2 := 87) [(.iload 4, 0, 0, .null), (.bipush (-9), 0, 0, .int (-9))] (L := [some (.ref 0), some (.int (p1)), some (.int (p2)), none, some (.int (l4)), some (.int (l5)), some (.int (g 24 (Int32.toNatClampNeg l5)))]) (st := []) (L' := [some (.ref 0), some (.int (p1)), some (.int (p2)), none, some (.int (l4)), some (.int (l5)), some (.int (g 24 (Int32.toNatClampNeg l5)))]) (st' := [.int ((-9 : Int32)), .int (l4)]) (g' := g) (w' := w) (cl := []) (by decide +kernel) rfl trivial ?_
          refine am_icmp_eq C0 (off := 10) (tgt := 97) (by decide +kernel) (fun hc4 => ?_) (fun hc4 => ?_)
          · rw [if_pos hc4] at hf
            refine am_wk [some (.ref 0), some (.int (p1)), some (.int (p2)), none, none, some (.int (l5)), some (.int (g 24 (Int32.toNatClampNeg l5)))] ⟨rfl, rfl, rfl, rfl, rfl, trivial⟩ rfl ?_
            exact B_X7_cross_97 x C0 hR F p1 p2 R _ (fun l4 l5 g w hf => ih l4 l5 g w hf) (l5) (g 24 (Int32.toNatClampNeg l5)) (g) (w) hf
          · rw [if_neg hc4] at hf
            refine am_b1 C0 am_YYk (pc := 90) (pc2 := 94) [(.iload 6, 0, 0, .null), (.iload 4, 0, 0, .null)] (L := [some (.ref 0), some (.int (p1)), some (.int (p2)), none, some (.int (l4)), some (.int (l5)), some (.int (g 24 (Int32.toNatClampNeg l5)))]) (st := []) (L' := [some (.ref 0), some (.int (p1)), some (.int (p2)), none, some (.int (l4)), some (.int (l5)), some (.int (g 24 (Int32.toNatClampNeg l5)))]) (st' := [.int (l4), .int (g 24 (Int32.toNatClampNeg l5))]) (g' := g) (w' := w) (cl := []) (by decide +kernel) rfl trivial ?_
            refine am_icmp_ge C0 (off := 7) (tgt := 101) (by decide +kernel) (fun hc3 => ?_) (fun hc3 => ?_)
            · rw [if_pos hc3] at hf
              refine am_wk [some (.ref 0), some (.int (p1)), some (.int (p2)), none, some (.int (l4)), some (.int (l5)), none] ⟨rfl, rfl, rfl, rfl, rfl, trivial⟩ rfl ?_
              exact B_X7_cross_101 x C0 hR F p1 p2 R _ (fun l4 l5 g w hf => ih l4 l5 g w hf) (l4) (l5) (g) (w) hf
            · rw [if_neg hc3] at hf
              refine am_wk [some (.ref 0), some (.int (p1)), some (.int (p2)), none, none, some (.int (l5)), some (.int (g 24 (Int32.toNatClampNeg l5)))] ⟨rfl, rfl, rfl, rfl, rfl, trivial⟩ rfl ?_
              exact B_X7_cross_97 x C0 hR F p1 p2 R _ (fun l4 l5 g w hf => ih l4 l5 g w hf) (l5) (g 24 (Int32.toNatClampNeg l5)) (g) (w) hf
def f_X7_cross (F : Nat) (g : am_G) (w : am_J) (p1 : Int32) (p2 : Int32) : Option (Int32 × am_G × am_J) :=
  (f_X7_refusalOfTwo g p1 p2).bind fun q8 =>
    if q8 = (-9 : Int32) then
      (f_X6_hoursBetween_20_24 F g w p1 p2).bind fun q9 =>
        (f_X6_hoursBetween_20_25 F q9.1 q9.2 p2 p1).bind fun q10 =>
          f_X7_cross_48 F p1 p2 F ((-9 : Int32)) ((0 : Int32)) (q10.1) (q10.2)
    else
      some (q8, g, w)
set_option maxRecDepth 20000 in
theorem M_X7_cross (l : Launch) (F : Nat) (g : am_G) (w : am_J) (p1 : Int32) (p2 : Int32) (R : Int32 × am_G × am_J) (hf : f_X7_cross F g w p1 p2 = some R) : am_Met l mi_X7_cross rm_X7_cross [.ref 0, .int p1, .int p2] am_YY g w (some (.int R.1)) am_YY (R.2.1) (R.2.2) := by
  refine am_met (own := 7) [some (.ref 0), some (.int (p1)), some (.int (p2)), none, none, none, none] (by decide) rfl rfl (by first | decide | exact Nat.le_of_ble_eq_true rfl) (fun x C0 hR hl hnm => ?_)
  unfold f_X7_cross at hf
  refine am_b1 C0 am_YYk (pc := 0) (pc2 := 3) [(.aload_n 0, 0, 0, .null), (.iload_n 1, 0, 0, .null), (.iload_n 2, 0, 0, .null)] (L := [some (.ref 0), some (.int (p1)), some (.int (p2)), none, none, none, none]) (st := []) (L' := [some (.ref 0), some (.int (p1)), some (.int (p2)), none, none, none, none]) (st' := [.int (p2), .int (p1), .ref 0]) (g' := g) (w' := w) (cl := []) (by decide +kernel) rfl trivial ?_
  obtain ⟨q8, hq8, hf⟩ := Option.bind_eq_some_iff.mp hf
  refine am_callV (mi := mi_X7_refusalOfTwo) (rm := rm_X7_refusalOfTwo) [.int (p1), .int (p2)] C0.1 am_YYl cv_7_155 (M_X7_refusalOfTwo _ g w p1 p2 _ hq8) (ci := 7) rfl (by decide) rfl (by rw [hR]; rfl) rfl rfl (Nat.le_of_ble_eq_true rfl) (by decide +kernel) ?_
  refine am_b1 C0 am_YYk (pc := 6) (pc2 := 10) [(.istore_n 3, 0, 0, .null), (.iload_n 3, 0, 0, .null), (.bipush (-9), 0, 0, .int (-9))] (L := [some (.ref 0), some (.int (p1)), some (.int (p2)), none, none, none, none]) (st := [.int (q8)]) (L' := [some (.ref 0), some (.int (p1)), some (.int (p2)), some (.int (q8)), none, none, none]) (st' := [.int ((-9 : Int32)), .int (q8)]) (g' := g) (w' := w) (cl := []) (by decide +kernel) rfl trivial ?_
  refine am_icmp_eq C0 (off := 5) (tgt := 15) (by decide +kernel) (fun hc11 => ?_) (fun hc11 => ?_)
  · rw [if_pos hc11] at hf
    refine am_b1 C0 am_YYk (pc := 15) (pc2 := 25) [(.aload_n 0, 0, 0, .null), (.getfield 52, 7, 6, .null), (.iload_n 1, 0, 0, .null), (.iload_n 2, 0, 0, .null), (.aload_n 0, 0, 0, .null), (.getfield 63, 7, 8, .null)] (L := [some (.ref 0), some (.int (p1)), some (.int (p2)), some (.int (q8)), none, none, none]) (st := []) (L' := [some (.ref 0), some (.int (p1)), some (.int (p2)), some (.int (q8)), none, none, none]) (st' := [.ref 24, .int (p2), .int (p1), .ref 20]) (g' := g) (w' := w) (cl := []) (by decide +kernel) rfl trivial ?_
    obtain ⟨q9, hq9, hf⟩ := Option.bind_eq_some_iff.mp hf
    refine am_callV (mi := mi_X6_hoursBetween) (rm := rm_X6_hoursBetween) [.int (p1), .int (p2), .ref 24] C0.1 am_YYl cv_7_212 (M_X6_hoursBetween_20_24 _ F g w p1 p2 _ hq9) (ci := 6) rfl (by decide) rfl (by rw [hR]; rfl) rfl rfl (Nat.le_of_ble_eq_true rfl) (by decide +kernel) ?_
    refine am_b1 C0 am_YYk (pc := 28) (pc2 := 38) [(.aload_n 0, 0, 0, .null), (.getfield 52, 7, 6, .null), (.iload_n 2, 0, 0, .null), (.iload_n 1, 0, 0, .null), (.aload_n 0, 0, 0, .null), (.getfield 67, 7, 9, .null)] (L := [some (.ref 0), some (.int (p1)), some (.int (p2)), some (.int (q8)), none, none, none]) (st := []) (L' := [some (.ref 0), some (.int (p1)), some (.int (p2)), some (.int (q8)), none, none, none]) (st' := [.ref 25, .int (p1), .int (p2), .ref 20]) (g' := q9.1) (w' := q9.2) (cl := []) (by decide +kernel) rfl trivial ?_
    obtain ⟨q10, hq10, hf⟩ := Option.bind_eq_some_iff.mp hf
    refine am_callV (mi := mi_X6_hoursBetween) (rm := rm_X6_hoursBetween) [.int (p2), .int (p1), .ref 25] C0.1 am_YYl cv_7_212 (M_X6_hoursBetween_20_25 _ F q9.1 q9.2 p2 p1 _ hq10) (ci := 6) rfl (by decide) rfl (by rw [hR]; rfl) rfl rfl (Nat.le_of_ble_eq_true rfl) (by decide +kernel) ?_
    refine am_b1 C0 am_YYk (pc := 41) (pc2 := 48) [(.bipush (-9), 0, 0, .int (-9)), (.istore 4, 0, 0, .null), (.iconst 0, 0, 0, .int 0), (.istore 5, 0, 0, .null)] (L := [some (.ref 0), some (.int (p1)), some (.int (p2)), some (.int (q8)), none, none, none]) (st := []) (L' := [some (.ref 0), some (.int (p1)), some (.int (p2)), some (.int (q8)), some (.int ((-9 : Int32))), some (.int ((0 : Int32))), none]) (st' := []) (g' := q10.1) (w' := q10.2) (cl := []) (by decide +kernel) rfl trivial ?_
    refine am_wk [some (.ref 0), some (.int (p1)), some (.int (p2)), none, some (.int ((-9 : Int32))), some (.int ((0 : Int32))), none] ⟨rfl, rfl, rfl, rfl, rfl, trivial⟩ rfl ?_
    refine B_X7_cross_48 x C0 hR F p1 p2 R   F ((-9 : Int32)) ((0 : Int32)) (q10.1) (q10.2) hf
  · rw [if_neg hc11] at hf
    refine am_b1 C0 am_YYk (pc := 13) (pc2 := 14) [(.iload_n 3, 0, 0, .null)] (L := [some (.ref 0), some (.int (p1)), some (.int (p2)), some (.int (q8)), none, none, none]) (st := []) (L' := [some (.ref 0), some (.int (p1)), some (.int (p2)), some (.int (q8)), none, none, none]) (st' := [.int (q8)]) (g' := g) (w' := w) (cl := []) (by decide +kernel) rfl trivial ?_
    cases hf
    exact am_iret C0 (by decide +kernel)
/-! ShutterTown$Houses.gain(II)I at (3,) -/
def f_X2_gain (g : am_G) (p1 : Int32) (p2 : Int32) : Option (Int32) :=
  (f_X2_sees g p1).bind fun q1 =>
    (f_X2_sees g p2).bind fun q2 =>
      (f_J6_bitCount_0f7a4 (q1 &&& (q2 ^^^ (-1 : Int32)))).bind fun q3 =>
        some (q3)
set_option maxRecDepth 20000 in
theorem M_X2_gain (l : Launch) (g : am_G) (w : am_J) (p1 : Int32) (p2 : Int32) (R : Int32) (hf : f_X2_gain g p1 p2 = some R) : am_Met l mi_X2_gain rm_X2_gain [.ref 3, .int p1, .int p2] am_YY g w (some (.int R)) am_YY g w := by
  refine am_met (own := 2) [some (.ref 3), some (.int (p1)), some (.int (p2))] (by decide) rfl rfl (by first | decide | exact Nat.le_of_ble_eq_true rfl) (fun x C0 hR hl hnm => ?_)
  unfold f_X2_gain at hf
  refine am_b1 C0 am_YYk (pc := 0) (pc2 := 2) [(.aload_n 0, 0, 0, .null), (.iload_n 1, 0, 0, .null)] (L := [some (.ref 3), some (.int (p1)), some (.int (p2))]) (st := []) (L' := [some (.ref 3), some (.int (p1)), some (.int (p2))]) (st' := [.int (p1), .ref 3]) (g' := g) (w' := w) (cl := []) (by decide +kernel) rfl trivial ?_
  obtain ⟨q1, hq1, hf⟩ := Option.bind_eq_some_iff.mp hf
  refine am_callV (mi := mi_X2_sees) (rm := rm_X2_sees) [.int (p1)] C0.1 am_YYl cv_2_63 (M_X2_sees _ g w p1 _ hq1) (ci := 2) rfl (by decide) rfl (by rw [hR]; rfl) rfl rfl (Nat.le_of_ble_eq_true rfl) (by decide +kernel) ?_
  refine am_b1 C0 am_YYk (pc := 5) (pc2 := 7) [(.aload_n 0, 0, 0, .null), (.iload_n 2, 0, 0, .null)] (L := [some (.ref 3), some (.int (p1)), some (.int (p2))]) (st := [.int (q1)]) (L' := [some (.ref 3), some (.int (p1)), some (.int (p2))]) (st' := [.int (p2), .ref 3, .int (q1)]) (g' := g) (w' := w) (cl := []) (by decide +kernel) rfl trivial ?_
  obtain ⟨q2, hq2, hf⟩ := Option.bind_eq_some_iff.mp hf
  refine am_callV (mi := mi_X2_sees) (rm := rm_X2_sees) [.int (p2)] C0.1 am_YYl cv_2_63 (M_X2_sees _ g w p2 _ hq2) (ci := 2) rfl (by decide) rfl (by rw [hR]; rfl) rfl rfl (Nat.le_of_ble_eq_true rfl) (by decide +kernel) ?_
  refine am_b1 C0 am_YYk (pc := 10) (pc2 := 13) [(.iconst (-1), 0, 0, .int (-1)), (.ixor, 0, 0, .null), (.iand, 0, 0, .null)] (L := [some (.ref 3), some (.int (p1)), some (.int (p2))]) (st := [.int (q2), .int (q1)]) (L' := [some (.ref 3), some (.int (p1)), some (.int (p2))]) (st' := [.int (q1 &&& (q2 ^^^ (-1 : Int32)))]) (g' := g) (w' := w) (cl := []) (by decide +kernel) rfl trivial ?_
  obtain ⟨q3, hq3, hf⟩ := Option.bind_eq_some_iff.mp hf
  refine am_callS (mi := mi_J6_bitCount_0f7a4) (rm := rm_J6_bitCount_0f7a4) [.int (q1 &&& (q2 ^^^ (-1 : Int32)))] C0.1 cv_2_75 (M_J6_bitCount_0f7a4 _ g w (q1 &&& (q2 ^^^ (-1 : Int32))) _ hq3) (by rw [hR]; rfl) rfl rfl (Nat.le_of_ble_eq_true rfl) (by decide +kernel) ?_
  cases hf
  exact am_iret C0 (by decide +kernel)
/-! ShutterTown$Houses.isBestAgainst(II)Z at (3,) -/
def f_X2_isBestAgainst_2 (F : Nat) (g : am_G) (p1 : Int32) (p2 : Int32)  : Nat → Int32 → Option (Int32)
  | 0, _ => none
  | n + 1, l3 =>
    if (g 3 7) ≤ l3 then
      some ((1 : Int32))
    else
      (f_X2_gain g l3 p2).bind fun q1 =>
        (f_X2_gain g p1 p2).bind fun q2 =>
          if q1 ≤ q2 then
            f_X2_isBestAgainst_2 F g p1 p2 n (l3 + (1 : Int32))
          else
            some ((0 : Int32))
set_option maxRecDepth 20000 in
theorem B_X2_isBestAgainst_2 (x : am_X) (C0 : am_Cm x 2 cX2_isBestAgainst 4 (some .boolean)) (hR : am_R x = rm_X2_isBestAgainst) (w : am_J) (F : Nat) (g : am_G) (p1 : Int32) (p2 : Int32) (R : Int32)   : ∀ (n : Nat) (l3 : Int32), f_X2_isBestAgainst_2 F g p1 p2 n l3 = some R → am_Ev x 4 (0, 0) (am_Q x (0, 0) (some (.int R)) am_YY g w) 2 [some (.ref 3), some (.int (p1)), some (.int (p2)), some (.int (l3))] [] am_YY g w := by
  intro n
  induction n with
  | zero => intro l3 hf; cases hf
  | succ n ih =>
    intro l3 hf
    rw [f_X2_isBestAgainst_2.eq_2] at hf
    refine am_b1 C0 am_YYk (pc := 2) (pc2 := 7) [(.iload_n 3, 0, 0, .null), (.aload_n 0, 0, 0, .null), (.getfield 53, 2, 7, .null)] (L := [some (.ref 3), some (.int (p1)), some (.int (p2)), some (.int (l3))]) (st := []) (L' := [some (.ref 3), some (.int (p1)), some (.int (p2)), some (.int (l3))]) (st' := [.int (g 3 7), .int (l3)]) (g' := g) (w' := w) (cl := []) (by decide +kernel) rfl trivial ?_
    refine am_icmp_ge C0 (off := 26) (tgt := 33) (by decide +kernel) (fun hc4 => ?_) (fun hc4 => ?_)
    · rw [if_pos hc4] at hf
      refine am_b1 C0 am_YYk (pc := 33) (pc2 := 34) [(.iconst 1, 0, 0, .int 1)] (L := [some (.ref 3), some (.int (p1)), some (.int (p2)), some (.int (l3))]) (st := []) (L' := [some (.ref 3), some (.int (p1)), some (.int (p2)), some (.int (l3))]) (st' := [.int ((1 : Int32))]) (g' := g) (w' := w) (cl := []) (by decide +kernel) rfl trivial ?_
      cases hf
      exact am_zret C0 (by decide +kernel) (Or.inr rfl)
    · rw [if_neg hc4] at hf
      refine am_b1 C0 am_YYk (pc := 10) (pc2 := 13) [(.aload_n 0, 0, 0, .null), (.iload_n 3, 0, 0, .null), (.iload_n 2, 0, 0, .null)] (L := [some (.ref 3), some (.int (p1)), some (.int (p2)), some (.int (l3))]) (st := []) (L' := [some (.ref 3), some (.int (p1)), some (.int (p2)), some (.int (l3))]) (st' := [.int (p2), .int (l3), .ref 3]) (g' := g) (w' := w) (cl := []) (by decide +kernel) rfl trivial ?_
      obtain ⟨q1, hq1, hf⟩ := Option.bind_eq_some_iff.mp hf
      refine am_callV (mi := mi_X2_gain) (rm := rm_X2_gain) [.int (l3), .int (p2)] C0.1 am_YYl cv_2_72 (M_X2_gain _ g w l3 p2 _ hq1) (ci := 2) rfl (by decide) rfl (by rw [hR]; rfl) rfl rfl (Nat.le_of_ble_eq_true rfl) (by decide +kernel) ?_
      refine am_b1 C0 am_YYk (pc := 16) (pc2 := 19) [(.aload_n 0, 0, 0, .null), (.iload_n 1, 0, 0, .null), (.iload_n 2, 0, 0, .null)] (L := [some (.ref 3), some (.int (p1)), some (.int (p2)), some (.int (l3))]) (st := [.int (q1)]) (L' := [some (.ref 3), some (.int (p1)), some (.int (p2)), some (.int (l3))]) (st' := [.int (p2), .int (p1), .ref 3, .int (q1)]) (g' := g) (w' := w) (cl := []) (by decide +kernel) rfl trivial ?_
      obtain ⟨q2, hq2, hf⟩ := Option.bind_eq_some_iff.mp hf
      refine am_callV (mi := mi_X2_gain) (rm := rm_X2_gain) [.int (p1), .int (p2)] C0.1 am_YYl cv_2_72 (M_X2_gain _ g w p1 p2 _ hq2) (ci := 2) rfl (by decide) rfl (by rw [hR]; rfl) rfl rfl (Nat.le_of_ble_eq_true rfl) (by decide +kernel) ?_
      refine am_icmp_le C0 (off := 5) (tgt := 27) (by decide +kernel) (fun hc3 => ?_) (fun hc3 => ?_)
      · rw [if_pos hc3] at hf
        refine am_b1 C0 am_YYk (pc := 27) (pc2 := 30) [(.iinc 3 1, 0, 0, .int 1)] (L := [some (.ref 3), some (.int (p1)), some (.int (p2)), some (.int (l3))]) (st := []) (L' := [some (.ref 3), some (.int (p1)), some (.int (p2)), some (.int (l3 + (1 : Int32)))]) (st' := []) (g' := g) (w' := w) (cl := []) (by decide +kernel) rfl trivial ?_
        refine am_goto C0 (off := (-28)) (tgt := 2) (by decide +kernel) ?_
        exact ih (l3 + (1 : Int32)) hf
      · rw [if_neg hc3] at hf
        refine am_b1 C0 am_YYk (pc := 25) (pc2 := 26) [(.iconst 0, 0, 0, .int 0)] (L := [some (.ref 3), some (.int (p1)), some (.int (p2)), some (.int (l3))]) (st := []) (L' := [some (.ref 3), some (.int (p1)), some (.int (p2)), some (.int (l3))]) (st' := [.int ((0 : Int32))]) (g' := g) (w' := w) (cl := []) (by decide +kernel) rfl trivial ?_
        cases hf
        exact am_zret C0 (by decide +kernel) (Or.inl rfl)
def f_X2_isBestAgainst (F : Nat) (g : am_G) (p1 : Int32) (p2 : Int32) : Option (Int32) :=
  f_X2_isBestAgainst_2 F g p1 p2 F ((0 : Int32))
set_option maxRecDepth 20000 in
theorem M_X2_isBestAgainst (l : Launch) (F : Nat) (g : am_G) (w : am_J) (p1 : Int32) (p2 : Int32) (R : Int32) (hf : f_X2_isBestAgainst F g p1 p2 = some R) : am_Met l mi_X2_isBestAgainst rm_X2_isBestAgainst [.ref 3, .int p1, .int p2] am_YY g w (some (.int R)) am_YY g w := by
  refine am_met (own := 2) [some (.ref 3), some (.int (p1)), some (.int (p2)), none] (by decide) rfl rfl (by first | decide | exact Nat.le_of_ble_eq_true rfl) (fun x C0 hR hl hnm => ?_)
  unfold f_X2_isBestAgainst at hf
  refine am_b1 C0 am_YYk (pc := 0) (pc2 := 2) [(.iconst 0, 0, 0, .int 0), (.istore_n 3, 0, 0, .null)] (L := [some (.ref 3), some (.int (p1)), some (.int (p2)), none]) (st := []) (L' := [some (.ref 3), some (.int (p1)), some (.int (p2)), some (.int ((0 : Int32)))]) (st' := []) (g' := g) (w' := w) (cl := []) (by decide +kernel) rfl trivial ?_
  refine B_X2_isBestAgainst_2 x C0 hR w F g p1 p2 R   F ((0 : Int32)) hf
/-! ShutterTown.rests(I)I at (0,) -/
def f_X7_rests_107 (F : Nat) (g : am_G) (p1 : Int32)  (l2 : Int32) (l3 : Int32) : Option (Int32) :=
  if p1 = 0 then
    some (l2)
  else
    some (l3)
set_option maxRecDepth 20000 in
theorem B_X7_rests_107 (x : am_X) (C0 : am_Cm x 7 cX7_rests 6 (some .int)) (hR : am_R x = rm_X7_rests) (w : am_J) (F : Nat) (g : am_G) (p1 : Int32) (R : Int32)   (l2 : Int32) (l3 : Int32) (hf : f_X7_rests_107 F g p1 l2 l3 = some R) : am_Ev x 6 (0, 0) (am_Q x (0, 0) (some (.int R)) am_YY g w) 107 [none, some (.int (p1)), some (.int (l2)), some (.int (l3)), none, none] [] am_YY g w := by
  unfold f_X7_rests_107 at hf
  refine am_b1 C0 am_YYk (pc := 107) (pc2 := 108) [(.iload_n 1, 0, 0, .null)] (L := [none, some (.int (p1)), some (.int (l2)), some (.int (l3)), none, none]) (st := []) (L' := [none, some (.int (p1)), some (.int (l2)), some (.int (l3)), none, none]) (st' := [.int (p1)]) (g' := g) (w' := w) (cl := []) (by decide +kernel) rfl trivial ?_
  refine am_if_ne C0 (off := 7) (tgt := 115) (by decide +kernel) (fun hc1 => ?_) (fun hc1 => ?_)
  · rw [if_neg hc1] at hf
    refine am_b1 C0 am_YYk (pc := 115) (pc2 := 116) [(.iload_n 3, 0, 0, .null)] (L := [none, some (.int (p1)), some (.int (l2)), some (.int (l3)), none, none]) (st := []) (L' := [none, some (.int (p1)), some (.int (l2)), some (.int (l3)), none, none]) (st' := [.int (l3)]) (g' := g) (w' := w) (cl := []) (by decide +kernel) rfl trivial ?_
    cases hf
    exact am_iret C0 (by decide +kernel)
  · rw [if_pos hc1] at hf
    refine am_b1 C0 am_YYk (pc := 111) (pc2 := 112) [(.iload_n 2, 0, 0, .null)] (L := [none, some (.int (p1)), some (.int (l2)), some (.int (l3)), none, none]) (st := []) (L' := [none, some (.int (p1)), some (.int (l2)), some (.int (l3)), none, none]) (st' := [.int (l2)]) (g' := g) (w' := w) (cl := []) (by decide +kernel) rfl trivial ?_
    refine am_goto C0 (off := 4) (tgt := 116) (by decide +kernel) ?_
    cases hf
    exact am_iret C0 (by decide +kernel)
def f_X7_rests_101 (F : Nat) (g : am_G) (p1 : Int32) (k20 : Int32 → Int32 → Int32 → Option (Int32)) (k107 : Int32 → Int32 → Option (Int32)) (l2 : Int32) (l3 : Int32) (l4 : Int32) : Option (Int32) :=
  k20 (l2) (l3) (l4 + (1 : Int32))
set_option maxRecDepth 20000 in
theorem B_X7_rests_101 (x : am_X) (C0 : am_Cm x 7 cX7_rests 6 (some .int)) (hR : am_R x = rm_X7_rests) (w : am_J) (F : Nat) (g : am_G) (p1 : Int32) (R : Int32) (k20 : Int32 → Int32 → Int32 → Option (Int32)) (k107 : Int32 → Int32 → Option (Int32)) (hk20 : ∀ (l2 : Int32) (l3 : Int32) (l4 : Int32), k20 l2 l3 l4 = some R → am_Ev x 6 (0, 0) (am_Q x (0, 0) (some (.int R)) am_YY g w) 20 [some (.ref 0), some (.int (p1)), some (.int (l2)), some (.int (l3)), some (.int (l4)), none] [] am_YY g w) (hk107 : ∀ (l2 : Int32) (l3 : Int32), k107 l2 l3 = some R → am_Ev x 6 (0, 0) (am_Q x (0, 0) (some (.int R)) am_YY g w) 107 [none, some (.int (p1)), some (.int (l2)), some (.int (l3)), none, none] [] am_YY g w) (l2 : Int32) (l3 : Int32) (l4 : Int32) (hf : f_X7_rests_101 F g p1 k20 k107 l2 l3 l4 = some R) : am_Ev x 6 (0, 0) (am_Q x (0, 0) (some (.int R)) am_YY g w) 101 [some (.ref 0), some (.int (p1)), some (.int (l2)), some (.int (l3)), some (.int (l4)), none] [] am_YY g w := by
  unfold f_X7_rests_101 at hf
  refine am_b1 C0 am_YYk (pc := 101) (pc2 := 104) [(.iinc 4 1, 0, 0, .int 1)] (L := [some (.ref 0), some (.int (p1)), some (.int (l2)), some (.int (l3)), some (.int (l4)), none]) (st := []) (L' := [some (.ref 0), some (.int (p1)), some (.int (l2)), some (.int (l3)), some (.int (l4 + (1 : Int32))), none]) (st' := []) (g' := g) (w' := w) (cl := []) (by decide +kernel) rfl trivial ?_
  refine am_goto C0 (off := (-84)) (tgt := 20) (by decide +kernel) ?_
  exact hk20 (l2) (l3) (l4 + (1 : Int32)) hf
def f_X7_rests_95 (F : Nat) (g : am_G) (p1 : Int32) (k35 : Int32 → Int32 → Int32 → Int32 → Option (Int32)) (k101 : Int32 → Int32 → Int32 → Option (Int32)) (l2 : Int32) (l3 : Int32) (l4 : Int32) (l5 : Int32) : Option (Int32) :=
  k35 (l2) (l3) (l4) (l5 + (1 : Int32))
set_option maxRecDepth 20000 in
theorem B_X7_rests_95 (x : am_X) (C0 : am_Cm x 7 cX7_rests 6 (some .int)) (hR : am_R x = rm_X7_rests) (w : am_J) (F : Nat) (g : am_G) (p1 : Int32) (R : Int32) (k35 : Int32 → Int32 → Int32 → Int32 → Option (Int32)) (k101 : Int32 → Int32 → Int32 → Option (Int32)) (hk35 : ∀ (l2 : Int32) (l3 : Int32) (l4 : Int32) (l5 : Int32), k35 l2 l3 l4 l5 = some R → am_Ev x 6 (0, 0) (am_Q x (0, 0) (some (.int R)) am_YY g w) 35 [some (.ref 0), some (.int (p1)), some (.int (l2)), some (.int (l3)), some (.int (l4)), some (.int (l5))] [] am_YY g w) (hk101 : ∀ (l2 : Int32) (l3 : Int32) (l4 : Int32), k101 l2 l3 l4 = some R → am_Ev x 6 (0, 0) (am_Q x (0, 0) (some (.int R)) am_YY g w) 101 [some (.ref 0), some (.int (p1)), some (.int (l2)), some (.int (l3)), some (.int (l4)), none] [] am_YY g w) (l2 : Int32) (l3 : Int32) (l4 : Int32) (l5 : Int32) (hf : f_X7_rests_95 F g p1 k35 k101 l2 l3 l4 l5 = some R) : am_Ev x 6 (0, 0) (am_Q x (0, 0) (some (.int R)) am_YY g w) 95 [some (.ref 0), some (.int (p1)), some (.int (l2)), some (.int (l3)), some (.int (l4)), some (.int (l5))] [] am_YY g w := by
  unfold f_X7_rests_95 at hf
  refine am_b1 C0 am_YYk (pc := 95) (pc2 := 98) [(.iinc 5 1, 0, 0, .int 1)] (L := [some (.ref 0), some (.int (p1)), some (.int (l2)), some (.int (l3)), some (.int (l4)), some (.int (l5))]) (st := []) (L' := [some (.ref 0), some (.int (p1)), some (.int (l2)), some (.int (l3)), some (.int (l4)), some (.int (l5 + (1 : Int32)))]) (st' := []) (g' := g) (w' := w) (cl := []) (by decide +kernel) rfl trivial ?_
  refine am_goto C0 (off := (-63)) (tgt := 35) (by decide +kernel) ?_
  exact hk35 (l2) (l3) (l4) (l5 + (1 : Int32)) hf
def f_X7_rests_91 (F : Nat) (g : am_G) (p1 : Int32) (k35 : Int32 → Int32 → Int32 → Int32 → Option (Int32)) (k101 : Int32 → Int32 → Int32 → Option (Int32)) (l2 : Int32) (l4 : Int32) (l5 : Int32) (s0 : Int32) : Option (Int32) :=
  f_X7_rests_95 F g p1 k35 k101 (l2 + (1 : Int32)) (s0) (l4) (l5)
set_option maxRecDepth 20000 in
theorem B_X7_rests_91 (x : am_X) (C0 : am_Cm x 7 cX7_rests 6 (some .int)) (hR : am_R x = rm_X7_rests) (w : am_J) (F : Nat) (g : am_G) (p1 : Int32) (R : Int32) (k35 : Int32 → Int32 → Int32 → Int32 → Option (Int32)) (k101 : Int32 → Int32 → Int32 → Option (Int32)) (hk35 : ∀ (l2 : Int32) (l3 : Int32) (l4 : Int32) (l5 : Int32), k35 l2 l3 l4 l5 = some R → am_Ev x 6 (0, 0) (am_Q x (0, 0) (some (.int R)) am_YY g w) 35 [some (.ref 0), some (.int (p1)), some (.int (l2)), some (.int (l3)), some (.int (l4)), some (.int (l5))] [] am_YY g w) (hk101 : ∀ (l2 : Int32) (l3 : Int32) (l4 : Int32), k101 l2 l3 l4 = some R → am_Ev x 6 (0, 0) (am_Q x (0, 0) (some (.int R)) am_YY g w) 101 [some (.ref 0), some (.int (p1)), some (.int (l2)), some (.int (l3)), some (.int (l4)), none] [] am_YY g w) (l2 : Int32) (l4 : Int32) (l5 : Int32) (s0 : Int32) (hf : f_X7_rests_91 F g p1 k35 k101 l2 l4 l5 s0 = some R) : am_Ev x 6 (0, 0) (am_Q x (0, 0) (some (.int R)) am_YY g w) 91 [some (.ref 0), some (.int (p1)), some (.int (l2)), none, some (.int (l4)), some (.int (l5))] [.int (s0)] am_YY g w := by
  unfold f_X7_rests_91 at hf
  refine am_b1 C0 am_YYk (pc := 91) (pc2 := 95) [(.istore_n 3, 0, 0, .null), (.iinc 2 1, 0, 0, .int 1)] (L := [some (.ref 0), some (.int (p1)), some (.int (l2)), none, some (.int (l4)), some (.int (l5))]) (st := [.int (s0)]) (L' := [some (.ref 0), some (.int (p1)), some (.int (l2 + (1 : Int32))), some (.int (s0)), some (.int (l4)), some (.int (l5))]) (st' := []) (g' := g) (w' := w) (cl := []) (by decide +kernel) rfl trivial ?_
  exact B_X7_rests_95 x C0 hR w F g p1 R _ _ hk35 hk101 (l2 + (1 : Int32)) (s0) (l4) (l5) hf
def f_X7_rests_35 (F : Nat) (g : am_G) (p1 : Int32) (k101 : Int32 → Int32 → Int32 → Option (Int32)) : Nat → Int32 → Int32 → Int32 → Int32 → Option (Int32)
  | 0, _, _, _, _ => none
  | n + 1, l2, l3, l4, l5 =>
    (f_X2_windows g).bind fun q2 =>
      if q2 ≤ l5 then
        k101 (l2) (l3) (l4)
      else
        (f_X2_isBestAgainst F g l4 l5).bind fun q3 =>
          if q3 = 0 then
            f_X7_rests_95 F g p1 (fun l2 l3 l4 l5 => f_X7_rests_35 F g p1 k101 n l2 l3 l4 l5) k101 (l2) (l3) (l4) (l5)
          else
            (f_X2_isBestAgainst F g l5 l4).bind fun q4 =>
              if q4 = 0 then
                f_X7_rests_95 F g p1 (fun l2 l3 l4 l5 => f_X7_rests_35 F g p1 k101 n l2 l3 l4 l5) k101 (l2) (l3) (l4) (l5)
              else
                if l2 = 0 then
                  f_X7_rests_91 F g p1 (fun l2 l3 l4 l5 => f_X7_rests_35 F g p1 k101 n l2 l3 l4 l5) k101 (l2) (l4) (l5) (((10 : Int32) * l4) + l5)
                else
                  f_X7_rests_91 F g p1 (fun l2 l3 l4 l5 => f_X7_rests_35 F g p1 k101 n l2 l3 l4 l5) k101 (l2) (l4) (l5) (l3)
set_option maxRecDepth 20000 in
theorem B_X7_rests_35 (x : am_X) (C0 : am_Cm x 7 cX7_rests 6 (some .int)) (hR : am_R x = rm_X7_rests) (w : am_J) (F : Nat) (g : am_G) (p1 : Int32) (R : Int32) (k101 : Int32 → Int32 → Int32 → Option (Int32)) (hk101 : ∀ (l2 : Int32) (l3 : Int32) (l4 : Int32), k101 l2 l3 l4 = some R → am_Ev x 6 (0, 0) (am_Q x (0, 0) (some (.int R)) am_YY g w) 101 [some (.ref 0), some (.int (p1)), some (.int (l2)), some (.int (l3)), some (.int (l4)), none] [] am_YY g w) : ∀ (n : Nat) (l2 : Int32) (l3 : Int32) (l4 : Int32) (l5 : Int32), f_X7_rests_35 F g p1 k101 n l2 l3 l4 l5 = some R → am_Ev x 6 (0, 0) (am_Q x (0, 0) (some (.int R)) am_YY g w) 35 [some (.ref 0), some (.int (p1)), some (.int (l2)), some (.int (l3)), some (.int (l4)), some (.int (l5))] [] am_YY g w := by
  intro n
  induction n with
  | zero => intro l2 l3 l4 l5 hf; cases hf
  | succ n ih =>
    intro l2 l3 l4 l5 hf
    rw [f_X7_rests_35.eq_2] at hf
    refine am_b1 C0 am_YYk (pc := 35) (pc2 := 41) [(.iload 5, 0, 0, .null), (.aload_n 0, 0, 0, .null), (.getfield 19, 7, 1, .null)] (L := [some (.ref 0), some (.int (p1)), some (.int (l2)), some (.int (l3)), some (.int (l4)), some (.int (l5))]) (st := []) (L' := [some (.ref 0), some (.int (p1)), some (.int (l2)), some (.int (l3)), some (.int (l4)), some (.int (l5))]) (st' := [.ref 3, .int (l5)]) (g' := g) (w' := w) (cl := []) (by decide +kernel) rfl trivial ?_
    obtain ⟨q2, hq2, hf⟩ := Option.bind_eq_some_iff.mp hf
    refine am_callV (mi := mi_X2_windows) (rm := rm_X2_windows) [] C0.1 am_YYl cv_7_93 (M_X2_windows _ g w _ hq2) (ci := 2) rfl (by decide) rfl (by rw [hR]; rfl) rfl rfl (Nat.le_of_ble_eq_true rfl) (by decide +kernel) ?_
    refine am_icmp_ge C0 (off := 57) (tgt := 101) (by decide +kernel) (fun hc8 => ?_) (fun hc8 => ?_)
    · rw [if_pos hc8] at hf
      refine am_wk [some (.ref 0), some (.int (p1)), some (.int (l2)), some (.int (l3)), some (.int (l4)), none] ⟨rfl, rfl, rfl, rfl, rfl, trivial⟩ rfl ?_
      exact hk101 (l2) (l3) (l4) hf
    · rw [if_neg hc8] at hf
      refine am_b1 C0 am_YYk (pc := 47) (pc2 := 55) [(.aload_n 0, 0, 0, .null), (.getfield 19, 7, 1, .null), (.iload 4, 0, 0, .null), (.iload 5, 0, 0, .null)] (L := [some (.ref 0), some (.int (p1)), some (.int (l2)), some (.int (l3)), some (.int (l4)), some (.int (l5))]) (st := []) (L' := [some (.ref 0), some (.int (p1)), some (.int (l2)), some (.int (l3)), some (.int (l4)), some (.int (l5))]) (st' := [.int (l5), .int (l4), .ref 3]) (g' := g) (w' := w) (cl := []) (by decide +kernel) rfl trivial ?_
      obtain ⟨q3, hq3, hf⟩ := Option.bind_eq_some_iff.mp hf
      refine am_callV (mi := mi_X2_isBestAgainst) (rm := rm_X2_isBestAgainst) [.int (l4), .int (l5)] C0.1 am_YYl cv_7_216 (M_X2_isBestAgainst _ F g w l4 l5 _ hq3) (ci := 2) rfl (by decide) rfl (by rw [hR]; rfl) rfl rfl (Nat.le_of_ble_eq_true rfl) (by decide +kernel) ?_
      refine am_if_eq C0 (off := 37) (tgt := 95) (by decide +kernel) (fun hc7 => ?_) (fun hc7 => ?_)
      · rw [if_pos hc7] at hf
        exact B_X7_rests_95 x C0 hR w F g p1 R _ _ (fun l2 l3 l4 l5 hf => ih l2 l3 l4 l5 hf) hk101 (l2) (l3) (l4) (l5) hf
      · rw [if_neg hc7] at hf
        refine am_b1 C0 am_YYk (pc := 61) (pc2 := 69) [(.aload_n 0, 0, 0, .null), (.getfield 19, 7, 1, .null), (.iload 5, 0, 0, .null), (.iload 4, 0, 0, .null)] (L := [some (.ref 0), some (.int (p1)), some (.int (l2)), some (.int (l3)), some (.int (l4)), some (.int (l5))]) (st := []) (L' := [some (.ref 0), some (.int (p1)), some (.int (l2)), some (.int (l3)), some (.int (l4)), some (.int (l5))]) (st' := [.int (l4), .int (l5), .ref 3]) (g' := g) (w' := w) (cl := []) (by decide +kernel) rfl trivial ?_
        obtain ⟨q4, hq4, hf⟩ := Option.bind_eq_some_iff.mp hf
        refine am_callV (mi := mi_X2_isBestAgainst) (rm := rm_X2_isBestAgainst) [.int (l5), .int (l4)] C0.1 am_YYl cv_7_216 (M_X2_isBestAgainst _ F g w l5 l4 _ hq4) (ci := 2) rfl (by decide) rfl (by rw [hR]; rfl) rfl rfl (Nat.le_of_ble_eq_true rfl) (by decide +kernel) ?_
        refine am_if_eq C0 (off := 23) (tgt := 95) (by decide +kernel) (fun hc6 => ?_) (fun hc6 => ?_)
        · rw [if_pos hc6] at hf
          exact B_X7_rests_95 x C0 hR w F g p1 R _ _ (fun l2 l3 l4 l5 hf => ih l2 l3 l4 l5 hf) hk101 (l2) (l3) (l4) (l5) hf
        · rw [if_neg hc6] at hf
          refine am_b1 C0 am_YYk (pc := 75) (pc2 := 76) [(.iload_n 2, 0, 0, .null)] (L := [some (.ref 0), some (.int (p1)), some (.int (l2)), some (.int (l3)), some (.int (l4)), some (.int (l5))]) (st := []) (L' := [some (.ref 0), some (.int (p1)), some (.int (l2)), some (.int (l3)), some (.int (l4)), some (.int (l5))]) (st' := [.int (l2)]) (g' := g) (w' := w) (cl := []) (by decide +kernel) rfl trivial ?_
          refine am_if_ne C0 (off := 14) (tgt := 90) (by decide +kernel) (fun hc5 => ?_) (fun hc5 => ?_)
          · rw [if_neg hc5] at hf
            refine am_b1 C0 am_YYk (pc := 90) (pc2 := 91) [(.iload_n 3, 0, 0, .null)] (L := [some (.ref 0), some (.int (p1)), some (.int (l2)), some (.int (l3)), some (.int (l4)), some (.int (l5))]) (st := []) (L' := [some (.ref 0), some (.int (p1)), some (.int (l2)), some (.int (l3)), some (.int (l4)), some (.int (l5))]) (st' := [.int (l3)]) (g' := g) (w' := w) (cl := []) (by decide +kernel) rfl trivial ?_
            refine am_wk [some (.ref 0), some (.int (p1)), some (.int (l2)), none, some (.int (l4)), some (.int (l5))] ⟨rfl, rfl, rfl, rfl, rfl, trivial⟩ rfl ?_
            exact B_X7_rests_91 x C0 hR w F g p1 R _ _ (fun l2 l3 l4 l5 hf => ih l2 l3 l4 l5 hf) hk101 (l2) (l4) (l5) (l3) hf
          · rw [if_pos hc5] at hf
            refine am_b1 C0 am_YYk (pc := 79) (pc2 := 87) [(.bipush 10, 0, 0, .int 10), (.iload 4, 0, 0, .null), (.imul, 0, 0, .null), (.iload 5, 0, 0, .null), (.iadd, 0, 0, .null)] (L := [some (.ref 0), some (.int (p1)), some (.int (l2)), some (.int (l3)), some (.int (l4)), some (.int (l5))]) (st := []) (L' := [some (.ref 0), some (.int (p1)), some (.int (l2)), some (.int (l3)), some (.int (l4)), some (.int (l5))]) (st' := [.int (((10 : Int32) * l4) + l5)]) (g' := g) (w' := w) (cl := []) (by decide +kernel) rfl trivial ?_
            refine am_goto C0 (off := 4) (tgt := 91) (by decide +kernel) ?_
            refine am_wk [some (.ref 0), some (.int (p1)), some (.int (l2)), none, some (.int (l4)), some (.int (l5))] ⟨rfl, rfl, rfl, rfl, rfl, trivial⟩ rfl ?_
            exact B_X7_rests_91 x C0 hR w F g p1 R _ _ (fun l2 l3 l4 l5 hf => ih l2 l3 l4 l5 hf) hk101 (l2) (l4) (l5) (((10 : Int32) * l4) + l5) hf
def f_X7_rests_20 (F : Nat) (g : am_G) (p1 : Int32) (k107 : Int32 → Int32 → Option (Int32)) : Nat → Int32 → Int32 → Int32 → Option (Int32)
  | 0, _, _, _ => none
  | n + 1, l2, l3, l4 =>
    (f_X2_windows g).bind fun q9 =>
      if q9 ≤ l4 then
        k107 (l2) (l3)
      else
        f_X7_rests_35 F g p1 (fun l2 l3 l4 => f_X7_rests_101 F g p1 (fun l2 l3 l4 => f_X7_rests_20 F g p1 k107 n l2 l3 l4) k107 (l2) (l3) (l4)) F (l2) (l3) (l4) ((0 : Int32))
set_option maxRecDepth 20000 in
theorem B_X7_rests_20 (x : am_X) (C0 : am_Cm x 7 cX7_rests 6 (some .int)) (hR : am_R x = rm_X7_rests) (w : am_J) (F : Nat) (g : am_G) (p1 : Int32) (R : Int32) (k107 : Int32 → Int32 → Option (Int32)) (hk107 : ∀ (l2 : Int32) (l3 : Int32), k107 l2 l3 = some R → am_Ev x 6 (0, 0) (am_Q x (0, 0) (some (.int R)) am_YY g w) 107 [none, some (.int (p1)), some (.int (l2)), some (.int (l3)), none, none] [] am_YY g w) : ∀ (n : Nat) (l2 : Int32) (l3 : Int32) (l4 : Int32), f_X7_rests_20 F g p1 k107 n l2 l3 l4 = some R → am_Ev x 6 (0, 0) (am_Q x (0, 0) (some (.int R)) am_YY g w) 20 [some (.ref 0), some (.int (p1)), some (.int (l2)), some (.int (l3)), some (.int (l4)), none] [] am_YY g w := by
  intro n
  induction n with
  | zero => intro l2 l3 l4 hf; cases hf
  | succ n ih =>
    intro l2 l3 l4 hf
    rw [f_X7_rests_20.eq_2] at hf
    refine am_b1 C0 am_YYk (pc := 20) (pc2 := 26) [(.iload 4, 0, 0, .null), (.aload_n 0, 0, 0, .null), (.getfield 19, 7, 1, .null)] (L := [some (.ref 0), some (.int (p1)), some (.int (l2)), some (.int (l3)), some (.int (l4)), none]) (st := []) (L' := [some (.ref 0), some (.int (p1)), some (.int (l2)), some (.int (l3)), some (.int (l4)), none]) (st' := [.ref 3, .int (l4)]) (g' := g) (w' := w) (cl := []) (by decide +kernel) rfl trivial ?_
    obtain ⟨q9, hq9, hf⟩ := Option.bind_eq_some_iff.mp hf
    refine am_callV (mi := mi_X2_windows) (rm := rm_X2_windows) [] C0.1 am_YYl cv_7_93 (M_X2_windows _ g w _ hq9) (ci := 2) rfl (by decide) rfl (by rw [hR]; rfl) rfl rfl (Nat.le_of_ble_eq_true rfl) (by decide +kernel) ?_
    refine am_icmp_ge C0 (off := 78) (tgt := 107) (by decide +kernel) (fun hc10 => ?_) (fun hc10 => ?_)
    · rw [if_pos hc10] at hf
      refine am_wk [none, some (.int (p1)), some (.int (l2)), some (.int (l3)), none, none] ⟨rfl, rfl, rfl, trivial⟩ rfl ?_
      exact hk107 (l2) (l3) hf
    · rw [if_neg hc10] at hf
      refine am_b1 C0 am_YYk (pc := 32) (pc2 := 35) [(.iconst 0, 0, 0, .int 0), (.istore 5, 0, 0, .null)] (L := [some (.ref 0), some (.int (p1)), some (.int (l2)), some (.int (l3)), some (.int (l4)), none]) (st := []) (L' := [some (.ref 0), some (.int (p1)), some (.int (l2)), some (.int (l3)), some (.int (l4)), some (.int ((0 : Int32)))]) (st' := []) (g' := g) (w' := w) (cl := []) (by decide +kernel) rfl trivial ?_
      refine B_X7_rests_35 x C0 hR w F g p1 R _ ?_ F (l2) (l3) (l4) ((0 : Int32)) hf
      · intro l2 l3 l4 hf
        exact B_X7_rests_101 x C0 hR w F g p1 R _ _ (fun l2 l3 l4 hf => ih l2 l3 l4 hf) hk107 (l2) (l3) (l4) hf
def f_X7_rests (F : Nat) (g : am_G) (p1 : Int32) : Option (Int32) :=
  if p1 < 0 then
    some ((-2 : Int32))
  else
    if p1 ≤ (1 : Int32) then
      f_X7_rests_20 F g p1 (fun l2 l3 => f_X7_rests_107 F g p1 (l2) (l3)) F ((0 : Int32)) ((-9 : Int32)) ((0 : Int32))
    else
      some ((-2 : Int32))
set_option maxRecDepth 20000 in
theorem M_X7_rests (l : Launch) (F : Nat) (g : am_G) (w : am_J) (p1 : Int32) (R : Int32) (hf : f_X7_rests F g p1 = some R) : am_Met l mi_X7_rests rm_X7_rests [.ref 0, .int p1] am_YY g w (some (.int R)) am_YY g w := by
  refine am_met (own := 7) [some (.ref 0), some (.int (p1)), none, none, none, none] (by decide) rfl rfl (by first | decide | exact Nat.le_of_ble_eq_true rfl) (fun x C0 hR hl hnm => ?_)
  unfold f_X7_rests at hf
  refine am_b1 C0 am_YYk (pc := 0) (pc2 := 1) [(.iload_n 1, 0, 0, .null)] (L := [some (.ref 0), some (.int (p1)), none, none, none, none]) (st := []) (L' := [some (.ref 0), some (.int (p1)), none, none, none, none]) (st' := [.int (p1)]) (g' := g) (w' := w) (cl := []) (by decide +kernel) rfl trivial ?_
  refine am_if_lt C0 (off := 8) (tgt := 9) (by decide +kernel) (fun hc12 => ?_) (fun hc12 => ?_)
  · rw [if_pos hc12] at hf
    refine am_b1 C0 am_YYk (pc := 9) (pc2 := 11) [(.bipush (-2), 0, 0, .int (-2))] (L := [some (.ref 0), some (.int (p1)), none, none, none, none]) (st := []) (L' := [some (.ref 0), some (.int (p1)), none, none, none, none]) (st' := [.int ((-2 : Int32))]) (g' := g) (w' := w) (cl := []) (by decide +kernel) rfl trivial ?_
    cases hf
    exact am_iret C0 (by decide +kernel)
  · rw [if_neg hc12] at hf
    refine am_b1 C0 am_YYk (pc := 4) (pc2 := 6) [(.iload_n 1, 0, 0, .null), (.iconst 1, 0, 0, .int 1)] (L := [some (.ref 0), some (.int (p1)), none, none, none, none]) (st := []) (L' := [some (.ref 0), some (.int (p1)), none, none, none, none]) (st' := [.int ((1 : Int32)), .int (p1)]) (g' := g) (w' := w) (cl := []) (by decide +kernel) rfl trivial ?_
    refine am_icmp_le C0 (off := 6) (tgt := 12) (by decide +kernel) (fun hc11 => ?_) (fun hc11 => ?_)
    · rw [if_pos hc11] at hf
      refine am_b1 C0 am_YYk (pc := 12) (pc2 := 20) [(.iconst 0, 0, 0, .int 0), (.istore_n 2, 0, 0, .null), (.bipush (-9), 0, 0, .int (-9)), (.istore_n 3, 0, 0, .null), (.iconst 0, 0, 0, .int 0), (.istore 4, 0, 0, .null)] (L := [some (.ref 0), some (.int (p1)), none, none, none, none]) (st := []) (L' := [some (.ref 0), some (.int (p1)), some (.int ((0 : Int32))), some (.int ((-9 : Int32))), some (.int ((0 : Int32))), none]) (st' := []) (g' := g) (w' := w) (cl := []) (by decide +kernel) rfl trivial ?_
      refine B_X7_rests_20 x C0 hR w F g p1 R _ ?_ F ((0 : Int32)) ((-9 : Int32)) ((0 : Int32)) hf
      · intro l2 l3 hf
        exact B_X7_rests_107 x C0 hR w F g p1 R  (l2) (l3) hf
    · rw [if_neg hc11] at hf
      refine am_b1 C0 am_YYk (pc := 9) (pc2 := 11) [(.bipush (-2), 0, 0, .int (-2))] (L := [some (.ref 0), some (.int (p1)), none, none, none, none]) (st := []) (L' := [some (.ref 0), some (.int (p1)), none, none, none, none]) (st' := [.int ((-2 : Int32))]) (g' := g) (w' := w) (cl := []) (by decide +kernel) rfl trivial ?_
      cases hf
      exact am_iret C0 (by decide +kernel)
/-! ShutterTown.weightOf(III)I at () -/
def f_X7_weightOf_43 (F : Nat) (p0 : Int32) (p1 : Int32) (p2 : Int32) (k5 : Int32 → Int32 → Option (Int32)) (l3 : Int32) (l4 : Int32) : Option (Int32) :=
  k5 (l3) (l4 + (1 : Int32))
set_option maxRecDepth 20000 in
theorem B_X7_weightOf_43 (x : am_X) (C0 : am_Cm x 7 cX7_weightOf 5 (some .int)) (hR : am_R x = rm_X7_weightOf) (g : am_G) (w : am_J) (F : Nat) (p0 : Int32) (p1 : Int32) (p2 : Int32) (R : Int32) (k5 : Int32 → Int32 → Option (Int32)) (hk5 : ∀ (l3 : Int32) (l4 : Int32), k5 l3 l4 = some R → am_Ev x 5 (0, 0) (am_Q x (0, 0) (some (.int R)) am_YY g w) 5 [some (.int (p0)), some (.int (p1)), some (.int (p2)), some (.int (l3)), some (.int (l4))] [] am_YY g w) (l3 : Int32) (l4 : Int32) (hf : f_X7_weightOf_43 F p0 p1 p2 k5 l3 l4 = some R) : am_Ev x 5 (0, 0) (am_Q x (0, 0) (some (.int R)) am_YY g w) 43 [some (.int (p0)), some (.int (p1)), some (.int (p2)), some (.int (l3)), some (.int (l4))] [] am_YY g w := by
  unfold f_X7_weightOf_43 at hf
  refine am_b1 C0 am_YYk (pc := 43) (pc2 := 46) [(.iinc 4 1, 0, 0, .int 1)] (L := [some (.int (p0)), some (.int (p1)), some (.int (p2)), some (.int (l3)), some (.int (l4))]) (st := []) (L' := [some (.int (p0)), some (.int (p1)), some (.int (p2)), some (.int (l3)), some (.int (l4 + (1 : Int32)))]) (st' := []) (g' := g) (w' := w) (cl := []) (by decide +kernel) rfl trivial ?_
  refine am_goto C0 (off := (-41)) (tgt := 5) (by decide +kernel) ?_
  exact hk5 (l3) (l4 + (1 : Int32)) hf
def f_X7_weightOf_41 (F : Nat) (p0 : Int32) (p1 : Int32) (p2 : Int32) (k5 : Int32 → Int32 → Option (Int32)) (l4 : Int32) (s0 : Int32) (s1 : Int32) : Option (Int32) :=
  f_X7_weightOf_43 F p0 p1 p2 k5 (s0 * s1) (l4)
set_option maxRecDepth 20000 in
theorem B_X7_weightOf_41 (x : am_X) (C0 : am_Cm x 7 cX7_weightOf 5 (some .int)) (hR : am_R x = rm_X7_weightOf) (g : am_G) (w : am_J) (F : Nat) (p0 : Int32) (p1 : Int32) (p2 : Int32) (R : Int32) (k5 : Int32 → Int32 → Option (Int32)) (hk5 : ∀ (l3 : Int32) (l4 : Int32), k5 l3 l4 = some R → am_Ev x 5 (0, 0) (am_Q x (0, 0) (some (.int R)) am_YY g w) 5 [some (.int (p0)), some (.int (p1)), some (.int (p2)), some (.int (l3)), some (.int (l4))] [] am_YY g w) (l4 : Int32) (s0 : Int32) (s1 : Int32) (hf : f_X7_weightOf_41 F p0 p1 p2 k5 l4 s0 s1 = some R) : am_Ev x 5 (0, 0) (am_Q x (0, 0) (some (.int R)) am_YY g w) 41 [some (.int (p0)), some (.int (p1)), some (.int (p2)), none, some (.int (l4))] [.int (s1), .int (s0)] am_YY g w := by
  unfold f_X7_weightOf_41 at hf
  refine am_b1 C0 am_YYk (pc := 41) (pc2 := 43) [(.imul, 0, 0, .null), (.istore_n 3, 0, 0, .null)] (L := [some (.int (p0)), some (.int (p1)), some (.int (p2)), none, some (.int (l4))]) (st := [.int (s1), .int (s0)]) (L' := [some (.int (p0)), some (.int (p1)), some (.int (p2)), some (.int (s0 * s1)), some (.int (l4))]) (st' := []) (g' := g) (w' := w) (cl := []) (by decide +kernel) rfl trivial ?_
  exact B_X7_weightOf_43 x C0 hR g w F p0 p1 p2 R _ hk5 (s0 * s1) (l4) hf
def f_X7_weightOf_5 (F : Nat) (p0 : Int32) (p1 : Int32) (p2 : Int32)  : Nat → Int32 → Int32 → Option (Int32)
  | 0, _, _ => none
  | n + 1, l3, l4 =>
    if (6 : Int32) ≤ l4 then
      some (l3)
    else
      if ((p1 >>> (l4 &&& 31)) &&& (1 : Int32)) = (1 : Int32) then
        if ((p0 >>> (l4 &&& 31)) &&& (1 : Int32)) = (1 : Int32) then
          f_X7_weightOf_41 F p0 p1 p2 (fun l3 l4 => f_X7_weightOf_5 F p0 p1 p2 n l3 l4) (l4) (l3) (p2)
        else
          f_X7_weightOf_41 F p0 p1 p2 (fun l3 l4 => f_X7_weightOf_5 F p0 p1 p2 n l3 l4) (l4) (l3) ((10 : Int32) - p2)
      else
        f_X7_weightOf_43 F p0 p1 p2 (fun l3 l4 => f_X7_weightOf_5 F p0 p1 p2 n l3 l4) (l3) (l4)
set_option maxRecDepth 20000 in
theorem B_X7_weightOf_5 (x : am_X) (C0 : am_Cm x 7 cX7_weightOf 5 (some .int)) (hR : am_R x = rm_X7_weightOf) (g : am_G) (w : am_J) (F : Nat) (p0 : Int32) (p1 : Int32) (p2 : Int32) (R : Int32)   : ∀ (n : Nat) (l3 : Int32) (l4 : Int32), f_X7_weightOf_5 F p0 p1 p2 n l3 l4 = some R → am_Ev x 5 (0, 0) (am_Q x (0, 0) (some (.int R)) am_YY g w) 5 [some (.int (p0)), some (.int (p1)), some (.int (p2)), some (.int (l3)), some (.int (l4))] [] am_YY g w := by
  intro n
  induction n with
  | zero => intro l3 l4 hf; cases hf
  | succ n ih =>
    intro l3 l4 hf
    rw [f_X7_weightOf_5.eq_2] at hf
    refine am_b1 C0 am_YYk (pc := 5) (pc2 := 9) [(.iload 4, 0, 0, .null), (.bipush 6, 0, 0, .int 6)] (L := [some (.int (p0)), some (.int (p1)), some (.int (p2)), some (.int (l3)), some (.int (l4))]) (st := []) (L' := [some (.int (p0)), some (.int (p1)), some (.int (p2)), some (.int (l3)), some (.int (l4))]) (st' := [.int ((6 : Int32)), .int (l4)]) (g' := g) (w' := w) (cl := []) (by decide +kernel) rfl trivial ?_
    refine am_icmp_ge C0 (off := 40) (tgt := 49) (by decide +kernel) (fun hc3 => ?_) (fun hc3 => ?_)
    · rw [if_pos hc3] at hf
      refine am_b1 C0 am_YYk (pc := 49) (pc2 := 50) [(.iload_n 3, 0, 0, .null)] (L := [some (.int (p0)), some (.int (p1)), some (.int (p2)), some (.int (l3)), some (.int (l4))]) (st := []) (L' := [some (.int (p0)), some (.int (p1)), some (.int (p2)), some (.int (l3)), some (.int (l4))]) (st' := [.int (l3)]) (g' := g) (w' := w) (cl := []) (by decide +kernel) rfl trivial ?_
      cases hf
      exact am_iret C0 (by decide +kernel)
    · rw [if_neg hc3] at hf
      refine am_b1 C0 am_YYk (pc := 12) (pc2 := 19) [(.iload_n 1, 0, 0, .null), (.iload 4, 0, 0, .null), (.ishr, 0, 0, .null), (.iconst 1, 0, 0, .int 1), (.iand, 0, 0, .null), (.iconst 1, 0, 0, .int 1)] (L := [some (.int (p0)), some (.int (p1)), some (.int (p2)), some (.int (l3)), some (.int (l4))]) (st := []) (L' := [some (.int (p0)), some (.int (p1)), some (.int (p2)), some (.int (l3)), some (.int (l4))]) (st' := [.int ((1 : Int32)), .int ((p1 >>> (l4 &&& 31)) &&& (1 : Int32))]) (g' := g) (w' := w) (cl := []) (by decide +kernel) rfl trivial ?_
      refine am_icmp_ne C0 (off := 24) (tgt := 43) (by decide +kernel) (fun hc2 => ?_) (fun hc2 => ?_)
      · rw [if_neg hc2] at hf
        exact B_X7_weightOf_43 x C0 hR g w F p0 p1 p2 R _ (fun l3 l4 hf => ih l3 l4 hf) (l3) (l4) hf
      · rw [if_pos hc2] at hf
        refine am_b1 C0 am_YYk (pc := 22) (pc2 := 30) [(.iload_n 3, 0, 0, .null), (.iload_n 0, 0, 0, .null), (.iload 4, 0, 0, .null), (.ishr, 0, 0, .null), (.iconst 1, 0, 0, .int 1), (.iand, 0, 0, .null), (.iconst 1, 0, 0, .int 1)] (L := [some (.int (p0)), some (.int (p1)), some (.int (p2)), some (.int (l3)), some (.int (l4))]) (st := []) (L' := [some (.int (p0)), some (.int (p1)), some (.int (p2)), some (.int (l3)), some (.int (l4))]) (st' := [.int ((1 : Int32)), .int ((p0 >>> (l4 &&& 31)) &&& (1 : Int32)), .int (l3)]) (g' := g) (w' := w) (cl := []) (by decide +kernel) rfl trivial ?_
        refine am_icmp_ne C0 (off := 7) (tgt := 37) (by decide +kernel) (fun hc1 => ?_) (fun hc1 => ?_)
        · rw [if_neg hc1] at hf
          refine am_b1 C0 am_YYk (pc := 37) (pc2 := 41) [(.bipush 10, 0, 0, .int 10), (.iload_n 2, 0, 0, .null), (.isub, 0, 0, .null)] (L := [some (.int (p0)), some (.int (p1)), some (.int (p2)), some (.int (l3)), some (.int (l4))]) (st := [.int (l3)]) (L' := [some (.int (p0)), some (.int (p1)), some (.int (p2)), some (.int (l3)), some (.int (l4))]) (st' := [.int ((10 : Int32) - p2), .int (l3)]) (g' := g) (w' := w) (cl := []) (by decide +kernel) rfl trivial ?_
          refine am_wk [some (.int (p0)), some (.int (p1)), some (.int (p2)), none, some (.int (l4))] ⟨rfl, rfl, rfl, rfl, trivial⟩ rfl ?_
          exact B_X7_weightOf_41 x C0 hR g w F p0 p1 p2 R _ (fun l3 l4 hf => ih l3 l4 hf) (l4) (l3) ((10 : Int32) - p2) hf
        · rw [if_pos hc1] at hf
          refine am_b1 C0 am_YYk (pc := 33) (pc2 := 34) [(.iload_n 2, 0, 0, .null)] (L := [some (.int (p0)), some (.int (p1)), some (.int (p2)), some (.int (l3)), some (.int (l4))]) (st := [.int (l3)]) (L' := [some (.int (p0)), some (.int (p1)), some (.int (p2)), some (.int (l3)), some (.int (l4))]) (st' := [.int (p2), .int (l3)]) (g' := g) (w' := w) (cl := []) (by decide +kernel) rfl trivial ?_
          refine am_goto C0 (off := 7) (tgt := 41) (by decide +kernel) ?_
          refine am_wk [some (.int (p0)), some (.int (p1)), some (.int (p2)), none, some (.int (l4))] ⟨rfl, rfl, rfl, rfl, trivial⟩ rfl ?_
          exact B_X7_weightOf_41 x C0 hR g w F p0 p1 p2 R _ (fun l3 l4 hf => ih l3 l4 hf) (l4) (l3) (p2) hf
def f_X7_weightOf (F : Nat) (p0 : Int32) (p1 : Int32) (p2 : Int32) : Option (Int32) :=
  f_X7_weightOf_5 F p0 p1 p2 F ((1 : Int32)) ((0 : Int32))
set_option maxRecDepth 20000 in
theorem M_X7_weightOf (l : Launch) (F : Nat) (g : am_G) (w : am_J) (p0 : Int32) (p1 : Int32) (p2 : Int32) (R : Int32) (hf : f_X7_weightOf F p0 p1 p2 = some R) : am_Met l mi_X7_weightOf rm_X7_weightOf [.int p0, .int p1, .int p2] am_YY g w (some (.int R)) am_YY g w := by
  refine am_met (own := 7) [some (.int (p0)), some (.int (p1)), some (.int (p2)), none, none] (by decide) rfl rfl (by first | decide | exact Nat.le_of_ble_eq_true rfl) (fun x C0 hR hl hnm => ?_)
  unfold f_X7_weightOf at hf
  refine am_b1 C0 am_YYk (pc := 0) (pc2 := 5) [(.iconst 1, 0, 0, .int 1), (.istore_n 3, 0, 0, .null), (.iconst 0, 0, 0, .int 0), (.istore 4, 0, 0, .null)] (L := [some (.int (p0)), some (.int (p1)), some (.int (p2)), none, none]) (st := []) (L' := [some (.int (p0)), some (.int (p1)), some (.int (p2)), some (.int ((1 : Int32))), some (.int ((0 : Int32)))]) (st' := []) (g' := g) (w' := w) (cl := []) (by decide +kernel) rfl trivial ?_
  refine B_X7_weightOf_5 x C0 hR g w F p0 p1 p2 R   F ((1 : Int32)) ((0 : Int32)) hf
/-! ShutterTown$Shutters.isRead(III)Z at (10,) -/
def f_X4_isRead_67 (F : Nat) (g : am_G) (p1 : Int32) (p2 : Int32) (p3 : Int32) (k3 : Int32 → Option (Int32)) (l4 : Int32) : Option (Int32) :=
  k3 (l4 + (1 : Int32))
set_option maxRecDepth 20000 in
theorem B_X4_isRead_67 (x : am_X) (C0 : am_Cm x 4 cX4_isRead 6 (some .boolean)) (hR : am_R x = rm_X4_isRead) (w : am_J) (F : Nat) (g : am_G) (p1 : Int32) (p2 : Int32) (p3 : Int32) (R : Int32) (k3 : Int32 → Option (Int32)) (hk3 : ∀ (l4 : Int32), k3 l4 = some R → am_Ev x 6 (0, 0) (am_Q x (0, 0) (some (.int R)) am_YY g w) 3 [some (.ref 10), some (.int (p1)), some (.int (p2)), some (.int (p3)), some (.int (l4)), none] [] am_YY g w) (l4 : Int32) (hf : f_X4_isRead_67 F g p1 p2 p3 k3 l4 = some R) : am_Ev x 6 (0, 0) (am_Q x (0, 0) (some (.int R)) am_YY g w) 67 [some (.ref 10), some (.int (p1)), some (.int (p2)), some (.int (p3)), some (.int (l4)), none] [] am_YY g w := by
  unfold f_X4_isRead_67 at hf
  refine am_b1 C0 am_YYk (pc := 67) (pc2 := 70) [(.iinc 4 1, 0, 0, .int 1)] (L := [some (.ref 10), some (.int (p1)), some (.int (p2)), some (.int (p3)), some (.int (l4)), none]) (st := []) (L' := [some (.ref 10), some (.int (p1)), some (.int (p2)), some (.int (p3)), some (.int (l4 + (1 : Int32))), none]) (st' := []) (g' := g) (w' := w) (cl := []) (by decide +kernel) rfl trivial ?_
  refine am_goto C0 (off := (-67)) (tgt := 3) (by decide +kernel) ?_
  exact hk3 (l4 + (1 : Int32)) hf
def f_X4_isRead_36 (F : Nat) (g : am_G) (p1 : Int32) (p2 : Int32) (p3 : Int32) (k3 : Int32 → Option (Int32)) (l4 : Int32) (s0 : Int32) (s1 : Int32) : Option (Int32) :=
  (f_X2_areFacing g p1 l4).bind fun q1 =>
    if q1 = 0 then
      f_X4_isRead_67 F g p1 p2 p3 k3 (l4)
    else
      (f_X2_wordOf g (s0 ^^^ s1)).bind fun q2 =>
        if q2 = p2 then
          some ((1 : Int32))
        else
          f_X4_isRead_67 F g p1 p2 p3 k3 (l4)
set_option maxRecDepth 20000 in
theorem B_X4_isRead_36 (x : am_X) (C0 : am_Cm x 4 cX4_isRead 6 (some .boolean)) (hR : am_R x = rm_X4_isRead) (w : am_J) (F : Nat) (g : am_G) (p1 : Int32) (p2 : Int32) (p3 : Int32) (R : Int32) (k3 : Int32 → Option (Int32)) (hk3 : ∀ (l4 : Int32), k3 l4 = some R → am_Ev x 6 (0, 0) (am_Q x (0, 0) (some (.int R)) am_YY g w) 3 [some (.ref 10), some (.int (p1)), some (.int (p2)), some (.int (p3)), some (.int (l4)), none] [] am_YY g w) (l4 : Int32) (s0 : Int32) (s1 : Int32) (hf : f_X4_isRead_36 F g p1 p2 p3 k3 l4 s0 s1 = some R) : am_Ev x 6 (0, 0) (am_Q x (0, 0) (some (.int R)) am_YY g w) 36 [some (.ref 10), some (.int (p1)), some (.int (p2)), some (.int (p3)), some (.int (l4)), none] [.int (s1), .int (s0)] am_YY g w := by
  unfold f_X4_isRead_36 at hf
  refine am_b1 C0 am_YYk (pc := 36) (pc2 := 46) [(.ixor, 0, 0, .null), (.istore 5, 0, 0, .null), (.aload_n 0, 0, 0, .null), (.getfield 18, 4, 0, .null), (.iload_n 1, 0, 0, .null), (.iload 4, 0, 0, .null)] (L := [some (.ref 10), some (.int (p1)), some (.int (p2)), some (.int (p3)), some (.int (l4)), none]) (st := [.int (s1), .int (s0)]) (L' := [some (.ref 10), some (.int (p1)), some (.int (p2)), some (.int (p3)), some (.int (l4)), some (.int (s0 ^^^ s1))]) (st' := [.int (l4), .int (p1), .ref 3]) (g' := g) (w' := w) (cl := []) (by decide +kernel) rfl trivial ?_
  obtain ⟨q1, hq1, hf⟩ := Option.bind_eq_some_iff.mp hf
  refine am_callV (mi := mi_X2_areFacing) (rm := rm_X2_areFacing) [.int (p1), .int (l4)] C0.1 am_YYl cv_4_73 (M_X2_areFacing _ g w p1 l4 _ hq1) (ci := 2) rfl (by decide) rfl (by rw [hR]; rfl) rfl rfl (Nat.le_of_ble_eq_true rfl) (by decide +kernel) ?_
  refine am_if_eq C0 (off := 18) (tgt := 67) (by decide +kernel) (fun hc4 => ?_) (fun hc4 => ?_)
  · rw [if_pos hc4] at hf
    refine am_wk [some (.ref 10), some (.int (p1)), some (.int (p2)), some (.int (p3)), some (.int (l4)), none] ⟨rfl, rfl, rfl, rfl, rfl, trivial⟩ rfl ?_
    exact B_X4_isRead_67 x C0 hR w F g p1 p2 p3 R _ hk3 (l4) hf
  · rw [if_neg hc4] at hf
    refine am_b1 C0 am_YYk (pc := 52) (pc2 := 58) [(.aload_n 0, 0, 0, .null), (.getfield 18, 4, 0, .null), (.iload 5, 0, 0, .null)] (L := [some (.ref 10), some (.int (p1)), some (.int (p2)), some (.int (p3)), some (.int (l4)), some (.int (s0 ^^^ s1))]) (st := []) (L' := [some (.ref 10), some (.int (p1)), some (.int (p2)), some (.int (p3)), some (.int (l4)), some (.int (s0 ^^^ s1))]) (st' := [.int (s0 ^^^ s1), .ref 3]) (g' := g) (w' := w) (cl := []) (by decide +kernel) rfl trivial ?_
    obtain ⟨q2, hq2, hf⟩ := Option.bind_eq_some_iff.mp hf
    refine am_callV (mi := mi_X2_wordOf) (rm := rm_X2_wordOf) [.int (s0 ^^^ s1)] C0.1 am_YYl cv_4_51 (M_X2_wordOf _ g w (s0 ^^^ s1) _ hq2) (ci := 2) rfl (by decide) rfl (by rw [hR]; rfl) rfl rfl (Nat.le_of_ble_eq_true rfl) (by decide +kernel) ?_
    refine am_b1 C0 am_YYk (pc := 61) (pc2 := 62) [(.iload_n 2, 0, 0, .null)] (L := [some (.ref 10), some (.int (p1)), some (.int (p2)), some (.int (p3)), some (.int (l4)), some (.int (s0 ^^^ s1))]) (st := [.int (q2)]) (L' := [some (.ref 10), some (.int (p1)), some (.int (p2)), some (.int (p3)), some (.int (l4)), some (.int (s0 ^^^ s1))]) (st' := [.int (p2), .int (q2)]) (g' := g) (w' := w) (cl := []) (by decide +kernel) rfl trivial ?_
    refine am_icmp_ne C0 (off := 5) (tgt := 67) (by decide +kernel) (fun hc3 => ?_) (fun hc3 => ?_)
    · rw [if_neg hc3] at hf
      refine am_wk [some (.ref 10), some (.int (p1)), some (.int (p2)), some (.int (p3)), some (.int (l4)), none] ⟨rfl, rfl, rfl, rfl, rfl, trivial⟩ rfl ?_
      exact B_X4_isRead_67 x C0 hR w F g p1 p2 p3 R _ hk3 (l4) hf
    · rw [if_pos hc3] at hf
      refine am_b1 C0 am_YYk (pc := 65) (pc2 := 66) [(.iconst 1, 0, 0, .int 1)] (L := [some (.ref 10), some (.int (p1)), some (.int (p2)), some (.int (p3)), some (.int (l4)), some (.int (s0 ^^^ s1))]) (st := []) (L' := [some (.ref 10), some (.int (p1)), some (.int (p2)), some (.int (p3)), some (.int (l4)), some (.int (s0 ^^^ s1))]) (st' := [.int ((1 : Int32))]) (g' := g) (w' := w) (cl := []) (by decide +kernel) rfl trivial ?_
      cases hf
      exact am_zret C0 (by decide +kernel) (Or.inr rfl)
def f_X4_isRead_3 (F : Nat) (g : am_G) (p1 : Int32) (p2 : Int32) (p3 : Int32)  : Nat → Int32 → Option (Int32)
  | 0, _ => none
  | n + 1, l4 =>
    (f_X2_windows g).bind fun q5 =>
      if q5 ≤ l4 then
        some ((0 : Int32))
      else
        (f_X4_state_10 g l4).bind fun q6 =>
          if ((p3 >>> (l4 &&& 31)) &&& (1 : Int32)) = (1 : Int32) then
            f_X4_isRead_36 F g p1 p2 p3 (fun l4 => f_X4_isRead_3 F g p1 p2 p3 n l4) (l4) (q6) ((1 : Int32))
          else
            f_X4_isRead_36 F g p1 p2 p3 (fun l4 => f_X4_isRead_3 F g p1 p2 p3 n l4) (l4) (q6) ((0 : Int32))
set_option maxRecDepth 20000 in
theorem B_X4_isRead_3 (x : am_X) (C0 : am_Cm x 4 cX4_isRead 6 (some .boolean)) (hR : am_R x = rm_X4_isRead) (w : am_J) (F : Nat) (g : am_G) (p1 : Int32) (p2 : Int32) (p3 : Int32) (R : Int32)   : ∀ (n : Nat) (l4 : Int32), f_X4_isRead_3 F g p1 p2 p3 n l4 = some R → am_Ev x 6 (0, 0) (am_Q x (0, 0) (some (.int R)) am_YY g w) 3 [some (.ref 10), some (.int (p1)), some (.int (p2)), some (.int (p3)), some (.int (l4)), none] [] am_YY g w := by
  intro n
  induction n with
  | zero => intro l4 hf; cases hf
  | succ n ih =>
    intro l4 hf
    rw [f_X4_isRead_3.eq_2] at hf
    refine am_b1 C0 am_YYk (pc := 3) (pc2 := 9) [(.iload 4, 0, 0, .null), (.aload_n 0, 0, 0, .null), (.getfield 18, 4, 0, .null)] (L := [some (.ref 10), some (.int (p1)), some (.int (p2)), some (.int (p3)), some (.int (l4)), none]) (st := []) (L' := [some (.ref 10), some (.int (p1)), some (.int (p2)), some (.int (p3)), some (.int (l4)), none]) (st' := [.ref 3, .int (l4)]) (g' := g) (w' := w) (cl := []) (by decide +kernel) rfl trivial ?_
    obtain ⟨q5, hq5, hf⟩ := Option.bind_eq_some_iff.mp hf
    refine am_callV (mi := mi_X2_windows) (rm := rm_X2_windows) [] C0.1 am_YYl cv_4_22 (M_X2_windows _ g w _ hq5) (ci := 2) rfl (by decide) rfl (by rw [hR]; rfl) rfl rfl (Nat.le_of_ble_eq_true rfl) (by decide +kernel) ?_
    refine am_icmp_ge C0 (off := 61) (tgt := 73) (by decide +kernel) (fun hc8 => ?_) (fun hc8 => ?_)
    · rw [if_pos hc8] at hf
      refine am_b1 C0 am_YYk (pc := 73) (pc2 := 74) [(.iconst 0, 0, 0, .int 0)] (L := [some (.ref 10), some (.int (p1)), some (.int (p2)), some (.int (p3)), some (.int (l4)), none]) (st := []) (L' := [some (.ref 10), some (.int (p1)), some (.int (p2)), some (.int (p3)), some (.int (l4)), none]) (st' := [.int ((0 : Int32))]) (g' := g) (w' := w) (cl := []) (by decide +kernel) rfl trivial ?_
      cases hf
      exact am_zret C0 (by decide +kernel) (Or.inl rfl)
    · rw [if_neg hc8] at hf
      refine am_b1 C0 am_YYk (pc := 15) (pc2 := 18) [(.aload_n 0, 0, 0, .null), (.iload 4, 0, 0, .null)] (L := [some (.ref 10), some (.int (p1)), some (.int (p2)), some (.int (p3)), some (.int (l4)), none]) (st := []) (L' := [some (.ref 10), some (.int (p1)), some (.int (p2)), some (.int (p3)), some (.int (l4)), none]) (st' := [.int (l4), .ref 10]) (g' := g) (w' := w) (cl := []) (by decide +kernel) rfl trivial ?_
      obtain ⟨q6, hq6, hf⟩ := Option.bind_eq_some_iff.mp hf
      refine am_callV (mi := mi_X4_state) (rm := rm_X4_state) [.int (l4)] C0.1 am_YYl cv_4_48 (M_X4_state_10 _ g w l4 _ hq6) (ci := 4) rfl (by decide) rfl (by rw [hR]; rfl) rfl rfl (Nat.le_of_ble_eq_true rfl) (by decide +kernel) ?_
      refine am_b1 C0 am_YYk (pc := 21) (pc2 := 28) [(.iload_n 3, 0, 0, .null), (.iload 4, 0, 0, .null), (.ishr, 0, 0, .null), (.iconst 1, 0, 0, .int 1), (.iand, 0, 0, .null), (.iconst 1, 0, 0, .int 1)] (L := [some (.ref 10), some (.int (p1)), some (.int (p2)), some (.int (p3)), some (.int (l4)), none]) (st := [.int (q6)]) (L' := [some (.ref 10), some (.int (p1)), some (.int (p2)), some (.int (p3)), some (.int (l4)), none]) (st' := [.int ((1 : Int32)), .int ((p3 >>> (l4 &&& 31)) &&& (1 : Int32)), .int (q6)]) (g' := g) (w' := w) (cl := []) (by decide +kernel) rfl trivial ?_
      refine am_icmp_ne C0 (off := 7) (tgt := 35) (by decide +kernel) (fun hc7 => ?_) (fun hc7 => ?_)
      · rw [if_neg hc7] at hf
        refine am_b1 C0 am_YYk (pc := 35) (pc2 := 36) [(.iconst 0, 0, 0, .int 0)] (L := [some (.ref 10), some (.int (p1)), some (.int (p2)), some (.int (p3)), some (.int (l4)), none]) (st := [.int (q6)]) (L' := [some (.ref 10), some (.int (p1)), some (.int (p2)), some (.int (p3)), some (.int (l4)), none]) (st' := [.int ((0 : Int32)), .int (q6)]) (g' := g) (w' := w) (cl := []) (by decide +kernel) rfl trivial ?_
        exact B_X4_isRead_36 x C0 hR w F g p1 p2 p3 R _ (fun l4 hf => ih l4 hf) (l4) (q6) ((0 : Int32)) hf
      · rw [if_pos hc7] at hf
        refine am_b1 C0 am_YYk (pc := 31) (pc2 := 32) [(.iconst 1, 0, 0, .int 1)] (L := [some (.ref 10), some (.int (p1)), some (.int (p2)), some (.int (p3)), some (.int (l4)), none]) (st := [.int (q6)]) (L' := [some (.ref 10), some (.int (p1)), some (.int (p2)), some (.int (p3)), some (.int (l4)), none]) (st' := [.int ((1 : Int32)), .int (q6)]) (g' := g) (w' := w) (cl := []) (by decide +kernel) rfl trivial ?_
        refine am_goto C0 (off := 4) (tgt := 36) (by decide +kernel) ?_
        exact B_X4_isRead_36 x C0 hR w F g p1 p2 p3 R _ (fun l4 hf => ih l4 hf) (l4) (q6) ((1 : Int32)) hf
def f_X4_isRead (F : Nat) (g : am_G) (p1 : Int32) (p2 : Int32) (p3 : Int32) : Option (Int32) :=
  f_X4_isRead_3 F g p1 p2 p3 F ((0 : Int32))
set_option maxRecDepth 20000 in
theorem M_X4_isRead (l : Launch) (F : Nat) (g : am_G) (w : am_J) (p1 : Int32) (p2 : Int32) (p3 : Int32) (R : Int32) (hf : f_X4_isRead F g p1 p2 p3 = some R) : am_Met l mi_X4_isRead rm_X4_isRead [.ref 10, .int p1, .int p2, .int p3] am_YY g w (some (.int R)) am_YY g w := by
  refine am_met (own := 4) [some (.ref 10), some (.int (p1)), some (.int (p2)), some (.int (p3)), none, none] (by decide) rfl rfl (by first | decide | exact Nat.le_of_ble_eq_true rfl) (fun x C0 hR hl hnm => ?_)
  unfold f_X4_isRead at hf
  refine am_b1 C0 am_YYk (pc := 0) (pc2 := 3) [(.iconst 0, 0, 0, .int 0), (.istore 4, 0, 0, .null)] (L := [some (.ref 10), some (.int (p1)), some (.int (p2)), some (.int (p3)), none, none]) (st := []) (L' := [some (.ref 10), some (.int (p1)), some (.int (p2)), some (.int (p3)), some (.int ((0 : Int32))), none]) (st' := []) (g' := g) (w' := w) (cl := []) (by decide +kernel) rfl trivial ?_
  refine B_X4_isRead_3 x C0 hR w F g p1 p2 p3 R   F ((0 : Int32)) hf
/-! ShutterTown.commonDivisor(II)I at () -/
def f_X7_commonDivisor_7 (F : Nat) (p0 : Int32) (p1 : Int32)  : Nat → Int32 → Int32 → Int32 → Option (Int32)
  | 0, _, _, _ => none
  | n + 1, l2, l3, l4 =>
    if (100 : Int32) ≤ l4 then
      some (l2)
    else
      if l3 ≤ 0 then
        some (l2)
      else
        if ¬ l3 = 0 then
          f_X7_commonDivisor_7 F p0 p1 n (l3) (l2 - l2 / l3 * l3) (l4 + (1 : Int32))
        else none
set_option maxRecDepth 20000 in
theorem B_X7_commonDivisor_7 (x : am_X) (C0 : am_Cm x 7 cX7_commonDivisor 6 (some .int)) (hR : am_R x = rm_X7_commonDivisor) (g : am_G) (w : am_J) (F : Nat) (p0 : Int32) (p1 : Int32) (R : Int32)   : ∀ (n : Nat) (l2 : Int32) (l3 : Int32) (l4 : Int32), f_X7_commonDivisor_7 F p0 p1 n l2 l3 l4 = some R → am_Ev x 6 (0, 0) (am_Q x (0, 0) (some (.int R)) am_YY g w) 7 [some (.int (p0)), some (.int (p1)), some (.int (l2)), some (.int (l3)), some (.int (l4)), none] [] am_YY g w := by
  intro n
  induction n with
  | zero => intro l2 l3 l4 hf; cases hf
  | succ n ih =>
    intro l2 l3 l4 hf
    rw [f_X7_commonDivisor_7.eq_2] at hf
    refine am_b1 C0 am_YYk (pc := 7) (pc2 := 11) [(.iload 4, 0, 0, .null), (.bipush 100, 0, 0, .int 100)] (L := [some (.int (p0)), some (.int (p1)), some (.int (l2)), some (.int (l3)), some (.int (l4)), none]) (st := []) (L' := [some (.int (p0)), some (.int (p1)), some (.int (l2)), some (.int (l3)), some (.int (l4)), none]) (st' := [.int ((100 : Int32)), .int (l4)]) (g' := g) (w' := w) (cl := []) (by decide +kernel) rfl trivial ?_
    refine am_icmp_ge C0 (off := 23) (tgt := 34) (by decide +kernel) (fun hc3 => ?_) (fun hc3 => ?_)
    · rw [if_pos hc3] at hf
      refine am_b1 C0 am_YYk (pc := 34) (pc2 := 35) [(.iload_n 2, 0, 0, .null)] (L := [some (.int (p0)), some (.int (p1)), some (.int (l2)), some (.int (l3)), some (.int (l4)), none]) (st := []) (L' := [some (.int (p0)), some (.int (p1)), some (.int (l2)), some (.int (l3)), some (.int (l4)), none]) (st' := [.int (l2)]) (g' := g) (w' := w) (cl := []) (by decide +kernel) rfl trivial ?_
      cases hf
      exact am_iret C0 (by decide +kernel)
    · rw [if_neg hc3] at hf
      refine am_b1 C0 am_YYk (pc := 14) (pc2 := 15) [(.iload_n 3, 0, 0, .null)] (L := [some (.int (p0)), some (.int (p1)), some (.int (l2)), some (.int (l3)), some (.int (l4)), none]) (st := []) (L' := [some (.int (p0)), some (.int (p1)), some (.int (l2)), some (.int (l3)), some (.int (l4)), none]) (st' := [.int (l3)]) (g' := g) (w' := w) (cl := []) (by decide +kernel) rfl trivial ?_
      refine am_if_le C0 (off := 19) (tgt := 34) (by decide +kernel) (fun hc2 => ?_) (fun hc2 => ?_)
      · rw [if_pos hc2] at hf
        refine am_b1 C0 am_YYk (pc := 34) (pc2 := 35) [(.iload_n 2, 0, 0, .null)] (L := [some (.int (p0)), some (.int (p1)), some (.int (l2)), some (.int (l3)), some (.int (l4)), none]) (st := []) (L' := [some (.int (p0)), some (.int (p1)), some (.int (l2)), some (.int (l3)), some (.int (l4)), none]) (st' := [.int (l2)]) (g' := g) (w' := w) (cl := []) (by decide +kernel) rfl trivial ?_
        cases hf
        exact am_iret C0 (by decide +kernel)
      · rw [if_neg hc2] at hf
        obtain ⟨hg1, hf⟩ := am_g hf
        refine am_b1 C0 am_YYk (pc := 18) (pc2 := 31) [(.iload_n 2, 0, 0, .null), (.iload_n 3, 0, 0, .null), (.irem, 0, 0, .null), (.istore 5, 0, 0, .null), (.iload_n 3, 0, 0, .null), (.istore_n 2, 0, 0, .null), (.iload 5, 0, 0, .null), (.istore_n 3, 0, 0, .null), (.iinc 4 1, 0, 0, .int 1)] (L := [some (.int (p0)), some (.int (p1)), some (.int (l2)), some (.int (l3)), some (.int (l4)), none]) (st := []) (L' := [some (.int (p0)), some (.int (p1)), some (.int (l3)), some (.int (l2 - l2 / l3 * l3)), some (.int (l4 + (1 : Int32))), some (.int (l2 - l2 / l3 * l3))]) (st' := []) (g' := g) (w' := w) (cl := [¬ l3 = 0]) (by decide +kernel) rfl ⟨hg1, trivial⟩ ?_
        refine am_goto C0 (off := (-24)) (tgt := 7) (by decide +kernel) ?_
        refine am_wk [some (.int (p0)), some (.int (p1)), some (.int (l3)), some (.int (l2 - l2 / l3 * l3)), some (.int (l4 + (1 : Int32))), none] ⟨rfl, rfl, rfl, rfl, rfl, trivial⟩ rfl ?_
        exact ih (l3) (l2 - l2 / l3 * l3) (l4 + (1 : Int32)) hf
def f_X7_commonDivisor (F : Nat) (p0 : Int32) (p1 : Int32) : Option (Int32) :=
  f_X7_commonDivisor_7 F p0 p1 F (p1) (p0) ((0 : Int32))
set_option maxRecDepth 20000 in
theorem M_X7_commonDivisor (l : Launch) (F : Nat) (g : am_G) (w : am_J) (p0 : Int32) (p1 : Int32) (R : Int32) (hf : f_X7_commonDivisor F p0 p1 = some R) : am_Met l mi_X7_commonDivisor rm_X7_commonDivisor [.int p0, .int p1] am_YY g w (some (.int R)) am_YY g w := by
  refine am_met (own := 7) [some (.int (p0)), some (.int (p1)), none, none, none, none] (by decide) rfl rfl (by first | decide | exact Nat.le_of_ble_eq_true rfl) (fun x C0 hR hl hnm => ?_)
  unfold f_X7_commonDivisor at hf
  refine am_b1 C0 am_YYk (pc := 0) (pc2 := 7) [(.iload_n 1, 0, 0, .null), (.istore_n 2, 0, 0, .null), (.iload_n 0, 0, 0, .null), (.istore_n 3, 0, 0, .null), (.iconst 0, 0, 0, .int 0), (.istore 4, 0, 0, .null)] (L := [some (.int (p0)), some (.int (p1)), none, none, none, none]) (st := []) (L' := [some (.int (p0)), some (.int (p1)), some (.int (p1)), some (.int (p0)), some (.int ((0 : Int32))), none]) (st' := []) (g' := g) (w' := w) (cl := []) (by decide +kernel) rfl trivial ?_
  refine B_X7_commonDivisor_7 x C0 hR g w F p0 p1 R   F (p1) (p0) ((0 : Int32)) hf
/-! ShutterTown.slams(IIIZ)I at (0,) -/
def f_X7_slams_131 (F : Nat) (g : am_G) (p1 : Int32) (p2 : Int32) (p3 : Int32) (p4 : Int32)  (l6 : Int32) (l7 : Int32) : Option (Int32) :=
  (f_X7_commonDivisor F l6 l7).bind fun q1 =>
    if (1 : Int32) ≤ q1 then
      if p4 = 0 then
        if ¬ q1 = 0 then
          some (l7 / q1)
        else none
      else
        if ¬ q1 = 0 then
          some (l6 / q1)
        else none
    else
      some ((-9 : Int32))
set_option maxRecDepth 20000 in
theorem B_X7_slams_131 (x : am_X) (C0 : am_Cm x 7 cX7_slams 10 (some .int)) (hR : am_R x = rm_X7_slams) (w : am_J) (F : Nat) (g : am_G) (p1 : Int32) (p2 : Int32) (p3 : Int32) (p4 : Int32) (R : Int32)   (l6 : Int32) (l7 : Int32) (hf : f_X7_slams_131 F g p1 p2 p3 p4 l6 l7 = some R) : am_Ev x 10 (0, 0) (am_Q x (0, 0) (some (.int R)) am_YY g w) 131 [none, some (.int (p1)), some (.int (p2)), some (.int (p3)), some (.int (p4)), none, some (.int (l6)), some (.int (l7)), none, none] [] am_YY g w := by
  unfold f_X7_slams_131 at hf
  refine am_b1 C0 am_YYk (pc := 131) (pc2 := 135) [(.iload 6, 0, 0, .null), (.iload 7, 0, 0, .null)] (L := [none, some (.int (p1)), some (.int (p2)), some (.int (p3)), some (.int (p4)), none, some (.int (l6)), some (.int (l7)), none, none]) (st := []) (L' := [none, some (.int (p1)), some (.int (p2)), some (.int (p3)), some (.int (p4)), none, some (.int (l6)), some (.int (l7)), none, none]) (st' := [.int (l7), .int (l6)]) (g' := g) (w' := w) (cl := []) (by decide +kernel) rfl trivial ?_
  obtain ⟨q1, hq1, hf⟩ := Option.bind_eq_some_iff.mp hf
  refine am_callS (mi := mi_X7_commonDivisor) (rm := rm_X7_commonDivisor) [.int (l6), .int (l7)] C0.1 cv_7_230 (M_X7_commonDivisor _ F g w l6 l7 _ hq1) (by rw [hR]; rfl) rfl rfl (Nat.le_of_ble_eq_true rfl) (by decide +kernel) ?_
  refine am_b1 C0 am_YYk (pc := 138) (pc2 := 143) [(.istore 8, 0, 0, .null), (.iload 8, 0, 0, .null), (.iconst 1, 0, 0, .int 1)] (L := [none, some (.int (p1)), some (.int (p2)), some (.int (p3)), some (.int (p4)), none, some (.int (l6)), some (.int (l7)), none, none]) (st := [.int (q1)]) (L' := [none, some (.int (p1)), some (.int (p2)), some (.int (p3)), some (.int (p4)), none, some (.int (l6)), some (.int (l7)), some (.int (q1)), none]) (st' := [.int ((1 : Int32)), .int (q1)]) (g' := g) (w' := w) (cl := []) (by decide +kernel) rfl trivial ?_
  refine am_icmp_ge C0 (off := 6) (tgt := 149) (by decide +kernel) (fun hc5 => ?_) (fun hc5 => ?_)
  · rw [if_pos hc5] at hf
    refine am_b1 C0 am_YYk (pc := 149) (pc2 := 151) [(.iload 4, 0, 0, .null)] (L := [none, some (.int (p1)), some (.int (p2)), some (.int (p3)), some (.int (p4)), none, some (.int (l6)), some (.int (l7)), some (.int (q1)), none]) (st := []) (L' := [none, some (.int (p1)), some (.int (p2)), some (.int (p3)), some (.int (p4)), none, some (.int (l6)), some (.int (l7)), some (.int (q1)), none]) (st' := [.int (p4)]) (g' := g) (w' := w) (cl := []) (by decide +kernel) rfl trivial ?_
    refine am_if_eq C0 (off := 11) (tgt := 162) (by decide +kernel) (fun hc4 => ?_) (fun hc4 => ?_)
    · rw [if_pos hc4] at hf
      obtain ⟨hg2, hf⟩ := am_g hf
      refine am_b1 C0 am_YYk (pc := 162) (pc2 := 167) [(.iload 7, 0, 0, .null), (.iload 8, 0, 0, .null), (.idiv, 0, 0, .null)] (L := [none, some (.int (p1)), some (.int (p2)), some (.int (p3)), some (.int (p4)), none, some (.int (l6)), some (.int (l7)), some (.int (q1)), none]) (st := []) (L' := [none, some (.int (p1)), some (.int (p2)), some (.int (p3)), some (.int (p4)), none, some (.int (l6)), some (.int (l7)), some (.int (q1)), none]) (st' := [.int (l7 / q1)]) (g' := g) (w' := w) (cl := [¬ q1 = 0]) (by decide +kernel) rfl ⟨hg2, trivial⟩ ?_
      cases hf
      exact am_iret C0 (by decide +kernel)
    · rw [if_neg hc4] at hf
      obtain ⟨hg3, hf⟩ := am_g hf
      refine am_b1 C0 am_YYk (pc := 154) (pc2 := 159) [(.iload 6, 0, 0, .null), (.iload 8, 0, 0, .null), (.idiv, 0, 0, .null)] (L := [none, some (.int (p1)), some (.int (p2)), some (.int (p3)), some (.int (p4)), none, some (.int (l6)), some (.int (l7)), some (.int (q1)), none]) (st := []) (L' := [none, some (.int (p1)), some (.int (p2)), some (.int (p3)), some (.int (p4)), none, some (.int (l6)), some (.int (l7)), some (.int (q1)), none]) (st' := [.int (l6 / q1)]) (g' := g) (w' := w) (cl := [¬ q1 = 0]) (by decide +kernel) rfl ⟨hg3, trivial⟩ ?_
      refine am_goto C0 (off := 8) (tgt := 167) (by decide +kernel) ?_
      cases hf
      exact am_iret C0 (by decide +kernel)
  · rw [if_neg hc5] at hf
    refine am_b1 C0 am_YYk (pc := 146) (pc2 := 148) [(.bipush (-9), 0, 0, .int (-9))] (L := [none, some (.int (p1)), some (.int (p2)), some (.int (p3)), some (.int (p4)), none, some (.int (l6)), some (.int (l7)), some (.int (q1)), none]) (st := []) (L' := [none, some (.int (p1)), some (.int (p2)), some (.int (p3)), some (.int (p4)), none, some (.int (l6)), some (.int (l7)), some (.int (q1)), none]) (st' := [.int ((-9 : Int32))]) (g' := g) (w' := w) (cl := []) (by decide +kernel) rfl trivial ?_
    cases hf
    exact am_iret C0 (by decide +kernel)
def f_X7_slams_125 (F : Nat) (g : am_G) (p1 : Int32) (p2 : Int32) (p3 : Int32) (p4 : Int32) (k61 : Int32 → Int32 → Int32 → Int32 → Option (Int32)) (k131 : Int32 → Int32 → Option (Int32)) (l5 : Int32) (l6 : Int32) (l7 : Int32) (l8 : Int32) : Option (Int32) :=
  k61 (l5) (l6) (l7) (l8 + (1 : Int32))
set_option maxRecDepth 20000 in
theorem B_X7_slams_125 (x : am_X) (C0 : am_Cm x 7 cX7_slams 10 (some .int)) (hR : am_R x = rm_X7_slams) (w : am_J) (F : Nat) (g : am_G) (p1 : Int32) (p2 : Int32) (p3 : Int32) (p4 : Int32) (R : Int32) (k61 : Int32 → Int32 → Int32 → Int32 → Option (Int32)) (k131 : Int32 → Int32 → Option (Int32)) (hk61 : ∀ (l5 : Int32) (l6 : Int32) (l7 : Int32) (l8 : Int32), k61 l5 l6 l7 l8 = some R → am_Ev x 10 (0, 0) (am_Q x (0, 0) (some (.int R)) am_YY g w) 61 [some (.ref 0), some (.int (p1)), some (.int (p2)), some (.int (p3)), some (.int (p4)), some (.int (l5)), some (.int (l6)), some (.int (l7)), some (.int (l8)), none] [] am_YY g w) (hk131 : ∀ (l6 : Int32) (l7 : Int32), k131 l6 l7 = some R → am_Ev x 10 (0, 0) (am_Q x (0, 0) (some (.int R)) am_YY g w) 131 [none, some (.int (p1)), some (.int (p2)), some (.int (p3)), some (.int (p4)), none, some (.int (l6)), some (.int (l7)), none, none] [] am_YY g w) (l5 : Int32) (l6 : Int32) (l7 : Int32) (l8 : Int32) (hf : f_X7_slams_125 F g p1 p2 p3 p4 k61 k131 l5 l6 l7 l8 = some R) : am_Ev x 10 (0, 0) (am_Q x (0, 0) (some (.int R)) am_YY g w) 125 [some (.ref 0), some (.int (p1)), some (.int (p2)), some (.int (p3)), some (.int (p4)), some (.int (l5)), some (.int (l6)), some (.int (l7)), some (.int (l8)), none] [] am_YY g w := by
  unfold f_X7_slams_125 at hf
  refine am_b1 C0 am_YYk (pc := 125) (pc2 := 128) [(.iinc 8 1, 0, 0, .int 1)] (L := [some (.ref 0), some (.int (p1)), some (.int (p2)), some (.int (p3)), some (.int (p4)), some (.int (l5)), some (.int (l6)), some (.int (l7)), some (.int (l8)), none]) (st := []) (L' := [some (.ref 0), some (.int (p1)), some (.int (p2)), some (.int (p3)), some (.int (p4)), some (.int (l5)), some (.int (l6)), some (.int (l7)), some (.int (l8 + (1 : Int32))), none]) (st' := []) (g' := g) (w' := w) (cl := []) (by decide +kernel) rfl trivial ?_
  refine am_goto C0 (off := (-67)) (tgt := 61) (by decide +kernel) ?_
  exact hk61 (l5) (l6) (l7) (l8 + (1 : Int32)) hf
def f_X7_slams_122 (F : Nat) (g : am_G) (p1 : Int32) (p2 : Int32) (p3 : Int32) (p4 : Int32) (k61 : Int32 → Int32 → Int32 → Int32 → Option (Int32)) (k131 : Int32 → Int32 → Option (Int32)) (l5 : Int32) (l7 : Int32) (l8 : Int32) (s0 : Int32) (s1 : Int32) : Option (Int32) :=
  f_X7_slams_125 F g p1 p2 p3 p4 k61 k131 (l5) (s0 + s1) (l7) (l8)
set_option maxRecDepth 20000 in
theorem B_X7_slams_122 (x : am_X) (C0 : am_Cm x 7 cX7_slams 10 (some .int)) (hR : am_R x = rm_X7_slams) (w : am_J) (F : Nat) (g : am_G) (p1 : Int32) (p2 : Int32) (p3 : Int32) (p4 : Int32) (R : Int32) (k61 : Int32 → Int32 → Int32 → Int32 → Option (Int32)) (k131 : Int32 → Int32 → Option (Int32)) (hk61 : ∀ (l5 : Int32) (l6 : Int32) (l7 : Int32) (l8 : Int32), k61 l5 l6 l7 l8 = some R → am_Ev x 10 (0, 0) (am_Q x (0, 0) (some (.int R)) am_YY g w) 61 [some (.ref 0), some (.int (p1)), some (.int (p2)), some (.int (p3)), some (.int (p4)), some (.int (l5)), some (.int (l6)), some (.int (l7)), some (.int (l8)), none] [] am_YY g w) (hk131 : ∀ (l6 : Int32) (l7 : Int32), k131 l6 l7 = some R → am_Ev x 10 (0, 0) (am_Q x (0, 0) (some (.int R)) am_YY g w) 131 [none, some (.int (p1)), some (.int (p2)), some (.int (p3)), some (.int (p4)), none, some (.int (l6)), some (.int (l7)), none, none] [] am_YY g w) (l5 : Int32) (l7 : Int32) (l8 : Int32) (s0 : Int32) (s1 : Int32) (hf : f_X7_slams_122 F g p1 p2 p3 p4 k61 k131 l5 l7 l8 s0 s1 = some R) : am_Ev x 10 (0, 0) (am_Q x (0, 0) (some (.int R)) am_YY g w) 122 [some (.ref 0), some (.int (p1)), some (.int (p2)), some (.int (p3)), some (.int (p4)), some (.int (l5)), none, some (.int (l7)), some (.int (l8)), none] [.int (s1), .int (s0)] am_YY g w := by
  unfold f_X7_slams_122 at hf
  refine am_b1 C0 am_YYk (pc := 122) (pc2 := 125) [(.iadd, 0, 0, .null), (.istore 6, 0, 0, .null)] (L := [some (.ref 0), some (.int (p1)), some (.int (p2)), some (.int (p3)), some (.int (p4)), some (.int (l5)), none, some (.int (l7)), some (.int (l8)), none]) (st := [.int (s1), .int (s0)]) (L' := [some (.ref 0), some (.int (p1)), some (.int (p2)), some (.int (p3)), some (.int (p4)), some (.int (l5)), some (.int (s0 + s1)), some (.int (l7)), some (.int (l8)), none]) (st' := []) (g' := g) (w' := w) (cl := []) (by decide +kernel) rfl trivial ?_
  exact B_X7_slams_125 x C0 hR w F g p1 p2 p3 p4 R _ _ hk61 hk131 (l5) (s0 + s1) (l7) (l8) hf
def f_X7_slams_61 (F : Nat) (g : am_G) (p1 : Int32) (p2 : Int32) (p3 : Int32) (p4 : Int32) (k131 : Int32 → Int32 → Option (Int32)) : Nat → Int32 → Int32 → Int32 → Int32 → Option (Int32)
  | 0, _, _, _, _ => none
  | n + 1, l5, l6, l7, l8 =>
    (f_X2_sets g).bind fun q6 =>
      if q6 ≤ l8 then
        k131 (l6) (l7)
      else
        if (l8 &&& (l5 ^^^ (-1 : Int32))) = 0 then
          (f_X7_weightOf F l8 l5 p3).bind fun q7 =>
            (f_X4_isRead F g p1 p2 l8).bind fun q8 =>
              if q8 = 0 then
                f_X7_slams_122 F g p1 p2 p3 p4 (fun l5 l6 l7 l8 => f_X7_slams_61 F g p1 p2 p3 p4 k131 n l5 l6 l7 l8) k131 (l5) (l7 + q7) (l8) (l6) ((0 : Int32))
              else
                f_X7_slams_122 F g p1 p2 p3 p4 (fun l5 l6 l7 l8 => f_X7_slams_61 F g p1 p2 p3 p4 k131 n l5 l6 l7 l8) k131 (l5) (l7 + q7) (l8) (l6) (q7)
        else
          f_X7_slams_125 F g p1 p2 p3 p4 (fun l5 l6 l7 l8 => f_X7_slams_61 F g p1 p2 p3 p4 k131 n l5 l6 l7 l8) k131 (l5) (l6) (l7) (l8)
set_option maxRecDepth 20000 in
theorem B_X7_slams_61 (x : am_X) (C0 : am_Cm x 7 cX7_slams 10 (some .int)) (hR : am_R x = rm_X7_slams) (w : am_J) (F : Nat) (g : am_G) (p1 : Int32) (p2 : Int32) (p3 : Int32) (p4 : Int32) (R : Int32) (k131 : Int32 → Int32 → Option (Int32)) (hk131 : ∀ (l6 : Int32) (l7 : Int32), k131 l6 l7 = some R → am_Ev x 10 (0, 0) (am_Q x (0, 0) (some (.int R)) am_YY g w) 131 [none, some (.int (p1)), some (.int (p2)), some (.int (p3)), some (.int (p4)), none, some (.int (l6)), some (.int (l7)), none, none] [] am_YY g w) : ∀ (n : Nat) (l5 : Int32) (l6 : Int32) (l7 : Int32) (l8 : Int32), f_X7_slams_61 F g p1 p2 p3 p4 k131 n l5 l6 l7 l8 = some R → am_Ev x 10 (0, 0) (am_Q x (0, 0) (some (.int R)) am_YY g w) 61 [some (.ref 0), some (.int (p1)), some (.int (p2)), some (.int (p3)), some (.int (p4)), some (.int (l5)), some (.int (l6)), some (.int (l7)), some (.int (l8)), none] [] am_YY g w := by
  intro n
  induction n with
  | zero => intro l5 l6 l7 l8 hf; cases hf
  | succ n ih =>
    intro l5 l6 l7 l8 hf
    rw [f_X7_slams_61.eq_2] at hf
    refine am_b1 C0 am_YYk (pc := 61) (pc2 := 67) [(.iload 8, 0, 0, .null), (.aload_n 0, 0, 0, .null), (.getfield 19, 7, 1, .null)] (L := [some (.ref 0), some (.int (p1)), some (.int (p2)), some (.int (p3)), some (.int (p4)), some (.int (l5)), some (.int (l6)), some (.int (l7)), some (.int (l8)), none]) (st := []) (L' := [some (.ref 0), some (.int (p1)), some (.int (p2)), some (.int (p3)), some (.int (p4)), some (.int (l5)), some (.int (l6)), some (.int (l7)), some (.int (l8)), none]) (st' := [.ref 3, .int (l8)]) (g' := g) (w' := w) (cl := []) (by decide +kernel) rfl trivial ?_
    obtain ⟨q6, hq6, hf⟩ := Option.bind_eq_some_iff.mp hf
    refine am_callV (mi := mi_X2_sets) (rm := rm_X2_sets) [] C0.1 am_YYl cv_7_171 (M_X2_sets _ g w _ hq6) (ci := 2) rfl (by decide) rfl (by rw [hR]; rfl) rfl rfl (Nat.le_of_ble_eq_true rfl) (by decide +kernel) ?_
    refine am_icmp_ge C0 (off := 61) (tgt := 131) (by decide +kernel) (fun hc11 => ?_) (fun hc11 => ?_)
    · rw [if_pos hc11] at hf
      refine am_wk [none, some (.int (p1)), some (.int (p2)), some (.int (p3)), some (.int (p4)), none, some (.int (l6)), some (.int (l7)), none, none] ⟨rfl, rfl, rfl, rfl, rfl, rfl, trivial⟩ rfl ?_
      exact hk131 (l6) (l7) hf
    · rw [if_neg hc11] at hf
      refine am_b1 C0 am_YYk (pc := 73) (pc2 := 80) [(.iload 8, 0, 0, .null), (.iload 5, 0, 0, .null), (.iconst (-1), 0, 0, .int (-1)), (.ixor, 0, 0, .null), (.iand, 0, 0, .null)] (L := [some (.ref 0), some (.int (p1)), some (.int (p2)), some (.int (p3)), some (.int (p4)), some (.int (l5)), some (.int (l6)), some (.int (l7)), some (.int (l8)), none]) (st := []) (L' := [some (.ref 0), some (.int (p1)), some (.int (p2)), some (.int (p3)), some (.int (p4)), some (.int (l5)), some (.int (l6)), some (.int (l7)), some (.int (l8)), none]) (st' := [.int (l8 &&& (l5 ^^^ (-1 : Int32)))]) (g' := g) (w' := w) (cl := []) (by decide +kernel) rfl trivial ?_
      refine am_if_ne C0 (off := 45) (tgt := 125) (by decide +kernel) (fun hc10 => ?_) (fun hc10 => ?_)
      · rw [if_neg hc10] at hf
        exact B_X7_slams_125 x C0 hR w F g p1 p2 p3 p4 R _ _ (fun l5 l6 l7 l8 hf => ih l5 l6 l7 l8 hf) hk131 (l5) (l6) (l7) (l8) hf
      · rw [if_pos hc10] at hf
        refine am_b1 C0 am_YYk (pc := 83) (pc2 := 88) [(.iload 8, 0, 0, .null), (.iload 5, 0, 0, .null), (.iload_n 3, 0, 0, .null)] (L := [some (.ref 0), some (.int (p1)), some (.int (p2)), some (.int (p3)), some (.int (p4)), some (.int (l5)), some (.int (l6)), some (.int (l7)), some (.int (l8)), none]) (st := []) (L' := [some (.ref 0), some (.int (p1)), some (.int (p2)), some (.int (p3)), some (.int (p4)), some (.int (l5)), some (.int (l6)), some (.int (l7)), some (.int (l8)), none]) (st' := [.int (p3), .int (l5), .int (l8)]) (g' := g) (w' := w) (cl := []) (by decide +kernel) rfl trivial ?_
        obtain ⟨q7, hq7, hf⟩ := Option.bind_eq_some_iff.mp hf
        refine am_callS (mi := mi_X7_weightOf) (rm := rm_X7_weightOf) [.int (l8), .int (l5), .int (p3)] C0.1 cv_7_222 (M_X7_weightOf _ F g w l8 l5 p3 _ hq7) (by rw [hR]; rfl) rfl rfl (Nat.le_of_ble_eq_true rfl) (by decide +kernel) ?_
        refine am_b1 C0 am_YYk (pc := 91) (pc2 := 110) [(.istore 9, 0, 0, .null), (.iload 7, 0, 0, .null), (.iload 9, 0, 0, .null), (.iadd, 0, 0, .null), (.istore 7, 0, 0, .null), (.iload 6, 0, 0, .null), (.aload_n 0, 0, 0, .null), (.getfield 28, 7, 2, .null), (.iload_n 1, 0, 0, .null), (.iload_n 2, 0, 0, .null), (.iload 8, 0, 0, .null)] (L := [some (.ref 0), some (.int (p1)), some (.int (p2)), some (.int (p3)), some (.int (p4)), some (.int (l5)), some (.int (l6)), some (.int (l7)), some (.int (l8)), none]) (st := [.int (q7)]) (L' := [some (.ref 0), some (.int (p1)), some (.int (p2)), some (.int (p3)), some (.int (p4)), some (.int (l5)), some (.int (l6)), some (.int (l7 + q7)), some (.int (l8)), some (.int (q7))]) (st' := [.int (l8), .int (p2), .int (p1), .ref 10, .int (l6)]) (g' := g) (w' := w) (cl := []) (by decide +kernel) rfl trivial ?_
        obtain ⟨q8, hq8, hf⟩ := Option.bind_eq_some_iff.mp hf
        refine am_callV (mi := mi_X4_isRead) (rm := rm_X4_isRead) [.int (p1), .int (p2), .int (l8)] C0.1 am_YYl cv_7_226 (M_X4_isRead _ F g w p1 p2 l8 _ hq8) (ci := 4) rfl (by decide) rfl (by rw [hR]; rfl) rfl rfl (Nat.le_of_ble_eq_true rfl) (by decide +kernel) ?_
        refine am_if_eq C0 (off := 8) (tgt := 121) (by decide +kernel) (fun hc9 => ?_) (fun hc9 => ?_)
        · rw [if_pos hc9] at hf
          refine am_b1 C0 am_YYk (pc := 121) (pc2 := 122) [(.iconst 0, 0, 0, .int 0)] (L := [some (.ref 0), some (.int (p1)), some (.int (p2)), some (.int (p3)), some (.int (p4)), some (.int (l5)), some (.int (l6)), some (.int (l7 + q7)), some (.int (l8)), some (.int (q7))]) (st := [.int (l6)]) (L' := [some (.ref 0), some (.int (p1)), some (.int (p2)), some (.int (p3)), some (.int (p4)), some (.int (l5)), some (.int (l6)), some (.int (l7 + q7)), some (.int (l8)), some (.int (q7))]) (st' := [.int ((0 : Int32)), .int (l6)]) (g' := g) (w' := w) (cl := []) (by decide +kernel) rfl trivial ?_
          refine am_wk [some (.ref 0), some (.int (p1)), some (.int (p2)), some (.int (p3)), some (.int (p4)), some (.int (l5)), none, some (.int (l7 + q7)), some (.int (l8)), none] ⟨rfl, rfl, rfl, rfl, rfl, rfl, rfl, rfl, trivial⟩ rfl ?_
          exact B_X7_slams_122 x C0 hR w F g p1 p2 p3 p4 R _ _ (fun l5 l6 l7 l8 hf => ih l5 l6 l7 l8 hf) hk131 (l5) (l7 + q7) (l8) (l6) ((0 : Int32)) hf
        · rw [if_neg hc9] at hf
          refine am_b1 C0 am_YYk (pc := 116) (pc2 := 118) [(.iload 9, 0, 0, .null)] (L := [some (.ref 0), some (.int (p1)), some (.int (p2)), some (.int (p3)), some (.int (p4)), some (.int (l5)), some (.int (l6)), some (.int (l7 + q7)), some (.int (l8)), some (.int (q7))]) (st := [.int (l6)]) (L' := [some (.ref 0), some (.int (p1)), some (.int (p2)), some (.int (p3)), some (.int (p4)), some (.int (l5)), some (.int (l6)), some (.int (l7 + q7)), some (.int (l8)), some (.int (q7))]) (st' := [.int (q7), .int (l6)]) (g' := g) (w' := w) (cl := []) (by decide +kernel) rfl trivial ?_
          refine am_goto C0 (off := 4) (tgt := 122) (by decide +kernel) ?_
          refine am_wk [some (.ref 0), some (.int (p1)), some (.int (p2)), some (.int (p3)), some (.int (p4)), some (.int (l5)), none, some (.int (l7 + q7)), some (.int (l8)), none] ⟨rfl, rfl, rfl, rfl, rfl, rfl, rfl, rfl, trivial⟩ rfl ?_
          exact B_X7_slams_122 x C0 hR w F g p1 p2 p3 p4 R _ _ (fun l5 l6 l7 l8 hf => ih l5 l6 l7 l8 hf) hk131 (l5) (l7 + q7) (l8) (l6) (q7) hf
def f_X7_slams (F : Nat) (g : am_G) (p1 : Int32) (p2 : Int32) (p3 : Int32) (p4 : Int32) : Option (Int32) :=
  (f_X2_has g p1).bind fun q12 =>
    if q12 = 0 then
      some ((-1 : Int32))
    else
      (f_X7_isWord p2).bind fun q13 =>
        if q13 = 0 then
          some ((-2 : Int32))
        else
          if p3 < 0 then
            some ((-2 : Int32))
          else
            if p3 ≤ (10 : Int32) then
              (f_X2_sees g p1).bind fun q14 =>
                (f_X2_ofKind F g (2 : Int32)).bind fun q15 =>
                  f_X7_slams_61 F g p1 p2 p3 p4 (fun l6 l7 => f_X7_slams_131 F g p1 p2 p3 p4 (l6) (l7)) F (q14 &&& q15) ((0 : Int32)) ((0 : Int32)) ((0 : Int32))
            else
              some ((-2 : Int32))
set_option maxRecDepth 20000 in
theorem M_X7_slams (l : Launch) (F : Nat) (g : am_G) (w : am_J) (p1 : Int32) (p2 : Int32) (p3 : Int32) (p4 : Int32) (R : Int32) (hf : f_X7_slams F g p1 p2 p3 p4 = some R) : am_Met l mi_X7_slams rm_X7_slams [.ref 0, .int p1, .int p2, .int p3, .int p4] am_YY g w (some (.int R)) am_YY g w := by
  refine am_met (own := 7) [some (.ref 0), some (.int (p1)), some (.int (p2)), some (.int (p3)), some (.int (p4)), none, none, none, none, none] (by decide) rfl rfl (by first | decide | exact Nat.le_of_ble_eq_true rfl) (fun x C0 hR hl hnm => ?_)
  unfold f_X7_slams at hf
  refine am_b1 C0 am_YYk (pc := 0) (pc2 := 5) [(.aload_n 0, 0, 0, .null), (.getfield 19, 7, 1, .null), (.iload_n 1, 0, 0, .null)] (L := [some (.ref 0), some (.int (p1)), some (.int (p2)), some (.int (p3)), some (.int (p4)), none, none, none, none, none]) (st := []) (L' := [some (.ref 0), some (.int (p1)), some (.int (p2)), some (.int (p3)), some (.int (p4)), none, none, none, none, none]) (st' := [.int (p1), .ref 3]) (g' := g) (w' := w) (cl := []) (by decide +kernel) rfl trivial ?_
  obtain ⟨q12, hq12, hf⟩ := Option.bind_eq_some_iff.mp hf
  refine am_callV (mi := mi_X2_has) (rm := rm_X2_has) [.int (p1)] C0.1 am_YYl cv_7_96 (M_X2_has _ g w p1 _ hq12) (ci := 2) rfl (by decide) rfl (by rw [hR]; rfl) rfl rfl (Nat.le_of_ble_eq_true rfl) (by decide +kernel) ?_
  refine am_if_ne C0 (off := 5) (tgt := 13) (by decide +kernel) (fun hc19 => ?_) (fun hc19 => ?_)
  · rw [if_neg hc19] at hf
    refine am_b1 C0 am_YYk (pc := 13) (pc2 := 14) [(.iload_n 2, 0, 0, .null)] (L := [some (.ref 0), some (.int (p1)), some (.int (p2)), some (.int (p3)), some (.int (p4)), none, none, none, none, none]) (st := []) (L' := [some (.ref 0), some (.int (p1)), some (.int (p2)), some (.int (p3)), some (.int (p4)), none, none, none, none, none]) (st' := [.int (p2)]) (g' := g) (w' := w) (cl := []) (by decide +kernel) rfl trivial ?_
    obtain ⟨q13, hq13, hf⟩ := Option.bind_eq_some_iff.mp hf
    refine am_callS (mi := mi_X7_isWord) (rm := rm_X7_isWord) [.int (p2)] C0.1 cv_7_195 (M_X7_isWord _ g w p2 _ hq13) (by rw [hR]; rfl) rfl rfl (Nat.le_of_ble_eq_true rfl) (by decide +kernel) ?_
    refine am_if_eq C0 (off := 13) (tgt := 30) (by decide +kernel) (fun hc18 => ?_) (fun hc18 => ?_)
    · rw [if_pos hc18] at hf
      refine am_b1 C0 am_YYk (pc := 30) (pc2 := 32) [(.bipush (-2), 0, 0, .int (-2))] (L := [some (.ref 0), some (.int (p1)), some (.int (p2)), some (.int (p3)), some (.int (p4)), none, none, none, none, none]) (st := []) (L' := [some (.ref 0), some (.int (p1)), some (.int (p2)), some (.int (p3)), some (.int (p4)), none, none, none, none, none]) (st' := [.int ((-2 : Int32))]) (g' := g) (w' := w) (cl := []) (by decide +kernel) rfl trivial ?_
      cases hf
      exact am_iret C0 (by decide +kernel)
    · rw [if_neg hc18] at hf
      refine am_b1 C0 am_YYk (pc := 20) (pc2 := 21) [(.iload_n 3, 0, 0, .null)] (L := [some (.ref 0), some (.int (p1)), some (.int (p2)), some (.int (p3)), some (.int (p4)), none, none, none, none, none]) (st := []) (L' := [some (.ref 0), some (.int (p1)), some (.int (p2)), some (.int (p3)), some (.int (p4)), none, none, none, none, none]) (st' := [.int (p3)]) (g' := g) (w' := w) (cl := []) (by decide +kernel) rfl trivial ?_
      refine am_if_lt C0 (off := 9) (tgt := 30) (by decide +kernel) (fun hc17 => ?_) (fun hc17 => ?_)
      · rw [if_pos hc17] at hf
        refine am_b1 C0 am_YYk (pc := 30) (pc2 := 32) [(.bipush (-2), 0, 0, .int (-2))] (L := [some (.ref 0), some (.int (p1)), some (.int (p2)), some (.int (p3)), some (.int (p4)), none, none, none, none, none]) (st := []) (L' := [some (.ref 0), some (.int (p1)), some (.int (p2)), some (.int (p3)), some (.int (p4)), none, none, none, none, none]) (st' := [.int ((-2 : Int32))]) (g' := g) (w' := w) (cl := []) (by decide +kernel) rfl trivial ?_
        cases hf
        exact am_iret C0 (by decide +kernel)
      · rw [if_neg hc17] at hf
        refine am_b1 C0 am_YYk (pc := 24) (pc2 := 27) [(.iload_n 3, 0, 0, .null), (.bipush 10, 0, 0, .int 10)] (L := [some (.ref 0), some (.int (p1)), some (.int (p2)), some (.int (p3)), some (.int (p4)), none, none, none, none, none]) (st := []) (L' := [some (.ref 0), some (.int (p1)), some (.int (p2)), some (.int (p3)), some (.int (p4)), none, none, none, none, none]) (st' := [.int ((10 : Int32)), .int (p3)]) (g' := g) (w' := w) (cl := []) (by decide +kernel) rfl trivial ?_
        refine am_icmp_le C0 (off := 6) (tgt := 33) (by decide +kernel) (fun hc16 => ?_) (fun hc16 => ?_)
        · rw [if_pos hc16] at hf
          refine am_b1 C0 am_YYk (pc := 33) (pc2 := 38) [(.aload_n 0, 0, 0, .null), (.getfield 19, 7, 1, .null), (.iload_n 1, 0, 0, .null)] (L := [some (.ref 0), some (.int (p1)), some (.int (p2)), some (.int (p3)), some (.int (p4)), none, none, none, none, none]) (st := []) (L' := [some (.ref 0), some (.int (p1)), some (.int (p2)), some (.int (p3)), some (.int (p4)), none, none, none, none, none]) (st' := [.int (p1), .ref 3]) (g' := g) (w' := w) (cl := []) (by decide +kernel) rfl trivial ?_
          obtain ⟨q14, hq14, hf⟩ := Option.bind_eq_some_iff.mp hf
          refine am_callV (mi := mi_X2_sees) (rm := rm_X2_sees) [.int (p1)] C0.1 am_YYl cv_7_118 (M_X2_sees _ g w p1 _ hq14) (ci := 2) rfl (by decide) rfl (by rw [hR]; rfl) rfl rfl (Nat.le_of_ble_eq_true rfl) (by decide +kernel) ?_
          refine am_b1 C0 am_YYk (pc := 41) (pc2 := 46) [(.aload_n 0, 0, 0, .null), (.getfield 19, 7, 1, .null), (.iconst 2, 0, 0, .int 2)] (L := [some (.ref 0), some (.int (p1)), some (.int (p2)), some (.int (p3)), some (.int (p4)), none, none, none, none, none]) (st := [.int (q14)]) (L' := [some (.ref 0), some (.int (p1)), some (.int (p2)), some (.int (p3)), some (.int (p4)), none, none, none, none, none]) (st' := [.int ((2 : Int32)), .ref 3, .int (q14)]) (g' := g) (w' := w) (cl := []) (by decide +kernel) rfl trivial ?_
          obtain ⟨q15, hq15, hf⟩ := Option.bind_eq_some_iff.mp hf
          refine am_callV (mi := mi_X2_ofKind) (rm := rm_X2_ofKind) [.int ((2 : Int32))] C0.1 am_YYl cv_7_219 (M_X2_ofKind _ F g w (2 : Int32) _ hq15) (ci := 2) rfl (by decide) rfl (by rw [hR]; rfl) rfl rfl (Nat.le_of_ble_eq_true rfl) (by decide +kernel) ?_
          refine am_b1 C0 am_YYk (pc := 49) (pc2 := 61) [(.iand, 0, 0, .null), (.istore 5, 0, 0, .null), (.iconst 0, 0, 0, .int 0), (.istore 6, 0, 0, .null), (.iconst 0, 0, 0, .int 0), (.istore 7, 0, 0, .null), (.iconst 0, 0, 0, .int 0), (.istore 8, 0, 0, .null)] (L := [some (.ref 0), some (.int (p1)), some (.int (p2)), some (.int (p3)), some (.int (p4)), none, none, none, none, none]) (st := [.int (q15), .int (q14)]) (L' := [some (.ref 0), some (.int (p1)), some (.int (p2)), some (.int (p3)), some (.int (p4)), some (.int (q14 &&& q15)), some (.int ((0 : Int32))), some (.int ((0 : Int32))), some (.int ((0 : Int32))), none]) (st' := []) (g' := g) (w' := w) (cl := []) (by decide +kernel) rfl trivial ?_
          refine B_X7_slams_61 x C0 hR w F g p1 p2 p3 p4 R _ ?_ F (q14 &&& q15) ((0 : Int32)) ((0 : Int32)) ((0 : Int32)) hf
          · intro l6 l7 hf
            exact B_X7_slams_131 x C0 hR w F g p1 p2 p3 p4 R  (l6) (l7) hf
        · rw [if_neg hc16] at hf
          refine am_b1 C0 am_YYk (pc := 30) (pc2 := 32) [(.bipush (-2), 0, 0, .int (-2))] (L := [some (.ref 0), some (.int (p1)), some (.int (p2)), some (.int (p3)), some (.int (p4)), none, none, none, none, none]) (st := []) (L' := [some (.ref 0), some (.int (p1)), some (.int (p2)), some (.int (p3)), some (.int (p4)), none, none, none, none, none]) (st' := [.int ((-2 : Int32))]) (g' := g) (w' := w) (cl := []) (by decide +kernel) rfl trivial ?_
          cases hf
          exact am_iret C0 (by decide +kernel)
  · rw [if_pos hc19] at hf
    refine am_b1 C0 am_YYk (pc := 11) (pc2 := 12) [(.iconst (-1), 0, 0, .int (-1))] (L := [some (.ref 0), some (.int (p1)), some (.int (p2)), some (.int (p3)), some (.int (p4)), none, none, none, none, none]) (st := []) (L' := [some (.ref 0), some (.int (p1)), some (.int (p2)), some (.int (p3)), some (.int (p4)), none, none, none, none, none]) (st' := [.int ((-1 : Int32))]) (g' := g) (w' := w) (cl := []) (by decide +kernel) rfl trivial ?_
    cases hf
    exact am_iret C0 (by decide +kernel)
/-! ShutterTown.seed(J)J at (0,) -/
def f_X7_seed (w : am_J) (p1 : Int64) : Option (Int64 × am_J) :=
  some (w 0 10, am_ul w 0 10 p1)
set_option maxRecDepth 20000 in
theorem M_X7_seed (l : Launch) (g : am_G) (w : am_J) (p1 : Int64) (R : Int64 × am_J) (hf : f_X7_seed w p1 = some R) : am_Met l mi_X7_seed rm_X7_seed [.ref 0, .long p1] am_YY g w (some (.long R.1)) am_YY g (R.2) := by
  refine am_met (own := 7) [some (.ref 0), some (.long (p1)), none, none, none] (by decide) rfl rfl (by first | decide | exact Nat.le_of_ble_eq_true rfl) (fun x C0 hR hl hnm => ?_)
  unfold f_X7_seed at hf
  refine am_b1 C0 am_YYk (pc := 0) (pc2 := 11) [(.aload_n 0, 0, 0, .null), (.getfield 233, 7, 10, .null), (.lstore_n 3, 0, 0, .null), (.aload_n 0, 0, 0, .null), (.lload_n 1, 0, 0, .null), (.putfield 233, 7, 10, .null), (.lload_n 3, 0, 0, .null)] (L := [some (.ref 0), some (.long (p1)), none, none, none]) (st := []) (L' := [some (.ref 0), some (.long (p1)), none, some (.long (w 0 10)), none]) (st' := [.long (w 0 10)]) (g' := g) (w' := am_ul w 0 10 p1) (cl := []) (by decide +kernel) rfl trivial ?_
  cases hf
  exact am_lret C0 (by decide +kernel)
