/-! ShutterTownModel.layHours(III)V at (26,) -/
def f_X8_layHours_91 (F : Nat) (p1 : Int32) (p2 : Int32) (p3 : Int32) (k40 : Int32 → Int32 → am_G → Option (am_G)) (l5 : Int32) (l6 : Int32) (s0 : Int32) (s1 : Int32) (g : am_G) : Option (am_G) :=
  if am_in (p1 + l6) 12 then
    k40 (s0 + s1) (l5 + (1 : Int32)) (am_u g 40 (Int32.toNatClampNeg (p1 + l6)) (s0 + s1))
  else none
set_option maxRecDepth 20000 in
theorem B_X8_layHours_91 (x : am_X) (C0 : am_Cm x 8 cX8_layHours 7 none) (hR : am_R x = rm_X8_layHours) (w : am_J) (F : Nat) (p1 : Int32) (p2 : Int32) (p3 : Int32) (R : am_G) (k40 : Int32 → Int32 → am_G → Option (am_G)) (hk40 : ∀ (l4 : Int32) (l5 : Int32) (g : am_G), k40 l4 l5 g = some R → am_Ev x 7 (0, 0) (am_Q x (0, 0) none am_YY R w) 40 [some (.ref 26), some (.int (p1)), some (.int (p2)), some (.int (p3)), some (.int (l4)), some (.int (l5)), none] [] am_YY g w) (l5 : Int32) (l6 : Int32) (s0 : Int32) (s1 : Int32) (g : am_G) (hf : f_X8_layHours_91 F p1 p2 p3 k40 l5 l6 s0 s1 g = some R) : am_Ev x 7 (0, 0) (am_Q x (0, 0) none am_YY R w) 91 [some (.ref 26), some (.int (p1)), some (.int (p2)), some (.int (p3)), none, some (.int (l5)), some (.int (l6))] [.int (s1), .int (s0)] am_YY g w := by
  unfold f_X8_layHours_91 at hf
  obtain ⟨hg1, hf⟩ := am_g hf
  refine am_b1 C0 am_YYk (pc := 91) (pc2 := 108) [(.iadd, 0, 0, .null), (.istore 4, 0, 0, .null), (.aload_n 0, 0, 0, .null), (.getfield 50, 8, 27, .null), (.iload_n 1, 0, 0, .null), (.iload 6, 0, 0, .null), (.iadd, 0, 0, .null), (.iload 4, 0, 0, .null), (.iastore, 0, 0, .null), (.iinc 5 1, 0, 0, .int 1)] (L := [some (.ref 26), some (.int (p1)), some (.int (p2)), some (.int (p3)), none, some (.int (l5)), some (.int (l6))]) (st := [.int (s1), .int (s0)]) (L' := [some (.ref 26), some (.int (p1)), some (.int (p2)), some (.int (p3)), some (.int (s0 + s1)), some (.int (l5 + (1 : Int32))), some (.int (l6))]) (st' := []) (g' := am_u g 40 (Int32.toNatClampNeg (p1 + l6)) (s0 + s1)) (w' := w) (cl := [am_in (p1 + l6) 12]) (by decide +kernel) rfl ⟨hg1, trivial⟩ ?_
  refine am_goto C0 (off := (-68)) (tgt := 40) (by decide +kernel) ?_
  refine am_wk [some (.ref 26), some (.int (p1)), some (.int (p2)), some (.int (p3)), some (.int (s0 + s1)), some (.int (l5 + (1 : Int32))), none] ⟨rfl, rfl, rfl, rfl, rfl, rfl, trivial⟩ rfl ?_
  exact hk40 (s0 + s1) (l5 + (1 : Int32)) (am_u g 40 (Int32.toNatClampNeg (p1 + l6)) (s0 + s1)) hf
def f_X8_layHours_40 (F : Nat) (p1 : Int32) (p2 : Int32) (p3 : Int32)  : Nat → Int32 → Int32 → am_G → Option (am_G)
  | 0, _, _, _ => none
  | n + 1, l4, l5, g =>
    if (g 26 22) ≤ l5 then
      some (g)
    else
      if (g 26 20) = (-9 : Int32) then
        some (g)
      else
        (f_X8_between F (g 26 21) (g 26 22) l5).bind fun q2 =>
          if am_in q2 6 then
            if (g 31 (Int32.toNatClampNeg q2)) = (1 : Int32) then
              f_X8_layHours_91 F p1 p2 p3 (fun l4 l5 g => f_X8_layHours_40 F p1 p2 p3 n l4 l5 g) (l5) (q2) (l4) ((0 : Int32)) (g)
            else
              f_X8_layHours_91 F p1 p2 p3 (fun l4 l5 g => f_X8_layHours_40 F p1 p2 p3 n l4 l5 g) (l5) (q2) (l4) ((1 : Int32)) (g)
          else none
set_option maxRecDepth 20000 in
theorem B_X8_layHours_40 (x : am_X) (C0 : am_Cm x 8 cX8_layHours 7 none) (hR : am_R x = rm_X8_layHours) (w : am_J) (F : Nat) (p1 : Int32) (p2 : Int32) (p3 : Int32) (R : am_G)   : ∀ (n : Nat) (l4 : Int32) (l5 : Int32) (g : am_G), f_X8_layHours_40 F p1 p2 p3 n l4 l5 g = some R → am_Ev x 7 (0, 0) (am_Q x (0, 0) none am_YY R w) 40 [some (.ref 26), some (.int (p1)), some (.int (p2)), some (.int (p3)), some (.int (l4)), some (.int (l5)), none] [] am_YY g w := by
  intro n
  induction n with
  | zero => intro l4 l5 g hf; cases hf
  | succ n ih =>
    intro l4 l5 g hf
    rw [f_X8_layHours_40.eq_2] at hf
    refine am_b1 C0 am_YYk (pc := 40) (pc2 := 46) [(.iload 5, 0, 0, .null), (.aload_n 0, 0, 0, .null), (.getfield 166, 8, 22, .null)] (L := [some (.ref 26), some (.int (p1)), some (.int (p2)), some (.int (p3)), some (.int (l4)), some (.int (l5)), none]) (st := []) (L' := [some (.ref 26), some (.int (p1)), some (.int (p2)), some (.int (p3)), some (.int (l4)), some (.int (l5)), none]) (st' := [.int (g 26 22), .int (l5)]) (g' := g) (w' := w) (cl := []) (by decide +kernel) rfl trivial ?_
    refine am_icmp_ge C0 (off := 65) (tgt := 111) (by decide +kernel) (fun hc6 => ?_) (fun hc6 => ?_)
    · rw [if_pos hc6] at hf
      cases hf
      exact am_vret C0 (by decide +kernel)
    · rw [if_neg hc6] at hf
      refine am_b1 C0 am_YYk (pc := 49) (pc2 := 55) [(.aload_n 0, 0, 0, .null), (.getfield 156, 8, 20, .null), (.bipush (-9), 0, 0, .int (-9))] (L := [some (.ref 26), some (.int (p1)), some (.int (p2)), some (.int (p3)), some (.int (l4)), some (.int (l5)), none]) (st := []) (L' := [some (.ref 26), some (.int (p1)), some (.int (p2)), some (.int (p3)), some (.int (l4)), some (.int (l5)), none]) (st' := [.int ((-9 : Int32)), .int (g 26 20)]) (g' := g) (w' := w) (cl := []) (by decide +kernel) rfl trivial ?_
      refine am_icmp_eq C0 (off := 56) (tgt := 111) (by decide +kernel) (fun hc5 => ?_) (fun hc5 => ?_)
      · rw [if_pos hc5] at hf
        cases hf
        exact am_vret C0 (by decide +kernel)
      · rw [if_neg hc5] at hf
        refine am_b1 C0 am_YYk (pc := 58) (pc2 := 68) [(.aload_n 0, 0, 0, .null), (.getfield 163, 8, 21, .null), (.aload_n 0, 0, 0, .null), (.getfield 166, 8, 22, .null), (.iload 5, 0, 0, .null)] (L := [some (.ref 26), some (.int (p1)), some (.int (p2)), some (.int (p3)), some (.int (l4)), some (.int (l5)), none]) (st := []) (L' := [some (.ref 26), some (.int (p1)), some (.int (p2)), some (.int (p3)), some (.int (l4)), some (.int (l5)), none]) (st' := [.int (l5), .int (g 26 22), .int (g 26 21)]) (g' := g) (w' := w) (cl := []) (by decide +kernel) rfl trivial ?_
        obtain ⟨q2, hq2, hf⟩ := Option.bind_eq_some_iff.mp hf
        refine am_callS (mi := mi_X8_between) (rm := rm_X8_between) [.int (g 26 21), .int (g 26 22), .int (l5)] C0.1 cv_8_152 (M_X8_between _ F g w (g 26 21) (g 26 22) l5 _ hq2) (by rw [hR]; rfl) rfl rfl (Nat.le_of_ble_eq_true rfl) (by decide +kernel) ?_
        obtain ⟨hg3, hf⟩ := am_g hf
        refine am_b1 C0 am_YYk (pc := 71) (pc2 := 83) [(.istore 6, 0, 0, .null), (.iload 4, 0, 0, .null), (.aload_n 0, 0, 0, .null), (.getfield 22, 8, 6, .null), (.iload 6, 0, 0, .null), (.iaload, 0, 0, .null), (.iconst 1, 0, 0, .int 1)] (L := [some (.ref 26), some (.int (p1)), some (.int (p2)), some (.int (p3)), some (.int (l4)), some (.int (l5)), none]) (st := [.int (q2)]) (L' := [some (.ref 26), some (.int (p1)), some (.int (p2)), some (.int (p3)), some (.int (l4)), some (.int (l5)), some (.int (q2))]) (st' := [.int ((1 : Int32)), .int (g 31 (Int32.toNatClampNeg q2)), .int (l4)]) (g' := g) (w' := w) (cl := [am_in q2 6]) (by decide +kernel) rfl ⟨hg3, trivial⟩ ?_
        refine am_icmp_ne C0 (off := 7) (tgt := 90) (by decide +kernel) (fun hc4 => ?_) (fun hc4 => ?_)
        · rw [if_neg hc4] at hf
          refine am_b1 C0 am_YYk (pc := 90) (pc2 := 91) [(.iconst 1, 0, 0, .int 1)] (L := [some (.ref 26), some (.int (p1)), some (.int (p2)), some (.int (p3)), some (.int (l4)), some (.int (l5)), some (.int (q2))]) (st := [.int (l4)]) (L' := [some (.ref 26), some (.int (p1)), some (.int (p2)), some (.int (p3)), some (.int (l4)), some (.int (l5)), some (.int (q2))]) (st' := [.int ((1 : Int32)), .int (l4)]) (g' := g) (w' := w) (cl := []) (by decide +kernel) rfl trivial ?_
          refine am_wk [some (.ref 26), some (.int (p1)), some (.int (p2)), some (.int (p3)), none, some (.int (l5)), some (.int (q2))] ⟨rfl, rfl, rfl, rfl, rfl, rfl, trivial⟩ rfl ?_
          exact B_X8_layHours_91 x C0 hR w F p1 p2 p3 R _ (fun l4 l5 g hf => ih l4 l5 g hf) (l5) (q2) (l4) ((1 : Int32)) (g) hf
        · rw [if_pos hc4] at hf
          refine am_b1 C0 am_YYk (pc := 86) (pc2 := 87) [(.iconst 0, 0, 0, .int 0)] (L := [some (.ref 26), some (.int (p1)), some (.int (p2)), some (.int (p3)), some (.int (l4)), some (.int (l5)), some (.int (q2))]) (st := [.int (l4)]) (L' := [some (.ref 26), some (.int (p1)), some (.int (p2)), some (.int (p3)), some (.int (l4)), some (.int (l5)), some (.int (q2))]) (st' := [.int ((0 : Int32)), .int (l4)]) (g' := g) (w' := w) (cl := []) (by decide +kernel) rfl trivial ?_
          refine am_goto C0 (off := 4) (tgt := 91) (by decide +kernel) ?_
          refine am_wk [some (.ref 26), some (.int (p1)), some (.int (p2)), some (.int (p3)), none, some (.int (l5)), some (.int (q2))] ⟨rfl, rfl, rfl, rfl, rfl, rfl, trivial⟩ rfl ?_
          exact B_X8_layHours_91 x C0 hR w F p1 p2 p3 R _ (fun l4 l5 g hf => ih l4 l5 g hf) (l5) (q2) (l4) ((0 : Int32)) (g) hf
def f_X8_layHours_34 (F : Nat) (p1 : Int32) (p2 : Int32) (p3 : Int32)  (g : am_G) : Option (am_G) :=
  f_X8_layHours_40 F p1 p2 p3 F ((0 : Int32)) ((0 : Int32)) (g)
set_option maxRecDepth 20000 in
theorem B_X8_layHours_34 (x : am_X) (C0 : am_Cm x 8 cX8_layHours 7 none) (hR : am_R x = rm_X8_layHours) (w : am_J) (F : Nat) (p1 : Int32) (p2 : Int32) (p3 : Int32) (R : am_G)   (g : am_G) (hf : f_X8_layHours_34 F p1 p2 p3 g = some R) : am_Ev x 7 (0, 0) (am_Q x (0, 0) none am_YY R w) 34 [some (.ref 26), some (.int (p1)), some (.int (p2)), some (.int (p3)), none, none, none] [] am_YY g w := by
  unfold f_X8_layHours_34 at hf
  refine am_b1 C0 am_YYk (pc := 34) (pc2 := 40) [(.iconst 0, 0, 0, .int 0), (.istore 4, 0, 0, .null), (.iconst 0, 0, 0, .int 0), (.istore 5, 0, 0, .null)] (L := [some (.ref 26), some (.int (p1)), some (.int (p2)), some (.int (p3)), none, none, none]) (st := []) (L' := [some (.ref 26), some (.int (p1)), some (.int (p2)), some (.int (p3)), some (.int ((0 : Int32))), some (.int ((0 : Int32))), none]) (st' := []) (g' := g) (w' := w) (cl := []) (by decide +kernel) rfl trivial ?_
  refine B_X8_layHours_40 x C0 hR w F p1 p2 p3 R   F ((0 : Int32)) ((0 : Int32)) (g) hf
def f_X8_layHours_10 (F : Nat) (p1 : Int32) (p2 : Int32) (p3 : Int32) (k34 : am_G → Option (am_G)) : Nat → Int32 → am_G → Option (am_G)
  | 0, _, _ => none
  | n + 1, l4, g =>
    if (6 : Int32) ≤ l4 then
      k34 (g)
    else
      if am_in (p1 + l4) 12 then
        f_X8_layHours_10 F p1 p2 p3 k34 n (l4 + (1 : Int32)) (am_u g 40 (Int32.toNatClampNeg (p1 + l4)) (-9 : Int32))
      else none
set_option maxRecDepth 20000 in
theorem B_X8_layHours_10 (x : am_X) (C0 : am_Cm x 8 cX8_layHours 7 none) (hR : am_R x = rm_X8_layHours) (w : am_J) (F : Nat) (p1 : Int32) (p2 : Int32) (p3 : Int32) (R : am_G) (k34 : am_G → Option (am_G)) (hk34 : ∀ (g : am_G), k34 g = some R → am_Ev x 7 (0, 0) (am_Q x (0, 0) none am_YY R w) 34 [some (.ref 26), some (.int (p1)), some (.int (p2)), some (.int (p3)), none, none, none] [] am_YY g w) : ∀ (n : Nat) (l4 : Int32) (g : am_G), f_X8_layHours_10 F p1 p2 p3 k34 n l4 g = some R → am_Ev x 7 (0, 0) (am_Q x (0, 0) none am_YY R w) 10 [some (.ref 26), some (.int (p1)), some (.int (p2)), some (.int (p3)), some (.int (l4)), none, none] [] am_YY g w := by
  intro n
  induction n with
  | zero => intro l4 g hf; cases hf
  | succ n ih =>
    intro l4 g hf
    rw [f_X8_layHours_10.eq_2] at hf
    refine am_b1 C0 am_YYk (pc := 10) (pc2 := 14) [(.iload 4, 0, 0, .null), (.bipush 6, 0, 0, .int 6)] (L := [some (.ref 26), some (.int (p1)), some (.int (p2)), some (.int (p3)), some (.int (l4)), none, none]) (st := []) (L' := [some (.ref 26), some (.int (p1)), some (.int (p2)), some (.int (p3)), some (.int (l4)), none, none]) (st' := [.int ((6 : Int32)), .int (l4)]) (g' := g) (w' := w) (cl := []) (by decide +kernel) rfl trivial ?_
    refine am_icmp_ge C0 (off := 20) (tgt := 34) (by decide +kernel) (fun hc8 => ?_) (fun hc8 => ?_)
    · rw [if_pos hc8] at hf
      refine am_wk [some (.ref 26), some (.int (p1)), some (.int (p2)), some (.int (p3)), none, none, none] ⟨rfl, rfl, rfl, rfl, trivial⟩ rfl ?_
      exact hk34 (g) hf
    · rw [if_neg hc8] at hf
      obtain ⟨hg7, hf⟩ := am_g hf
      refine am_b1 C0 am_YYk (pc := 17) (pc2 := 31) [(.aload_n 0, 0, 0, .null), (.getfield 50, 8, 27, .null), (.iload_n 1, 0, 0, .null), (.iload 4, 0, 0, .null), (.iadd, 0, 0, .null), (.bipush (-9), 0, 0, .int (-9)), (.iastore, 0, 0, .null), (.iinc 4 1, 0, 0, .int 1)] (L := [some (.ref 26), some (.int (p1)), some (.int (p2)), some (.int (p3)), some (.int (l4)), none, none]) (st := []) (L' := [some (.ref 26), some (.int (p1)), some (.int (p2)), some (.int (p3)), some (.int (l4 + (1 : Int32))), none, none]) (st' := []) (g' := am_u g 40 (Int32.toNatClampNeg (p1 + l4)) (-9 : Int32)) (w' := w) (cl := [am_in (p1 + l4) 12]) (by decide +kernel) rfl ⟨hg7, trivial⟩ ?_
      refine am_goto C0 (off := (-21)) (tgt := 10) (by decide +kernel) ?_
      exact ih (l4 + (1 : Int32)) (am_u g 40 (Int32.toNatClampNeg (p1 + l4)) (-9 : Int32)) hf
def f_X8_layHours (F : Nat) (g : am_G) (p1 : Int32) (p2 : Int32) (p3 : Int32) : Option (am_G) :=
  (f_X8_layWays F g p2 p3 (0 : Int32)).bind fun q9 =>
    f_X8_layHours_10 F p1 p2 p3 (fun g => f_X8_layHours_34 F p1 p2 p3 (g)) F ((0 : Int32)) (q9)
set_option maxRecDepth 20000 in
theorem M_X8_layHours (l : Launch) (F : Nat) (g : am_G) (w : am_J) (p1 : Int32) (p2 : Int32) (p3 : Int32) (R : am_G) (hf : f_X8_layHours F g p1 p2 p3 = some R) : am_Met l mi_X8_layHours rm_X8_layHours [.ref 26, .int p1, .int p2, .int p3] am_YY g w none am_YY R w := by
  refine am_met (own := 8) [some (.ref 26), some (.int (p1)), some (.int (p2)), some (.int (p3)), none, none, none] (by decide) rfl rfl (by first | decide | exact Nat.le_of_ble_eq_true rfl) (fun x C0 hR hl hnm => ?_)
  unfold f_X8_layHours at hf
  refine am_b1 C0 am_YYk (pc := 0) (pc2 := 4) [(.aload_n 0, 0, 0, .null), (.iload_n 2, 0, 0, .null), (.iload_n 3, 0, 0, .null), (.iconst 0, 0, 0, .int 0)] (L := [some (.ref 26), some (.int (p1)), some (.int (p2)), some (.int (p3)), none, none, none]) (st := []) (L' := [some (.ref 26), some (.int (p1)), some (.int (p2)), some (.int (p3)), none, none, none]) (st' := [.int ((0 : Int32)), .int (p3), .int (p2), .ref 26]) (g' := g) (w' := w) (cl := []) (by decide +kernel) rfl trivial ?_
  obtain ⟨q9, hq9, hf⟩ := Option.bind_eq_some_iff.mp hf
  refine am_callV (mi := mi_X8_layWays) (rm := rm_X8_layWays) [.int (p2), .int (p3), .int ((0 : Int32))] C0.1 am_YYl cv_8_169 (M_X8_layWays _ F g w p2 p3 (0 : Int32) _ hq9) (ci := 8) rfl (by decide) rfl (by rw [hR]; rfl) rfl rfl (Nat.le_of_ble_eq_true rfl) (by decide +kernel) ?_
  refine am_b1 C0 am_YYk (pc := 7) (pc2 := 10) [(.iconst 0, 0, 0, .int 0), (.istore 4, 0, 0, .null)] (L := [some (.ref 26), some (.int (p1)), some (.int (p2)), some (.int (p3)), none, none, none]) (st := []) (L' := [some (.ref 26), some (.int (p1)), some (.int (p2)), some (.int (p3)), some (.int ((0 : Int32))), none, none]) (st' := []) (g' := q9) (w' := w) (cl := []) (by decide +kernel) rfl trivial ?_
  refine B_X8_layHours_10 x C0 hR w F p1 p2 p3 R _ ?_ F ((0 : Int32)) (q9) hf
  · intro g hf
    exact B_X8_layHours_34 x C0 hR w F p1 p2 p3 R  (g) hf
/-! ShutterTownModel.cross(II)I at (26,) -/
def f_X8_cross_127 (F : Nat) (p1 : Int32) (p2 : Int32)  (l3 : Int32) (g : am_G) : Option (Int32 × am_G) :=
  if l3 = (99 : Int32) then
    some ((-9 : Int32), g)
  else
    some (l3, g)
set_option maxRecDepth 20000 in
theorem B_X8_cross_127 (x : am_X) (C0 : am_Cm x 8 cX8_cross 6 (some .int)) (hR : am_R x = rm_X8_cross) (w : am_J) (F : Nat) (p1 : Int32) (p2 : Int32) (R : Int32 × am_G)   (l3 : Int32) (g : am_G) (hf : f_X8_cross_127 F p1 p2 l3 g = some R) : am_Ev x 6 (0, 0) (am_Q x (0, 0) (some (.int R.1)) am_YY (R.2) w) 127 [none, some (.int (p1)), some (.int (p2)), some (.int (l3)), none, none] [] am_YY g w := by
  unfold f_X8_cross_127 at hf
  refine am_b1 C0 am_YYk (pc := 127) (pc2 := 130) [(.iload_n 3, 0, 0, .null), (.bipush 99, 0, 0, .int 99)] (L := [none, some (.int (p1)), some (.int (p2)), some (.int (l3)), none, none]) (st := []) (L' := [none, some (.int (p1)), some (.int (p2)), some (.int (l3)), none, none]) (st' := [.int ((99 : Int32)), .int (l3)]) (g' := g) (w' := w) (cl := []) (by decide +kernel) rfl trivial ?_
  refine am_icmp_ne C0 (off := 8) (tgt := 138) (by decide +kernel) (fun hc1 => ?_) (fun hc1 => ?_)
  · rw [if_neg hc1] at hf
    refine am_b1 C0 am_YYk (pc := 138) (pc2 := 139) [(.iload_n 3, 0, 0, .null)] (L := [none, some (.int (p1)), some (.int (p2)), some (.int (l3)), none, none]) (st := []) (L' := [none, some (.int (p1)), some (.int (p2)), some (.int (l3)), none, none]) (st' := [.int (l3)]) (g' := g) (w' := w) (cl := []) (by decide +kernel) rfl trivial ?_
    cases hf
    exact am_iret C0 (by decide +kernel)
  · rw [if_pos hc1] at hf
    refine am_b1 C0 am_YYk (pc := 133) (pc2 := 135) [(.bipush (-9), 0, 0, .int (-9))] (L := [none, some (.int (p1)), some (.int (p2)), some (.int (l3)), none, none]) (st := []) (L' := [none, some (.int (p1)), some (.int (p2)), some (.int (l3)), none, none]) (st' := [.int ((-9 : Int32))]) (g' := g) (w' := w) (cl := []) (by decide +kernel) rfl trivial ?_
    refine am_goto C0 (off := 4) (tgt := 139) (by decide +kernel) ?_
    cases hf
    exact am_iret C0 (by decide +kernel)
def f_X8_cross_120 (F : Nat) (p1 : Int32) (p2 : Int32) (k47 : Int32 → Int32 → am_G → Option (Int32 × am_G)) (k127 : Int32 → am_G → Option (Int32 × am_G)) (l4 : Int32) (s0 : Int32) (g : am_G) : Option (Int32 × am_G) :=
  k47 (s0) (l4 + (1 : Int32)) (g)
set_option maxRecDepth 20000 in
theorem B_X8_cross_120 (x : am_X) (C0 : am_Cm x 8 cX8_cross 6 (some .int)) (hR : am_R x = rm_X8_cross) (w : am_J) (F : Nat) (p1 : Int32) (p2 : Int32) (R : Int32 × am_G) (k47 : Int32 → Int32 → am_G → Option (Int32 × am_G)) (k127 : Int32 → am_G → Option (Int32 × am_G)) (hk47 : ∀ (l3 : Int32) (l4 : Int32) (g : am_G), k47 l3 l4 g = some R → am_Ev x 6 (0, 0) (am_Q x (0, 0) (some (.int R.1)) am_YY (R.2) w) 47 [some (.ref 26), some (.int (p1)), some (.int (p2)), some (.int (l3)), some (.int (l4)), none] [] am_YY g w) (hk127 : ∀ (l3 : Int32) (g : am_G), k127 l3 g = some R → am_Ev x 6 (0, 0) (am_Q x (0, 0) (some (.int R.1)) am_YY (R.2) w) 127 [none, some (.int (p1)), some (.int (p2)), some (.int (l3)), none, none] [] am_YY g w) (l4 : Int32) (s0 : Int32) (g : am_G) (hf : f_X8_cross_120 F p1 p2 k47 k127 l4 s0 g = some R) : am_Ev x 6 (0, 0) (am_Q x (0, 0) (some (.int R.1)) am_YY (R.2) w) 120 [some (.ref 26), some (.int (p1)), some (.int (p2)), none, some (.int (l4)), none] [.int (s0)] am_YY g w := by
  unfold f_X8_cross_120 at hf
  refine am_b1 C0 am_YYk (pc := 120) (pc2 := 124) [(.istore_n 3, 0, 0, .null), (.iinc 4 1, 0, 0, .int 1)] (L := [some (.ref 26), some (.int (p1)), some (.int (p2)), none, some (.int (l4)), none]) (st := [.int (s0)]) (L' := [some (.ref 26), some (.int (p1)), some (.int (p2)), some (.int (s0)), some (.int (l4 + (1 : Int32))), none]) (st' := []) (g' := g) (w' := w) (cl := []) (by decide +kernel) rfl trivial ?_
  refine am_goto C0 (off := (-77)) (tgt := 47) (by decide +kernel) ?_
  exact hk47 (s0) (l4 + (1 : Int32)) (g) hf
def f_X8_cross_119 (F : Nat) (p1 : Int32) (p2 : Int32) (k47 : Int32 → Int32 → am_G → Option (Int32 × am_G)) (k127 : Int32 → am_G → Option (Int32 × am_G)) (l3 : Int32) (l4 : Int32) (g : am_G) : Option (Int32 × am_G) :=
  f_X8_cross_120 F p1 p2 k47 k127 (l4) (l3) (g)
set_option maxRecDepth 20000 in
theorem B_X8_cross_119 (x : am_X) (C0 : am_Cm x 8 cX8_cross 6 (some .int)) (hR : am_R x = rm_X8_cross) (w : am_J) (F : Nat) (p1 : Int32) (p2 : Int32) (R : Int32 × am_G) (k47 : Int32 → Int32 → am_G → Option (Int32 × am_G)) (k127 : Int32 → am_G → Option (Int32 × am_G)) (hk47 : ∀ (l3 : Int32) (l4 : Int32) (g : am_G), k47 l3 l4 g = some R → am_Ev x 6 (0, 0) (am_Q x (0, 0) (some (.int R.1)) am_YY (R.2) w) 47 [some (.ref 26), some (.int (p1)), some (.int (p2)), some (.int (l3)), some (.int (l4)), none] [] am_YY g w) (hk127 : ∀ (l3 : Int32) (g : am_G), k127 l3 g = some R → am_Ev x 6 (0, 0) (am_Q x (0, 0) (some (.int R.1)) am_YY (R.2) w) 127 [none, some (.int (p1)), some (.int (p2)), some (.int (l3)), none, none] [] am_YY g w) (l3 : Int32) (l4 : Int32) (g : am_G) (hf : f_X8_cross_119 F p1 p2 k47 k127 l3 l4 g = some R) : am_Ev x 6 (0, 0) (am_Q x (0, 0) (some (.int R.1)) am_YY (R.2) w) 119 [some (.ref 26), some (.int (p1)), some (.int (p2)), some (.int (l3)), some (.int (l4)), none] [] am_YY g w := by
  unfold f_X8_cross_119 at hf
  refine am_b1 C0 am_YYk (pc := 119) (pc2 := 120) [(.iload_n 3, 0, 0, .null)] (L := [some (.ref 26), some (.int (p1)), some (.int (p2)), some (.int (l3)), some (.int (l4)), none]) (st := []) (L' := [some (.ref 26), some (.int (p1)), some (.int (p2)), some (.int (l3)), some (.int (l4)), none]) (st' := [.int (l3)]) (g' := g) (w' := w) (cl := []) (by decide +kernel) rfl trivial ?_
  refine am_wk [some (.ref 26), some (.int (p1)), some (.int (p2)), none, some (.int (l4)), none] ⟨rfl, rfl, rfl, rfl, trivial⟩ rfl ?_
  exact B_X8_cross_120 x C0 hR w F p1 p2 R _ _ hk47 hk127 (l4) (l3) (g) hf
def f_X8_cross_91 (F : Nat) (p1 : Int32) (p2 : Int32) (k47 : Int32 → Int32 → am_G → Option (Int32 × am_G)) (k127 : Int32 → am_G → Option (Int32 × am_G)) (l3 : Int32) (l4 : Int32) (s0 : Int32) (g : am_G) : Option (Int32 × am_G) :=
  if s0 = 0 then
    f_X8_cross_119 F p1 p2 k47 k127 (l3) (l4) (g)
  else
    if am_in l4 12 then
      if l3 ≤ (g 40 (Int32.toNatClampNeg l4)) then
        f_X8_cross_119 F p1 p2 k47 k127 (l3) (l4) (g)
      else
        if am_in l4 12 then
          f_X8_cross_120 F p1 p2 k47 k127 (l4) (g 40 (Int32.toNatClampNeg l4)) (g)
        else none
    else none
set_option maxRecDepth 20000 in
theorem B_X8_cross_91 (x : am_X) (C0 : am_Cm x 8 cX8_cross 6 (some .int)) (hR : am_R x = rm_X8_cross) (w : am_J) (F : Nat) (p1 : Int32) (p2 : Int32) (R : Int32 × am_G) (k47 : Int32 → Int32 → am_G → Option (Int32 × am_G)) (k127 : Int32 → am_G → Option (Int32 × am_G)) (hk47 : ∀ (l3 : Int32) (l4 : Int32) (g : am_G), k47 l3 l4 g = some R → am_Ev x 6 (0, 0) (am_Q x (0, 0) (some (.int R.1)) am_YY (R.2) w) 47 [some (.ref 26), some (.int (p1)), some (.int (p2)), some (.int (l3)), some (.int (l4)), none] [] am_YY g w) (hk127 : ∀ (l3 : Int32) (g : am_G), k127 l3 g = some R → am_Ev x 6 (0, 0) (am_Q x (0, 0) (some (.int R.1)) am_YY (R.2) w) 127 [none, some (.int (p1)), some (.int (p2)), some (.int (l3)), none, none] [] am_YY g w) (l3 : Int32) (l4 : Int32) (s0 : Int32) (g : am_G) (hf : f_X8_cross_91 F p1 p2 k47 k127 l3 l4 s0 g = some R) : am_Ev x 6 (0, 0) (am_Q x (0, 0) (some (.int R.1)) am_YY (R.2) w) 91 [some (.ref 26), some (.int (p1)), some (.int (p2)), some (.int (l3)), some (.int (l4)), none] [.int (s0)] am_YY g w := by
  unfold f_X8_cross_91 at hf
  refine am_b1 C0 am_YYk (pc := 91) (pc2 := 95) [(.istore 5, 0, 0, .null), (.iload 5, 0, 0, .null)] (L := [some (.ref 26), some (.int (p1)), some (.int (p2)), some (.int (l3)), some (.int (l4)), none]) (st := [.int (s0)]) (L' := [some (.ref 26), some (.int (p1)), some (.int (p2)), some (.int (l3)), some (.int (l4)), some (.int (s0))]) (st' := [.int (s0)]) (g' := g) (w' := w) (cl := []) (by decide +kernel) rfl trivial ?_
  refine am_if_eq C0 (off := 24) (tgt := 119) (by decide +kernel) (fun hc5 => ?_) (fun hc5 => ?_)
  · rw [if_pos hc5] at hf
    refine am_wk [some (.ref 26), some (.int (p1)), some (.int (p2)), some (.int (l3)), some (.int (l4)), none] ⟨rfl, rfl, rfl, rfl, rfl, trivial⟩ rfl ?_
    exact B_X8_cross_119 x C0 hR w F p1 p2 R _ _ hk47 hk127 (l3) (l4) (g) hf
  · rw [if_neg hc5] at hf
    obtain ⟨hg2, hf⟩ := am_g hf
    refine am_b1 C0 am_YYk (pc := 98) (pc2 := 106) [(.aload_n 0, 0, 0, .null), (.getfield 50, 8, 27, .null), (.iload 4, 0, 0, .null), (.iaload, 0, 0, .null), (.iload_n 3, 0, 0, .null)] (L := [some (.ref 26), some (.int (p1)), some (.int (p2)), some (.int (l3)), some (.int (l4)), some (.int (s0))]) (st := []) (L' := [some (.ref 26), some (.int (p1)), some (.int (p2)), some (.int (l3)), some (.int (l4)), some (.int (s0))]) (st' := [.int (l3), .int (g 40 (Int32.toNatClampNeg l4))]) (g' := g) (w' := w) (cl := [am_in l4 12]) (by decide +kernel) rfl ⟨hg2, trivial⟩ ?_
    refine am_icmp_ge C0 (off := 13) (tgt := 119) (by decide +kernel) (fun hc4 => ?_) (fun hc4 => ?_)
    · rw [if_pos hc4] at hf
      refine am_wk [some (.ref 26), some (.int (p1)), some (.int (p2)), some (.int (l3)), some (.int (l4)), none] ⟨rfl, rfl, rfl, rfl, rfl, trivial⟩ rfl ?_
      exact B_X8_cross_119 x C0 hR w F p1 p2 R _ _ hk47 hk127 (l3) (l4) (g) hf
    · rw [if_neg hc4] at hf
      obtain ⟨hg3, hf⟩ := am_g hf
      refine am_b1 C0 am_YYk (pc := 109) (pc2 := 116) [(.aload_n 0, 0, 0, .null), (.getfield 50, 8, 27, .null), (.iload 4, 0, 0, .null), (.iaload, 0, 0, .null)] (L := [some (.ref 26), some (.int (p1)), some (.int (p2)), some (.int (l3)), some (.int (l4)), some (.int (s0))]) (st := []) (L' := [some (.ref 26), some (.int (p1)), some (.int (p2)), some (.int (l3)), some (.int (l4)), some (.int (s0))]) (st' := [.int (g 40 (Int32.toNatClampNeg l4))]) (g' := g) (w' := w) (cl := [am_in l4 12]) (by decide +kernel) rfl ⟨hg3, trivial⟩ ?_
      refine am_goto C0 (off := 4) (tgt := 120) (by decide +kernel) ?_
      refine am_wk [some (.ref 26), some (.int (p1)), some (.int (p2)), none, some (.int (l4)), none] ⟨rfl, rfl, rfl, rfl, trivial⟩ rfl ?_
      exact B_X8_cross_120 x C0 hR w F p1 p2 R _ _ hk47 hk127 (l4) (g 40 (Int32.toNatClampNeg l4)) (g) hf
def f_X8_cross_90 (F : Nat) (p1 : Int32) (p2 : Int32) (k47 : Int32 → Int32 → am_G → Option (Int32 × am_G)) (k127 : Int32 → am_G → Option (Int32 × am_G)) (l3 : Int32) (l4 : Int32) (g : am_G) : Option (Int32 × am_G) :=
  f_X8_cross_91 F p1 p2 k47 k127 (l3) (l4) ((0 : Int32)) (g)
set_option maxRecDepth 20000 in
theorem B_X8_cross_90 (x : am_X) (C0 : am_Cm x 8 cX8_cross 6 (some .int)) (hR : am_R x = rm_X8_cross) (w : am_J) (F : Nat) (p1 : Int32) (p2 : Int32) (R : Int32 × am_G) (k47 : Int32 → Int32 → am_G → Option (Int32 × am_G)) (k127 : Int32 → am_G → Option (Int32 × am_G)) (hk47 : ∀ (l3 : Int32) (l4 : Int32) (g : am_G), k47 l3 l4 g = some R → am_Ev x 6 (0, 0) (am_Q x (0, 0) (some (.int R.1)) am_YY (R.2) w) 47 [some (.ref 26), some (.int (p1)), some (.int (p2)), some (.int (l3)), some (.int (l4)), none] [] am_YY g w) (hk127 : ∀ (l3 : Int32) (g : am_G), k127 l3 g = some R → am_Ev x 6 (0, 0) (am_Q x (0, 0) (some (.int R.1)) am_YY (R.2) w) 127 [none, some (.int (p1)), some (.int (p2)), some (.int (l3)), none, none] [] am_YY g w) (l3 : Int32) (l4 : Int32) (g : am_G) (hf : f_X8_cross_90 F p1 p2 k47 k127 l3 l4 g = some R) : am_Ev x 6 (0, 0) (am_Q x (0, 0) (some (.int R.1)) am_YY (R.2) w) 90 [some (.ref 26), some (.int (p1)), some (.int (p2)), some (.int (l3)), some (.int (l4)), none] [] am_YY g w := by
  unfold f_X8_cross_90 at hf
  refine am_b1 C0 am_YYk (pc := 90) (pc2 := 91) [(.iconst 0, 0, 0, .int 0)] (L := [some (.ref 26), some (.int (p1)), some (.int (p2)), some (.int (l3)), some (.int (l4)), none]) (st := []) (L' := [some (.ref 26), some (.int (p1)), some (.int (p2)), some (.int (l3)), some (.int (l4)), none]) (st' := [.int ((0 : Int32))]) (g' := g) (w' := w) (cl := []) (by decide +kernel) rfl trivial ?_
  exact B_X8_cross_91 x C0 hR w F p1 p2 R _ _ hk47 hk127 (l3) (l4) ((0 : Int32)) (g) hf
def f_X8_cross_47 (F : Nat) (p1 : Int32) (p2 : Int32) (k127 : Int32 → am_G → Option (Int32 × am_G)) : Nat → Int32 → Int32 → am_G → Option (Int32 × am_G)
  | 0, _, _, _ => none
  | n + 1, l3, l4, g =>
    if (6 : Int32) ≤ l4 then
      k127 (l3) (g)
    else
      if am_in l4 12 then
        if (g 40 (Int32.toNatClampNeg l4)) = (-9 : Int32) then
          f_X8_cross_90 F p1 p2 (fun l3 l4 g => f_X8_cross_47 F p1 p2 k127 n l3 l4 g) k127 (l3) (l4) (g)
        else
          if am_in l4 12 then
            if am_in ((6 : Int32) + l4) 12 then
              if (g 40 (Int32.toNatClampNeg l4)) = (g 40 (Int32.toNatClampNeg ((6 : Int32) + l4))) then
                f_X8_cross_91 F p1 p2 (fun l3 l4 g => f_X8_cross_47 F p1 p2 k127 n l3 l4 g) k127 (l3) (l4) ((1 : Int32)) (g)
              else
                f_X8_cross_90 F p1 p2 (fun l3 l4 g => f_X8_cross_47 F p1 p2 k127 n l3 l4 g) k127 (l3) (l4) (g)
            else none
          else none
      else none
set_option maxRecDepth 20000 in
theorem B_X8_cross_47 (x : am_X) (C0 : am_Cm x 8 cX8_cross 6 (some .int)) (hR : am_R x = rm_X8_cross) (w : am_J) (F : Nat) (p1 : Int32) (p2 : Int32) (R : Int32 × am_G) (k127 : Int32 → am_G → Option (Int32 × am_G)) (hk127 : ∀ (l3 : Int32) (g : am_G), k127 l3 g = some R → am_Ev x 6 (0, 0) (am_Q x (0, 0) (some (.int R.1)) am_YY (R.2) w) 127 [none, some (.int (p1)), some (.int (p2)), some (.int (l3)), none, none] [] am_YY g w) : ∀ (n : Nat) (l3 : Int32) (l4 : Int32) (g : am_G), f_X8_cross_47 F p1 p2 k127 n l3 l4 g = some R → am_Ev x 6 (0, 0) (am_Q x (0, 0) (some (.int R.1)) am_YY (R.2) w) 47 [some (.ref 26), some (.int (p1)), some (.int (p2)), some (.int (l3)), some (.int (l4)), none] [] am_YY g w := by
  intro n
  induction n with
  | zero => intro l3 l4 g hf; cases hf
  | succ n ih =>
    intro l3 l4 g hf
    rw [f_X8_cross_47.eq_2] at hf
    refine am_b1 C0 am_YYk (pc := 47) (pc2 := 51) [(.iload 4, 0, 0, .null), (.bipush 6, 0, 0, .int 6)] (L := [some (.ref 26), some (.int (p1)), some (.int (p2)), some (.int (l3)), some (.int (l4)), none]) (st := []) (L' := [some (.ref 26), some (.int (p1)), some (.int (p2)), some (.int (l3)), some (.int (l4)), none]) (st' := [.int ((6 : Int32)), .int (l4)]) (g' := g) (w' := w) (cl := []) (by decide +kernel) rfl trivial ?_
    refine am_icmp_ge C0 (off := 76) (tgt := 127) (by decide +kernel) (fun hc11 => ?_) (fun hc11 => ?_)
    · rw [if_pos hc11] at hf
      refine am_wk [none, some (.int (p1)), some (.int (p2)), some (.int (l3)), none, none] ⟨rfl, rfl, rfl, trivial⟩ rfl ?_
      exact hk127 (l3) (g) hf
    · rw [if_neg hc11] at hf
      obtain ⟨hg6, hf⟩ := am_g hf
      refine am_b1 C0 am_YYk (pc := 54) (pc2 := 63) [(.aload_n 0, 0, 0, .null), (.getfield 50, 8, 27, .null), (.iload 4, 0, 0, .null), (.iaload, 0, 0, .null), (.bipush (-9), 0, 0, .int (-9))] (L := [some (.ref 26), some (.int (p1)), some (.int (p2)), some (.int (l3)), some (.int (l4)), none]) (st := []) (L' := [some (.ref 26), some (.int (p1)), some (.int (p2)), some (.int (l3)), some (.int (l4)), none]) (st' := [.int ((-9 : Int32)), .int (g 40 (Int32.toNatClampNeg l4))]) (g' := g) (w' := w) (cl := [am_in l4 12]) (by decide +kernel) rfl ⟨hg6, trivial⟩ ?_
      refine am_icmp_eq C0 (off := 27) (tgt := 90) (by decide +kernel) (fun hc10 => ?_) (fun hc10 => ?_)
      · rw [if_pos hc10] at hf
        exact B_X8_cross_90 x C0 hR w F p1 p2 R _ _ (fun l3 l4 g hf => ih l3 l4 g hf) hk127 (l3) (l4) (g) hf
      · rw [if_neg hc10] at hf
        obtain ⟨hg7, hf⟩ := am_g hf
        obtain ⟨hg8, hf⟩ := am_g hf
        refine am_b1 C0 am_YYk (pc := 66) (pc2 := 83) [(.aload_n 0, 0, 0, .null), (.getfield 50, 8, 27, .null), (.iload 4, 0, 0, .null), (.iaload, 0, 0, .null), (.aload_n 0, 0, 0, .null), (.getfield 50, 8, 27, .null), (.bipush 6, 0, 0, .int 6), (.iload 4, 0, 0, .null), (.iadd, 0, 0, .null), (.iaload, 0, 0, .null)] (L := [some (.ref 26), some (.int (p1)), some (.int (p2)), some (.int (l3)), some (.int (l4)), none]) (st := []) (L' := [some (.ref 26), some (.int (p1)), some (.int (p2)), some (.int (l3)), some (.int (l4)), none]) (st' := [.int (g 40 (Int32.toNatClampNeg ((6 : Int32) + l4))), .int (g 40 (Int32.toNatClampNeg l4))]) (g' := g) (w' := w) (cl := [am_in l4 12, am_in ((6 : Int32) + l4) 12]) (by decide +kernel) rfl ⟨hg7, hg8, trivial⟩ ?_
        refine am_icmp_ne C0 (off := 7) (tgt := 90) (by decide +kernel) (fun hc9 => ?_) (fun hc9 => ?_)
        · rw [if_neg hc9] at hf
          exact B_X8_cross_90 x C0 hR w F p1 p2 R _ _ (fun l3 l4 g hf => ih l3 l4 g hf) hk127 (l3) (l4) (g) hf
        · rw [if_pos hc9] at hf
          refine am_b1 C0 am_YYk (pc := 86) (pc2 := 87) [(.iconst 1, 0, 0, .int 1)] (L := [some (.ref 26), some (.int (p1)), some (.int (p2)), some (.int (l3)), some (.int (l4)), none]) (st := []) (L' := [some (.ref 26), some (.int (p1)), some (.int (p2)), some (.int (l3)), some (.int (l4)), none]) (st' := [.int ((1 : Int32))]) (g' := g) (w' := w) (cl := []) (by decide +kernel) rfl trivial ?_
          refine am_goto C0 (off := 4) (tgt := 91) (by decide +kernel) ?_
          exact B_X8_cross_91 x C0 hR w F p1 p2 R _ _ (fun l3 l4 g hf => ih l3 l4 g hf) hk127 (l3) (l4) ((1 : Int32)) (g) hf
def f_X8_cross (F : Nat) (g : am_G) (p1 : Int32) (p2 : Int32) : Option (Int32 × am_G) :=
  (f_X8_isWindow g p1).bind fun q12 =>
    if q12 = 0 then
      some ((-1 : Int32), g)
    else
      (f_X8_isWindow g p2).bind fun q13 =>
        if q13 = 0 then
          some ((-1 : Int32), g)
        else
          if p1 = p2 then
            some ((-2 : Int32), g)
          else
            (f_X8_layHours F g (0 : Int32) p1 p2).bind fun q14 =>
              (f_X8_layHours F q14 (6 : Int32) p2 p1).bind fun q15 =>
                f_X8_cross_47 F p1 p2 (fun l3 g => f_X8_cross_127 F p1 p2 (l3) (g)) F ((99 : Int32)) ((0 : Int32)) (q15)
set_option maxRecDepth 20000 in
theorem M_X8_cross (l : Launch) (F : Nat) (g : am_G) (w : am_J) (p1 : Int32) (p2 : Int32) (R : Int32 × am_G) (hf : f_X8_cross F g p1 p2 = some R) : am_Met l mi_X8_cross rm_X8_cross [.ref 26, .int p1, .int p2] am_YY g w (some (.int R.1)) am_YY (R.2) w := by
  refine am_met (own := 8) [some (.ref 26), some (.int (p1)), some (.int (p2)), none, none, none] (by decide) rfl rfl (by first | decide | exact Nat.le_of_ble_eq_true rfl) (fun x C0 hR hl hnm => ?_)
  unfold f_X8_cross at hf
  refine am_b1 C0 am_YYk (pc := 0) (pc2 := 2) [(.aload_n 0, 0, 0, .null), (.iload_n 1, 0, 0, .null)] (L := [some (.ref 26), some (.int (p1)), some (.int (p2)), none, none, none]) (st := []) (L' := [some (.ref 26), some (.int (p1)), some (.int (p2)), none, none, none]) (st' := [.int (p1), .ref 26]) (g' := g) (w' := w) (cl := []) (by decide +kernel) rfl trivial ?_
  obtain ⟨q12, hq12, hf⟩ := Option.bind_eq_some_iff.mp hf
  refine am_callV (mi := mi_X8_isWindow) (rm := rm_X8_isWindow) [.int (p1)] C0.1 am_YYl cv_8_125 (M_X8_isWindow _ g w p1 _ hq12) (ci := 8) rfl (by decide) rfl (by rw [hR]; rfl) rfl rfl (Nat.le_of_ble_eq_true rfl) (by decide +kernel) ?_
  refine am_if_eq C0 (off := 11) (tgt := 16) (by decide +kernel) (fun hc18 => ?_) (fun hc18 => ?_)
  · rw [if_pos hc18] at hf
    refine am_b1 C0 am_YYk (pc := 16) (pc2 := 17) [(.iconst (-1), 0, 0, .int (-1))] (L := [some (.ref 26), some (.int (p1)), some (.int (p2)), none, none, none]) (st := []) (L' := [some (.ref 26), some (.int (p1)), some (.int (p2)), none, none, none]) (st' := [.int ((-1 : Int32))]) (g' := g) (w' := w) (cl := []) (by decide +kernel) rfl trivial ?_
    cases hf
    exact am_iret C0 (by decide +kernel)
  · rw [if_neg hc18] at hf
    refine am_b1 C0 am_YYk (pc := 8) (pc2 := 10) [(.aload_n 0, 0, 0, .null), (.iload_n 2, 0, 0, .null)] (L := [some (.ref 26), some (.int (p1)), some (.int (p2)), none, none, none]) (st := []) (L' := [some (.ref 26), some (.int (p1)), some (.int (p2)), none, none, none]) (st' := [.int (p2), .ref 26]) (g' := g) (w' := w) (cl := []) (by decide +kernel) rfl trivial ?_
    obtain ⟨q13, hq13, hf⟩ := Option.bind_eq_some_iff.mp hf
    refine am_callV (mi := mi_X8_isWindow) (rm := rm_X8_isWindow) [.int (p2)] C0.1 am_YYl cv_8_125 (M_X8_isWindow _ g w p2 _ hq13) (ci := 8) rfl (by decide) rfl (by rw [hR]; rfl) rfl rfl (Nat.le_of_ble_eq_true rfl) (by decide +kernel) ?_
    refine am_if_ne C0 (off := 5) (tgt := 18) (by decide +kernel) (fun hc17 => ?_) (fun hc17 => ?_)
    · rw [if_neg hc17] at hf
      refine am_b1 C0 am_YYk (pc := 18) (pc2 := 20) [(.iload_n 1, 0, 0, .null), (.iload_n 2, 0, 0, .null)] (L := [some (.ref 26), some (.int (p1)), some (.int (p2)), none, none, none]) (st := []) (L' := [some (.ref 26), some (.int (p1)), some (.int (p2)), none, none, none]) (st' := [.int (p2), .int (p1)]) (g' := g) (w' := w) (cl := []) (by decide +kernel) rfl trivial ?_
      refine am_icmp_ne C0 (off := 6) (tgt := 26) (by decide +kernel) (fun hc16 => ?_) (fun hc16 => ?_)
      · rw [if_neg hc16] at hf
        refine am_b1 C0 am_YYk (pc := 26) (pc2 := 30) [(.aload_n 0, 0, 0, .null), (.iconst 0, 0, 0, .int 0), (.iload_n 1, 0, 0, .null), (.iload_n 2, 0, 0, .null)] (L := [some (.ref 26), some (.int (p1)), some (.int (p2)), none, none, none]) (st := []) (L' := [some (.ref 26), some (.int (p1)), some (.int (p2)), none, none, none]) (st' := [.int (p2), .int (p1), .int ((0 : Int32)), .ref 26]) (g' := g) (w' := w) (cl := []) (by decide +kernel) rfl trivial ?_
        obtain ⟨q14, hq14, hf⟩ := Option.bind_eq_some_iff.mp hf
        refine am_callV (mi := mi_X8_layHours) (rm := rm_X8_layHours) [.int ((0 : Int32)), .int (p1), .int (p2)] C0.1 am_YYl cv_8_214 (M_X8_layHours _ F g w (0 : Int32) p1 p2 _ hq14) (ci := 8) rfl (by decide) rfl (by rw [hR]; rfl) rfl rfl (Nat.le_of_ble_eq_true rfl) (by decide +kernel) ?_
        refine am_b1 C0 am_YYk (pc := 33) (pc2 := 38) [(.aload_n 0, 0, 0, .null), (.bipush 6, 0, 0, .int 6), (.iload_n 2, 0, 0, .null), (.iload_n 1, 0, 0, .null)] (L := [some (.ref 26), some (.int (p1)), some (.int (p2)), none, none, none]) (st := []) (L' := [some (.ref 26), some (.int (p1)), some (.int (p2)), none, none, none]) (st' := [.int (p1), .int (p2), .int ((6 : Int32)), .ref 26]) (g' := q14) (w' := w) (cl := []) (by decide +kernel) rfl trivial ?_
        obtain ⟨q15, hq15, hf⟩ := Option.bind_eq_some_iff.mp hf
        refine am_callV (mi := mi_X8_layHours) (rm := rm_X8_layHours) [.int ((6 : Int32)), .int (p2), .int (p1)] C0.1 am_YYl cv_8_214 (M_X8_layHours _ F q14 w (6 : Int32) p2 p1 _ hq15) (ci := 8) rfl (by decide) rfl (by rw [hR]; rfl) rfl rfl (Nat.le_of_ble_eq_true rfl) (by decide +kernel) ?_
        refine am_b1 C0 am_YYk (pc := 41) (pc2 := 47) [(.bipush 99, 0, 0, .int 99), (.istore_n 3, 0, 0, .null), (.iconst 0, 0, 0, .int 0), (.istore 4, 0, 0, .null)] (L := [some (.ref 26), some (.int (p1)), some (.int (p2)), none, none, none]) (st := []) (L' := [some (.ref 26), some (.int (p1)), some (.int (p2)), some (.int ((99 : Int32))), some (.int ((0 : Int32))), none]) (st' := []) (g' := q15) (w' := w) (cl := []) (by decide +kernel) rfl trivial ?_
        refine B_X8_cross_47 x C0 hR w F p1 p2 R _ ?_ F ((99 : Int32)) ((0 : Int32)) (q15) hf
        · intro l3 g hf
          exact B_X8_cross_127 x C0 hR w F p1 p2 R  (l3) (g) hf
      · rw [if_pos hc16] at hf
        refine am_b1 C0 am_YYk (pc := 23) (pc2 := 25) [(.bipush (-2), 0, 0, .int (-2))] (L := [some (.ref 26), some (.int (p1)), some (.int (p2)), none, none, none]) (st := []) (L' := [some (.ref 26), some (.int (p1)), some (.int (p2)), none, none, none]) (st' := [.int ((-2 : Int32))]) (g' := g) (w' := w) (cl := []) (by decide +kernel) rfl trivial ?_
        cases hf
        exact am_iret C0 (by decide +kernel)
    · rw [if_pos hc17] at hf
      refine am_b1 C0 am_YYk (pc := 16) (pc2 := 17) [(.iconst (-1), 0, 0, .int (-1))] (L := [some (.ref 26), some (.int (p1)), some (.int (p2)), none, none, none]) (st := []) (L' := [some (.ref 26), some (.int (p1)), some (.int (p2)), none, none, none]) (st' := [.int ((-1 : Int32))]) (g' := g) (w' := w) (cl := []) (by decide +kernel) rfl trivial ?_
      cases hf
      exact am_iret C0 (by decide +kernel)
/-! ShutterTownModel.lets(II)I at (26,) -/
def f_X8_lets (F : Nat) (g : am_G) (p1 : Int32) (p2 : Int32) : Option (Int32) :=
  if p1 = p2 then
    some ((0 : Int32))
  else
    (f_X8_seen F g p1).bind fun q1 =>
      (f_X8_seen F g p2).bind fun q2 =>
        (f_X8_ones F (q1 &&& (q2 ^^^ (-1 : Int32)))).bind fun q3 =>
          some (q3)
set_option maxRecDepth 20000 in
theorem M_X8_lets (l : Launch) (F : Nat) (g : am_G) (w : am_J) (p1 : Int32) (p2 : Int32) (R : Int32) (hf : f_X8_lets F g p1 p2 = some R) : am_Met l mi_X8_lets rm_X8_lets [.ref 26, .int p1, .int p2] am_YY g w (some (.int R)) am_YY g w := by
  refine am_met (own := 8) [some (.ref 26), some (.int (p1)), some (.int (p2))] (by decide) rfl rfl (by first | decide | exact Nat.le_of_ble_eq_true rfl) (fun x C0 hR hl hnm => ?_)
  unfold f_X8_lets at hf
  refine am_b1 C0 am_YYk (pc := 0) (pc2 := 2) [(.iload_n 1, 0, 0, .null), (.iload_n 2, 0, 0, .null)] (L := [some (.ref 26), some (.int (p1)), some (.int (p2))]) (st := []) (L' := [some (.ref 26), some (.int (p1)), some (.int (p2))]) (st' := [.int (p2), .int (p1)]) (g' := g) (w' := w) (cl := []) (by decide +kernel) rfl trivial ?_
  refine am_icmp_ne C0 (off := 7) (tgt := 9) (by decide +kernel) (fun hc4 => ?_) (fun hc4 => ?_)
  · rw [if_neg hc4] at hf
    refine am_b1 C0 am_YYk (pc := 9) (pc2 := 11) [(.aload_n 0, 0, 0, .null), (.iload_n 1, 0, 0, .null)] (L := [some (.ref 26), some (.int (p1)), some (.int (p2))]) (st := []) (L' := [some (.ref 26), some (.int (p1)), some (.int (p2))]) (st' := [.int (p1), .ref 26]) (g' := g) (w' := w) (cl := []) (by decide +kernel) rfl trivial ?_
    obtain ⟨q1, hq1, hf⟩ := Option.bind_eq_some_iff.mp hf
    refine am_callV (mi := mi_X8_seen) (rm := rm_X8_seen) [.int (p1)] C0.1 am_YYl cv_8_129 (M_X8_seen _ F g w p1 _ hq1) (ci := 8) rfl (by decide) rfl (by rw [hR]; rfl) rfl rfl (Nat.le_of_ble_eq_true rfl) (by decide +kernel) ?_
    refine am_b1 C0 am_YYk (pc := 14) (pc2 := 16) [(.aload_n 0, 0, 0, .null), (.iload_n 2, 0, 0, .null)] (L := [some (.ref 26), some (.int (p1)), some (.int (p2))]) (st := [.int (q1)]) (L' := [some (.ref 26), some (.int (p1)), some (.int (p2))]) (st' := [.int (p2), .ref 26, .int (q1)]) (g' := g) (w' := w) (cl := []) (by decide +kernel) rfl trivial ?_
    obtain ⟨q2, hq2, hf⟩ := Option.bind_eq_some_iff.mp hf
    refine am_callV (mi := mi_X8_seen) (rm := rm_X8_seen) [.int (p2)] C0.1 am_YYl cv_8_129 (M_X8_seen _ F g w p2 _ hq2) (ci := 8) rfl (by decide) rfl (by rw [hR]; rfl) rfl rfl (Nat.le_of_ble_eq_true rfl) (by decide +kernel) ?_
    refine am_b1 C0 am_YYk (pc := 19) (pc2 := 22) [(.iconst (-1), 0, 0, .int (-1)), (.ixor, 0, 0, .null), (.iand, 0, 0, .null)] (L := [some (.ref 26), some (.int (p1)), some (.int (p2))]) (st := [.int (q2), .int (q1)]) (L' := [some (.ref 26), some (.int (p1)), some (.int (p2))]) (st' := [.int (q1 &&& (q2 ^^^ (-1 : Int32)))]) (g' := g) (w' := w) (cl := []) (by decide +kernel) rfl trivial ?_
    obtain ⟨q3, hq3, hf⟩ := Option.bind_eq_some_iff.mp hf
    refine am_callS (mi := mi_X8_ones) (rm := rm_X8_ones) [.int (q1 &&& (q2 ^^^ (-1 : Int32)))] C0.1 cv_8_173 (M_X8_ones _ F g w (q1 &&& (q2 ^^^ (-1 : Int32))) _ hq3) (by rw [hR]; rfl) rfl rfl (Nat.le_of_ble_eq_true rfl) (by decide +kernel) ?_
    cases hf
    exact am_iret C0 (by decide +kernel)
  · rw [if_pos hc4] at hf
    refine am_b1 C0 am_YYk (pc := 5) (pc2 := 6) [(.iconst 0, 0, 0, .int 0)] (L := [some (.ref 26), some (.int (p1)), some (.int (p2))]) (st := []) (L' := [some (.ref 26), some (.int (p1)), some (.int (p2))]) (st' := [.int ((0 : Int32))]) (g' := g) (w' := w) (cl := []) (by decide +kernel) rfl trivial ?_
    refine am_goto C0 (off := 19) (tgt := 25) (by decide +kernel) ?_
    cases hf
    exact am_iret C0 (by decide +kernel)
/-! ShutterTownModel.isRest(II)Z at (26,) -/
def f_X8_isRest_55 (F : Nat) (g : am_G) (p1 : Int32) (p2 : Int32) (k5 : Int32 → Int32 → Option (Int32)) (l4 : Int32) (s0 : Int32) : Option (Int32) :=
  k5 (s0) (l4 + (1 : Int32))
set_option maxRecDepth 20000 in
theorem B_X8_isRest_55 (x : am_X) (C0 : am_Cm x 8 cX8_isRest 5 (some .boolean)) (hR : am_R x = rm_X8_isRest) (w : am_J) (F : Nat) (g : am_G) (p1 : Int32) (p2 : Int32) (R : Int32) (k5 : Int32 → Int32 → Option (Int32)) (hk5 : ∀ (l3 : Int32) (l4 : Int32), k5 l3 l4 = some R → am_Ev x 5 (0, 0) (am_Q x (0, 0) (some (.int R)) am_YY g w) 5 [some (.ref 26), some (.int (p1)), some (.int (p2)), some (.int (l3)), some (.int (l4))] [] am_YY g w) (l4 : Int32) (s0 : Int32) (hf : f_X8_isRest_55 F g p1 p2 k5 l4 s0 = some R) : am_Ev x 5 (0, 0) (am_Q x (0, 0) (some (.int R)) am_YY g w) 55 [some (.ref 26), some (.int (p1)), some (.int (p2)), none, some (.int (l4))] [.int (s0)] am_YY g w := by
  unfold f_X8_isRest_55 at hf
  refine am_b1 C0 am_YYk (pc := 55) (pc2 := 59) [(.istore_n 3, 0, 0, .null), (.iinc 4 1, 0, 0, .int 1)] (L := [some (.ref 26), some (.int (p1)), some (.int (p2)), none, some (.int (l4))]) (st := [.int (s0)]) (L' := [some (.ref 26), some (.int (p1)), some (.int (p2)), some (.int (s0)), some (.int (l4 + (1 : Int32)))]) (st' := []) (g' := g) (w' := w) (cl := []) (by decide +kernel) rfl trivial ?_
  refine am_goto C0 (off := (-54)) (tgt := 5) (by decide +kernel) ?_
  exact hk5 (s0) (l4 + (1 : Int32)) hf
def f_X8_isRest_54 (F : Nat) (g : am_G) (p1 : Int32) (p2 : Int32) (k5 : Int32 → Int32 → Option (Int32)) (l4 : Int32) : Option (Int32) :=
  f_X8_isRest_55 F g p1 p2 k5 (l4) ((0 : Int32))
set_option maxRecDepth 20000 in
theorem B_X8_isRest_54 (x : am_X) (C0 : am_Cm x 8 cX8_isRest 5 (some .boolean)) (hR : am_R x = rm_X8_isRest) (w : am_J) (F : Nat) (g : am_G) (p1 : Int32) (p2 : Int32) (R : Int32) (k5 : Int32 → Int32 → Option (Int32)) (hk5 : ∀ (l3 : Int32) (l4 : Int32), k5 l3 l4 = some R → am_Ev x 5 (0, 0) (am_Q x (0, 0) (some (.int R)) am_YY g w) 5 [some (.ref 26), some (.int (p1)), some (.int (p2)), some (.int (l3)), some (.int (l4))] [] am_YY g w) (l4 : Int32) (hf : f_X8_isRest_54 F g p1 p2 k5 l4 = some R) : am_Ev x 5 (0, 0) (am_Q x (0, 0) (some (.int R)) am_YY g w) 54 [some (.ref 26), some (.int (p1)), some (.int (p2)), none, some (.int (l4))] [] am_YY g w := by
  unfold f_X8_isRest_54 at hf
  refine am_b1 C0 am_YYk (pc := 54) (pc2 := 55) [(.iconst 0, 0, 0, .int 0)] (L := [some (.ref 26), some (.int (p1)), some (.int (p2)), none, some (.int (l4))]) (st := []) (L' := [some (.ref 26), some (.int (p1)), some (.int (p2)), none, some (.int (l4))]) (st' := [.int ((0 : Int32))]) (g' := g) (w' := w) (cl := []) (by decide +kernel) rfl trivial ?_
  exact B_X8_isRest_55 x C0 hR w F g p1 p2 R _ hk5 (l4) ((0 : Int32)) hf
def f_X8_isRest_5 (F : Nat) (g : am_G) (p1 : Int32) (p2 : Int32)  : Nat → Int32 → Int32 → Option (Int32)
  | 0, _, _ => none
  | n + 1, l3, l4 =>
    if (g 26 0) ≤ l4 then
      if l3 = 0 ∨ l3 = 1 then
        some (l3)
      else none
    else
      if l3 = 0 then
        f_X8_isRest_54 F g p1 p2 (fun l3 l4 => f_X8_isRest_5 F g p1 p2 n l3 l4) (l4)
      else
        (f_X8_lets F g l4 p2).bind fun q2 =>
          (f_X8_lets F g p1 p2).bind fun q3 =>
            if q3 < q2 then
              f_X8_isRest_54 F g p1 p2 (fun l3 l4 => f_X8_isRest_5 F g p1 p2 n l3 l4) (l4)
            else
              (f_X8_lets F g l4 p1).bind fun q4 =>
                (f_X8_lets F g p2 p1).bind fun q5 =>
                  if q5 < q4 then
                    f_X8_isRest_54 F g p1 p2 (fun l3 l4 => f_X8_isRest_5 F g p1 p2 n l3 l4) (l4)
                  else
                    f_X8_isRest_55 F g p1 p2 (fun l3 l4 => f_X8_isRest_5 F g p1 p2 n l3 l4) (l4) ((1 : Int32))
set_option maxRecDepth 20000 in
theorem B_X8_isRest_5 (x : am_X) (C0 : am_Cm x 8 cX8_isRest 5 (some .boolean)) (hR : am_R x = rm_X8_isRest) (w : am_J) (F : Nat) (g : am_G) (p1 : Int32) (p2 : Int32) (R : Int32)   : ∀ (n : Nat) (l3 : Int32) (l4 : Int32), f_X8_isRest_5 F g p1 p2 n l3 l4 = some R → am_Ev x 5 (0, 0) (am_Q x (0, 0) (some (.int R)) am_YY g w) 5 [some (.ref 26), some (.int (p1)), some (.int (p2)), some (.int (l3)), some (.int (l4))] [] am_YY g w := by
  intro n
  induction n with
  | zero => intro l3 l4 hf; cases hf
  | succ n ih =>
    intro l3 l4 hf
    rw [f_X8_isRest_5.eq_2] at hf
    refine am_b1 C0 am_YYk (pc := 5) (pc2 := 11) [(.iload 4, 0, 0, .null), (.aload_n 0, 0, 0, .null), (.getfield 111, 8, 0, .null)] (L := [some (.ref 26), some (.int (p1)), some (.int (p2)), some (.int (l3)), some (.int (l4))]) (st := []) (L' := [some (.ref 26), some (.int (p1)), some (.int (p2)), some (.int (l3)), some (.int (l4))]) (st' := [.int (g 26 0), .int (l4)]) (g' := g) (w' := w) (cl := []) (by decide +kernel) rfl trivial ?_
    refine am_icmp_ge C0 (off := 51) (tgt := 62) (by decide +kernel) (fun hc9 => ?_) (fun hc9 => ?_)
    · rw [if_pos hc9] at hf
      refine am_b1 C0 am_YYk (pc := 62) (pc2 := 63) [(.iload_n 3, 0, 0, .null)] (L := [some (.ref 26), some (.int (p1)), some (.int (p2)), some (.int (l3)), some (.int (l4))]) (st := []) (L' := [some (.ref 26), some (.int (p1)), some (.int (p2)), some (.int (l3)), some (.int (l4))]) (st' := [.int (l3)]) (g' := g) (w' := w) (cl := []) (by decide +kernel) rfl trivial ?_
      obtain ⟨hz1, hf⟩ := am_g hf
      cases hf
      exact am_zret C0 (by decide +kernel) hz1
    · rw [if_neg hc9] at hf
      refine am_b1 C0 am_YYk (pc := 14) (pc2 := 15) [(.iload_n 3, 0, 0, .null)] (L := [some (.ref 26), some (.int (p1)), some (.int (p2)), some (.int (l3)), some (.int (l4))]) (st := []) (L' := [some (.ref 26), some (.int (p1)), some (.int (p2)), some (.int (l3)), some (.int (l4))]) (st' := [.int (l3)]) (g' := g) (w' := w) (cl := []) (by decide +kernel) rfl trivial ?_
      refine am_if_eq C0 (off := 39) (tgt := 54) (by decide +kernel) (fun hc8 => ?_) (fun hc8 => ?_)
      · rw [if_pos hc8] at hf
        refine am_wk [some (.ref 26), some (.int (p1)), some (.int (p2)), none, some (.int (l4))] ⟨rfl, rfl, rfl, rfl, trivial⟩ rfl ?_
        exact B_X8_isRest_54 x C0 hR w F g p1 p2 R _ (fun l3 l4 hf => ih l3 l4 hf) (l4) hf
      · rw [if_neg hc8] at hf
        refine am_b1 C0 am_YYk (pc := 18) (pc2 := 22) [(.aload_n 0, 0, 0, .null), (.iload 4, 0, 0, .null), (.iload_n 2, 0, 0, .null)] (L := [some (.ref 26), some (.int (p1)), some (.int (p2)), some (.int (l3)), some (.int (l4))]) (st := []) (L' := [some (.ref 26), some (.int (p1)), some (.int (p2)), some (.int (l3)), some (.int (l4))]) (st' := [.int (p2), .int (l4), .ref 26]) (g' := g) (w' := w) (cl := []) (by decide +kernel) rfl trivial ?_
        obtain ⟨q2, hq2, hf⟩ := Option.bind_eq_some_iff.mp hf
        refine am_callV (mi := mi_X8_lets) (rm := rm_X8_lets) [.int (l4), .int (p2)] C0.1 am_YYl cv_8_217 (M_X8_lets _ F g w l4 p2 _ hq2) (ci := 8) rfl (by decide) rfl (by rw [hR]; rfl) rfl rfl (Nat.le_of_ble_eq_true rfl) (by decide +kernel) ?_
        refine am_b1 C0 am_YYk (pc := 25) (pc2 := 28) [(.aload_n 0, 0, 0, .null), (.iload_n 1, 0, 0, .null), (.iload_n 2, 0, 0, .null)] (L := [some (.ref 26), some (.int (p1)), some (.int (p2)), some (.int (l3)), some (.int (l4))]) (st := [.int (q2)]) (L' := [some (.ref 26), some (.int (p1)), some (.int (p2)), some (.int (l3)), some (.int (l4))]) (st' := [.int (p2), .int (p1), .ref 26, .int (q2)]) (g' := g) (w' := w) (cl := []) (by decide +kernel) rfl trivial ?_
        obtain ⟨q3, hq3, hf⟩ := Option.bind_eq_some_iff.mp hf
        refine am_callV (mi := mi_X8_lets) (rm := rm_X8_lets) [.int (p1), .int (p2)] C0.1 am_YYl cv_8_217 (M_X8_lets _ F g w p1 p2 _ hq3) (ci := 8) rfl (by decide) rfl (by rw [hR]; rfl) rfl rfl (Nat.le_of_ble_eq_true rfl) (by decide +kernel) ?_
        refine am_icmp_gt C0 (off := 23) (tgt := 54) (by decide +kernel) (fun hc7 => ?_) (fun hc7 => ?_)
        · rw [if_pos hc7] at hf
          refine am_wk [some (.ref 26), some (.int (p1)), some (.int (p2)), none, some (.int (l4))] ⟨rfl, rfl, rfl, rfl, trivial⟩ rfl ?_
          exact B_X8_isRest_54 x C0 hR w F g p1 p2 R _ (fun l3 l4 hf => ih l3 l4 hf) (l4) hf
        · rw [if_neg hc7] at hf
          refine am_b1 C0 am_YYk (pc := 34) (pc2 := 38) [(.aload_n 0, 0, 0, .null), (.iload 4, 0, 0, .null), (.iload_n 1, 0, 0, .null)] (L := [some (.ref 26), some (.int (p1)), some (.int (p2)), some (.int (l3)), some (.int (l4))]) (st := []) (L' := [some (.ref 26), some (.int (p1)), some (.int (p2)), some (.int (l3)), some (.int (l4))]) (st' := [.int (p1), .int (l4), .ref 26]) (g' := g) (w' := w) (cl := []) (by decide +kernel) rfl trivial ?_
          obtain ⟨q4, hq4, hf⟩ := Option.bind_eq_some_iff.mp hf
          refine am_callV (mi := mi_X8_lets) (rm := rm_X8_lets) [.int (l4), .int (p1)] C0.1 am_YYl cv_8_217 (M_X8_lets _ F g w l4 p1 _ hq4) (ci := 8) rfl (by decide) rfl (by rw [hR]; rfl) rfl rfl (Nat.le_of_ble_eq_true rfl) (by decide +kernel) ?_
          refine am_b1 C0 am_YYk (pc := 41) (pc2 := 44) [(.aload_n 0, 0, 0, .null), (.iload_n 2, 0, 0, .null), (.iload_n 1, 0, 0, .null)] (L := [some (.ref 26), some (.int (p1)), some (.int (p2)), some (.int (l3)), some (.int (l4))]) (st := [.int (q4)]) (L' := [some (.ref 26), some (.int (p1)), some (.int (p2)), some (.int (l3)), some (.int (l4))]) (st' := [.int (p1), .int (p2), .ref 26, .int (q4)]) (g' := g) (w' := w) (cl := []) (by decide +kernel) rfl trivial ?_
          obtain ⟨q5, hq5, hf⟩ := Option.bind_eq_some_iff.mp hf
          refine am_callV (mi := mi_X8_lets) (rm := rm_X8_lets) [.int (p2), .int (p1)] C0.1 am_YYl cv_8_217 (M_X8_lets _ F g w p2 p1 _ hq5) (ci := 8) rfl (by decide) rfl (by rw [hR]; rfl) rfl rfl (Nat.le_of_ble_eq_true rfl) (by decide +kernel) ?_
          refine am_icmp_gt C0 (off := 7) (tgt := 54) (by decide +kernel) (fun hc6 => ?_) (fun hc6 => ?_)
          · rw [if_pos hc6] at hf
            refine am_wk [some (.ref 26), some (.int (p1)), some (.int (p2)), none, some (.int (l4))] ⟨rfl, rfl, rfl, rfl, trivial⟩ rfl ?_
            exact B_X8_isRest_54 x C0 hR w F g p1 p2 R _ (fun l3 l4 hf => ih l3 l4 hf) (l4) hf
          · rw [if_neg hc6] at hf
            refine am_b1 C0 am_YYk (pc := 50) (pc2 := 51) [(.iconst 1, 0, 0, .int 1)] (L := [some (.ref 26), some (.int (p1)), some (.int (p2)), some (.int (l3)), some (.int (l4))]) (st := []) (L' := [some (.ref 26), some (.int (p1)), some (.int (p2)), some (.int (l3)), some (.int (l4))]) (st' := [.int ((1 : Int32))]) (g' := g) (w' := w) (cl := []) (by decide +kernel) rfl trivial ?_
            refine am_goto C0 (off := 4) (tgt := 55) (by decide +kernel) ?_
            refine am_wk [some (.ref 26), some (.int (p1)), some (.int (p2)), none, some (.int (l4))] ⟨rfl, rfl, rfl, rfl, trivial⟩ rfl ?_
            exact B_X8_isRest_55 x C0 hR w F g p1 p2 R _ (fun l3 l4 hf => ih l3 l4 hf) (l4) ((1 : Int32)) hf
def f_X8_isRest (F : Nat) (g : am_G) (p1 : Int32) (p2 : Int32) : Option (Int32) :=
  f_X8_isRest_5 F g p1 p2 F ((1 : Int32)) ((0 : Int32))
set_option maxRecDepth 20000 in
theorem M_X8_isRest (l : Launch) (F : Nat) (g : am_G) (w : am_J) (p1 : Int32) (p2 : Int32) (R : Int32) (hf : f_X8_isRest F g p1 p2 = some R) : am_Met l mi_X8_isRest rm_X8_isRest [.ref 26, .int p1, .int p2] am_YY g w (some (.int R)) am_YY g w := by
  refine am_met (own := 8) [some (.ref 26), some (.int (p1)), some (.int (p2)), none, none] (by decide) rfl rfl (by first | decide | exact Nat.le_of_ble_eq_true rfl) (fun x C0 hR hl hnm => ?_)
  unfold f_X8_isRest at hf
  refine am_b1 C0 am_YYk (pc := 0) (pc2 := 5) [(.iconst 1, 0, 0, .int 1), (.istore_n 3, 0, 0, .null), (.iconst 0, 0, 0, .int 0), (.istore 4, 0, 0, .null)] (L := [some (.ref 26), some (.int (p1)), some (.int (p2)), none, none]) (st := []) (L' := [some (.ref 26), some (.int (p1)), some (.int (p2)), some (.int ((1 : Int32))), some (.int ((0 : Int32)))]) (st' := []) (g' := g) (w' := w) (cl := []) (by decide +kernel) rfl trivial ?_
  refine B_X8_isRest_5 x C0 hR w F g p1 p2 R   F ((1 : Int32)) ((0 : Int32)) hf
/-! ShutterTownModel.rests(I)I at (26,) -/
def f_X8_rests_85 (F : Nat) (g : am_G) (p1 : Int32)  (l2 : Int32) (l3 : Int32) : Option (Int32) :=
  if p1 = 0 then
    some (l2)
  else
    some (l3)
set_option maxRecDepth 20000 in
theorem B_X8_rests_85 (x : am_X) (C0 : am_Cm x 8 cX8_rests 6 (some .int)) (hR : am_R x = rm_X8_rests) (w : am_J) (F : Nat) (g : am_G) (p1 : Int32) (R : Int32)   (l2 : Int32) (l3 : Int32) (hf : f_X8_rests_85 F g p1 l2 l3 = some R) : am_Ev x 6 (0, 0) (am_Q x (0, 0) (some (.int R)) am_YY g w) 85 [none, some (.int (p1)), some (.int (l2)), some (.int (l3)), none, none] [] am_YY g w := by
  unfold f_X8_rests_85 at hf
  refine am_b1 C0 am_YYk (pc := 85) (pc2 := 86) [(.iload_n 1, 0, 0, .null)] (L := [none, some (.int (p1)), some (.int (l2)), some (.int (l3)), none, none]) (st := []) (L' := [none, some (.int (p1)), some (.int (l2)), some (.int (l3)), none, none]) (st' := [.int (p1)]) (g' := g) (w' := w) (cl := []) (by decide +kernel) rfl trivial ?_
  refine am_if_ne C0 (off := 7) (tgt := 93) (by decide +kernel) (fun hc1 => ?_) (fun hc1 => ?_)
  · rw [if_neg hc1] at hf
    refine am_b1 C0 am_YYk (pc := 93) (pc2 := 94) [(.iload_n 3, 0, 0, .null)] (L := [none, some (.int (p1)), some (.int (l2)), some (.int (l3)), none, none]) (st := []) (L' := [none, some (.int (p1)), some (.int (l2)), some (.int (l3)), none, none]) (st' := [.int (l3)]) (g' := g) (w' := w) (cl := []) (by decide +kernel) rfl trivial ?_
    cases hf
    exact am_iret C0 (by decide +kernel)
  · rw [if_pos hc1] at hf
    refine am_b1 C0 am_YYk (pc := 89) (pc2 := 90) [(.iload_n 2, 0, 0, .null)] (L := [none, some (.int (p1)), some (.int (l2)), some (.int (l3)), none, none]) (st := []) (L' := [none, some (.int (p1)), some (.int (l2)), some (.int (l3)), none, none]) (st' := [.int (l2)]) (g' := g) (w' := w) (cl := []) (by decide +kernel) rfl trivial ?_
    refine am_goto C0 (off := 4) (tgt := 94) (by decide +kernel) ?_
    cases hf
    exact am_iret C0 (by decide +kernel)
def f_X8_rests_79 (F : Nat) (g : am_G) (p1 : Int32) (k21 : Int32 → Int32 → Int32 → Option (Int32)) (k85 : Int32 → Int32 → Option (Int32)) (l2 : Int32) (l3 : Int32) (l4 : Int32) : Option (Int32) :=
  k21 (l2) (l3) (l4 + (1 : Int32))
set_option maxRecDepth 20000 in
theorem B_X8_rests_79 (x : am_X) (C0 : am_Cm x 8 cX8_rests 6 (some .int)) (hR : am_R x = rm_X8_rests) (w : am_J) (F : Nat) (g : am_G) (p1 : Int32) (R : Int32) (k21 : Int32 → Int32 → Int32 → Option (Int32)) (k85 : Int32 → Int32 → Option (Int32)) (hk21 : ∀ (l2 : Int32) (l3 : Int32) (l4 : Int32), k21 l2 l3 l4 = some R → am_Ev x 6 (0, 0) (am_Q x (0, 0) (some (.int R)) am_YY g w) 21 [some (.ref 26), some (.int (p1)), some (.int (l2)), some (.int (l3)), some (.int (l4)), none] [] am_YY g w) (hk85 : ∀ (l2 : Int32) (l3 : Int32), k85 l2 l3 = some R → am_Ev x 6 (0, 0) (am_Q x (0, 0) (some (.int R)) am_YY g w) 85 [none, some (.int (p1)), some (.int (l2)), some (.int (l3)), none, none] [] am_YY g w) (l2 : Int32) (l3 : Int32) (l4 : Int32) (hf : f_X8_rests_79 F g p1 k21 k85 l2 l3 l4 = some R) : am_Ev x 6 (0, 0) (am_Q x (0, 0) (some (.int R)) am_YY g w) 79 [some (.ref 26), some (.int (p1)), some (.int (l2)), some (.int (l3)), some (.int (l4)), none] [] am_YY g w := by
  unfold f_X8_rests_79 at hf
  refine am_b1 C0 am_YYk (pc := 79) (pc2 := 82) [(.iinc 4 1, 0, 0, .int 1)] (L := [some (.ref 26), some (.int (p1)), some (.int (l2)), some (.int (l3)), some (.int (l4)), none]) (st := []) (L' := [some (.ref 26), some (.int (p1)), some (.int (l2)), some (.int (l3)), some (.int (l4 + (1 : Int32))), none]) (st' := []) (g' := g) (w' := w) (cl := []) (by decide +kernel) rfl trivial ?_
  refine am_goto C0 (off := (-61)) (tgt := 21) (by decide +kernel) ?_
  exact hk21 (l2) (l3) (l4 + (1 : Int32)) hf
def f_X8_rests_73 (F : Nat) (g : am_G) (p1 : Int32) (k33 : Int32 → Int32 → Int32 → Int32 → Option (Int32)) (k79 : Int32 → Int32 → Int32 → Option (Int32)) (l2 : Int32) (l3 : Int32) (l4 : Int32) (l5 : Int32) : Option (Int32) :=
  k33 (l2) (l3) (l4) (l5 + (1 : Int32))
set_option maxRecDepth 20000 in
theorem B_X8_rests_73 (x : am_X) (C0 : am_Cm x 8 cX8_rests 6 (some .int)) (hR : am_R x = rm_X8_rests) (w : am_J) (F : Nat) (g : am_G) (p1 : Int32) (R : Int32) (k33 : Int32 → Int32 → Int32 → Int32 → Option (Int32)) (k79 : Int32 → Int32 → Int32 → Option (Int32)) (hk33 : ∀ (l2 : Int32) (l3 : Int32) (l4 : Int32) (l5 : Int32), k33 l2 l3 l4 l5 = some R → am_Ev x 6 (0, 0) (am_Q x (0, 0) (some (.int R)) am_YY g w) 33 [some (.ref 26), some (.int (p1)), some (.int (l2)), some (.int (l3)), some (.int (l4)), some (.int (l5))] [] am_YY g w) (hk79 : ∀ (l2 : Int32) (l3 : Int32) (l4 : Int32), k79 l2 l3 l4 = some R → am_Ev x 6 (0, 0) (am_Q x (0, 0) (some (.int R)) am_YY g w) 79 [some (.ref 26), some (.int (p1)), some (.int (l2)), some (.int (l3)), some (.int (l4)), none] [] am_YY g w) (l2 : Int32) (l3 : Int32) (l4 : Int32) (l5 : Int32) (hf : f_X8_rests_73 F g p1 k33 k79 l2 l3 l4 l5 = some R) : am_Ev x 6 (0, 0) (am_Q x (0, 0) (some (.int R)) am_YY g w) 73 [some (.ref 26), some (.int (p1)), some (.int (l2)), some (.int (l3)), some (.int (l4)), some (.int (l5))] [] am_YY g w := by
  unfold f_X8_rests_73 at hf
  refine am_b1 C0 am_YYk (pc := 73) (pc2 := 76) [(.iinc 5 1, 0, 0, .int 1)] (L := [some (.ref 26), some (.int (p1)), some (.int (l2)), some (.int (l3)), some (.int (l4)), some (.int (l5))]) (st := []) (L' := [some (.ref 26), some (.int (p1)), some (.int (l2)), some (.int (l3)), some (.int (l4)), some (.int (l5 + (1 : Int32)))]) (st' := []) (g' := g) (w' := w) (cl := []) (by decide +kernel) rfl trivial ?_
  refine am_goto C0 (off := (-43)) (tgt := 33) (by decide +kernel) ?_
  exact hk33 (l2) (l3) (l4) (l5 + (1 : Int32)) hf
def f_X8_rests_69 (F : Nat) (g : am_G) (p1 : Int32) (k33 : Int32 → Int32 → Int32 → Int32 → Option (Int32)) (k79 : Int32 → Int32 → Int32 → Option (Int32)) (l2 : Int32) (l4 : Int32) (l5 : Int32) (s0 : Int32) : Option (Int32) :=
  f_X8_rests_73 F g p1 k33 k79 (l2 + (1 : Int32)) (s0) (l4) (l5)
set_option maxRecDepth 20000 in
theorem B_X8_rests_69 (x : am_X) (C0 : am_Cm x 8 cX8_rests 6 (some .int)) (hR : am_R x = rm_X8_rests) (w : am_J) (F : Nat) (g : am_G) (p1 : Int32) (R : Int32) (k33 : Int32 → Int32 → Int32 → Int32 → Option (Int32)) (k79 : Int32 → Int32 → Int32 → Option (Int32)) (hk33 : ∀ (l2 : Int32) (l3 : Int32) (l4 : Int32) (l5 : Int32), k33 l2 l3 l4 l5 = some R → am_Ev x 6 (0, 0) (am_Q x (0, 0) (some (.int R)) am_YY g w) 33 [some (.ref 26), some (.int (p1)), some (.int (l2)), some (.int (l3)), some (.int (l4)), some (.int (l5))] [] am_YY g w) (hk79 : ∀ (l2 : Int32) (l3 : Int32) (l4 : Int32), k79 l2 l3 l4 = some R → am_Ev x 6 (0, 0) (am_Q x (0, 0) (some (.int R)) am_YY g w) 79 [some (.ref 26), some (.int (p1)), some (.int (l2)), some (.int (l3)), some (.int (l4)), none] [] am_YY g w) (l2 : Int32) (l4 : Int32) (l5 : Int32) (s0 : Int32) (hf : f_X8_rests_69 F g p1 k33 k79 l2 l4 l5 s0 = some R) : am_Ev x 6 (0, 0) (am_Q x (0, 0) (some (.int R)) am_YY g w) 69 [some (.ref 26), some (.int (p1)), some (.int (l2)), none, some (.int (l4)), some (.int (l5))] [.int (s0)] am_YY g w := by
  unfold f_X8_rests_69 at hf
  refine am_b1 C0 am_YYk (pc := 69) (pc2 := 73) [(.istore_n 3, 0, 0, .null), (.iinc 2 1, 0, 0, .int 1)] (L := [some (.ref 26), some (.int (p1)), some (.int (l2)), none, some (.int (l4)), some (.int (l5))]) (st := [.int (s0)]) (L' := [some (.ref 26), some (.int (p1)), some (.int (l2 + (1 : Int32))), some (.int (s0)), some (.int (l4)), some (.int (l5))]) (st' := []) (g' := g) (w' := w) (cl := []) (by decide +kernel) rfl trivial ?_
  exact B_X8_rests_73 x C0 hR w F g p1 R _ _ hk33 hk79 (l2 + (1 : Int32)) (s0) (l4) (l5) hf
def f_X8_rests_33 (F : Nat) (g : am_G) (p1 : Int32) (k79 : Int32 → Int32 → Int32 → Option (Int32)) : Nat → Int32 → Int32 → Int32 → Int32 → Option (Int32)
  | 0, _, _, _, _ => none
  | n + 1, l2, l3, l4, l5 =>
    if (g 26 0) ≤ l5 then
      k79 (l2) (l3) (l4)
    else
      (f_X8_isRest F g l4 l5).bind fun q2 =>
        if q2 = 0 then
          f_X8_rests_73 F g p1 (fun l2 l3 l4 l5 => f_X8_rests_33 F g p1 k79 n l2 l3 l4 l5) k79 (l2) (l3) (l4) (l5)
        else
          if l2 = 0 then
            f_X8_rests_69 F g p1 (fun l2 l3 l4 l5 => f_X8_rests_33 F g p1 k79 n l2 l3 l4 l5) k79 (l2) (l4) (l5) (((10 : Int32) * l4) + l5)
          else
            f_X8_rests_69 F g p1 (fun l2 l3 l4 l5 => f_X8_rests_33 F g p1 k79 n l2 l3 l4 l5) k79 (l2) (l4) (l5) (l3)
set_option maxRecDepth 20000 in
theorem B_X8_rests_33 (x : am_X) (C0 : am_Cm x 8 cX8_rests 6 (some .int)) (hR : am_R x = rm_X8_rests) (w : am_J) (F : Nat) (g : am_G) (p1 : Int32) (R : Int32) (k79 : Int32 → Int32 → Int32 → Option (Int32)) (hk79 : ∀ (l2 : Int32) (l3 : Int32) (l4 : Int32), k79 l2 l3 l4 = some R → am_Ev x 6 (0, 0) (am_Q x (0, 0) (some (.int R)) am_YY g w) 79 [some (.ref 26), some (.int (p1)), some (.int (l2)), some (.int (l3)), some (.int (l4)), none] [] am_YY g w) : ∀ (n : Nat) (l2 : Int32) (l3 : Int32) (l4 : Int32) (l5 : Int32), f_X8_rests_33 F g p1 k79 n l2 l3 l4 l5 = some R → am_Ev x 6 (0, 0) (am_Q x (0, 0) (some (.int R)) am_YY g w) 33 [some (.ref 26), some (.int (p1)), some (.int (l2)), some (.int (l3)), some (.int (l4)), some (.int (l5))] [] am_YY g w := by
  intro n
  induction n with
  | zero => intro l2 l3 l4 l5 hf; cases hf
  | succ n ih =>
    intro l2 l3 l4 l5 hf
    rw [f_X8_rests_33.eq_2] at hf
    refine am_b1 C0 am_YYk (pc := 33) (pc2 := 39) [(.iload 5, 0, 0, .null), (.aload_n 0, 0, 0, .null), (.getfield 111, 8, 0, .null)] (L := [some (.ref 26), some (.int (p1)), some (.int (l2)), some (.int (l3)), some (.int (l4)), some (.int (l5))]) (st := []) (L' := [some (.ref 26), some (.int (p1)), some (.int (l2)), some (.int (l3)), some (.int (l4)), some (.int (l5))]) (st' := [.int (g 26 0), .int (l5)]) (g' := g) (w' := w) (cl := []) (by decide +kernel) rfl trivial ?_
    refine am_icmp_ge C0 (off := 40) (tgt := 79) (by decide +kernel) (fun hc5 => ?_) (fun hc5 => ?_)
    · rw [if_pos hc5] at hf
      refine am_wk [some (.ref 26), some (.int (p1)), some (.int (l2)), some (.int (l3)), some (.int (l4)), none] ⟨rfl, rfl, rfl, rfl, rfl, trivial⟩ rfl ?_
      exact hk79 (l2) (l3) (l4) hf
    · rw [if_neg hc5] at hf
      refine am_b1 C0 am_YYk (pc := 42) (pc2 := 47) [(.aload_n 0, 0, 0, .null), (.iload 4, 0, 0, .null), (.iload 5, 0, 0, .null)] (L := [some (.ref 26), some (.int (p1)), some (.int (l2)), some (.int (l3)), some (.int (l4)), some (.int (l5))]) (st := []) (L' := [some (.ref 26), some (.int (p1)), some (.int (l2)), some (.int (l3)), some (.int (l4)), some (.int (l5))]) (st' := [.int (l5), .int (l4), .ref 26]) (g' := g) (w' := w) (cl := []) (by decide +kernel) rfl trivial ?_
      obtain ⟨q2, hq2, hf⟩ := Option.bind_eq_some_iff.mp hf
      refine am_callV (mi := mi_X8_isRest) (rm := rm_X8_isRest) [.int (l4), .int (l5)] C0.1 am_YYl cv_8_220 (M_X8_isRest _ F g w l4 l5 _ hq2) (ci := 8) rfl (by decide) rfl (by rw [hR]; rfl) rfl rfl (Nat.le_of_ble_eq_true rfl) (by decide +kernel) ?_
      refine am_if_eq C0 (off := 23) (tgt := 73) (by decide +kernel) (fun hc4 => ?_) (fun hc4 => ?_)
      · rw [if_pos hc4] at hf
        exact B_X8_rests_73 x C0 hR w F g p1 R _ _ (fun l2 l3 l4 l5 hf => ih l2 l3 l4 l5 hf) hk79 (l2) (l3) (l4) (l5) hf
      · rw [if_neg hc4] at hf
        refine am_b1 C0 am_YYk (pc := 53) (pc2 := 54) [(.iload_n 2, 0, 0, .null)] (L := [some (.ref 26), some (.int (p1)), some (.int (l2)), some (.int (l3)), some (.int (l4)), some (.int (l5))]) (st := []) (L' := [some (.ref 26), some (.int (p1)), some (.int (l2)), some (.int (l3)), some (.int (l4)), some (.int (l5))]) (st' := [.int (l2)]) (g' := g) (w' := w) (cl := []) (by decide +kernel) rfl trivial ?_
        refine am_if_ne C0 (off := 14) (tgt := 68) (by decide +kernel) (fun hc3 => ?_) (fun hc3 => ?_)
        · rw [if_neg hc3] at hf
          refine am_b1 C0 am_YYk (pc := 68) (pc2 := 69) [(.iload_n 3, 0, 0, .null)] (L := [some (.ref 26), some (.int (p1)), some (.int (l2)), some (.int (l3)), some (.int (l4)), some (.int (l5))]) (st := []) (L' := [some (.ref 26), some (.int (p1)), some (.int (l2)), some (.int (l3)), some (.int (l4)), some (.int (l5))]) (st' := [.int (l3)]) (g' := g) (w' := w) (cl := []) (by decide +kernel) rfl trivial ?_
          refine am_wk [some (.ref 26), some (.int (p1)), some (.int (l2)), none, some (.int (l4)), some (.int (l5))] ⟨rfl, rfl, rfl, rfl, rfl, trivial⟩ rfl ?_
          exact B_X8_rests_69 x C0 hR w F g p1 R _ _ (fun l2 l3 l4 l5 hf => ih l2 l3 l4 l5 hf) hk79 (l2) (l4) (l5) (l3) hf
        · rw [if_pos hc3] at hf
          refine am_b1 C0 am_YYk (pc := 57) (pc2 := 65) [(.bipush 10, 0, 0, .int 10), (.iload 4, 0, 0, .null), (.imul, 0, 0, .null), (.iload 5, 0, 0, .null), (.iadd, 0, 0, .null)] (L := [some (.ref 26), some (.int (p1)), some (.int (l2)), some (.int (l3)), some (.int (l4)), some (.int (l5))]) (st := []) (L' := [some (.ref 26), some (.int (p1)), some (.int (l2)), some (.int (l3)), some (.int (l4)), some (.int (l5))]) (st' := [.int (((10 : Int32) * l4) + l5)]) (g' := g) (w' := w) (cl := []) (by decide +kernel) rfl trivial ?_
          refine am_goto C0 (off := 4) (tgt := 69) (by decide +kernel) ?_
          refine am_wk [some (.ref 26), some (.int (p1)), some (.int (l2)), none, some (.int (l4)), some (.int (l5))] ⟨rfl, rfl, rfl, rfl, rfl, trivial⟩ rfl ?_
          exact B_X8_rests_69 x C0 hR w F g p1 R _ _ (fun l2 l3 l4 l5 hf => ih l2 l3 l4 l5 hf) hk79 (l2) (l4) (l5) (((10 : Int32) * l4) + l5) hf
def f_X8_rests_21 (F : Nat) (g : am_G) (p1 : Int32) (k85 : Int32 → Int32 → Option (Int32)) : Nat → Int32 → Int32 → Int32 → Option (Int32)
  | 0, _, _, _ => none
  | n + 1, l2, l3, l4 =>
    if (g 26 0) ≤ l4 then
      k85 (l2) (l3)
    else
      f_X8_rests_33 F g p1 (fun l2 l3 l4 => f_X8_rests_79 F g p1 (fun l2 l3 l4 => f_X8_rests_21 F g p1 k85 n l2 l3 l4) k85 (l2) (l3) (l4)) F (l2) (l3) (l4) ((0 : Int32))
set_option maxRecDepth 20000 in
theorem B_X8_rests_21 (x : am_X) (C0 : am_Cm x 8 cX8_rests 6 (some .int)) (hR : am_R x = rm_X8_rests) (w : am_J) (F : Nat) (g : am_G) (p1 : Int32) (R : Int32) (k85 : Int32 → Int32 → Option (Int32)) (hk85 : ∀ (l2 : Int32) (l3 : Int32), k85 l2 l3 = some R → am_Ev x 6 (0, 0) (am_Q x (0, 0) (some (.int R)) am_YY g w) 85 [none, some (.int (p1)), some (.int (l2)), some (.int (l3)), none, none] [] am_YY g w) : ∀ (n : Nat) (l2 : Int32) (l3 : Int32) (l4 : Int32), f_X8_rests_21 F g p1 k85 n l2 l3 l4 = some R → am_Ev x 6 (0, 0) (am_Q x (0, 0) (some (.int R)) am_YY g w) 21 [some (.ref 26), some (.int (p1)), some (.int (l2)), some (.int (l3)), some (.int (l4)), none] [] am_YY g w := by
  intro n
  induction n with
  | zero => intro l2 l3 l4 hf; cases hf
  | succ n ih =>
    intro l2 l3 l4 hf
    rw [f_X8_rests_21.eq_2] at hf
    refine am_b1 C0 am_YYk (pc := 21) (pc2 := 27) [(.iload 4, 0, 0, .null), (.aload_n 0, 0, 0, .null), (.getfield 111, 8, 0, .null)] (L := [some (.ref 26), some (.int (p1)), some (.int (l2)), some (.int (l3)), some (.int (l4)), none]) (st := []) (L' := [some (.ref 26), some (.int (p1)), some (.int (l2)), some (.int (l3)), some (.int (l4)), none]) (st' := [.int (g 26 0), .int (l4)]) (g' := g) (w' := w) (cl := []) (by decide +kernel) rfl trivial ?_
    refine am_icmp_ge C0 (off := 58) (tgt := 85) (by decide +kernel) (fun hc6 => ?_) (fun hc6 => ?_)
    · rw [if_pos hc6] at hf
      refine am_wk [none, some (.int (p1)), some (.int (l2)), some (.int (l3)), none, none] ⟨rfl, rfl, rfl, trivial⟩ rfl ?_
      exact hk85 (l2) (l3) hf
    · rw [if_neg hc6] at hf
      refine am_b1 C0 am_YYk (pc := 30) (pc2 := 33) [(.iconst 0, 0, 0, .int 0), (.istore 5, 0, 0, .null)] (L := [some (.ref 26), some (.int (p1)), some (.int (l2)), some (.int (l3)), some (.int (l4)), none]) (st := []) (L' := [some (.ref 26), some (.int (p1)), some (.int (l2)), some (.int (l3)), some (.int (l4)), some (.int ((0 : Int32)))]) (st' := []) (g' := g) (w' := w) (cl := []) (by decide +kernel) rfl trivial ?_
      refine B_X8_rests_33 x C0 hR w F g p1 R _ ?_ F (l2) (l3) (l4) ((0 : Int32)) hf
      · intro l2 l3 l4 hf
        exact B_X8_rests_79 x C0 hR w F g p1 R _ _ (fun l2 l3 l4 hf => ih l2 l3 l4 hf) hk85 (l2) (l3) (l4) hf
def f_X8_rests (F : Nat) (g : am_G) (p1 : Int32) : Option (Int32) :=
  (f_X8_in (Int32.toInt64 p1) (0 : Int64) (1 : Int64)).bind fun q7 =>
    if q7 = 0 then
      some ((-2 : Int32))
    else
      f_X8_rests_21 F g p1 (fun l2 l3 => f_X8_rests_85 F g p1 (l2) (l3)) F ((0 : Int32)) ((-9 : Int32)) ((0 : Int32))
set_option maxRecDepth 20000 in
theorem M_X8_rests (l : Launch) (F : Nat) (g : am_G) (w : am_J) (p1 : Int32) (R : Int32) (hf : f_X8_rests F g p1 = some R) : am_Met l mi_X8_rests rm_X8_rests [.ref 26, .int p1] am_YY g w (some (.int R)) am_YY g w := by
  refine am_met (own := 8) [some (.ref 26), some (.int (p1)), none, none, none, none] (by decide) rfl rfl (by first | decide | exact Nat.le_of_ble_eq_true rfl) (fun x C0 hR hl hnm => ?_)
  unfold f_X8_rests at hf
  refine am_b1 C0 am_YYk (pc := 0) (pc2 := 4) [(.iload_n 1, 0, 0, .null), (.i2l, 0, 0, .null), (.lconst 0, 0, 0, .long 0), (.lconst 1, 0, 0, .long 1)] (L := [some (.ref 26), some (.int (p1)), none, none, none, none]) (st := []) (L' := [some (.ref 26), some (.int (p1)), none, none, none, none]) (st' := [.long ((1 : Int64)), .long ((0 : Int64)), .long (Int32.toInt64 p1)]) (g' := g) (w' := w) (cl := []) (by decide +kernel) rfl trivial ?_
  obtain ⟨q7, hq7, hf⟩ := Option.bind_eq_some_iff.mp hf
  refine am_callS (mi := mi_X8_in) (rm := rm_X8_in) [.long (Int32.toInt64 p1), .long ((0 : Int64)), .long ((1 : Int64))] C0.1 cv_8_65 (M_X8_in _ g w (Int32.toInt64 p1) (0 : Int64) (1 : Int64) _ hq7) (by rw [hR]; rfl) rfl rfl (Nat.le_of_ble_eq_true rfl) (by decide +kernel) ?_
  refine am_if_ne C0 (off := 6) (tgt := 13) (by decide +kernel) (fun hc8 => ?_) (fun hc8 => ?_)
  · rw [if_neg hc8] at hf
    refine am_b1 C0 am_YYk (pc := 13) (pc2 := 21) [(.iconst 0, 0, 0, .int 0), (.istore_n 2, 0, 0, .null), (.bipush (-9), 0, 0, .int (-9)), (.istore_n 3, 0, 0, .null), (.iconst 0, 0, 0, .int 0), (.istore 4, 0, 0, .null)] (L := [some (.ref 26), some (.int (p1)), none, none, none, none]) (st := []) (L' := [some (.ref 26), some (.int (p1)), some (.int ((0 : Int32))), some (.int ((-9 : Int32))), some (.int ((0 : Int32))), none]) (st' := []) (g' := g) (w' := w) (cl := []) (by decide +kernel) rfl trivial ?_
    refine B_X8_rests_21 x C0 hR w F g p1 R _ ?_ F ((0 : Int32)) ((-9 : Int32)) ((0 : Int32)) hf
    · intro l2 l3 hf
      exact B_X8_rests_85 x C0 hR w F g p1 R  (l2) (l3) hf
  · rw [if_pos hc8] at hf
    refine am_b1 C0 am_YYk (pc := 10) (pc2 := 12) [(.bipush (-2), 0, 0, .int (-2))] (L := [some (.ref 26), some (.int (p1)), none, none, none, none]) (st := []) (L' := [some (.ref 26), some (.int (p1)), none, none, none, none]) (st' := [.int ((-2 : Int32))]) (g' := g) (w' := w) (cl := []) (by decide +kernel) rfl trivial ?_
    cases hf
    exact am_iret C0 (by decide +kernel)
/-! ShutterTownModel.loose()I at (26,) -/
def f_X8_loose_30 (F : Nat) (g : am_G) (k4 : Int32 → Int32 → Option (Int32)) (l2 : Int32) (s0 : Int32) (s1 : Int32) : Option (Int32) :=
  k4 (s0 ||| s1) (l2 + (1 : Int32))
set_option maxRecDepth 20000 in
theorem B_X8_loose_30 (x : am_X) (C0 : am_Cm x 8 cX8_loose 3 (some .int)) (hR : am_R x = rm_X8_loose) (w : am_J) (F : Nat) (g : am_G) (R : Int32) (k4 : Int32 → Int32 → Option (Int32)) (hk4 : ∀ (l1 : Int32) (l2 : Int32), k4 l1 l2 = some R → am_Ev x 3 (0, 0) (am_Q x (0, 0) (some (.int R)) am_YY g w) 4 [some (.ref 26), some (.int (l1)), some (.int (l2))] [] am_YY g w) (l2 : Int32) (s0 : Int32) (s1 : Int32) (hf : f_X8_loose_30 F g k4 l2 s0 s1 = some R) : am_Ev x 3 (0, 0) (am_Q x (0, 0) (some (.int R)) am_YY g w) 30 [some (.ref 26), none, some (.int (l2))] [.int (s1), .int (s0)] am_YY g w := by
  unfold f_X8_loose_30 at hf
  refine am_b1 C0 am_YYk (pc := 30) (pc2 := 35) [(.ior, 0, 0, .null), (.istore_n 1, 0, 0, .null), (.iinc 2 1, 0, 0, .int 1)] (L := [some (.ref 26), none, some (.int (l2))]) (st := [.int (s1), .int (s0)]) (L' := [some (.ref 26), some (.int (s0 ||| s1)), some (.int (l2 + (1 : Int32)))]) (st' := []) (g' := g) (w' := w) (cl := []) (by decide +kernel) rfl trivial ?_
  refine am_goto C0 (off := (-31)) (tgt := 4) (by decide +kernel) ?_
  exact hk4 (s0 ||| s1) (l2 + (1 : Int32)) hf
def f_X8_loose_4 (F : Nat) (g : am_G)  : Nat → Int32 → Int32 → Option (Int32)
  | 0, _, _ => none
  | n + 1, l1, l2 =>
    if (g 26 0) ≤ l2 then
      some (l1)
    else
      if am_in l2 6 then
        if (g 31 (Int32.toNatClampNeg l2)) = (2 : Int32) then
          f_X8_loose_30 F g (fun l1 l2 => f_X8_loose_4 F g n l1 l2) (l2) (l1) ((1 : Int32) <<< (l2 &&& 31))
        else
          f_X8_loose_30 F g (fun l1 l2 => f_X8_loose_4 F g n l1 l2) (l2) (l1) ((0 : Int32))
      else none
set_option maxRecDepth 20000 in
theorem B_X8_loose_4 (x : am_X) (C0 : am_Cm x 8 cX8_loose 3 (some .int)) (hR : am_R x = rm_X8_loose) (w : am_J) (F : Nat) (g : am_G) (R : Int32)   : ∀ (n : Nat) (l1 : Int32) (l2 : Int32), f_X8_loose_4 F g n l1 l2 = some R → am_Ev x 3 (0, 0) (am_Q x (0, 0) (some (.int R)) am_YY g w) 4 [some (.ref 26), some (.int (l1)), some (.int (l2))] [] am_YY g w := by
  intro n
  induction n with
  | zero => intro l1 l2 hf; cases hf
  | succ n ih =>
    intro l1 l2 hf
    rw [f_X8_loose_4.eq_2] at hf
    refine am_b1 C0 am_YYk (pc := 4) (pc2 := 9) [(.iload_n 2, 0, 0, .null), (.aload_n 0, 0, 0, .null), (.getfield 111, 8, 0, .null)] (L := [some (.ref 26), some (.int (l1)), some (.int (l2))]) (st := []) (L' := [some (.ref 26), some (.int (l1)), some (.int (l2))]) (st' := [.int (g 26 0), .int (l2)]) (g' := g) (w' := w) (cl := []) (by decide +kernel) rfl trivial ?_
    refine am_icmp_ge C0 (off := 29) (tgt := 38) (by decide +kernel) (fun hc3 => ?_) (fun hc3 => ?_)
    · rw [if_pos hc3] at hf
      refine am_b1 C0 am_YYk (pc := 38) (pc2 := 39) [(.iload_n 1, 0, 0, .null)] (L := [some (.ref 26), some (.int (l1)), some (.int (l2))]) (st := []) (L' := [some (.ref 26), some (.int (l1)), some (.int (l2))]) (st' := [.int (l1)]) (g' := g) (w' := w) (cl := []) (by decide +kernel) rfl trivial ?_
      cases hf
      exact am_iret C0 (by decide +kernel)
    · rw [if_neg hc3] at hf
      obtain ⟨hg1, hf⟩ := am_g hf
      refine am_b1 C0 am_YYk (pc := 12) (pc2 := 20) [(.iload_n 1, 0, 0, .null), (.aload_n 0, 0, 0, .null), (.getfield 22, 8, 6, .null), (.iload_n 2, 0, 0, .null), (.iaload, 0, 0, .null), (.iconst 2, 0, 0, .int 2)] (L := [some (.ref 26), some (.int (l1)), some (.int (l2))]) (st := []) (L' := [some (.ref 26), some (.int (l1)), some (.int (l2))]) (st' := [.int ((2 : Int32)), .int (g 31 (Int32.toNatClampNeg l2)), .int (l1)]) (g' := g) (w' := w) (cl := [am_in l2 6]) (by decide +kernel) rfl ⟨hg1, trivial⟩ ?_
      refine am_icmp_ne C0 (off := 9) (tgt := 29) (by decide +kernel) (fun hc2 => ?_) (fun hc2 => ?_)
      · rw [if_neg hc2] at hf
        refine am_b1 C0 am_YYk (pc := 29) (pc2 := 30) [(.iconst 0, 0, 0, .int 0)] (L := [some (.ref 26), some (.int (l1)), some (.int (l2))]) (st := [.int (l1)]) (L' := [some (.ref 26), some (.int (l1)), some (.int (l2))]) (st' := [.int ((0 : Int32)), .int (l1)]) (g' := g) (w' := w) (cl := []) (by decide +kernel) rfl trivial ?_
        refine am_wk [some (.ref 26), none, some (.int (l2))] ⟨rfl, rfl, trivial⟩ rfl ?_
        exact B_X8_loose_30 x C0 hR w F g R _ (fun l1 l2 hf => ih l1 l2 hf) (l2) (l1) ((0 : Int32)) hf
      · rw [if_pos hc2] at hf
        refine am_b1 C0 am_YYk (pc := 23) (pc2 := 26) [(.iconst 1, 0, 0, .int 1), (.iload_n 2, 0, 0, .null), (.ishl, 0, 0, .null)] (L := [some (.ref 26), some (.int (l1)), some (.int (l2))]) (st := [.int (l1)]) (L' := [some (.ref 26), some (.int (l1)), some (.int (l2))]) (st' := [.int ((1 : Int32) <<< (l2 &&& 31)), .int (l1)]) (g' := g) (w' := w) (cl := []) (by decide +kernel) rfl trivial ?_
        refine am_goto C0 (off := 4) (tgt := 30) (by decide +kernel) ?_
        refine am_wk [some (.ref 26), none, some (.int (l2))] ⟨rfl, rfl, trivial⟩ rfl ?_
        exact B_X8_loose_30 x C0 hR w F g R _ (fun l1 l2 hf => ih l1 l2 hf) (l2) (l1) ((1 : Int32) <<< (l2 &&& 31)) hf
def f_X8_loose (F : Nat) (g : am_G) : Option (Int32) :=
  f_X8_loose_4 F g F ((0 : Int32)) ((0 : Int32))
set_option maxRecDepth 20000 in
theorem M_X8_loose (l : Launch) (F : Nat) (g : am_G) (w : am_J)  (R : Int32) (hf : f_X8_loose F g = some R) : am_Met l mi_X8_loose rm_X8_loose [.ref 26] am_YY g w (some (.int R)) am_YY g w := by
  refine am_met (own := 8) [some (.ref 26), none, none] (by decide) rfl rfl (by first | decide | exact Nat.le_of_ble_eq_true rfl) (fun x C0 hR hl hnm => ?_)
  unfold f_X8_loose at hf
  refine am_b1 C0 am_YYk (pc := 0) (pc2 := 4) [(.iconst 0, 0, 0, .int 0), (.istore_n 1, 0, 0, .null), (.iconst 0, 0, 0, .int 0), (.istore_n 2, 0, 0, .null)] (L := [some (.ref 26), none, none]) (st := []) (L' := [some (.ref 26), some (.int ((0 : Int32))), some (.int ((0 : Int32)))]) (st' := []) (g' := g) (w' := w) (cl := []) (by decide +kernel) rfl trivial ?_
  refine B_X8_loose_4 x C0 hR w F g R   F ((0 : Int32)) ((0 : Int32)) hf
/-! ShutterTownModel.reads(III)Z at (26,) -/
def f_X8_reads_58 (F : Nat) (g : am_G) (p1 : Int32) (p2 : Int32) (p3 : Int32) (k6 : Int32 → Int32 → Option (Int32)) (l5 : Int32) (s0 : Int32) : Option (Int32) :=
  k6 (s0) (l5 + (1 : Int32))
set_option maxRecDepth 20000 in
theorem B_X8_reads_58 (x : am_X) (C0 : am_Cm x 8 cX8_reads 6 (some .boolean)) (hR : am_R x = rm_X8_reads) (w : am_J) (F : Nat) (g : am_G) (p1 : Int32) (p2 : Int32) (p3 : Int32) (R : Int32) (k6 : Int32 → Int32 → Option (Int32)) (hk6 : ∀ (l4 : Int32) (l5 : Int32), k6 l4 l5 = some R → am_Ev x 6 (0, 0) (am_Q x (0, 0) (some (.int R)) am_YY g w) 6 [some (.ref 26), some (.int (p1)), some (.int (p2)), some (.int (p3)), some (.int (l4)), some (.int (l5))] [] am_YY g w) (l5 : Int32) (s0 : Int32) (hf : f_X8_reads_58 F g p1 p2 p3 k6 l5 s0 = some R) : am_Ev x 6 (0, 0) (am_Q x (0, 0) (some (.int R)) am_YY g w) 58 [some (.ref 26), some (.int (p1)), some (.int (p2)), some (.int (p3)), none, some (.int (l5))] [.int (s0)] am_YY g w := by
  unfold f_X8_reads_58 at hf
  refine am_b1 C0 am_YYk (pc := 58) (pc2 := 63) [(.istore 4, 0, 0, .null), (.iinc 5 1, 0, 0, .int 1)] (L := [some (.ref 26), some (.int (p1)), some (.int (p2)), some (.int (p3)), none, some (.int (l5))]) (st := [.int (s0)]) (L' := [some (.ref 26), some (.int (p1)), some (.int (p2)), some (.int (p3)), some (.int (s0)), some (.int (l5 + (1 : Int32)))]) (st' := []) (g' := g) (w' := w) (cl := []) (by decide +kernel) rfl trivial ?_
  refine am_goto C0 (off := (-57)) (tgt := 6) (by decide +kernel) ?_
  exact hk6 (s0) (l5 + (1 : Int32)) hf
def f_X8_reads_53 (F : Nat) (g : am_G) (p1 : Int32) (p2 : Int32) (p3 : Int32) (k6 : Int32 → Int32 → Option (Int32)) (l5 : Int32) : Option (Int32) :=
  f_X8_reads_58 F g p1 p2 p3 k6 (l5) ((1 : Int32))
set_option maxRecDepth 20000 in
theorem B_X8_reads_53 (x : am_X) (C0 : am_Cm x 8 cX8_reads 6 (some .boolean)) (hR : am_R x = rm_X8_reads) (w : am_J) (F : Nat) (g : am_G) (p1 : Int32) (p2 : Int32) (p3 : Int32) (R : Int32) (k6 : Int32 → Int32 → Option (Int32)) (hk6 : ∀ (l4 : Int32) (l5 : Int32), k6 l4 l5 = some R → am_Ev x 6 (0, 0) (am_Q x (0, 0) (some (.int R)) am_YY g w) 6 [some (.ref 26), some (.int (p1)), some (.int (p2)), some (.int (p3)), some (.int (l4)), some (.int (l5))] [] am_YY g w) (l5 : Int32) (hf : f_X8_reads_53 F g p1 p2 p3 k6 l5 = some R) : am_Ev x 6 (0, 0) (am_Q x (0, 0) (some (.int R)) am_YY g w) 53 [some (.ref 26), some (.int (p1)), some (.int (p2)), some (.int (p3)), none, some (.int (l5))] [] am_YY g w := by
  unfold f_X8_reads_53 at hf
  refine am_b1 C0 am_YYk (pc := 53) (pc2 := 54) [(.iconst 1, 0, 0, .int 1)] (L := [some (.ref 26), some (.int (p1)), some (.int (p2)), some (.int (p3)), none, some (.int (l5))]) (st := []) (L' := [some (.ref 26), some (.int (p1)), some (.int (p2)), some (.int (p3)), none, some (.int (l5))]) (st' := [.int ((1 : Int32))]) (g' := g) (w' := w) (cl := []) (by decide +kernel) rfl trivial ?_
  refine am_goto C0 (off := 4) (tgt := 58) (by decide +kernel) ?_
  exact B_X8_reads_58 x C0 hR w F g p1 p2 p3 R _ hk6 (l5) ((1 : Int32)) hf
def f_X8_reads_57 (F : Nat) (g : am_G) (p1 : Int32) (p2 : Int32) (p3 : Int32) (k6 : Int32 → Int32 → Option (Int32)) (l5 : Int32) : Option (Int32) :=
  f_X8_reads_58 F g p1 p2 p3 k6 (l5) ((0 : Int32))
set_option maxRecDepth 20000 in
theorem B_X8_reads_57 (x : am_X) (C0 : am_Cm x 8 cX8_reads 6 (some .boolean)) (hR : am_R x = rm_X8_reads) (w : am_J) (F : Nat) (g : am_G) (p1 : Int32) (p2 : Int32) (p3 : Int32) (R : Int32) (k6 : Int32 → Int32 → Option (Int32)) (hk6 : ∀ (l4 : Int32) (l5 : Int32), k6 l4 l5 = some R → am_Ev x 6 (0, 0) (am_Q x (0, 0) (some (.int R)) am_YY g w) 6 [some (.ref 26), some (.int (p1)), some (.int (p2)), some (.int (p3)), some (.int (l4)), some (.int (l5))] [] am_YY g w) (l5 : Int32) (hf : f_X8_reads_57 F g p1 p2 p3 k6 l5 = some R) : am_Ev x 6 (0, 0) (am_Q x (0, 0) (some (.int R)) am_YY g w) 57 [some (.ref 26), some (.int (p1)), some (.int (p2)), some (.int (p3)), none, some (.int (l5))] [] am_YY g w := by
  unfold f_X8_reads_57 at hf
  refine am_b1 C0 am_YYk (pc := 57) (pc2 := 58) [(.iconst 0, 0, 0, .int 0)] (L := [some (.ref 26), some (.int (p1)), some (.int (p2)), some (.int (p3)), none, some (.int (l5))]) (st := []) (L' := [some (.ref 26), some (.int (p1)), some (.int (p2)), some (.int (p3)), none, some (.int (l5))]) (st' := [.int ((0 : Int32))]) (g' := g) (w' := w) (cl := []) (by decide +kernel) rfl trivial ?_
  exact B_X8_reads_58 x C0 hR w F g p1 p2 p3 R _ hk6 (l5) ((0 : Int32)) hf
def f_X8_reads_6 (F : Nat) (g : am_G) (p1 : Int32) (p2 : Int32) (p3 : Int32)  : Nat → Int32 → Int32 → Option (Int32)
  | 0, _, _ => none
  | n + 1, l4, l5 =>
    if (g 26 0) ≤ l5 then
      if l4 = 0 ∨ l4 = 1 then
        some (l4)
      else none
    else
      if l4 = 0 then
        (f_X8_sees g p1 l5).bind fun q2 =>
          if q2 = 0 then
            f_X8_reads_57 F g p1 p2 p3 (fun l4 l5 => f_X8_reads_6 F g p1 p2 p3 n l4 l5) (l5)
          else
            if am_in l5 26 then
              if am_in ((g 32 (Int32.toNatClampNeg l5)) ^^^ ((p3 >>> (l5 &&& 31)) &&& (1 : Int32))) 4 then
                if (g 27 (Int32.toNatClampNeg ((g 32 (Int32.toNatClampNeg l5)) ^^^ ((p3 >>> (l5 &&& 31)) &&& (1 : Int32))))) = p2 then
                  f_X8_reads_53 F g p1 p2 p3 (fun l4 l5 => f_X8_reads_6 F g p1 p2 p3 n l4 l5) (l5)
                else
                  f_X8_reads_57 F g p1 p2 p3 (fun l4 l5 => f_X8_reads_6 F g p1 p2 p3 n l4 l5) (l5)
              else none
            else none
      else
        f_X8_reads_53 F g p1 p2 p3 (fun l4 l5 => f_X8_reads_6 F g p1 p2 p3 n l4 l5) (l5)
set_option maxRecDepth 20000 in
theorem B_X8_reads_6 (x : am_X) (C0 : am_Cm x 8 cX8_reads 6 (some .boolean)) (hR : am_R x = rm_X8_reads) (w : am_J) (F : Nat) (g : am_G) (p1 : Int32) (p2 : Int32) (p3 : Int32) (R : Int32)   : ∀ (n : Nat) (l4 : Int32) (l5 : Int32), f_X8_reads_6 F g p1 p2 p3 n l4 l5 = some R → am_Ev x 6 (0, 0) (am_Q x (0, 0) (some (.int R)) am_YY g w) 6 [some (.ref 26), some (.int (p1)), some (.int (p2)), some (.int (p3)), some (.int (l4)), some (.int (l5))] [] am_YY g w := by
  intro n
  induction n with
  | zero => intro l4 l5 hf; cases hf
  | succ n ih =>
    intro l4 l5 hf
    rw [f_X8_reads_6.eq_2] at hf
    refine am_b1 C0 am_YYk (pc := 6) (pc2 := 12) [(.iload 5, 0, 0, .null), (.aload_n 0, 0, 0, .null), (.getfield 111, 8, 0, .null)] (L := [some (.ref 26), some (.int (p1)), some (.int (p2)), some (.int (p3)), some (.int (l4)), some (.int (l5))]) (st := []) (L' := [some (.ref 26), some (.int (p1)), some (.int (p2)), some (.int (p3)), some (.int (l4)), some (.int (l5))]) (st' := [.int (g 26 0), .int (l5)]) (g' := g) (w' := w) (cl := []) (by decide +kernel) rfl trivial ?_
    refine am_icmp_ge C0 (off := 54) (tgt := 66) (by decide +kernel) (fun hc8 => ?_) (fun hc8 => ?_)
    · rw [if_pos hc8] at hf
      refine am_b1 C0 am_YYk (pc := 66) (pc2 := 68) [(.iload 4, 0, 0, .null)] (L := [some (.ref 26), some (.int (p1)), some (.int (p2)), some (.int (p3)), some (.int (l4)), some (.int (l5))]) (st := []) (L' := [some (.ref 26), some (.int (p1)), some (.int (p2)), some (.int (p3)), some (.int (l4)), some (.int (l5))]) (st' := [.int (l4)]) (g' := g) (w' := w) (cl := []) (by decide +kernel) rfl trivial ?_
      obtain ⟨hz1, hf⟩ := am_g hf
      cases hf
      exact am_zret C0 (by decide +kernel) hz1
    · rw [if_neg hc8] at hf
      refine am_b1 C0 am_YYk (pc := 15) (pc2 := 17) [(.iload 4, 0, 0, .null)] (L := [some (.ref 26), some (.int (p1)), some (.int (p2)), some (.int (p3)), some (.int (l4)), some (.int (l5))]) (st := []) (L' := [some (.ref 26), some (.int (p1)), some (.int (p2)), some (.int (p3)), some (.int (l4)), some (.int (l5))]) (st' := [.int (l4)]) (g' := g) (w' := w) (cl := []) (by decide +kernel) rfl trivial ?_
      refine am_if_ne C0 (off := 36) (tgt := 53) (by decide +kernel) (fun hc7 => ?_) (fun hc7 => ?_)
      · rw [if_neg hc7] at hf
        refine am_wk [some (.ref 26), some (.int (p1)), some (.int (p2)), some (.int (p3)), none, some (.int (l5))] ⟨rfl, rfl, rfl, rfl, rfl, trivial⟩ rfl ?_
        exact B_X8_reads_53 x C0 hR w F g p1 p2 p3 R _ (fun l4 l5 hf => ih l4 l5 hf) (l5) hf
      · rw [if_pos hc7] at hf
        refine am_b1 C0 am_YYk (pc := 20) (pc2 := 24) [(.aload_n 0, 0, 0, .null), (.iload_n 1, 0, 0, .null), (.iload 5, 0, 0, .null)] (L := [some (.ref 26), some (.int (p1)), some (.int (p2)), some (.int (p3)), some (.int (l4)), some (.int (l5))]) (st := []) (L' := [some (.ref 26), some (.int (p1)), some (.int (p2)), some (.int (p3)), some (.int (l4)), some (.int (l5))]) (st' := [.int (l5), .int (p1), .ref 26]) (g' := g) (w' := w) (cl := []) (by decide +kernel) rfl trivial ?_
        obtain ⟨q2, hq2, hf⟩ := Option.bind_eq_some_iff.mp hf
        refine am_callV (mi := mi_X8_sees) (rm := rm_X8_sees) [.int (p1), .int (l5)] C0.1 am_YYl cv_8_119 (M_X8_sees _ g w p1 l5 _ hq2) (ci := 8) rfl (by decide) rfl (by rw [hR]; rfl) rfl rfl (Nat.le_of_ble_eq_true rfl) (by decide +kernel) ?_
        refine am_if_eq C0 (off := 30) (tgt := 57) (by decide +kernel) (fun hc6 => ?_) (fun hc6 => ?_)
        · rw [if_pos hc6] at hf
          refine am_wk [some (.ref 26), some (.int (p1)), some (.int (p2)), some (.int (p3)), none, some (.int (l5))] ⟨rfl, rfl, rfl, rfl, rfl, trivial⟩ rfl ?_
          exact B_X8_reads_57 x C0 hR w F g p1 p2 p3 R _ (fun l4 l5 hf => ih l4 l5 hf) (l5) hf
        · rw [if_neg hc6] at hf
          obtain ⟨hg3, hf⟩ := am_g hf
          obtain ⟨hg4, hf⟩ := am_g hf
          refine am_b1 C0 am_YYk (pc := 30) (pc2 := 50) [(.aload_n 0, 0, 0, .null), (.getfield 7, 8, 2, .null), (.aload_n 0, 0, 0, .null), (.getfield 25, 8, 7, .null), (.iload 5, 0, 0, .null), (.iaload, 0, 0, .null), (.iload_n 3, 0, 0, .null), (.iload 5, 0, 0, .null), (.ishr, 0, 0, .null), (.iconst 1, 0, 0, .int 1), (.iand, 0, 0, .null), (.ixor, 0, 0, .null), (.iaload, 0, 0, .null), (.iload_n 2, 0, 0, .null)] (L := [some (.ref 26), some (.int (p1)), some (.int (p2)), some (.int (p3)), some (.int (l4)), some (.int (l5))]) (st := []) (L' := [some (.ref 26), some (.int (p1)), some (.int (p2)), some (.int (p3)), some (.int (l4)), some (.int (l5))]) (st' := [.int (p2), .int (g 27 (Int32.toNatClampNeg ((g 32 (Int32.toNatClampNeg l5)) ^^^ ((p3 >>> (l5 &&& 31)) &&& (1 : Int32)))))]) (g' := g) (w' := w) (cl := [am_in l5 26, am_in ((g 32 (Int32.toNatClampNeg l5)) ^^^ ((p3 >>> (l5 &&& 31)) &&& (1 : Int32))) 4]) (by decide +kernel) rfl ⟨hg3, hg4, trivial⟩ ?_
          refine am_icmp_ne C0 (off := 7) (tgt := 57) (by decide +kernel) (fun hc5 => ?_) (fun hc5 => ?_)
          · rw [if_neg hc5] at hf
            refine am_wk [some (.ref 26), some (.int (p1)), some (.int (p2)), some (.int (p3)), none, some (.int (l5))] ⟨rfl, rfl, rfl, rfl, rfl, trivial⟩ rfl ?_
            exact B_X8_reads_57 x C0 hR w F g p1 p2 p3 R _ (fun l4 l5 hf => ih l4 l5 hf) (l5) hf
          · rw [if_pos hc5] at hf
            refine am_wk [some (.ref 26), some (.int (p1)), some (.int (p2)), some (.int (p3)), none, some (.int (l5))] ⟨rfl, rfl, rfl, rfl, rfl, trivial⟩ rfl ?_
            exact B_X8_reads_53 x C0 hR w F g p1 p2 p3 R _ (fun l4 l5 hf => ih l4 l5 hf) (l5) hf
def f_X8_reads (F : Nat) (g : am_G) (p1 : Int32) (p2 : Int32) (p3 : Int32) : Option (Int32) :=
  f_X8_reads_6 F g p1 p2 p3 F ((0 : Int32)) ((0 : Int32))
set_option maxRecDepth 20000 in
theorem M_X8_reads (l : Launch) (F : Nat) (g : am_G) (w : am_J) (p1 : Int32) (p2 : Int32) (p3 : Int32) (R : Int32) (hf : f_X8_reads F g p1 p2 p3 = some R) : am_Met l mi_X8_reads rm_X8_reads [.ref 26, .int p1, .int p2, .int p3] am_YY g w (some (.int R)) am_YY g w := by
  refine am_met (own := 8) [some (.ref 26), some (.int (p1)), some (.int (p2)), some (.int (p3)), none, none] (by decide) rfl rfl (by first | decide | exact Nat.le_of_ble_eq_true rfl) (fun x C0 hR hl hnm => ?_)
  unfold f_X8_reads at hf
  refine am_b1 C0 am_YYk (pc := 0) (pc2 := 6) [(.iconst 0, 0, 0, .int 0), (.istore 4, 0, 0, .null), (.iconst 0, 0, 0, .int 0), (.istore 5, 0, 0, .null)] (L := [some (.ref 26), some (.int (p1)), some (.int (p2)), some (.int (p3)), none, none]) (st := []) (L' := [some (.ref 26), some (.int (p1)), some (.int (p2)), some (.int (p3)), some (.int ((0 : Int32))), some (.int ((0 : Int32)))]) (st' := []) (g' := g) (w' := w) (cl := []) (by decide +kernel) rfl trivial ?_
  refine B_X8_reads_6 x C0 hR w F g p1 p2 p3 R   F ((0 : Int32)) ((0 : Int32)) hf
/-! ShutterTownModel.common(II)I at () -/
def f_X8_common_4 (F : Nat) (p0 : Int32) (p1 : Int32)  : Nat → Int32 → Int32 → Option (Int32)
  | 0, _, _ => none
  | n + 1, l2, l3 =>
    if l3 = 0 then
      some (l2)
    else
      if ¬ l3 = 0 then
        f_X8_common_4 F p0 p1 n (l3) (l2 - l2 / l3 * l3)
      else none
set_option maxRecDepth 20000 in
theorem B_X8_common_4 (x : am_X) (C0 : am_Cm x 8 cX8_common 5 (some .int)) (hR : am_R x = rm_X8_common) (g : am_G) (w : am_J) (F : Nat) (p0 : Int32) (p1 : Int32) (R : Int32)   : ∀ (n : Nat) (l2 : Int32) (l3 : Int32), f_X8_common_4 F p0 p1 n l2 l3 = some R → am_Ev x 5 (0, 0) (am_Q x (0, 0) (some (.int R)) am_YY g w) 4 [some (.int (p0)), some (.int (p1)), some (.int (l2)), some (.int (l3)), none] [] am_YY g w := by
  intro n
  induction n with
  | zero => intro l2 l3 hf; cases hf
  | succ n ih =>
    intro l2 l3 hf
    rw [f_X8_common_4.eq_2] at hf
    refine am_b1 C0 am_YYk (pc := 4) (pc2 := 5) [(.iload_n 3, 0, 0, .null)] (L := [some (.int (p0)), some (.int (p1)), some (.int (l2)), some (.int (l3)), none]) (st := []) (L' := [some (.int (p0)), some (.int (p1)), some (.int (l2)), some (.int (l3)), none]) (st' := [.int (l3)]) (g' := g) (w' := w) (cl := []) (by decide +kernel) rfl trivial ?_
    refine am_if_eq C0 (off := 16) (tgt := 21) (by decide +kernel) (fun hc2 => ?_) (fun hc2 => ?_)
    · rw [if_pos hc2] at hf
      refine am_b1 C0 am_YYk (pc := 21) (pc2 := 22) [(.iload_n 2, 0, 0, .null)] (L := [some (.int (p0)), some (.int (p1)), some (.int (l2)), some (.int (l3)), none]) (st := []) (L' := [some (.int (p0)), some (.int (p1)), some (.int (l2)), some (.int (l3)), none]) (st' := [.int (l2)]) (g' := g) (w' := w) (cl := []) (by decide +kernel) rfl trivial ?_
      cases hf
      exact am_iret C0 (by decide +kernel)
    · rw [if_neg hc2] at hf
      obtain ⟨hg1, hf⟩ := am_g hf
      refine am_b1 C0 am_YYk (pc := 8) (pc2 := 18) [(.iload_n 2, 0, 0, .null), (.iload_n 3, 0, 0, .null), (.irem, 0, 0, .null), (.istore 4, 0, 0, .null), (.iload_n 3, 0, 0, .null), (.istore_n 2, 0, 0, .null), (.iload 4, 0, 0, .null), (.istore_n 3, 0, 0, .null)] (L := [some (.int (p0)), some (.int (p1)), some (.int (l2)), some (.int (l3)), none]) (st := []) (L' := [some (.int (p0)), some (.int (p1)), some (.int (l3)), some (.int (l2 - l2 / l3 * l3)), some (.int (l2 - l2 / l3 * l3))]) (st' := []) (g' := g) (w' := w) (cl := [¬ l3 = 0]) (by decide +kernel) rfl ⟨hg1, trivial⟩ ?_
      refine am_goto C0 (off := (-14)) (tgt := 4) (by decide +kernel) ?_
      refine am_wk [some (.int (p0)), some (.int (p1)), some (.int (l3)), some (.int (l2 - l2 / l3 * l3)), none] ⟨rfl, rfl, rfl, rfl, trivial⟩ rfl ?_
      exact ih (l3) (l2 - l2 / l3 * l3) hf
def f_X8_common (F : Nat) (p0 : Int32) (p1 : Int32) : Option (Int32) :=
  f_X8_common_4 F p0 p1 F (p0) (p1)
set_option maxRecDepth 20000 in
theorem M_X8_common (l : Launch) (F : Nat) (g : am_G) (w : am_J) (p0 : Int32) (p1 : Int32) (R : Int32) (hf : f_X8_common F p0 p1 = some R) : am_Met l mi_X8_common rm_X8_common [.int p0, .int p1] am_YY g w (some (.int R)) am_YY g w := by
  refine am_met (own := 8) [some (.int (p0)), some (.int (p1)), none, none, none] (by decide) rfl rfl (by first | decide | exact Nat.le_of_ble_eq_true rfl) (fun x C0 hR hl hnm => ?_)
  unfold f_X8_common at hf
  refine am_b1 C0 am_YYk (pc := 0) (pc2 := 4) [(.iload_n 0, 0, 0, .null), (.istore_n 2, 0, 0, .null), (.iload_n 1, 0, 0, .null), (.istore_n 3, 0, 0, .null)] (L := [some (.int (p0)), some (.int (p1)), none, none, none]) (st := []) (L' := [some (.int (p0)), some (.int (p1)), some (.int (p0)), some (.int (p1)), none]) (st' := []) (g' := g) (w' := w) (cl := []) (by decide +kernel) rfl trivial ?_
  refine B_X8_common_4 x C0 hR g w F p0 p1 R   F (p0) (p1) hf
