/-! ShutterTown.slams(IIIZ)I at (0,) -/
def f_X7_slams_131 (F : Nat) (g : am_G) (p1 : Int32) (p2 : Int32) (p3 : Int32) (p4 : Int32)  (l6 : Int32) (l7 : Int32) : Option (Int32) :=
  (f_X7_commonDivisor F l6 l7).bind fun q1 =>
    if (1 : Int32) ≤ q1 then
      if p4 = 0 then
        if ¬ q1 = 0 then
          some (l7 / q1)
        else none
      else
        if ¬ q1 = 0 then
          some (l6 / q1)
        else none
    else
      some ((-9 : Int32))
set_option maxRecDepth 20000 in
theorem B_X7_slams_131 (x : am_X) (C0 : am_Cm x 7 cX7_slams 10 (some .int)) (hR : am_R x = rm_X7_slams) (w : am_J) (F : Nat) (g : am_G) (p1 : Int32) (p2 : Int32) (p3 : Int32) (p4 : Int32) (R : Int32)   (l6 : Int32) (l7 : Int32) (hf : f_X7_slams_131 F g p1 p2 p3 p4 l6 l7 = some R) : am_Ev x 10 (0, 0) (am_Q x (0, 0) (some (.int R)) am_YY g w) 131 [none, some (.int (p1)), some (.int (p2)), some (.int (p3)), some (.int (p4)), none, some (.int (l6)), some (.int (l7)), none, none] [] am_YY g w := by
  unfold f_X7_slams_131 at hf
  refine am_b1 C0 am_YYk (pc := 131) (pc2 := 135) [(.iload 6, 0, 0, .null), (.iload 7, 0, 0, .null)] (L := [none, some (.int (p1)), some (.int (p2)), some (.int (p3)), some (.int (p4)), none, some (.int (l6)), some (.int (l7)), none, none]) (st := []) (L' := [none, some (.int (p1)), some (.int (p2)), some (.int (p3)), some (.int (p4)), none, some (.int (l6)), some (.int (l7)), none, none]) (st' := [.int (l7), .int (l6)]) (g' := g) (w' := w) (cl := []) (by decide +kernel) rfl trivial ?_
  obtain ⟨q1, hq1, hf⟩ := Option.bind_eq_some_iff.mp hf
  refine am_callS (mi := mi_X7_commonDivisor) (rm := rm_X7_commonDivisor) [.int (l6), .int (l7)] C0.1 cv_7_230 (M_X7_commonDivisor _ F g w l6 l7 _ hq1) (by rw [hR]; rfl) rfl rfl (Nat.le_of_ble_eq_true rfl) (by decide +kernel) ?_
  refine am_b1 C0 am_YYk (pc := 138) (pc2 := 143) [(.istore 8, 0, 0, .null), (.iload 8, 0, 0, .null), (.iconst 1, 0, 0, .int 1)] (L := [none, some (.int (p1)), some (.int (p2)), some (.int (p3)), some (.int (p4)), none, some (.int (l6)), some (.int (l7)), none, none]) (st := [.int (q1)]) (L' := [none, some (.int (p1)), some (.int (p2)), some (.int (p3)), some (.int (p4)), none, some (.int (l6)), some (.int (l7)), some (.int (q1)), none]) (st' := [.int ((1 : Int32)), .int (q1)]) (g' := g) (w' := w) (cl := []) (by decide +kernel) rfl trivial ?_
  refine am_icmp_ge C0 (off := 6) (tgt := 149) (by decide +kernel) (fun hc5 => ?_) (fun hc5 => ?_)
  · rw [if_pos hc5] at hf
    refine am_b1 C0 am_YYk (pc := 149) (pc2 := 151) [(.iload 4, 0, 0, .null)] (L := [none, some (.int (p1)), some (.int (p2)), some (.int (p3)), some (.int (p4)), none, some (.int (l6)), some (.int (l7)), some (.int (q1)), none]) (st := []) (L' := [none, some (.int (p1)), some (.int (p2)), some (.int (p3)), some (.int (p4)), none, some (.int (l6)), some (.int (l7)), some (.int (q1)), none]) (st' := [.int (p4)]) (g' := g) (w' := w) (cl := []) (by decide +kernel) rfl trivial ?_
    refine am_if_eq C0 (off := 11) (tgt := 162) (by decide +kernel) (fun hc4 => ?_) (fun hc4 => ?_)
    · rw [if_pos hc4] at hf
      obtain ⟨hg2, hf⟩ := am_g hf
      refine am_b1 C0 am_YYk (pc := 162) (pc2 := 167) [(.iload 7, 0, 0, .null), (.iload 8, 0, 0, .null), (.idiv, 0, 0, .null)] (L := [none, some (.int (p1)), some (.int (p2)), some (.int (p3)), some (.int (p4)), none, some (.int (l6)), some (.int (l7)), some (.int (q1)), none]) (st := []) (L' := [none, some (.int (p1)), some (.int (p2)), some (.int (p3)), some (.int (p4)), none, some (.int (l6)), some (.int (l7)), some (.int (q1)), none]) (st' := [.int (l7 / q1)]) (g' := g) (w' := w) (cl := [¬ q1 = 0]) (by decide +kernel) rfl ⟨hg2, trivial⟩ ?_
      cases hf
      exact am_iret C0 (by decide +kernel)
    · rw [if_neg hc4] at hf
      obtain ⟨hg3, hf⟩ := am_g hf
      refine am_b1 C0 am_YYk (pc := 154) (pc2 := 159) [(.iload 6, 0, 0, .null), (.iload 8, 0, 0, .null), (.idiv, 0, 0, .null)] (L := [none, some (.int (p1)), some (.int (p2)), some (.int (p3)), some (.int (p4)), none, some (.int (l6)), some (.int (l7)), some (.int (q1)), none]) (st := []) (L' := [none, some (.int (p1)), some (.int (p2)), some (.int (p3)), some (.int (p4)), none, some (.int (l6)), some (.int (l7)), some (.int (q1)), none]) (st' := [.int (l6 / q1)]) (g' := g) (w' := w) (cl := [¬ q1 = 0]) (by decide +kernel) rfl ⟨hg3, trivial⟩ ?_
      refine am_goto C0 (off := 8) (tgt := 167) (by decide +kernel) ?_
      cases hf
      exact am_iret C0 (by decide +kernel)
  · rw [if_neg hc5] at hf
    refine am_b1 C0 am_YYk (pc := 146) (pc2 := 148) [(.bipush (-9), 0, 0, .int (-9))] (L := [none, some (.int (p1)), some (.int (p2)), some (.int (p3)), some (.int (p4)), none, some (.int (l6)), some (.int (l7)), some (.int (q1)), none]) (st := []) (L' := [none, some (.int (p1)), some (.int (p2)), some (.int (p3)), some (.int (p4)), none, some (.int (l6)), some (.int (l7)), some (.int (q1)), none]) (st' := [.int ((-9 : Int32))]) (g' := g) (w' := w) (cl := []) (by decide +kernel) rfl trivial ?_
    cases hf
    exact am_iret C0 (by decide +kernel)
def f_X7_slams_125 (F : Nat) (g : am_G) (p1 : Int32) (p2 : Int32) (p3 : Int32) (p4 : Int32) (k61 : Int32 → Int32 → Int32 → Int32 → Option (Int32)) (k131 : Int32 → Int32 → Option (Int32)) (l5 : Int32) (l6 : Int32) (l7 : Int32) (l8 : Int32) : Option (Int32) :=
  k61 (l5) (l6) (l7) (l8 + (1 : Int32))
set_option maxRecDepth 20000 in
theorem B_X7_slams_125 (x : am_X) (C0 : am_Cm x 7 cX7_slams 10 (some .int)) (hR : am_R x = rm_X7_slams) (w : am_J) (F : Nat) (g : am_G) (p1 : Int32) (p2 : Int32) (p3 : Int32) (p4 : Int32) (R : Int32) (k61 : Int32 → Int32 → Int32 → Int32 → Option (Int32)) (k131 : Int32 → Int32 → Option (Int32)) (hk61 : ∀ (l5 : Int32) (l6 : Int32) (l7 : Int32) (l8 : Int32), k61 l5 l6 l7 l8 = some R → am_Ev x 10 (0, 0) (am_Q x (0, 0) (some (.int R)) am_YY g w) 61 [some (.ref 0), some (.int (p1)), some (.int (p2)), some (.int (p3)), some (.int (p4)), some (.int (l5)), some (.int (l6)), some (.int (l7)), some (.int (l8)), none] [] am_YY g w) (hk131 : ∀ (l6 : Int32) (l7 : Int32), k131 l6 l7 = some R → am_Ev x 10 (0, 0) (am_Q x (0, 0) (some (.int R)) am_YY g w) 131 [none, some (.int (p1)), some (.int (p2)), some (.int (p3)), some (.int (p4)), none, some (.int (l6)), some (.int (l7)), none, none] [] am_YY g w) (l5 : Int32) (l6 : Int32) (l7 : Int32) (l8 : Int32) (hf : f_X7_slams_125 F g p1 p2 p3 p4 k61 k131 l5 l6 l7 l8 = some R) : am_Ev x 10 (0, 0) (am_Q x (0, 0) (some (.int R)) am_YY g w) 125 [some (.ref 0), some (.int (p1)), some (.int (p2)), some (.int (p3)), some (.int (p4)), some (.int (l5)), some (.int (l6)), some (.int (l7)), some (.int (l8)), none] [] am_YY g w := by
  unfold f_X7_slams_125 at hf
  refine am_b1 C0 am_YYk (pc := 125) (pc2 := 128) [(.iinc 8 1, 0, 0, .int 1)] (L := [some (.ref 0), some (.int (p1)), some (.int (p2)), some (.int (p3)), some (.int (p4)), some (.int (l5)), some (.int (l6)), some (.int (l7)), some (.int (l8)), none]) (st := []) (L' := [some (.ref 0), some (.int (p1)), some (.int (p2)), some (.int (p3)), some (.int (p4)), some (.int (l5)), some (.int (l6)), some (.int (l7)), some (.int (l8 + (1 : Int32))), none]) (st' := []) (g' := g) (w' := w) (cl := []) (by decide +kernel) rfl trivial ?_
  refine am_goto C0 (off := (-67)) (tgt := 61) (by decide +kernel) ?_
  exact hk61 (l5) (l6) (l7) (l8 + (1 : Int32)) hf
def f_X7_slams_122 (F : Nat) (g : am_G) (p1 : Int32) (p2 : Int32) (p3 : Int32) (p4 : Int32) (k61 : Int32 → Int32 → Int32 → Int32 → Option (Int32)) (k131 : Int32 → Int32 → Option (Int32)) (l5 : Int32) (l7 : Int32) (l8 : Int32) (s0 : Int32) (s1 : Int32) : Option (Int32) :=
  f_X7_slams_125 F g p1 p2 p3 p4 k61 k131 (l5) (s0 + s1) (l7) (l8)
set_option maxRecDepth 20000 in
theorem B_X7_slams_122 (x : am_X) (C0 : am_Cm x 7 cX7_slams 10 (some .int)) (hR : am_R x = rm_X7_slams) (w : am_J) (F : Nat) (g : am_G) (p1 : Int32) (p2 : Int32) (p3 : Int32) (p4 : Int32) (R : Int32) (k61 : Int32 → Int32 → Int32 → Int32 → Option (Int32)) (k131 : Int32 → Int32 → Option (Int32)) (hk61 : ∀ (l5 : Int32) (l6 : Int32) (l7 : Int32) (l8 : Int32), k61 l5 l6 l7 l8 = some R → am_Ev x 10 (0, 0) (am_Q x (0, 0) (some (.int R)) am_YY g w) 61 [some (.ref 0), some (.int (p1)), some (.int (p2)), some (.int (p3)), some (.int (p4)), some (.int (l5)), some (.int (l6)), some (.int (l7)), some (.int (l8)), none] [] am_YY g w) (hk131 : ∀ (l6 : Int32) (l7 : Int32), k131 l6 l7 = some R → am_Ev x 10 (0, 0) (am_Q x (0, 0) (some (.int R)) am_YY g w) 131 [none, some (.int (p1)), some (.int (p2)), some (.int (p3)), some (.int (p4)), none, some (.int (l6)), some (.int (l7)), none, none] [] am_YY g w) (l5 : Int32) (l7 : Int32) (l8 : Int32) (s0 : Int32) (s1 : Int32) (hf : f_X7_slams_122 F g p1 p2 p3 p4 k61 k131 l5 l7 l8 s0 s1 = some R) : am_Ev x 10 (0, 0) (am_Q x (0, 0) (some (.int R)) am_YY g w) 122 [some (.ref 0), some (.int (p1)), some (.int (p2)), some (.int (p3)), some (.int (p4)), some (.int (l5)), none, some (.int (l7)), some (.int (l8)), none] [.int (s1), .int (s0)] am_YY g w := by
  unfold f_X7_slams_122 at hf
  refine am_b1 C0 am_YYk (pc := 122) (pc2 := 125) [(.iadd, 0, 0, .null), (.istore 6, 0, 0, .null)] (L := [some (.ref 0), some (.int (p1)), some (.int (p2)), some (.int (p3)), some (.int (p4)), some (.int (l5)), none, some (.int (l7)), some (.int (l8)), none]) (st := [.int (s1), .int (s0)]) (L' := [some (.ref 0), some (.int (p1)), some (.int (p2)), some (.int (p3)), some (.int (p4)), some (.int (l5)), some (.int (s0 + s1)), some (.int (l7)), some (.int (l8)), none]) (st' := []) (g' := g) (w' := w) (cl := []) (by decide +kernel) rfl trivial ?_
  exact B_X7_slams_125 x C0 hR w F g p1 p2 p3 p4 R _ _ hk61 hk131 (l5) (s0 + s1) (l7) (l8) hf
def f_X7_slams_61 (F : Nat) (g : am_G) (p1 : Int32) (p2 : Int32) (p3 : Int32) (p4 : Int32) (k131 : Int32 → Int32 → Option (Int32)) : Nat → Int32 → Int32 → Int32 → Int32 → Option (Int32)
  | 0, _, _, _, _ => none
  | n + 1, l5, l6, l7, l8 =>
    (f_X2_sets g).bind fun q6 =>
      if q6 ≤ l8 then
        k131 (l6) (l7)
      else
        if (l8 &&& (l5 ^^^ (-1 : Int32))) = 0 then
          (f_X7_weightOf F l8 l5 p3).bind fun q7 =>
            (f_X4_isRead F g p1 p2 l8).bind fun q8 =>
              if q8 = 0 then
                f_X7_slams_122 F g p1 p2 p3 p4 (fun l5 l6 l7 l8 => f_X7_slams_61 F g p1 p2 p3 p4 k131 n l5 l6 l7 l8) k131 (l5) (l7 + q7) (l8) (l6) ((0 : Int32))
              else
                f_X7_slams_122 F g p1 p2 p3 p4 (fun l5 l6 l7 l8 => f_X7_slams_61 F g p1 p2 p3 p4 k131 n l5 l6 l7 l8) k131 (l5) (l7 + q7) (l8) (l6) (q7)
        else
          f_X7_slams_125 F g p1 p2 p3 p4 (fun l5 l6 l7 l8 => f_X7_slams_61 F g p1 p2 p3 p4 k131 n l5 l6 l7 l8) k131 (l5) (l6) (l7) (l8)
set_option maxRecDepth 20000 in
theorem B_X7_slams_61 (x : am_X) (C0 : am_Cm x 7 cX7_slams 10 (some .int)) (hR : am_R x = rm_X7_slams) (w : am_J) (F : Nat) (g : am_G) (p1 : Int32) (p2 : Int32) (p3 : Int32) (p4 : Int32) (R : Int32) (k131 : Int32 → Int32 → Option (Int32)) (hk131 : ∀ (l6 : Int32) (l7 : Int32), k131 l6 l7 = some R → am_Ev x 10 (0, 0) (am_Q x (0, 0) (some (.int R)) am_YY g w) 131 [none, some (.int (p1)), some (.int (p2)), some (.int (p3)), some (.int (p4)), none, some (.int (l6)), some (.int (l7)), none, none] [] am_YY g w) : ∀ (n : Nat) (l5 : Int32) (l6 : Int32) (l7 : Int32) (l8 : Int32), f_X7_slams_61 F g p1 p2 p3 p4 k131 n l5 l6 l7 l8 = some R → am_Ev x 10 (0, 0) (am_Q x (0, 0) (some (.int R)) am_YY g w) 61 [some (.ref 0), some (.int (p1)), some (.int (p2)), some (.int (p3)), some (.int (p4)), some (.int (l5)), some (.int (l6)), some (.int (l7)), some (.int (l8)), none] [] am_YY g w := by
  intro n
  induction n with
  | zero => intro l5 l6 l7 l8 hf; cases hf
  | succ n ih =>
    intro l5 l6 l7 l8 hf
    rw [f_X7_slams_61.eq_2] at hf
    refine am_b1 C0 am_YYk (pc := 61) (pc2 := 67) [(.iload 8, 0, 0, .null), (.aload_n 0, 0, 0, .null), (.getfield 19, 7, 1, .null)] (L := [some (.ref 0), some (.int (p1)), some (.int (p2)), some (.int (p3)), some (.int (p4)), some (.int (l5)), some (.int (l6)), some (.int (l7)), some (.int (l8)), none]) (st := []) (L' := [some (.ref 0), some (.int (p1)), some (.int (p2)), some (.int (p3)), some (.int (p4)), some (.int (l5)), some (.int (l6)), some (.int (l7)), some (.int (l8)), none]) (st' := [.ref 3, .int (l8)]) (g' := g) (w' := w) (cl := []) (by decide +kernel) rfl trivial ?_
    obtain ⟨q6, hq6, hf⟩ := Option.bind_eq_some_iff.mp hf
    refine am_callV (mi := mi_X2_sets) (rm := rm_X2_sets) [] C0.1 am_YYl cv_7_171 (M_X2_sets _ g w _ hq6) (ci := 2) rfl (by decide) rfl (by rw [hR]; rfl) rfl rfl (Nat.le_of_ble_eq_true rfl) (by decide +kernel) ?_
    refine am_icmp_ge C0 (off := 61) (tgt := 131) (by decide +kernel) (fun hc11 => ?_) (fun hc11 => ?_)
    · rw [if_pos hc11] at hf
      refine am_wk [none, some (.int (p1)), some (.int (p2)), some (.int (p3)), some (.int (p4)), none, some (.int (l6)), some (.int (l7)), none, none] ⟨rfl, rfl, rfl, rfl, rfl, rfl, trivial⟩ rfl ?_
      exact hk131 (l6) (l7) hf
    · rw [if_neg hc11] at hf
      refine am_b1 C0 am_YYk (pc := 73) (pc2 := 80) [(.iload 8, 0, 0, .null), (.iload 5, 0, 0, .null), (.iconst (-1), 0, 0, .int (-1)), (.ixor, 0, 0, .null), (.iand, 0, 0, .null)] (L := [some (.ref 0), some (.int (p1)), some (.int (p2)), some (.int (p3)), some (.int (p4)), some (.int (l5)), some (.int (l6)), some (.int (l7)), some (.int (l8)), none]) (st := []) (L' := [some (.ref 0), some (.int (p1)), some (.int (p2)), some (.int (p3)), some (.int (p4)), some (.int (l5)), some (.int (l6)), some (.int (l7)), some (.int (l8)), none]) (st' := [.int (l8 &&& (l5 ^^^ (-1 : Int32)))]) (g' := g) (w' := w) (cl := []) (by decide +kernel) rfl trivial ?_
      refine am_if_ne C0 (off := 45) (tgt := 125) (by decide +kernel) (fun hc10 => ?_) (fun hc10 => ?_)
      · rw [if_neg hc10] at hf
        exact B_X7_slams_125 x C0 hR w F g p1 p2 p3 p4 R _ _ (fun l5 l6 l7 l8 hf => ih l5 l6 l7 l8 hf) hk131 (l5) (l6) (l7) (l8) hf
      · rw [if_pos hc10] at hf
        refine am_b1 C0 am_YYk (pc := 83) (pc2 := 88) [(.iload 8, 0, 0, .null), (.iload 5, 0, 0, .null), (.iload_n 3, 0, 0, .null)] (L := [some (.ref 0), some (.int (p1)), some (.int (p2)), some (.int (p3)), some (.int (p4)), some (.int (l5)), some (.int (l6)), some (.int (l7)), some (.int (l8)), none]) (st := []) (L' := [some (.ref 0), some (.int (p1)), some (.int (p2)), some (.int (p3)), some (.int (p4)), some (.int (l5)), some (.int (l6)), some (.int (l7)), some (.int (l8)), none]) (st' := [.int (p3), .int (l5), .int (l8)]) (g' := g) (w' := w) (cl := []) (by decide +kernel) rfl trivial ?_
        obtain ⟨q7, hq7, hf⟩ := Option.bind_eq_some_iff.mp hf
        refine am_callS (mi := mi_X7_weightOf) (rm := rm_X7_weightOf) [.int (l8), .int (l5), .int (p3)] C0.1 cv_7_222 (M_X7_weightOf _ F g w l8 l5 p3 _ hq7) (by rw [hR]; rfl) rfl rfl (Nat.le_of_ble_eq_true rfl) (by decide +kernel) ?_
        refine am_b1 C0 am_YYk (pc := 91) (pc2 := 110) [(.istore 9, 0, 0, .null), (.iload 7, 0, 0, .null), (.iload 9, 0, 0, .null), (.iadd, 0, 0, .null), (.istore 7, 0, 0, .null), (.iload 6, 0, 0, .null), (.aload_n 0, 0, 0, .null), (.getfield 28, 7, 2, .null), (.iload_n 1, 0, 0, .null), (.iload_n 2, 0, 0, .null), (.iload 8, 0, 0, .null)] (L := [some (.ref 0), some (.int (p1)), some (.int (p2)), some (.int (p3)), some (.int (p4)), some (.int (l5)), some (.int (l6)), some (.int (l7)), some (.int (l8)), none]) (st := [.int (q7)]) (L' := [some (.ref 0), some (.int (p1)), some (.int (p2)), some (.int (p3)), some (.int (p4)), some (.int (l5)), some (.int (l6)), some (.int (l7 + q7)), some (.int (l8)), some (.int (q7))]) (st' := [.int (l8), .int (p2), .int (p1), .ref 10, .int (l6)]) (g' := g) (w' := w) (cl := []) (by decide +kernel) rfl trivial ?_
        obtain ⟨q8, hq8, hf⟩ := Option.bind_eq_some_iff.mp hf
        refine am_callV (mi := mi_X4_isRead) (rm := rm_X4_isRead) [.int (p1), .int (p2), .int (l8)] C0.1 am_YYl cv_7_226 (M_X4_isRead _ F g w p1 p2 l8 _ hq8) (ci := 4) rfl (by decide) rfl (by rw [hR]; rfl) rfl rfl (Nat.le_of_ble_eq_true rfl) (by decide +kernel) ?_
        refine am_if_eq C0 (off := 8) (tgt := 121) (by decide +kernel) (fun hc9 => ?_) (fun hc9 => ?_)
        · rw [if_pos hc9] at hf
          refine am_b1 C0 am_YYk (pc := 121) (pc2 := 122) [(.iconst 0, 0, 0, .int 0)] (L := [some (.ref 0), some (.int (p1)), some (.int (p2)), some (.int (p3)), some (.int (p4)), some (.int (l5)), some (.int (l6)), some (.int (l7 + q7)), some (.int (l8)), some (.int (q7))]) (st := [.int (l6)]) (L' := [some (.ref 0), some (.int (p1)), some (.int (p2)), some (.int (p3)), some (.int (p4)), some (.int (l5)), some (.int (l6)), some (.int (l7 + q7)), some (.int (l8)), some (.int (q7))]) (st' := [.int ((0 : Int32)), .int (l6)]) (g' := g) (w' := w) (cl := []) (by decide +kernel) rfl trivial ?_
          refine am_wk [some (.ref 0), some (.int (p1)), some (.int (p2)), some (.int (p3)), some (.int (p4)), some (.int (l5)), none, some (.int (l7 + q7)), some (.int (l8)), none] ⟨rfl, rfl, rfl, rfl, rfl, rfl, rfl, rfl, trivial⟩ rfl ?_
          exact B_X7_slams_122 x C0 hR w F g p1 p2 p3 p4 R _ _ (fun l5 l6 l7 l8 hf => ih l5 l6 l7 l8 hf) hk131 (l5) (l7 + q7) (l8) (l6) ((0 : Int32)) hf
        · rw [if_neg hc9] at hf
          refine am_b1 C0 am_YYk (pc := 116) (pc2 := 118) [(.iload 9, 0, 0, .null)] (L := [some (.ref 0), some (.int (p1)), some (.int (p2)), some (.int (p3)), some (.int (p4)), some (.int (l5)), some (.int (l6)), some (.int (l7 + q7)), some (.int (l8)), some (.int (q7))]) (st := [.int (l6)]) (L' := [some (.ref 0), some (.int (p1)), some (.int (p2)), some (.int (p3)), some (.int (p4)), some (.int (l5)), some (.int (l6)), some (.int (l7 + q7)), some (.int (l8)), some (.int (q7))]) (st' := [.int (q7), .int (l6)]) (g' := g) (w' := w) (cl := []) (by decide +kernel) rfl trivial ?_
          refine am_goto C0 (off := 4) (tgt := 122) (by decide +kernel) ?_
          refine am_wk [some (.ref 0), some (.int (p1)), some (.int (p2)), some (.int (p3)), some (.int (p4)), some (.int (l5)), none, some (.int (l7 + q7)), some (.int (l8)), none] ⟨rfl, rfl, rfl, rfl, rfl, rfl, rfl, rfl, trivial⟩ rfl ?_
          exact B_X7_slams_122 x C0 hR w F g p1 p2 p3 p4 R _ _ (fun l5 l6 l7 l8 hf => ih l5 l6 l7 l8 hf) hk131 (l5) (l7 + q7) (l8) (l6) (q7) hf
def f_X7_slams (F : Nat) (g : am_G) (p1 : Int32) (p2 : Int32) (p3 : Int32) (p4 : Int32) : Option (Int32) :=
  (f_X2_has g p1).bind fun q12 =>
    if q12 = 0 then
      some ((-1 : Int32))
    else
      (f_X7_isWord p2).bind fun q13 =>
        if q13 = 0 then
          some ((-2 : Int32))
        else
          if p3 < 0 then
            some ((-2 : Int32))
          else
            if p3 ≤ (10 : Int32) then
              (f_X2_sees g p1).bind fun q14 =>
                (f_X2_ofKind F g (2 : Int32)).bind fun q15 =>
                  f_X7_slams_61 F g p1 p2 p3 p4 (fun l6 l7 => f_X7_slams_131 F g p1 p2 p3 p4 (l6) (l7)) F (q14 &&& q15) ((0 : Int32)) ((0 : Int32)) ((0 : Int32))
            else
              some ((-2 : Int32))
set_option maxRecDepth 20000 in
theorem M_X7_slams (l : Launch) (F : Nat) (g : am_G) (w : am_J) (p1 : Int32) (p2 : Int32) (p3 : Int32) (p4 : Int32) (R : Int32) (hf : f_X7_slams F g p1 p2 p3 p4 = some R) : am_Met l mi_X7_slams rm_X7_slams [.ref 0, .int p1, .int p2, .int p3, .int p4] am_YY g w (some (.int R)) am_YY g w := by
  refine am_met (own := 7) [some (.ref 0), some (.int (p1)), some (.int (p2)), some (.int (p3)), some (.int (p4)), none, none, none, none, none] (by decide) rfl rfl (by first | decide | exact Nat.le_of_ble_eq_true rfl) (fun x C0 hR hl hnm => ?_)
  unfold f_X7_slams at hf
  refine am_b1 C0 am_YYk (pc := 0) (pc2 := 5) [(.aload_n 0, 0, 0, .null), (.getfield 19, 7, 1, .null), (.iload_n 1, 0, 0, .null)] (L := [some (.ref 0), some (.int (p1)), some (.int (p2)), some (.int (p3)), some (.int (p4)), none, none, none, none, none]) (st := []) (L' := [some (.ref 0), some (.int (p1)), some (.int (p2)), some (.int (p3)), some (.int (p4)), none, none, none, none, none]) (st' := [.int (p1), .ref 3]) (g' := g) (w' := w) (cl := []) (by decide +kernel) rfl trivial ?_
  obtain ⟨q12, hq12, hf⟩ := Option.bind_eq_some_iff.mp hf
  refine am_callV (mi := mi_X2_has) (rm := rm_X2_has) [.int (p1)] C0.1 am_YYl cv_7_96 (M_X2_has _ g w p1 _ hq12) (ci := 2) rfl (by decide) rfl (by rw [hR]; rfl) rfl rfl (Nat.le_of_ble_eq_true rfl) (by decide +kernel) ?_
  refine am_if_ne C0 (off := 5) (tgt := 13) (by decide +kernel) (fun hc19 => ?_) (fun hc19 => ?_)
  · rw [if_neg hc19] at hf
    refine am_b1 C0 am_YYk (pc := 13) (pc2 := 14) [(.iload_n 2, 0, 0, .null)] (L := [some (.ref 0), some (.int (p1)), some (.int (p2)), some (.int (p3)), some (.int (p4)), none, none, none, none, none]) (st := []) (L' := [some (.ref 0), some (.int (p1)), some (.int (p2)), some (.int (p3)), some (.int (p4)), none, none, none, none, none]) (st' := [.int (p2)]) (g' := g) (w' := w) (cl := []) (by decide +kernel) rfl trivial ?_
    obtain ⟨q13, hq13, hf⟩ := Option.bind_eq_some_iff.mp hf
    refine am_callS (mi := mi_X7_isWord) (rm := rm_X7_isWord) [.int (p2)] C0.1 cv_7_195 (M_X7_isWord _ g w p2 _ hq13) (by rw [hR]; rfl) rfl rfl (Nat.le_of_ble_eq_true rfl) (by decide +kernel) ?_
    refine am_if_eq C0 (off := 13) (tgt := 30) (by decide +kernel) (fun hc18 => ?_) (fun hc18 => ?_)
    · rw [if_pos hc18] at hf
      refine am_b1 C0 am_YYk (pc := 30) (pc2 := 32) [(.bipush (-2), 0, 0, .int (-2))] (L := [some (.ref 0), some (.int (p1)), some (.int (p2)), some (.int (p3)), some (.int (p4)), none, none, none, none, none]) (st := []) (L' := [some (.ref 0), some (.int (p1)), some (.int (p2)), some (.int (p3)), some (.int (p4)), none, none, none, none, none]) (st' := [.int ((-2 : Int32))]) (g' := g) (w' := w) (cl := []) (by decide +kernel) rfl trivial ?_
      cases hf
      exact am_iret C0 (by decide +kernel)
    · rw [if_neg hc18] at hf
      refine am_b1 C0 am_YYk (pc := 20) (pc2 := 21) [(.iload_n 3, 0, 0, .null)] (L := [some (.ref 0), some (.int (p1)), some (.int (p2)), some (.int (p3)), some (.int (p4)), none, none, none, none, none]) (st := []) (L' := [some (.ref 0), some (.int (p1)), some (.int (p2)), some (.int (p3)), some (.int (p4)), none, none, none, none, none]) (st' := [.int (p3)]) (g' := g) (w' := w) (cl := []) (by decide +kernel) rfl trivial ?_
      refine am_if_lt C0 (off := 9) (tgt := 30) (by decide +kernel) (fun hc17 => ?_) (fun hc17 => ?_)
      · rw [if_pos hc17] at hf
        refine am_b1 C0 am_YYk (pc := 30) (pc2 := 32) [(.bipush (-2), 0, 0, .int (-2))] (L := [some (.ref 0), some (.int (p1)), some (.int (p2)), some (.int (p3)), some (.int (p4)), none, none, none, none, none]) (st := []) (L' := [some (.ref 0), some (.int (p1)), some (.int (p2)), some (.int (p3)), some (.int (p4)), none, none, none, none, none]) (st' := [.int ((-2 : Int32))]) (g' := g) (w' := w) (cl := []) (by decide +kernel) rfl trivial ?_
        cases hf
        exact am_iret C0 (by decide +kernel)
      · rw [if_neg hc17] at hf
        refine am_b1 C0 am_YYk (pc := 24) (pc2 := 27) [(.iload_n 3, 0, 0, .null), (.bipush 10, 0, 0, .int 10)] (L := [some (.ref 0), some (.int (p1)), some (.int (p2)), some (.int (p3)), some (.int (p4)), none, none, none, none, none]) (st := []) (L' := [some (.ref 0), some (.int (p1)), some (.int (p2)), some (.int (p3)), some (.int (p4)), none, none, none, none, none]) (st' := [.int ((10 : Int32)), .int (p3)]) (g' := g) (w' := w) (cl := []) (by decide +kernel) rfl trivial ?_
        refine am_icmp_le C0 (off := 6) (tgt := 33) (by decide +kernel) (fun hc16 => ?_) (fun hc16 => ?_)
        · rw [if_pos hc16] at hf
          refine am_b1 C0 am_YYk (pc := 33) (pc2 := 38) [(.aload_n 0, 0, 0, .null), (.getfield 19, 7, 1, .null), (.iload_n 1, 0, 0, .null)] (L := [some (.ref 0), some (.int (p1)), some (.int (p2)), some (.int (p3)), some (.int (p4)), none, none, none, none, none]) (st := []) (L' := [some (.ref 0), some (.int (p1)), some (.int (p2)), some (.int (p3)), some (.int (p4)), none, none, none, none, none]) (st' := [.int (p1), .ref 3]) (g' := g) (w' := w) (cl := []) (by decide +kernel) rfl trivial ?_
          obtain ⟨q14, hq14, hf⟩ := Option.bind_eq_some_iff.mp hf
          refine am_callV (mi := mi_X2_sees) (rm := rm_X2_sees) [.int (p1)] C0.1 am_YYl cv_7_118 (M_X2_sees _ g w p1 _ hq14) (ci := 2) rfl (by decide) rfl (by rw [hR]; rfl) rfl rfl (Nat.le_of_ble_eq_true rfl) (by decide +kernel) ?_
          refine am_b1 C0 am_YYk (pc := 41) (pc2 := 46) [(.aload_n 0, 0, 0, .null), (.getfield 19, 7, 1, .null), (.iconst 2, 0, 0, .int 2)] (L := [some (.ref 0), some (.int (p1)), some (.int (p2)), some (.int (p3)), some (.int (p4)), none, none, none, none, none]) (st := [.int (q14)]) (L' := [some (.ref 0), some (.int (p1)), some (.int (p2)), some (.int (p3)), some (.int (p4)), none, none, none, none, none]) (st' := [.int ((2 : Int32)), .ref 3, .int (q14)]) (g' := g) (w' := w) (cl := []) (by decide +kernel) rfl trivial ?_
          obtain ⟨q15, hq15, hf⟩ := Option.bind_eq_some_iff.mp hf
          refine am_callV (mi := mi_X2_ofKind) (rm := rm_X2_ofKind) [.int ((2 : Int32))] C0.1 am_YYl cv_7_219 (M_X2_ofKind _ F g w (2 : Int32) _ hq15) (ci := 2) rfl (by decide) rfl (by rw [hR]; rfl) rfl rfl (Nat.le_of_ble_eq_true rfl) (by decide +kernel) ?_
          refine am_b1 C0 am_YYk (pc := 49) (pc2 := 61) [(.iand, 0, 0, .null), (.istore 5, 0, 0, .null), (.iconst 0, 0, 0, .int 0), (.istore 6, 0, 0, .null), (.iconst 0, 0, 0, .int 0), (.istore 7, 0, 0, .null), (.iconst 0, 0, 0, .int 0), (.istore 8, 0, 0, .null)] (L := [some (.ref 0), some (.int (p1)), some (.int (p2)), some (.int (p3)), some (.int (p4)), none, none, none, none, none]) (st := [.int (q15), .int (q14)]) (L' := [some (.ref 0), some (.int (p1)), some (.int (p2)), some (.int (p3)), some (.int (p4)), some (.int (q14 &&& q15)), some (.int ((0 : Int32))), some (.int ((0 : Int32))), some (.int ((0 : Int32))), none]) (st' := []) (g' := g) (w' := w) (cl := []) (by decide +kernel) rfl trivial ?_
          refine B_X7_slams_61 x C0 hR w F g p1 p2 p3 p4 R _ ?_ F (q14 &&& q15) ((0 : Int32)) ((0 : Int32)) ((0 : Int32)) hf
          · intro l6 l7 hf
            exact B_X7_slams_131 x C0 hR w F g p1 p2 p3 p4 R  (l6) (l7) hf
        · rw [if_neg hc16] at hf
          refine am_b1 C0 am_YYk (pc := 30) (pc2 := 32) [(.bipush (-2), 0, 0, .int (-2))] (L := [some (.ref 0), some (.int (p1)), some (.int (p2)), some (.int (p3)), some (.int (p4)), none, none, none, none, none]) (st := []) (L' := [some (.ref 0), some (.int (p1)), some (.int (p2)), some (.int (p3)), some (.int (p4)), none, none, none, none, none]) (st' := [.int ((-2 : Int32))]) (g' := g) (w' := w) (cl := []) (by decide +kernel) rfl trivial ?_
          cases hf
          exact am_iret C0 (by decide +kernel)
  · rw [if_pos hc19] at hf
    refine am_b1 C0 am_YYk (pc := 11) (pc2 := 12) [(.iconst (-1), 0, 0, .int (-1))] (L := [some (.ref 0), some (.int (p1)), some (.int (p2)), some (.int (p3)), some (.int (p4)), none, none, none, none, none]) (st := []) (L' := [some (.ref 0), some (.int (p1)), some (.int (p2)), some (.int (p3)), some (.int (p4)), none, none, none, none, none]) (st' := [.int ((-1 : Int32))]) (g' := g) (w' := w) (cl := []) (by decide +kernel) rfl trivial ?_
    cases hf
    exact am_iret C0 (by decide +kernel)
/-! ShutterTown.seed(J)J at (0,) -/
def f_X7_seed (w : am_J) (p1 : Int64) : Option (Int64 × am_J) :=
  some (w 0 10, am_ul w 0 10 p1)
set_option maxRecDepth 20000 in
theorem M_X7_seed (l : Launch) (g : am_G) (w : am_J) (p1 : Int64) (R : Int64 × am_J) (hf : f_X7_seed w p1 = some R) : am_Met l mi_X7_seed rm_X7_seed [.ref 0, .long p1] am_YY g w (some (.long R.1)) am_YY g (R.2) := by
  refine am_met (own := 7) [some (.ref 0), some (.long (p1)), none, none, none] (by decide) rfl rfl (by first | decide | exact Nat.le_of_ble_eq_true rfl) (fun x C0 hR hl hnm => ?_)
  unfold f_X7_seed at hf
  refine am_b1 C0 am_YYk (pc := 0) (pc2 := 11) [(.aload_n 0, 0, 0, .null), (.getfield 233, 7, 10, .null), (.lstore_n 3, 0, 0, .null), (.aload_n 0, 0, 0, .null), (.lload_n 1, 0, 0, .null), (.putfield 233, 7, 10, .null), (.lload_n 3, 0, 0, .null)] (L := [some (.ref 0), some (.long (p1)), none, none, none]) (st := []) (L' := [some (.ref 0), some (.long (p1)), none, some (.long (w 0 10)), none]) (st' := [.long (w 0 10)]) (g' := g) (w' := am_ul w 0 10 p1) (cl := []) (by decide +kernel) rfl trivial ?_
  cases hf
  exact am_lret C0 (by decide +kernel)
/-! ShutterTown.afternoons(I)I at (0,) -/
def f_X7_afternoons_104 (F : Nat) (p1 : Int32)  (g : am_G) (w : am_J) : Option (Int32 × am_G × am_J) :=
  (f_X4_pairsAlike_13 F g).bind fun q1 =>
    some (q1, g, w)
set_option maxRecDepth 20000 in
theorem B_X7_afternoons_104 (x : am_X) (C0 : am_Cm x 7 cX7_afternoons 4 (some .int)) (hR : am_R x = rm_X7_afternoons) (F : Nat) (p1 : Int32) (R : Int32 × am_G × am_J)   (g : am_G) (w : am_J) (hf : f_X7_afternoons_104 F p1 g w = some R) : am_Ev x 4 (0, 0) (am_Q x (0, 0) (some (.int R.1)) am_YY (R.2.1) (R.2.2)) 104 [some (.ref 0), some (.int (p1)), none, none] [] am_YY g w := by
  unfold f_X7_afternoons_104 at hf
  refine am_b1 C0 am_YYk (pc := 104) (pc2 := 108) [(.aload_n 0, 0, 0, .null), (.getfield 32, 7, 3, .null)] (L := [some (.ref 0), some (.int (p1)), none, none]) (st := []) (L' := [some (.ref 0), some (.int (p1)), none, none]) (st' := [.ref 13]) (g' := g) (w' := w) (cl := []) (by decide +kernel) rfl trivial ?_
  obtain ⟨q1, hq1, hf⟩ := Option.bind_eq_some_iff.mp hf
  refine am_callV (mi := mi_X4_pairsAlike) (rm := rm_X4_pairsAlike) [] C0.1 am_YYl cv_7_192 (M_X4_pairsAlike_13 _ F g w _ hq1) (ci := 4) rfl (by decide) rfl (by rw [hR]; rfl) rfl rfl (Nat.le_of_ble_eq_true rfl) (by decide +kernel) ?_
  cases hf
  exact am_iret C0 (by decide +kernel)
def f_X7_afternoons_90 (F : Nat) (p1 : Int32) (k27 : Int32 → am_G → am_J → Option (Int32 × am_G × am_J)) (k104 : am_G → am_J → Option (Int32 × am_G × am_J)) (l2 : Int32) (g : am_G) (w : am_J) : Option (Int32 × am_G × am_J) :=
  (f_X4_blow_13 F g).bind fun q2 =>
    k27 (l2 + (1 : Int32)) (q2.2) (w)
set_option maxRecDepth 20000 in
theorem B_X7_afternoons_90 (x : am_X) (C0 : am_Cm x 7 cX7_afternoons 4 (some .int)) (hR : am_R x = rm_X7_afternoons) (F : Nat) (p1 : Int32) (R : Int32 × am_G × am_J) (k27 : Int32 → am_G → am_J → Option (Int32 × am_G × am_J)) (k104 : am_G → am_J → Option (Int32 × am_G × am_J)) (hk27 : ∀ (l2 : Int32) (g : am_G) (w : am_J), k27 l2 g w = some R → am_Ev x 4 (0, 0) (am_Q x (0, 0) (some (.int R.1)) am_YY (R.2.1) (R.2.2)) 27 [some (.ref 0), some (.int (p1)), some (.int (l2)), none] [] am_YY g w) (hk104 : ∀ (g : am_G) (w : am_J), k104 g w = some R → am_Ev x 4 (0, 0) (am_Q x (0, 0) (some (.int R.1)) am_YY (R.2.1) (R.2.2)) 104 [some (.ref 0), some (.int (p1)), none, none] [] am_YY g w) (l2 : Int32) (g : am_G) (w : am_J) (hf : f_X7_afternoons_90 F p1 k27 k104 l2 g w = some R) : am_Ev x 4 (0, 0) (am_Q x (0, 0) (some (.int R.1)) am_YY (R.2.1) (R.2.2)) 90 [some (.ref 0), some (.int (p1)), some (.int (l2)), none] [] am_YY g w := by
  unfold f_X7_afternoons_90 at hf
  refine am_b1 C0 am_YYk (pc := 90) (pc2 := 94) [(.aload_n 0, 0, 0, .null), (.getfield 32, 7, 3, .null)] (L := [some (.ref 0), some (.int (p1)), some (.int (l2)), none]) (st := []) (L' := [some (.ref 0), some (.int (p1)), some (.int (l2)), none]) (st' := [.ref 13]) (g' := g) (w' := w) (cl := []) (by decide +kernel) rfl trivial ?_
  obtain ⟨q2, hq2, hf⟩ := Option.bind_eq_some_iff.mp hf
  refine am_callV (mi := mi_X4_blow) (rm := rm_X4_blow) [] C0.1 am_YYl cv_7_139 (M_X4_blow_13 _ F g w _ hq2) (ci := 4) rfl (by decide) rfl (by rw [hR]; rfl) rfl rfl (Nat.le_of_ble_eq_true rfl) (by decide +kernel) ?_
  refine am_b1 C0 am_YYk (pc := 97) (pc2 := 101) [(.pop, 0, 0, .null), (.iinc 2 1, 0, 0, .int 1)] (L := [some (.ref 0), some (.int (p1)), some (.int (l2)), none]) (st := [.int (q2.1)]) (L' := [some (.ref 0), some (.int (p1)), some (.int (l2 + (1 : Int32))), none]) (st' := []) (g' := q2.2) (w' := w) (cl := []) (by decide +kernel) rfl trivial ?_
  refine am_goto C0 (off := (-74)) (tgt := 27) (by decide +kernel) ?_
  exact hk27 (l2 + (1 : Int32)) (q2.2) (w) hf
def f_X7_afternoons_61 (F : Nat) (p1 : Int32) (k27 : Int32 → am_G → am_J → Option (Int32 × am_G × am_J)) (k104 : am_G → am_J → Option (Int32 × am_G × am_J)) (l2 : Int32) (l3 : Int32) (g : am_G) (w : am_J) : Option (Int32 × am_G × am_J) :=
  (f_X4_canShift_13 g (l3 / (4 : Int32)) (l3 - l3 / (4 : Int32) * (4 : Int32))).bind fun q3 =>
    if q3 = 0 then
      f_X7_afternoons_90 F p1 k27 k104 (l2) (g) (w)
    else
      (f_X4_shift_13 g (l3 / (4 : Int32)) (l3 - l3 / (4 : Int32) * (4 : Int32))).bind fun q4 =>
        f_X7_afternoons_90 F p1 k27 k104 (l2) (q4) (w)
set_option maxRecDepth 20000 in
theorem B_X7_afternoons_61 (x : am_X) (C0 : am_Cm x 7 cX7_afternoons 4 (some .int)) (hR : am_R x = rm_X7_afternoons) (F : Nat) (p1 : Int32) (R : Int32 × am_G × am_J) (k27 : Int32 → am_G → am_J → Option (Int32 × am_G × am_J)) (k104 : am_G → am_J → Option (Int32 × am_G × am_J)) (hk27 : ∀ (l2 : Int32) (g : am_G) (w : am_J), k27 l2 g w = some R → am_Ev x 4 (0, 0) (am_Q x (0, 0) (some (.int R.1)) am_YY (R.2.1) (R.2.2)) 27 [some (.ref 0), some (.int (p1)), some (.int (l2)), none] [] am_YY g w) (hk104 : ∀ (g : am_G) (w : am_J), k104 g w = some R → am_Ev x 4 (0, 0) (am_Q x (0, 0) (some (.int R.1)) am_YY (R.2.1) (R.2.2)) 104 [some (.ref 0), some (.int (p1)), none, none] [] am_YY g w) (l2 : Int32) (l3 : Int32) (g : am_G) (w : am_J) (hf : f_X7_afternoons_61 F p1 k27 k104 l2 l3 g w = some R) : am_Ev x 4 (0, 0) (am_Q x (0, 0) (some (.int R.1)) am_YY (R.2.1) (R.2.2)) 61 [some (.ref 0), some (.int (p1)), some (.int (l2)), some (.int (l3))] [] am_YY g w := by
  unfold f_X7_afternoons_61 at hf
  refine am_b1 C0 am_YYk (pc := 61) (pc2 := 71) [(.aload_n 0, 0, 0, .null), (.getfield 32, 7, 3, .null), (.iload_n 3, 0, 0, .null), (.iconst 4, 0, 0, .int 4), (.idiv, 0, 0, .null), (.iload_n 3, 0, 0, .null), (.iconst 4, 0, 0, .int 4), (.irem, 0, 0, .null)] (L := [some (.ref 0), some (.int (p1)), some (.int (l2)), some (.int (l3))]) (st := []) (L' := [some (.ref 0), some (.int (p1)), some (.int (l2)), some (.int (l3))]) (st' := [.int (l3 - l3 / (4 : Int32) * (4 : Int32)), .int (l3 / (4 : Int32)), .ref 13]) (g' := g) (w' := w) (cl := [¬ (4 : Int32) = 0, ¬ (4 : Int32) = 0]) (by decide +kernel) rfl ⟨by decide, by decide, trivial⟩ ?_
  obtain ⟨q3, hq3, hf⟩ := Option.bind_eq_some_iff.mp hf
  refine am_callV (mi := mi_X4_canShift) (rm := rm_X4_canShift) [.int (l3 / (4 : Int32)), .int (l3 - l3 / (4 : Int32) * (4 : Int32))] C0.1 am_YYl cv_7_127 (M_X4_canShift_13 _ g w (l3 / (4 : Int32)) (l3 - l3 / (4 : Int32) * (4 : Int32)) _ hq3) (ci := 4) rfl (by decide) rfl (by rw [hR]; rfl) rfl rfl (Nat.le_of_ble_eq_true rfl) (by decide +kernel) ?_
  refine am_if_eq C0 (off := 16) (tgt := 90) (by decide +kernel) (fun hc5 => ?_) (fun hc5 => ?_)
  · rw [if_pos hc5] at hf
    refine am_wk [some (.ref 0), some (.int (p1)), some (.int (l2)), none] ⟨rfl, rfl, rfl, trivial⟩ rfl ?_
    exact B_X7_afternoons_90 x C0 hR F p1 R _ _ hk27 hk104 (l2) (g) (w) hf
  · rw [if_neg hc5] at hf
    refine am_b1 C0 am_YYk (pc := 77) (pc2 := 87) [(.aload_n 0, 0, 0, .null), (.getfield 32, 7, 3, .null), (.iload_n 3, 0, 0, .null), (.iconst 4, 0, 0, .int 4), (.idiv, 0, 0, .null), (.iload_n 3, 0, 0, .null), (.iconst 4, 0, 0, .int 4), (.irem, 0, 0, .null)] (L := [some (.ref 0), some (.int (p1)), some (.int (l2)), some (.int (l3))]) (st := []) (L' := [some (.ref 0), some (.int (p1)), some (.int (l2)), some (.int (l3))]) (st' := [.int (l3 - l3 / (4 : Int32) * (4 : Int32)), .int (l3 / (4 : Int32)), .ref 13]) (g' := g) (w' := w) (cl := [¬ (4 : Int32) = 0, ¬ (4 : Int32) = 0]) (by decide +kernel) rfl ⟨by decide, by decide, trivial⟩ ?_
    obtain ⟨q4, hq4, hf⟩ := Option.bind_eq_some_iff.mp hf
    refine am_callV (mi := mi_X4_shift) (rm := rm_X4_shift) [.int (l3 / (4 : Int32)), .int (l3 - l3 / (4 : Int32) * (4 : Int32))] C0.1 am_YYl cv_7_135 (M_X4_shift_13 _ g w (l3 / (4 : Int32)) (l3 - l3 / (4 : Int32) * (4 : Int32)) _ hq4) (ci := 4) rfl (by decide) rfl (by rw [hR]; rfl) rfl rfl (Nat.le_of_ble_eq_true rfl) (by decide +kernel) ?_
    refine am_wk [some (.ref 0), some (.int (p1)), some (.int (l2)), none] ⟨rfl, rfl, rfl, trivial⟩ rfl ?_
    exact B_X7_afternoons_90 x C0 hR F p1 R _ _ hk27 hk104 (l2) (q4) (w) hf
def f_X7_afternoons_27 (F : Nat) (p1 : Int32) (k104 : am_G → am_J → Option (Int32 × am_G × am_J)) : Nat → Int32 → am_G → am_J → Option (Int32 × am_G × am_J)
  | 0, _, _, _ => none
  | n + 1, l2, g, w =>
    if p1 ≤ l2 then
      k104 (g) (w)
    else
      f_X7_afternoons_61 F p1 (fun l2 g w => f_X7_afternoons_27 F p1 k104 n l2 g w) k104 (l2) (Int64.toInt32 ((am_lushr ((am_ul w 0 10 (((w 0 10) * (6364136223846793005 : Int64)) + (1442695040888963407 : Int64))) 0 10) (33 : Int32)) - (am_lushr ((am_ul w 0 10 (((w 0 10) * (6364136223846793005 : Int64)) + (1442695040888963407 : Int64))) 0 10) (33 : Int32)) / (32 : Int64) * (32 : Int64))) (g) (am_ul w 0 10 (((w 0 10) * (6364136223846793005 : Int64)) + (1442695040888963407 : Int64)))
set_option maxRecDepth 20000 in
theorem B_X7_afternoons_27 (x : am_X) (C0 : am_Cm x 7 cX7_afternoons 4 (some .int)) (hR : am_R x = rm_X7_afternoons) (F : Nat) (p1 : Int32) (R : Int32 × am_G × am_J) (k104 : am_G → am_J → Option (Int32 × am_G × am_J)) (hk104 : ∀ (g : am_G) (w : am_J), k104 g w = some R → am_Ev x 4 (0, 0) (am_Q x (0, 0) (some (.int R.1)) am_YY (R.2.1) (R.2.2)) 104 [some (.ref 0), some (.int (p1)), none, none] [] am_YY g w) : ∀ (n : Nat) (l2 : Int32) (g : am_G) (w : am_J), f_X7_afternoons_27 F p1 k104 n l2 g w = some R → am_Ev x 4 (0, 0) (am_Q x (0, 0) (some (.int R.1)) am_YY (R.2.1) (R.2.2)) 27 [some (.ref 0), some (.int (p1)), some (.int (l2)), none] [] am_YY g w := by
  intro n
  induction n with
  | zero => intro l2 g w hf; cases hf
  | succ n ih =>
    intro l2 g w hf
    rw [f_X7_afternoons_27.eq_2] at hf
    refine am_b1 C0 am_YYk (pc := 27) (pc2 := 29) [(.iload_n 2, 0, 0, .null), (.iload_n 1, 0, 0, .null)] (L := [some (.ref 0), some (.int (p1)), some (.int (l2)), none]) (st := []) (L' := [some (.ref 0), some (.int (p1)), some (.int (l2)), none]) (st' := [.int (p1), .int (l2)]) (g' := g) (w' := w) (cl := []) (by decide +kernel) rfl trivial ?_
    refine am_icmp_ge C0 (off := 75) (tgt := 104) (by decide +kernel) (fun hc6 => ?_) (fun hc6 => ?_)
    · rw [if_pos hc6] at hf
      refine am_wk [some (.ref 0), some (.int (p1)), none, none] ⟨rfl, rfl, trivial⟩ rfl ?_
      exact hk104 (g) (w) hf
    · rw [if_neg hc6] at hf
      refine am_b1 C0 am_YYk (pc := 32) (pc2 := 61) [(.aload_n 0, 0, 0, .null), (.aload_n 0, 0, 0, .null), (.getfield 233, 7, 10, .null), (.ldc2_w 237, 0, 0, .long 6364136223846793005), (.lmul, 0, 0, .null), (.ldc2_w 239, 0, 0, .long 1442695040888963407), (.ladd, 0, 0, .null), (.putfield 233, 7, 10, .null), (.aload_n 0, 0, 0, .null), (.getfield 233, 7, 10, .null), (.bipush 33, 0, 0, .int 33), (.lushr, 0, 0, .null), (.ldc2_w 241, 0, 0, .long 32), (.lrem, 0, 0, .null), (.l2i, 0, 0, .null), (.istore_n 3, 0, 0, .null)] (L := [some (.ref 0), some (.int (p1)), some (.int (l2)), none]) (st := []) (L' := [some (.ref 0), some (.int (p1)), some (.int (l2)), some (.int (Int64.toInt32 ((am_lushr ((am_ul w 0 10 (((w 0 10) * (6364136223846793005 : Int64)) + (1442695040888963407 : Int64))) 0 10) (33 : Int32)) - (am_lushr ((am_ul w 0 10 (((w 0 10) * (6364136223846793005 : Int64)) + (1442695040888963407 : Int64))) 0 10) (33 : Int32)) / (32 : Int64) * (32 : Int64))))]) (st' := []) (g' := g) (w' := am_ul w 0 10 (((w 0 10) * (6364136223846793005 : Int64)) + (1442695040888963407 : Int64))) (cl := [¬ (32 : Int64) = 0]) (by decide +kernel) rfl ⟨by decide, trivial⟩ ?_
      exact B_X7_afternoons_61 x C0 hR F p1 R _ _ (fun l2 g w hf => ih l2 g w hf) hk104 (l2) (Int64.toInt32 ((am_lushr ((am_ul w 0 10 (((w 0 10) * (6364136223846793005 : Int64)) + (1442695040888963407 : Int64))) 0 10) (33 : Int32)) - (am_lushr ((am_ul w 0 10 (((w 0 10) * (6364136223846793005 : Int64)) + (1442695040888963407 : Int64))) 0 10) (33 : Int32)) / (32 : Int64) * (32 : Int64))) (g) (am_ul w 0 10 (((w 0 10) * (6364136223846793005 : Int64)) + (1442695040888963407 : Int64))) hf
def f_X7_afternoons (F : Nat) (g : am_G) (w : am_J) (p1 : Int32) : Option (Int32 × am_G × am_J) :=
  if p1 < (1 : Int32) then
    some ((-2 : Int32), g, w)
  else
    if p1 ≤ (30 : Int32) then
      (f_X4_copy g).bind fun q7 =>
        f_X7_afternoons_27 F p1 (fun g w => f_X7_afternoons_104 F p1 (g) (w)) F ((0 : Int32)) (q7) (w)
    else
      some ((-2 : Int32), g, w)
set_option maxRecDepth 20000 in
theorem M_X7_afternoons (l : Launch) (F : Nat) (g : am_G) (w : am_J) (p1 : Int32) (R : Int32 × am_G × am_J) (hf : f_X7_afternoons F g w p1 = some R) : am_Met l mi_X7_afternoons rm_X7_afternoons [.ref 0, .int p1] am_YY g w (some (.int R.1)) am_YY (R.2.1) (R.2.2) := by
  refine am_met (own := 7) [some (.ref 0), some (.int (p1)), none, none] (by decide) rfl rfl (by first | decide | exact Nat.le_of_ble_eq_true rfl) (fun x C0 hR hl hnm => ?_)
  unfold f_X7_afternoons at hf
  refine am_b1 C0 am_YYk (pc := 0) (pc2 := 2) [(.iload_n 1, 0, 0, .null), (.iconst 1, 0, 0, .int 1)] (L := [some (.ref 0), some (.int (p1)), none, none]) (st := []) (L' := [some (.ref 0), some (.int (p1)), none, none]) (st' := [.int ((1 : Int32)), .int (p1)]) (g' := g) (w' := w) (cl := []) (by decide +kernel) rfl trivial ?_
  refine am_icmp_lt C0 (off := 9) (tgt := 11) (by decide +kernel) (fun hc9 => ?_) (fun hc9 => ?_)
  · rw [if_pos hc9] at hf
    refine am_b1 C0 am_YYk (pc := 11) (pc2 := 13) [(.bipush (-2), 0, 0, .int (-2))] (L := [some (.ref 0), some (.int (p1)), none, none]) (st := []) (L' := [some (.ref 0), some (.int (p1)), none, none]) (st' := [.int ((-2 : Int32))]) (g' := g) (w' := w) (cl := []) (by decide +kernel) rfl trivial ?_
    cases hf
    exact am_iret C0 (by decide +kernel)
  · rw [if_neg hc9] at hf
    refine am_b1 C0 am_YYk (pc := 5) (pc2 := 8) [(.iload_n 1, 0, 0, .null), (.bipush 30, 0, 0, .int 30)] (L := [some (.ref 0), some (.int (p1)), none, none]) (st := []) (L' := [some (.ref 0), some (.int (p1)), none, none]) (st' := [.int ((30 : Int32)), .int (p1)]) (g' := g) (w' := w) (cl := []) (by decide +kernel) rfl trivial ?_
    refine am_icmp_le C0 (off := 6) (tgt := 14) (by decide +kernel) (fun hc8 => ?_) (fun hc8 => ?_)
    · rw [if_pos hc8] at hf
      refine am_b1 C0 am_YYk (pc := 14) (pc2 := 22) [(.aload_n 0, 0, 0, .null), (.getfield 32, 7, 3, .null), (.aload_n 0, 0, 0, .null), (.getfield 28, 7, 2, .null)] (L := [some (.ref 0), some (.int (p1)), none, none]) (st := []) (L' := [some (.ref 0), some (.int (p1)), none, none]) (st' := [.ref 10, .ref 13]) (g' := g) (w' := w) (cl := []) (by decide +kernel) rfl trivial ?_
      obtain ⟨q7, hq7, hf⟩ := Option.bind_eq_some_iff.mp hf
      refine am_callV (mi := mi_X4_copy) (rm := rm_X4_copy) [.ref 10] C0.1 am_YYl cv_7_184 (M_X4_copy _ g w _ hq7) (ci := 4) rfl (by decide) rfl (by rw [hR]; rfl) rfl rfl (Nat.le_of_ble_eq_true rfl) (by decide +kernel) ?_
      refine am_b1 C0 am_YYk (pc := 25) (pc2 := 27) [(.iconst 0, 0, 0, .int 0), (.istore_n 2, 0, 0, .null)] (L := [some (.ref 0), some (.int (p1)), none, none]) (st := []) (L' := [some (.ref 0), some (.int (p1)), some (.int ((0 : Int32))), none]) (st' := []) (g' := q7) (w' := w) (cl := []) (by decide +kernel) rfl trivial ?_
      refine B_X7_afternoons_27 x C0 hR F p1 R _ ?_ F ((0 : Int32)) (q7) (w) hf
      · intro g w hf
        exact B_X7_afternoons_104 x C0 hR F p1 R  (g) (w) hf
    · rw [if_neg hc8] at hf
      refine am_b1 C0 am_YYk (pc := 11) (pc2 := 13) [(.bipush (-2), 0, 0, .int (-2))] (L := [some (.ref 0), some (.int (p1)), none, none]) (st := []) (L' := [some (.ref 0), some (.int (p1)), none, none]) (st' := [.int ((-2 : Int32))]) (g' := g) (w' := w) (cl := []) (by decide +kernel) rfl trivial ?_
      cases hf
      exact am_iret C0 (by decide +kernel)
/-! ShutterTown$Slots.has(I)Z at (18,) -/
def f_X5_has (p1 : Int32) : Option (Int32) :=
  if p1 < 0 then
    some ((0 : Int32))
  else
    if (2 : Int32) ≤ p1 then
      some ((0 : Int32))
    else
      some ((1 : Int32))
set_option maxRecDepth 20000 in
theorem M_X5_has (l : Launch) (g : am_G) (w : am_J) (p1 : Int32) (R : Int32) (hf : f_X5_has p1 = some R) : am_Met l mi_X5_has rm_X5_has [.ref 18, .int p1] am_YY g w (some (.int R)) am_YY g w := by
  refine am_met (own := 5) [some (.ref 18), some (.int (p1))] (by decide) rfl rfl (by first | decide | exact Nat.le_of_ble_eq_true rfl) (fun x C0 hR hl hnm => ?_)
  unfold f_X5_has at hf
  refine am_b1 C0 am_YYk (pc := 0) (pc2 := 1) [(.iload_n 1, 0, 0, .null)] (L := [some (.ref 18), some (.int (p1))]) (st := []) (L' := [some (.ref 18), some (.int (p1))]) (st' := [.int (p1)]) (g' := g) (w' := w) (cl := []) (by decide +kernel) rfl trivial ?_
  refine am_if_lt C0 (off := 12) (tgt := 13) (by decide +kernel) (fun hc2 => ?_) (fun hc2 => ?_)
  · rw [if_pos hc2] at hf
    refine am_b1 C0 am_YYk (pc := 13) (pc2 := 14) [(.iconst 0, 0, 0, .int 0)] (L := [some (.ref 18), some (.int (p1))]) (st := []) (L' := [some (.ref 18), some (.int (p1))]) (st' := [.int ((0 : Int32))]) (g' := g) (w' := w) (cl := []) (by decide +kernel) rfl trivial ?_
    cases hf
    exact am_zret C0 (by decide +kernel) (Or.inl rfl)
  · rw [if_neg hc2] at hf
    refine am_b1 C0 am_YYk (pc := 4) (pc2 := 6) [(.iload_n 1, 0, 0, .null), (.iconst 2, 0, 0, .int 2)] (L := [some (.ref 18), some (.int (p1))]) (st := []) (L' := [some (.ref 18), some (.int (p1))]) (st' := [.int ((2 : Int32)), .int (p1)]) (g' := g) (w' := w) (cl := []) (by decide +kernel) rfl trivial ?_
    refine am_icmp_ge C0 (off := 7) (tgt := 13) (by decide +kernel) (fun hc1 => ?_) (fun hc1 => ?_)
    · rw [if_pos hc1] at hf
      refine am_b1 C0 am_YYk (pc := 13) (pc2 := 14) [(.iconst 0, 0, 0, .int 0)] (L := [some (.ref 18), some (.int (p1))]) (st := []) (L' := [some (.ref 18), some (.int (p1))]) (st' := [.int ((0 : Int32))]) (g' := g) (w' := w) (cl := []) (by decide +kernel) rfl trivial ?_
      cases hf
      exact am_zret C0 (by decide +kernel) (Or.inl rfl)
    · rw [if_neg hc1] at hf
      refine am_b1 C0 am_YYk (pc := 9) (pc2 := 10) [(.iconst 1, 0, 0, .int 1)] (L := [some (.ref 18), some (.int (p1))]) (st := []) (L' := [some (.ref 18), some (.int (p1))]) (st' := [.int ((1 : Int32))]) (g' := g) (w' := w) (cl := []) (by decide +kernel) rfl trivial ?_
      refine am_goto C0 (off := 4) (tgt := 14) (by decide +kernel) ?_
      cases hf
      exact am_zret C0 (by decide +kernel) (Or.inr rfl)
/-! ShutterTown$Shutters.store([II)V at (10, 19) -/
def f_X4_store_10_19 (g : am_G) (p2 : Int32) : Option (am_G) :=
  if p2 < 0 then
    some (g)
  else
    if p2 ≤ ((Int32.ofNat 26) - (13 : Int32)) then
      if (¬ (0 : Int32) < 0 ∧ ¬ p2 < 0) ∧ ¬ (6 : Int32) < 0 ∧ Int32.toNatClampNeg (0 : Int32) + Int32.toNatClampNeg (6 : Int32) ≤ 6 ∧ Int32.toNatClampNeg p2 + Int32.toNatClampNeg (6 : Int32) ≤ 26 then
        if (¬ (0 : Int32) < 0 ∧ ¬ (p2 + (6 : Int32)) < 0) ∧ ¬ (6 : Int32) < 0 ∧ Int32.toNatClampNeg (0 : Int32) + Int32.toNatClampNeg (6 : Int32) ≤ 6 ∧ Int32.toNatClampNeg (p2 + (6 : Int32)) + Int32.toNatClampNeg (6 : Int32) ≤ 26 then
          if am_in ((p2 + (13 : Int32)) - (1 : Int32)) 26 then
            some (am_u (am_cp (am_cp g 11 19 (Int32.toNatClampNeg (0 : Int32)) (Int32.toNatClampNeg p2) (Int32.toNatClampNeg (6 : Int32))) 12 19 (Int32.toNatClampNeg (0 : Int32)) (Int32.toNatClampNeg (p2 + (6 : Int32))) (Int32.toNatClampNeg (6 : Int32))) 19 (Int32.toNatClampNeg ((p2 + (13 : Int32)) - (1 : Int32))) ((am_cp (am_cp g 11 19 (Int32.toNatClampNeg (0 : Int32)) (Int32.toNatClampNeg p2) (Int32.toNatClampNeg (6 : Int32))) 12 19 (Int32.toNatClampNeg (0 : Int32)) (Int32.toNatClampNeg (p2 + (6 : Int32))) (Int32.toNatClampNeg (6 : Int32))) 10 3))
          else none
        else none
      else none
    else
      some (g)
set_option maxRecDepth 20000 in
theorem M_X4_store_10_19 (l : Launch) (g : am_G) (w : am_J) (p2 : Int32) (R : am_G) (hf : f_X4_store_10_19 g p2 = some R) : am_Met l mi_X4_store rm_X4_store [.ref 10, .ref 19, .int p2] am_YY g w none am_YY R w := by
  refine am_met (own := 4) [some (.ref 10), some (.ref 19), some (.int (p2))] (by decide) rfl rfl (by first | decide | exact Nat.le_of_ble_eq_true rfl) (fun x C0 hR hl hnm => ?_)
  unfold f_X4_store_10_19 at hf
  refine am_b1 C0 am_YYk (pc := 0) (pc2 := 1) [(.iload_n 2, 0, 0, .null)] (L := [some (.ref 10), some (.ref 19), some (.int (p2))]) (st := []) (L' := [some (.ref 10), some (.ref 19), some (.int (p2))]) (st' := [.int (p2)]) (g' := g) (w' := w) (cl := []) (by decide +kernel) rfl trivial ?_
  refine am_if_lt C0 (off := 12) (tgt := 13) (by decide +kernel) (fun hc5 => ?_) (fun hc5 => ?_)
  · rw [if_pos hc5] at hf
    cases hf
    exact am_vret C0 (by decide +kernel)
  · rw [if_neg hc5] at hf
    refine am_b1 C0 am_YYk (pc := 4) (pc2 := 10) [(.iload_n 2, 0, 0, .null), (.aload_n 1, 0, 0, .null), (.arraylength, 0, 0, .null), (.bipush 13, 0, 0, .int 13), (.isub, 0, 0, .null)] (L := [some (.ref 10), some (.ref 19), some (.int (p2))]) (st := []) (L' := [some (.ref 10), some (.ref 19), some (.int (p2))]) (st' := [.int ((Int32.ofNat 26) - (13 : Int32)), .int (p2)]) (g' := g) (w' := w) (cl := []) (by decide +kernel) rfl trivial ?_
    refine am_icmp_le C0 (off := 4) (tgt := 14) (by decide +kernel) (fun hc4 => ?_) (fun hc4 => ?_)
    · rw [if_pos hc4] at hf
      refine am_b1 C0 am_YYk (pc := 14) (pc2 := 23) [(.aload_n 0, 0, 0, .null), (.getfield 9, 4, 1, .null), (.iconst 0, 0, 0, .int 0), (.aload_n 1, 0, 0, .null), (.iload_n 2, 0, 0, .null), (.bipush 6, 0, 0, .int 6)] (L := [some (.ref 10), some (.ref 19), some (.int (p2))]) (st := []) (L' := [some (.ref 10), some (.ref 19), some (.int (p2))]) (st' := [.int ((6 : Int32)), .int (p2), .ref 19, .int ((0 : Int32)), .ref 11]) (g' := g) (w' := w) (cl := []) (by decide +kernel) rfl trivial ?_
      obtain ⟨hg1, hf⟩ := am_g hf
      refine am_copy C0.1 am_YYl rfl rfl am_acw_4 hg1 (by rw [hR]; decide) (Nat.le_of_ble_eq_true rfl) (by decide +kernel) ?_
      refine am_b1 C0 am_YYk (pc := 26) (pc2 := 38) [(.aload_n 0, 0, 0, .null), (.getfield 15, 4, 2, .null), (.iconst 0, 0, 0, .int 0), (.aload_n 1, 0, 0, .null), (.iload_n 2, 0, 0, .null), (.bipush 6, 0, 0, .int 6), (.iadd, 0, 0, .null), (.bipush 6, 0, 0, .int 6)] (L := [some (.ref 10), some (.ref 19), some (.int (p2))]) (st := []) (L' := [some (.ref 10), some (.ref 19), some (.int (p2))]) (st' := [.int ((6 : Int32)), .int (p2 + (6 : Int32)), .ref 19, .int ((0 : Int32)), .ref 12]) (g' := am_cp g 11 19 (Int32.toNatClampNeg (0 : Int32)) (Int32.toNatClampNeg p2) (Int32.toNatClampNeg (6 : Int32))) (w' := w) (cl := []) (by decide +kernel) rfl trivial ?_
      obtain ⟨hg2, hf⟩ := am_g hf
      refine am_copy C0.1 am_YYl rfl rfl am_acw_4 hg2 (by rw [hR]; decide) (Nat.le_of_ble_eq_true rfl) (by decide +kernel) ?_
      obtain ⟨hg3, hf⟩ := am_g hf
      refine am_b1 C0 am_YYk (pc := 41) (pc2 := 53) [(.aload_n 1, 0, 0, .null), (.iload_n 2, 0, 0, .null), (.bipush 13, 0, 0, .int 13), (.iadd, 0, 0, .null), (.iconst 1, 0, 0, .int 1), (.isub, 0, 0, .null), (.aload_n 0, 0, 0, .null), (.getfield 40, 4, 3, .null), (.iastore, 0, 0, .null)] (L := [some (.ref 10), some (.ref 19), some (.int (p2))]) (st := []) (L' := [some (.ref 10), some (.ref 19), some (.int (p2))]) (st' := []) (g' := am_u (am_cp (am_cp g 11 19 (Int32.toNatClampNeg (0 : Int32)) (Int32.toNatClampNeg p2) (Int32.toNatClampNeg (6 : Int32))) 12 19 (Int32.toNatClampNeg (0 : Int32)) (Int32.toNatClampNeg (p2 + (6 : Int32))) (Int32.toNatClampNeg (6 : Int32))) 19 (Int32.toNatClampNeg ((p2 + (13 : Int32)) - (1 : Int32))) ((am_cp (am_cp g 11 19 (Int32.toNatClampNeg (0 : Int32)) (Int32.toNatClampNeg p2) (Int32.toNatClampNeg (6 : Int32))) 12 19 (Int32.toNatClampNeg (0 : Int32)) (Int32.toNatClampNeg (p2 + (6 : Int32))) (Int32.toNatClampNeg (6 : Int32))) 10 3)) (w' := w) (cl := [am_in ((p2 + (13 : Int32)) - (1 : Int32)) 26]) (by decide +kernel) rfl ⟨hg3, trivial⟩ ?_
      cases hf
      exact am_vret C0 (by decide +kernel)
    · rw [if_neg hc4] at hf
      cases hf
      exact am_vret C0 (by decide +kernel)
/-! ShutterTown$Slots.put(ILShutterTown$Shutters;)V at (18, 10) -/
def f_X5_put (g : am_G) (p1 : Int32) : Option (am_G) :=
  (f_X5_has p1).bind fun q1 =>
    if q1 = 0 then
      some (g)
    else
      (f_X4_store_10_19 g (p1 * (13 : Int32))).bind fun q2 =>
        some (am_u q2 18 1 ((q2 18 1) ||| ((1 : Int32) <<< (p1 &&& 31))))
set_option maxRecDepth 20000 in
theorem M_X5_put (l : Launch) (g : am_G) (w : am_J) (p1 : Int32) (R : am_G) (hf : f_X5_put g p1 = some R) : am_Met l mi_X5_put rm_X5_put [.ref 18, .int p1, .ref 10] am_YY g w none am_YY R w := by
  refine am_met (own := 5) [some (.ref 18), some (.int (p1)), some (.ref 10)] (by decide) rfl rfl (by first | decide | exact Nat.le_of_ble_eq_true rfl) (fun x C0 hR hl hnm => ?_)
  unfold f_X5_put at hf
  refine am_b1 C0 am_YYk (pc := 0) (pc2 := 2) [(.aload_n 0, 0, 0, .null), (.iload_n 1, 0, 0, .null)] (L := [some (.ref 18), some (.int (p1)), some (.ref 10)]) (st := []) (L' := [some (.ref 18), some (.int (p1)), some (.ref 10)]) (st' := [.int (p1), .ref 18]) (g' := g) (w' := w) (cl := []) (by decide +kernel) rfl trivial ?_
  obtain ⟨q1, hq1, hf⟩ := Option.bind_eq_some_iff.mp hf
  refine am_callV (mi := mi_X5_has) (rm := rm_X5_has) [.int (p1)] C0.1 am_YYl cv_5_15 (M_X5_has _ g w p1 _ hq1) (ci := 5) rfl (by decide) rfl (by rw [hR]; rfl) rfl rfl (Nat.le_of_ble_eq_true rfl) (by decide +kernel) ?_
  refine am_if_eq C0 (off := 27) (tgt := 32) (by decide +kernel) (fun hc3 => ?_) (fun hc3 => ?_)
  · rw [if_pos hc3] at hf
    cases hf
    exact am_vret C0 (by decide +kernel)
  · rw [if_neg hc3] at hf
    refine am_b1 C0 am_YYk (pc := 8) (pc2 := 17) [(.aload_n 2, 0, 0, .null), (.aload_n 0, 0, 0, .null), (.getfield 9, 5, 0, .null), (.iload_n 1, 0, 0, .null), (.bipush 13, 0, 0, .int 13), (.imul, 0, 0, .null)] (L := [some (.ref 18), some (.int (p1)), some (.ref 10)]) (st := []) (L' := [some (.ref 18), some (.int (p1)), some (.ref 10)]) (st' := [.int (p1 * (13 : Int32)), .ref 19, .ref 10]) (g' := g) (w' := w) (cl := []) (by decide +kernel) rfl trivial ?_
    obtain ⟨q2, hq2, hf⟩ := Option.bind_eq_some_iff.mp hf
    refine am_callV (mi := mi_X4_store) (rm := rm_X4_store) [.ref 19, .int (p1 * (13 : Int32))] C0.1 am_YYl cv_5_23 (M_X4_store_10_19 _ g w (p1 * (13 : Int32)) _ hq2) (ci := 4) rfl (by decide) rfl (by rw [hR]; rfl) rfl rfl (Nat.le_of_ble_eq_true rfl) (by decide +kernel) ?_
    refine am_b1 C0 am_YYk (pc := 20) (pc2 := 32) [(.aload_n 0, 0, 0, .null), (.dup, 0, 0, .null), (.getfield 19, 5, 1, .null), (.iconst 1, 0, 0, .int 1), (.iload_n 1, 0, 0, .null), (.ishl, 0, 0, .null), (.ior, 0, 0, .null), (.putfield 19, 5, 1, .null)] (L := [some (.ref 18), some (.int (p1)), some (.ref 10)]) (st := []) (L' := [some (.ref 18), some (.int (p1)), some (.ref 10)]) (st' := []) (g' := am_u q2 18 1 ((q2 18 1) ||| ((1 : Int32) <<< (p1 &&& 31)))) (w' := w) (cl := []) (by decide +kernel) rfl trivial ?_
    cases hf
    exact am_vret C0 (by decide +kernel)
/-! ShutterTown$Shutters.theHour()I at (10,) -/
def f_X4_theHour (g : am_G) : Option (Int32) :=
  some (g 10 3)
set_option maxRecDepth 20000 in
theorem M_X4_theHour (l : Launch) (g : am_G) (w : am_J)  (R : Int32) (hf : f_X4_theHour g = some R) : am_Met l mi_X4_theHour rm_X4_theHour [.ref 10] am_YY g w (some (.int R)) am_YY g w := by
  refine am_met (own := 4) [some (.ref 10)] (by decide) rfl rfl (by first | decide | exact Nat.le_of_ble_eq_true rfl) (fun x C0 hR hl hnm => ?_)
  unfold f_X4_theHour at hf
  refine am_b1 C0 am_YYk (pc := 0) (pc2 := 4) [(.aload_n 0, 0, 0, .null), (.getfield 40, 4, 3, .null)] (L := [some (.ref 10)]) (st := []) (L' := [some (.ref 10)]) (st' := [.int (g 10 3)]) (g' := g) (w' := w) (cl := []) (by decide +kernel) rfl trivial ?_
  cases hf
  exact am_iret C0 (by decide +kernel)
/-! ShutterTown.keep(I)I at (0,) -/
def f_X7_keep (g : am_G) (p1 : Int32) : Option (Int32 × am_G) :=
  (f_X5_has p1).bind fun q1 =>
    if q1 = 0 then
      some ((-1 : Int32), g)
    else
      (f_X5_put g p1).bind fun q2 =>
        (f_X4_theHour q2).bind fun q3 =>
          some (q3, q2)
set_option maxRecDepth 20000 in
theorem M_X7_keep (l : Launch) (g : am_G) (w : am_J) (p1 : Int32) (R : Int32 × am_G) (hf : f_X7_keep g p1 = some R) : am_Met l mi_X7_keep rm_X7_keep [.ref 0, .int p1] am_YY g w (some (.int R.1)) am_YY (R.2) w := by
  refine am_met (own := 7) [some (.ref 0), some (.int (p1))] (by decide) rfl rfl (by first | decide | exact Nat.le_of_ble_eq_true rfl) (fun x C0 hR hl hnm => ?_)
  unfold f_X7_keep at hf
  refine am_b1 C0 am_YYk (pc := 0) (pc2 := 5) [(.aload_n 0, 0, 0, .null), (.getfield 45, 7, 5, .null), (.iload_n 1, 0, 0, .null)] (L := [some (.ref 0), some (.int (p1))]) (st := []) (L' := [some (.ref 0), some (.int (p1))]) (st' := [.int (p1), .ref 18]) (g' := g) (w' := w) (cl := []) (by decide +kernel) rfl trivial ?_
  obtain ⟨q1, hq1, hf⟩ := Option.bind_eq_some_iff.mp hf
  refine am_callV (mi := mi_X5_has) (rm := rm_X5_has) [.int (p1)] C0.1 am_YYl cv_7_243 (M_X5_has _ g w p1 _ hq1) (ci := 5) rfl (by decide) rfl (by rw [hR]; rfl) rfl rfl (Nat.le_of_ble_eq_true rfl) (by decide +kernel) ?_
  refine am_if_ne C0 (off := 5) (tgt := 13) (by decide +kernel) (fun hc4 => ?_) (fun hc4 => ?_)
  · rw [if_neg hc4] at hf
    refine am_b1 C0 am_YYk (pc := 13) (pc2 := 22) [(.aload_n 0, 0, 0, .null), (.getfield 45, 7, 5, .null), (.iload_n 1, 0, 0, .null), (.aload_n 0, 0, 0, .null), (.getfield 28, 7, 2, .null)] (L := [some (.ref 0), some (.int (p1))]) (st := []) (L' := [some (.ref 0), some (.int (p1))]) (st' := [.ref 10, .int (p1), .ref 18]) (g' := g) (w' := w) (cl := []) (by decide +kernel) rfl trivial ?_
    obtain ⟨q2, hq2, hf⟩ := Option.bind_eq_some_iff.mp hf
    refine am_callV (mi := mi_X5_put) (rm := rm_X5_put) [.int (p1), .ref 10] C0.1 am_YYl cv_7_244 (M_X5_put _ g w p1 _ hq2) (ci := 5) rfl (by decide) rfl (by rw [hR]; rfl) rfl rfl (Nat.le_of_ble_eq_true rfl) (by decide +kernel) ?_
    refine am_b1 C0 am_YYk (pc := 25) (pc2 := 29) [(.aload_n 0, 0, 0, .null), (.getfield 28, 7, 2, .null)] (L := [some (.ref 0), some (.int (p1))]) (st := []) (L' := [some (.ref 0), some (.int (p1))]) (st' := [.ref 10]) (g' := q2) (w' := w) (cl := []) (by decide +kernel) rfl trivial ?_
    obtain ⟨q3, hq3, hf⟩ := Option.bind_eq_some_iff.mp hf
    refine am_callV (mi := mi_X4_theHour) (rm := rm_X4_theHour) [] C0.1 am_YYl cv_7_248 (M_X4_theHour _ q2 w _ hq3) (ci := 4) rfl (by decide) rfl (by rw [hR]; rfl) rfl rfl (Nat.le_of_ble_eq_true rfl) (by decide +kernel) ?_
    cases hf
    exact am_iret C0 (by decide +kernel)
  · rw [if_pos hc4] at hf
    refine am_b1 C0 am_YYk (pc := 11) (pc2 := 12) [(.iconst (-1), 0, 0, .int (-1))] (L := [some (.ref 0), some (.int (p1))]) (st := []) (L' := [some (.ref 0), some (.int (p1))]) (st' := [.int ((-1 : Int32))]) (g' := g) (w' := w) (cl := []) (by decide +kernel) rfl trivial ?_
    cases hf
    exact am_iret C0 (by decide +kernel)
/-! ShutterTown$Slots.isKept(I)Z at (18,) -/
def f_X5_isKept (g : am_G) (p1 : Int32) : Option (Int32) :=
  (f_X5_has p1).bind fun q1 =>
    if q1 = 0 then
      some ((0 : Int32))
    else
      if (((g 18 1) >>> (p1 &&& 31)) &&& (1 : Int32)) = (1 : Int32) then
        some ((1 : Int32))
      else
        some ((0 : Int32))
set_option maxRecDepth 20000 in
theorem M_X5_isKept (l : Launch) (g : am_G) (w : am_J) (p1 : Int32) (R : Int32) (hf : f_X5_isKept g p1 = some R) : am_Met l mi_X5_isKept rm_X5_isKept [.ref 18, .int p1] am_YY g w (some (.int R)) am_YY g w := by
  refine am_met (own := 5) [some (.ref 18), some (.int (p1))] (by decide) rfl rfl (by first | decide | exact Nat.le_of_ble_eq_true rfl) (fun x C0 hR hl hnm => ?_)
  unfold f_X5_isKept at hf
  refine am_b1 C0 am_YYk (pc := 0) (pc2 := 2) [(.aload_n 0, 0, 0, .null), (.iload_n 1, 0, 0, .null)] (L := [some (.ref 18), some (.int (p1))]) (st := []) (L' := [some (.ref 18), some (.int (p1))]) (st' := [.int (p1), .ref 18]) (g' := g) (w' := w) (cl := []) (by decide +kernel) rfl trivial ?_
  obtain ⟨q1, hq1, hf⟩ := Option.bind_eq_some_iff.mp hf
  refine am_callV (mi := mi_X5_has) (rm := rm_X5_has) [.int (p1)] C0.1 am_YYl cv_5_15 (M_X5_has _ g w p1 _ hq1) (ci := 5) rfl (by decide) rfl (by rw [hR]; rfl) rfl rfl (Nat.le_of_ble_eq_true rfl) (by decide +kernel) ?_
  refine am_if_eq C0 (off := 19) (tgt := 24) (by decide +kernel) (fun hc3 => ?_) (fun hc3 => ?_)
  · rw [if_pos hc3] at hf
    refine am_b1 C0 am_YYk (pc := 24) (pc2 := 25) [(.iconst 0, 0, 0, .int 0)] (L := [some (.ref 18), some (.int (p1))]) (st := []) (L' := [some (.ref 18), some (.int (p1))]) (st' := [.int ((0 : Int32))]) (g' := g) (w' := w) (cl := []) (by decide +kernel) rfl trivial ?_
    cases hf
    exact am_zret C0 (by decide +kernel) (Or.inl rfl)
  · rw [if_neg hc3] at hf
    refine am_b1 C0 am_YYk (pc := 8) (pc2 := 17) [(.aload_n 0, 0, 0, .null), (.getfield 19, 5, 1, .null), (.iload_n 1, 0, 0, .null), (.ishr, 0, 0, .null), (.iconst 1, 0, 0, .int 1), (.iand, 0, 0, .null), (.iconst 1, 0, 0, .int 1)] (L := [some (.ref 18), some (.int (p1))]) (st := []) (L' := [some (.ref 18), some (.int (p1))]) (st' := [.int ((1 : Int32)), .int (((g 18 1) >>> (p1 &&& 31)) &&& (1 : Int32))]) (g' := g) (w' := w) (cl := []) (by decide +kernel) rfl trivial ?_
    refine am_icmp_ne C0 (off := 7) (tgt := 24) (by decide +kernel) (fun hc2 => ?_) (fun hc2 => ?_)
    · rw [if_neg hc2] at hf
      refine am_b1 C0 am_YYk (pc := 24) (pc2 := 25) [(.iconst 0, 0, 0, .int 0)] (L := [some (.ref 18), some (.int (p1))]) (st := []) (L' := [some (.ref 18), some (.int (p1))]) (st' := [.int ((0 : Int32))]) (g' := g) (w' := w) (cl := []) (by decide +kernel) rfl trivial ?_
      cases hf
      exact am_zret C0 (by decide +kernel) (Or.inl rfl)
    · rw [if_pos hc2] at hf
      refine am_b1 C0 am_YYk (pc := 20) (pc2 := 21) [(.iconst 1, 0, 0, .int 1)] (L := [some (.ref 18), some (.int (p1))]) (st := []) (L' := [some (.ref 18), some (.int (p1))]) (st' := [.int ((1 : Int32))]) (g' := g) (w' := w) (cl := []) (by decide +kernel) rfl trivial ?_
      refine am_goto C0 (off := 4) (tgt := 25) (by decide +kernel) ?_
      cases hf
      exact am_zret C0 (by decide +kernel) (Or.inr rfl)
/-! ShutterTown$Shutters.restore([II)V at (10, 19) -/
def f_X4_restore_10_19 (g : am_G) (p2 : Int32) : Option (am_G) :=
  if p2 < 0 then
    some (g)
  else
    if p2 ≤ ((Int32.ofNat 26) - (13 : Int32)) then
      if (¬ p2 < 0 ∧ ¬ (0 : Int32) < 0) ∧ ¬ (6 : Int32) < 0 ∧ Int32.toNatClampNeg p2 + Int32.toNatClampNeg (6 : Int32) ≤ 26 ∧ Int32.toNatClampNeg (0 : Int32) + Int32.toNatClampNeg (6 : Int32) ≤ 6 then
        if (¬ (p2 + (6 : Int32)) < 0 ∧ ¬ (0 : Int32) < 0) ∧ ¬ (6 : Int32) < 0 ∧ Int32.toNatClampNeg (p2 + (6 : Int32)) + Int32.toNatClampNeg (6 : Int32) ≤ 26 ∧ Int32.toNatClampNeg (0 : Int32) + Int32.toNatClampNeg (6 : Int32) ≤ 6 then
          if am_in ((p2 + (13 : Int32)) - (1 : Int32)) 26 then
            some (am_u (am_cp (am_cp g 19 11 (Int32.toNatClampNeg p2) (Int32.toNatClampNeg (0 : Int32)) (Int32.toNatClampNeg (6 : Int32))) 19 12 (Int32.toNatClampNeg (p2 + (6 : Int32))) (Int32.toNatClampNeg (0 : Int32)) (Int32.toNatClampNeg (6 : Int32))) 10 3 ((am_cp (am_cp g 19 11 (Int32.toNatClampNeg p2) (Int32.toNatClampNeg (0 : Int32)) (Int32.toNatClampNeg (6 : Int32))) 19 12 (Int32.toNatClampNeg (p2 + (6 : Int32))) (Int32.toNatClampNeg (0 : Int32)) (Int32.toNatClampNeg (6 : Int32))) 19 (Int32.toNatClampNeg ((p2 + (13 : Int32)) - (1 : Int32)))))
          else none
        else none
      else none
    else
      some (g)
set_option maxRecDepth 20000 in
theorem M_X4_restore_10_19 (l : Launch) (g : am_G) (w : am_J) (p2 : Int32) (R : am_G) (hf : f_X4_restore_10_19 g p2 = some R) : am_Met l mi_X4_restore rm_X4_restore [.ref 10, .ref 19, .int p2] am_YY g w none am_YY R w := by
  refine am_met (own := 4) [some (.ref 10), some (.ref 19), some (.int (p2))] (by decide) rfl rfl (by first | decide | exact Nat.le_of_ble_eq_true rfl) (fun x C0 hR hl hnm => ?_)
  unfold f_X4_restore_10_19 at hf
  refine am_b1 C0 am_YYk (pc := 0) (pc2 := 1) [(.iload_n 2, 0, 0, .null)] (L := [some (.ref 10), some (.ref 19), some (.int (p2))]) (st := []) (L' := [some (.ref 10), some (.ref 19), some (.int (p2))]) (st' := [.int (p2)]) (g' := g) (w' := w) (cl := []) (by decide +kernel) rfl trivial ?_
  refine am_if_lt C0 (off := 12) (tgt := 13) (by decide +kernel) (fun hc5 => ?_) (fun hc5 => ?_)
  · rw [if_pos hc5] at hf
    cases hf
    exact am_vret C0 (by decide +kernel)
  · rw [if_neg hc5] at hf
    refine am_b1 C0 am_YYk (pc := 4) (pc2 := 10) [(.iload_n 2, 0, 0, .null), (.aload_n 1, 0, 0, .null), (.arraylength, 0, 0, .null), (.bipush 13, 0, 0, .int 13), (.isub, 0, 0, .null)] (L := [some (.ref 10), some (.ref 19), some (.int (p2))]) (st := []) (L' := [some (.ref 10), some (.ref 19), some (.int (p2))]) (st' := [.int ((Int32.ofNat 26) - (13 : Int32)), .int (p2)]) (g' := g) (w' := w) (cl := []) (by decide +kernel) rfl trivial ?_
    refine am_icmp_le C0 (off := 4) (tgt := 14) (by decide +kernel) (fun hc4 => ?_) (fun hc4 => ?_)
    · rw [if_pos hc4] at hf
      refine am_b1 C0 am_YYk (pc := 14) (pc2 := 23) [(.aload_n 1, 0, 0, .null), (.iload_n 2, 0, 0, .null), (.aload_n 0, 0, 0, .null), (.getfield 9, 4, 1, .null), (.iconst 0, 0, 0, .int 0), (.bipush 6, 0, 0, .int 6)] (L := [some (.ref 10), some (.ref 19), some (.int (p2))]) (st := []) (L' := [some (.ref 10), some (.ref 19), some (.int (p2))]) (st' := [.int ((6 : Int32)), .int ((0 : Int32)), .ref 11, .int (p2), .ref 19]) (g' := g) (w' := w) (cl := []) (by decide +kernel) rfl trivial ?_
      obtain ⟨hg1, hf⟩ := am_g hf
      refine am_copy C0.1 am_YYl rfl rfl am_acw_4 hg1 (by rw [hR]; decide) (Nat.le_of_ble_eq_true rfl) (by decide +kernel) ?_
      refine am_b1 C0 am_YYk (pc := 26) (pc2 := 38) [(.aload_n 1, 0, 0, .null), (.iload_n 2, 0, 0, .null), (.bipush 6, 0, 0, .int 6), (.iadd, 0, 0, .null), (.aload_n 0, 0, 0, .null), (.getfield 15, 4, 2, .null), (.iconst 0, 0, 0, .int 0), (.bipush 6, 0, 0, .int 6)] (L := [some (.ref 10), some (.ref 19), some (.int (p2))]) (st := []) (L' := [some (.ref 10), some (.ref 19), some (.int (p2))]) (st' := [.int ((6 : Int32)), .int ((0 : Int32)), .ref 12, .int (p2 + (6 : Int32)), .ref 19]) (g' := am_cp g 19 11 (Int32.toNatClampNeg p2) (Int32.toNatClampNeg (0 : Int32)) (Int32.toNatClampNeg (6 : Int32))) (w' := w) (cl := []) (by decide +kernel) rfl trivial ?_
      obtain ⟨hg2, hf⟩ := am_g hf
      refine am_copy C0.1 am_YYl rfl rfl am_acw_4 hg2 (by rw [hR]; decide) (Nat.le_of_ble_eq_true rfl) (by decide +kernel) ?_
      obtain ⟨hg3, hf⟩ := am_g hf
      refine am_b1 C0 am_YYk (pc := 41) (pc2 := 53) [(.aload_n 0, 0, 0, .null), (.aload_n 1, 0, 0, .null), (.iload_n 2, 0, 0, .null), (.bipush 13, 0, 0, .int 13), (.iadd, 0, 0, .null), (.iconst 1, 0, 0, .int 1), (.isub, 0, 0, .null), (.iaload, 0, 0, .null), (.putfield 40, 4, 3, .null)] (L := [some (.ref 10), some (.ref 19), some (.int (p2))]) (st := []) (L' := [some (.ref 10), some (.ref 19), some (.int (p2))]) (st' := []) (g' := am_u (am_cp (am_cp g 19 11 (Int32.toNatClampNeg p2) (Int32.toNatClampNeg (0 : Int32)) (Int32.toNatClampNeg (6 : Int32))) 19 12 (Int32.toNatClampNeg (p2 + (6 : Int32))) (Int32.toNatClampNeg (0 : Int32)) (Int32.toNatClampNeg (6 : Int32))) 10 3 ((am_cp (am_cp g 19 11 (Int32.toNatClampNeg p2) (Int32.toNatClampNeg (0 : Int32)) (Int32.toNatClampNeg (6 : Int32))) 19 12 (Int32.toNatClampNeg (p2 + (6 : Int32))) (Int32.toNatClampNeg (0 : Int32)) (Int32.toNatClampNeg (6 : Int32))) 19 (Int32.toNatClampNeg ((p2 + (13 : Int32)) - (1 : Int32))))) (w' := w) (cl := [am_in ((p2 + (13 : Int32)) - (1 : Int32)) 26]) (by decide +kernel) rfl ⟨hg3, trivial⟩ ?_
      cases hf
      exact am_vret C0 (by decide +kernel)
    · rw [if_neg hc4] at hf
      cases hf
      exact am_vret C0 (by decide +kernel)
/-! ShutterTown$Slots.giveBack(ILShutterTown$Shutters;)V at (18, 10) -/
def f_X5_giveBack (g : am_G) (p1 : Int32) : Option (am_G) :=
  (f_X5_isKept g p1).bind fun q1 =>
    if q1 = 0 then
      some (g)
    else
      (f_X4_restore_10_19 g (p1 * (13 : Int32))).bind fun q2 =>
        some (q2)
set_option maxRecDepth 20000 in
theorem M_X5_giveBack (l : Launch) (g : am_G) (w : am_J) (p1 : Int32) (R : am_G) (hf : f_X5_giveBack g p1 = some R) : am_Met l mi_X5_giveBack rm_X5_giveBack [.ref 18, .int p1, .ref 10] am_YY g w none am_YY R w := by
  refine am_met (own := 5) [some (.ref 18), some (.int (p1)), some (.ref 10)] (by decide) rfl rfl (by first | decide | exact Nat.le_of_ble_eq_true rfl) (fun x C0 hR hl hnm => ?_)
  unfold f_X5_giveBack at hf
  refine am_b1 C0 am_YYk (pc := 0) (pc2 := 2) [(.aload_n 0, 0, 0, .null), (.iload_n 1, 0, 0, .null)] (L := [some (.ref 18), some (.int (p1)), some (.ref 10)]) (st := []) (L' := [some (.ref 18), some (.int (p1)), some (.ref 10)]) (st' := [.int (p1), .ref 18]) (g' := g) (w' := w) (cl := []) (by decide +kernel) rfl trivial ?_
  obtain ⟨q1, hq1, hf⟩ := Option.bind_eq_some_iff.mp hf
  refine am_callV (mi := mi_X5_isKept) (rm := rm_X5_isKept) [.int (p1)] C0.1 am_YYl cv_5_29 (M_X5_isKept _ g w p1 _ hq1) (ci := 5) rfl (by decide) rfl (by rw [hR]; rfl) rfl rfl (Nat.le_of_ble_eq_true rfl) (by decide +kernel) ?_
  refine am_if_eq C0 (off := 15) (tgt := 20) (by decide +kernel) (fun hc3 => ?_) (fun hc3 => ?_)
  · rw [if_pos hc3] at hf
    cases hf
    exact am_vret C0 (by decide +kernel)
  · rw [if_neg hc3] at hf
    refine am_b1 C0 am_YYk (pc := 8) (pc2 := 17) [(.aload_n 2, 0, 0, .null), (.aload_n 0, 0, 0, .null), (.getfield 9, 5, 0, .null), (.iload_n 1, 0, 0, .null), (.bipush 13, 0, 0, .int 13), (.imul, 0, 0, .null)] (L := [some (.ref 18), some (.int (p1)), some (.ref 10)]) (st := []) (L' := [some (.ref 18), some (.int (p1)), some (.ref 10)]) (st' := [.int (p1 * (13 : Int32)), .ref 19, .ref 10]) (g' := g) (w' := w) (cl := []) (by decide +kernel) rfl trivial ?_
    obtain ⟨q2, hq2, hf⟩ := Option.bind_eq_some_iff.mp hf
    refine am_callV (mi := mi_X4_restore) (rm := rm_X4_restore) [.ref 19, .int (p1 * (13 : Int32))] C0.1 am_YYl cv_5_32 (M_X4_restore_10_19 _ g w (p1 * (13 : Int32)) _ hq2) (ci := 4) rfl (by decide) rfl (by rw [hR]; rfl) rfl rfl (Nat.le_of_ble_eq_true rfl) (by decide +kernel) ?_
    cases hf
    exact am_vret C0 (by decide +kernel)
/-! ShutterTown.again(I)I at (0,) -/
def f_X7_again (g : am_G) (p1 : Int32) : Option (Int32 × am_G) :=
  (f_X5_has p1).bind fun q1 =>
    if q1 = 0 then
      some ((-1 : Int32), g)
    else
      (f_X5_isKept g p1).bind fun q2 =>
        if q2 = 0 then
          some ((-3 : Int32), g)
        else
          (f_X5_giveBack g p1).bind fun q3 =>
            (f_X0_clear q3).bind fun q4 =>
              (f_X4_theHour q4).bind fun q5 =>
                some (q5, q4)
set_option maxRecDepth 20000 in
theorem M_X7_again (l : Launch) (g : am_G) (w : am_J) (p1 : Int32) (R : Int32 × am_G) (hf : f_X7_again g p1 = some R) : am_Met l mi_X7_again rm_X7_again [.ref 0, .int p1] am_YY g w (some (.int R.1)) am_YY (R.2) w := by
  refine am_met (own := 7) [some (.ref 0), some (.int (p1))] (by decide) rfl rfl (by first | decide | exact Nat.le_of_ble_eq_true rfl) (fun x C0 hR hl hnm => ?_)
  unfold f_X7_again at hf
  refine am_b1 C0 am_YYk (pc := 0) (pc2 := 5) [(.aload_n 0, 0, 0, .null), (.getfield 45, 7, 5, .null), (.iload_n 1, 0, 0, .null)] (L := [some (.ref 0), some (.int (p1))]) (st := []) (L' := [some (.ref 0), some (.int (p1))]) (st' := [.int (p1), .ref 18]) (g' := g) (w' := w) (cl := []) (by decide +kernel) rfl trivial ?_
  obtain ⟨q1, hq1, hf⟩ := Option.bind_eq_some_iff.mp hf
  refine am_callV (mi := mi_X5_has) (rm := rm_X5_has) [.int (p1)] C0.1 am_YYl cv_7_243 (M_X5_has _ g w p1 _ hq1) (ci := 5) rfl (by decide) rfl (by rw [hR]; rfl) rfl rfl (Nat.le_of_ble_eq_true rfl) (by decide +kernel) ?_
  refine am_if_ne C0 (off := 5) (tgt := 13) (by decide +kernel) (fun hc7 => ?_) (fun hc7 => ?_)
  · rw [if_neg hc7] at hf
    refine am_b1 C0 am_YYk (pc := 13) (pc2 := 18) [(.aload_n 0, 0, 0, .null), (.getfield 45, 7, 5, .null), (.iload_n 1, 0, 0, .null)] (L := [some (.ref 0), some (.int (p1))]) (st := []) (L' := [some (.ref 0), some (.int (p1))]) (st' := [.int (p1), .ref 18]) (g' := g) (w' := w) (cl := []) (by decide +kernel) rfl trivial ?_
    obtain ⟨q2, hq2, hf⟩ := Option.bind_eq_some_iff.mp hf
    refine am_callV (mi := mi_X5_isKept) (rm := rm_X5_isKept) [.int (p1)] C0.1 am_YYl cv_7_251 (M_X5_isKept _ g w p1 _ hq2) (ci := 5) rfl (by decide) rfl (by rw [hR]; rfl) rfl rfl (Nat.le_of_ble_eq_true rfl) (by decide +kernel) ?_
    refine am_if_ne C0 (off := 6) (tgt := 27) (by decide +kernel) (fun hc6 => ?_) (fun hc6 => ?_)
    · rw [if_neg hc6] at hf
      refine am_b1 C0 am_YYk (pc := 27) (pc2 := 36) [(.aload_n 0, 0, 0, .null), (.getfield 45, 7, 5, .null), (.iload_n 1, 0, 0, .null), (.aload_n 0, 0, 0, .null), (.getfield 28, 7, 2, .null)] (L := [some (.ref 0), some (.int (p1))]) (st := []) (L' := [some (.ref 0), some (.int (p1))]) (st' := [.ref 10, .int (p1), .ref 18]) (g' := g) (w' := w) (cl := []) (by decide +kernel) rfl trivial ?_
      obtain ⟨q3, hq3, hf⟩ := Option.bind_eq_some_iff.mp hf
      refine am_callV (mi := mi_X5_giveBack) (rm := rm_X5_giveBack) [.int (p1), .ref 10] C0.1 am_YYl cv_7_254 (M_X5_giveBack _ g w p1 _ hq3) (ci := 5) rfl (by decide) rfl (by rw [hR]; rfl) rfl rfl (Nat.le_of_ble_eq_true rfl) (by decide +kernel) ?_
      refine am_b1 C0 am_YYk (pc := 39) (pc2 := 43) [(.aload_n 0, 0, 0, .null), (.getfield 38, 7, 4, .null)] (L := [some (.ref 0), some (.int (p1))]) (st := []) (L' := [some (.ref 0), some (.int (p1))]) (st' := [.ref 16]) (g' := q3) (w' := w) (cl := []) (by decide +kernel) rfl trivial ?_
      obtain ⟨q4, hq4, hf⟩ := Option.bind_eq_some_iff.mp hf
      refine am_callV (mi := mi_X0_clear) (rm := rm_X0_clear) [] C0.1 am_YYl cv_7_91 (M_X0_clear _ q3 w _ hq4) (ci := 0) rfl (by decide) rfl (by rw [hR]; rfl) rfl rfl (Nat.le_of_ble_eq_true rfl) (by decide +kernel) ?_
      refine am_b1 C0 am_YYk (pc := 46) (pc2 := 50) [(.aload_n 0, 0, 0, .null), (.getfield 28, 7, 2, .null)] (L := [some (.ref 0), some (.int (p1))]) (st := []) (L' := [some (.ref 0), some (.int (p1))]) (st' := [.ref 10]) (g' := q4) (w' := w) (cl := []) (by decide +kernel) rfl trivial ?_
      obtain ⟨q5, hq5, hf⟩ := Option.bind_eq_some_iff.mp hf
      refine am_callV (mi := mi_X4_theHour) (rm := rm_X4_theHour) [] C0.1 am_YYl cv_7_248 (M_X4_theHour _ q4 w _ hq5) (ci := 4) rfl (by decide) rfl (by rw [hR]; rfl) rfl rfl (Nat.le_of_ble_eq_true rfl) (by decide +kernel) ?_
      cases hf
      exact am_iret C0 (by decide +kernel)
    · rw [if_pos hc6] at hf
      refine am_b1 C0 am_YYk (pc := 24) (pc2 := 26) [(.bipush (-3), 0, 0, .int (-3))] (L := [some (.ref 0), some (.int (p1))]) (st := []) (L' := [some (.ref 0), some (.int (p1))]) (st' := [.int ((-3 : Int32))]) (g' := g) (w' := w) (cl := []) (by decide +kernel) rfl trivial ?_
      cases hf
      exact am_iret C0 (by decide +kernel)
  · rw [if_pos hc7] at hf
    refine am_b1 C0 am_YYk (pc := 11) (pc2 := 12) [(.iconst (-1), 0, 0, .int (-1))] (L := [some (.ref 0), some (.int (p1))]) (st := []) (L' := [some (.ref 0), some (.int (p1))]) (st' := [.int ((-1 : Int32))]) (g' := g) (w' := w) (cl := []) (by decide +kernel) rfl trivial ?_
    cases hf
    exact am_iret C0 (by decide +kernel)
/-! ShutterTown$Houses.sight()I at (3,) -/
def f_X2_sight (g : am_G) : Option (Int32) :=
  some (g 3 6)
set_option maxRecDepth 20000 in
theorem M_X2_sight (l : Launch) (g : am_G) (w : am_J)  (R : Int32) (hf : f_X2_sight g = some R) : am_Met l mi_X2_sight rm_X2_sight [.ref 3] am_YY g w (some (.int R)) am_YY g w := by
  refine am_met (own := 2) [some (.ref 3)] (by decide) rfl rfl (by first | decide | exact Nat.le_of_ble_eq_true rfl) (fun x C0 hR hl hnm => ?_)
  unfold f_X2_sight at hf
  refine am_b1 C0 am_YYk (pc := 0) (pc2 := 4) [(.aload_n 0, 0, 0, .null), (.getfield 30, 2, 6, .null)] (L := [some (.ref 3)]) (st := []) (L' := [some (.ref 3)]) (st' := [.int (g 3 6)]) (g' := g) (w' := w) (cl := []) (by decide +kernel) rfl trivial ?_
  cases hf
  exact am_iret C0 (by decide +kernel)
/-! ShutterTown$Houses.wordsAsFigures()I at (3,) -/
def f_X2_wordsAsFigures_4 (F : Nat) (g : am_G)  : Nat → Int32 → Int32 → Option (Int32)
  | 0, _, _ => none
  | n + 1, l1, l2 =>
    if (4 : Int32) ≤ l2 then
      some (l1)
    else
      if am_in l2 4 then
        f_X2_wordsAsFigures_4 F g n (((10 : Int32) * l1) + (g 4 (Int32.toNatClampNeg l2))) (l2 + (1 : Int32))
      else none
set_option maxRecDepth 20000 in
theorem B_X2_wordsAsFigures_4 (x : am_X) (C0 : am_Cm x 2 cX2_wordsAsFigures 3 (some .int)) (hR : am_R x = rm_X2_wordsAsFigures) (w : am_J) (F : Nat) (g : am_G) (R : Int32)   : ∀ (n : Nat) (l1 : Int32) (l2 : Int32), f_X2_wordsAsFigures_4 F g n l1 l2 = some R → am_Ev x 3 (0, 0) (am_Q x (0, 0) (some (.int R)) am_YY g w) 4 [some (.ref 3), some (.int (l1)), some (.int (l2))] [] am_YY g w := by
  intro n
  induction n with
  | zero => intro l1 l2 hf; cases hf
  | succ n ih =>
    intro l1 l2 hf
    rw [f_X2_wordsAsFigures_4.eq_2] at hf
    refine am_b1 C0 am_YYk (pc := 4) (pc2 := 6) [(.iload_n 2, 0, 0, .null), (.iconst 4, 0, 0, .int 4)] (L := [some (.ref 3), some (.int (l1)), some (.int (l2))]) (st := []) (L' := [some (.ref 3), some (.int (l1)), some (.int (l2))]) (st' := [.int ((4 : Int32)), .int (l2)]) (g' := g) (w' := w) (cl := []) (by decide +kernel) rfl trivial ?_
    refine am_icmp_ge C0 (off := 21) (tgt := 27) (by decide +kernel) (fun hc2 => ?_) (fun hc2 => ?_)
    · rw [if_pos hc2] at hf
      refine am_b1 C0 am_YYk (pc := 27) (pc2 := 28) [(.iload_n 1, 0, 0, .null)] (L := [some (.ref 3), some (.int (l1)), some (.int (l2))]) (st := []) (L' := [some (.ref 3), some (.int (l1)), some (.int (l2))]) (st' := [.int (l1)]) (g' := g) (w' := w) (cl := []) (by decide +kernel) rfl trivial ?_
      cases hf
      exact am_iret C0 (by decide +kernel)
    · rw [if_neg hc2] at hf
      obtain ⟨hg1, hf⟩ := am_g hf
      refine am_b1 C0 am_YYk (pc := 9) (pc2 := 24) [(.bipush 10, 0, 0, .int 10), (.iload_n 1, 0, 0, .null), (.imul, 0, 0, .null), (.aload_n 0, 0, 0, .null), (.getfield 9, 2, 0, .null), (.iload_n 2, 0, 0, .null), (.iaload, 0, 0, .null), (.iadd, 0, 0, .null), (.istore_n 1, 0, 0, .null), (.iinc 2 1, 0, 0, .int 1)] (L := [some (.ref 3), some (.int (l1)), some (.int (l2))]) (st := []) (L' := [some (.ref 3), some (.int (((10 : Int32) * l1) + (g 4 (Int32.toNatClampNeg l2)))), some (.int (l2 + (1 : Int32)))]) (st' := []) (g' := g) (w' := w) (cl := [am_in l2 4]) (by decide +kernel) rfl ⟨hg1, trivial⟩ ?_
      refine am_goto C0 (off := (-20)) (tgt := 4) (by decide +kernel) ?_
      exact ih (((10 : Int32) * l1) + (g 4 (Int32.toNatClampNeg l2))) (l2 + (1 : Int32)) hf
def f_X2_wordsAsFigures (F : Nat) (g : am_G) : Option (Int32) :=
  f_X2_wordsAsFigures_4 F g F ((0 : Int32)) ((0 : Int32))
set_option maxRecDepth 20000 in
theorem M_X2_wordsAsFigures (l : Launch) (F : Nat) (g : am_G) (w : am_J)  (R : Int32) (hf : f_X2_wordsAsFigures F g = some R) : am_Met l mi_X2_wordsAsFigures rm_X2_wordsAsFigures [.ref 3] am_YY g w (some (.int R)) am_YY g w := by
  refine am_met (own := 2) [some (.ref 3), none, none] (by decide) rfl rfl (by first | decide | exact Nat.le_of_ble_eq_true rfl) (fun x C0 hR hl hnm => ?_)
  unfold f_X2_wordsAsFigures at hf
  refine am_b1 C0 am_YYk (pc := 0) (pc2 := 4) [(.iconst 0, 0, 0, .int 0), (.istore_n 1, 0, 0, .null), (.iconst 0, 0, 0, .int 0), (.istore_n 2, 0, 0, .null)] (L := [some (.ref 3), none, none]) (st := []) (L' := [some (.ref 3), some (.int ((0 : Int32))), some (.int ((0 : Int32)))]) (st' := []) (g' := g) (w' := w) (cl := []) (by decide +kernel) rfl trivial ?_
  refine B_X2_wordsAsFigures_4 x C0 hR w F g R   F ((0 : Int32)) ((0 : Int32)) hf
/-! ShutterTown$Shutters.dueCount()I at (10,) -/
def f_X4_dueCount_32 (F : Nat) (g : am_G) (k4 : Int32 → Int32 → Option (Int32)) (l2 : Int32) (s0 : Int32) (s1 : Int32) : Option (Int32) :=
  k4 (s0 + s1) (l2 + (1 : Int32))
set_option maxRecDepth 20000 in
theorem B_X4_dueCount_32 (x : am_X) (C0 : am_Cm x 4 cX4_dueCount 3 (some .int)) (hR : am_R x = rm_X4_dueCount) (w : am_J) (F : Nat) (g : am_G) (R : Int32) (k4 : Int32 → Int32 → Option (Int32)) (hk4 : ∀ (l1 : Int32) (l2 : Int32), k4 l1 l2 = some R → am_Ev x 3 (0, 0) (am_Q x (0, 0) (some (.int R)) am_YY g w) 4 [some (.ref 10), some (.int (l1)), some (.int (l2))] [] am_YY g w) (l2 : Int32) (s0 : Int32) (s1 : Int32) (hf : f_X4_dueCount_32 F g k4 l2 s0 s1 = some R) : am_Ev x 3 (0, 0) (am_Q x (0, 0) (some (.int R)) am_YY g w) 32 [some (.ref 10), none, some (.int (l2))] [.int (s1), .int (s0)] am_YY g w := by
  unfold f_X4_dueCount_32 at hf
  refine am_b1 C0 am_YYk (pc := 32) (pc2 := 37) [(.iadd, 0, 0, .null), (.istore_n 1, 0, 0, .null), (.iinc 2 1, 0, 0, .int 1)] (L := [some (.ref 10), none, some (.int (l2))]) (st := [.int (s1), .int (s0)]) (L' := [some (.ref 10), some (.int (s0 + s1)), some (.int (l2 + (1 : Int32)))]) (st' := []) (g' := g) (w' := w) (cl := []) (by decide +kernel) rfl trivial ?_
  refine am_goto C0 (off := (-33)) (tgt := 4) (by decide +kernel) ?_
  exact hk4 (s0 + s1) (l2 + (1 : Int32)) hf
def f_X4_dueCount_4 (F : Nat) (g : am_G)  : Nat → Int32 → Int32 → Option (Int32)
  | 0, _, _ => none
  | n + 1, l1, l2 =>
    (f_X2_windows g).bind fun q1 =>
      if q1 ≤ l2 then
        some (l1)
      else
        if am_in l2 6 then
          if (g 12 (Int32.toNatClampNeg l2)) = (-9 : Int32) then
            f_X4_dueCount_32 F g (fun l1 l2 => f_X4_dueCount_4 F g n l1 l2) (l2) (l1) ((0 : Int32))
          else
            f_X4_dueCount_32 F g (fun l1 l2 => f_X4_dueCount_4 F g n l1 l2) (l2) (l1) ((1 : Int32))
        else none
set_option maxRecDepth 20000 in
theorem B_X4_dueCount_4 (x : am_X) (C0 : am_Cm x 4 cX4_dueCount 3 (some .int)) (hR : am_R x = rm_X4_dueCount) (w : am_J) (F : Nat) (g : am_G) (R : Int32)   : ∀ (n : Nat) (l1 : Int32) (l2 : Int32), f_X4_dueCount_4 F g n l1 l2 = some R → am_Ev x 3 (0, 0) (am_Q x (0, 0) (some (.int R)) am_YY g w) 4 [some (.ref 10), some (.int (l1)), some (.int (l2))] [] am_YY g w := by
  intro n
  induction n with
  | zero => intro l1 l2 hf; cases hf
  | succ n ih =>
    intro l1 l2 hf
    rw [f_X4_dueCount_4.eq_2] at hf
    refine am_b1 C0 am_YYk (pc := 4) (pc2 := 9) [(.iload_n 2, 0, 0, .null), (.aload_n 0, 0, 0, .null), (.getfield 18, 4, 0, .null)] (L := [some (.ref 10), some (.int (l1)), some (.int (l2))]) (st := []) (L' := [some (.ref 10), some (.int (l1)), some (.int (l2))]) (st' := [.ref 3, .int (l2)]) (g' := g) (w' := w) (cl := []) (by decide +kernel) rfl trivial ?_
    obtain ⟨q1, hq1, hf⟩ := Option.bind_eq_some_iff.mp hf
    refine am_callV (mi := mi_X2_windows) (rm := rm_X2_windows) [] C0.1 am_YYl cv_4_22 (M_X2_windows _ g w _ hq1) (ci := 2) rfl (by decide) rfl (by rw [hR]; rfl) rfl rfl (Nat.le_of_ble_eq_true rfl) (by decide +kernel) ?_
    refine am_icmp_ge C0 (off := 28) (tgt := 40) (by decide +kernel) (fun hc4 => ?_) (fun hc4 => ?_)
    · rw [if_pos hc4] at hf
      refine am_b1 C0 am_YYk (pc := 40) (pc2 := 41) [(.iload_n 1, 0, 0, .null)] (L := [some (.ref 10), some (.int (l1)), some (.int (l2))]) (st := []) (L' := [some (.ref 10), some (.int (l1)), some (.int (l2))]) (st' := [.int (l1)]) (g' := g) (w' := w) (cl := []) (by decide +kernel) rfl trivial ?_
      cases hf
      exact am_iret C0 (by decide +kernel)
    · rw [if_neg hc4] at hf
      obtain ⟨hg2, hf⟩ := am_g hf
      refine am_b1 C0 am_YYk (pc := 15) (pc2 := 24) [(.iload_n 1, 0, 0, .null), (.aload_n 0, 0, 0, .null), (.getfield 15, 4, 2, .null), (.iload_n 2, 0, 0, .null), (.iaload, 0, 0, .null), (.bipush (-9), 0, 0, .int (-9))] (L := [some (.ref 10), some (.int (l1)), some (.int (l2))]) (st := []) (L' := [some (.ref 10), some (.int (l1)), some (.int (l2))]) (st' := [.int ((-9 : Int32)), .int (g 12 (Int32.toNatClampNeg l2)), .int (l1)]) (g' := g) (w' := w) (cl := [am_in l2 6]) (by decide +kernel) rfl ⟨hg2, trivial⟩ ?_
      refine am_icmp_eq C0 (off := 7) (tgt := 31) (by decide +kernel) (fun hc3 => ?_) (fun hc3 => ?_)
      · rw [if_pos hc3] at hf
        refine am_b1 C0 am_YYk (pc := 31) (pc2 := 32) [(.iconst 0, 0, 0, .int 0)] (L := [some (.ref 10), some (.int (l1)), some (.int (l2))]) (st := [.int (l1)]) (L' := [some (.ref 10), some (.int (l1)), some (.int (l2))]) (st' := [.int ((0 : Int32)), .int (l1)]) (g' := g) (w' := w) (cl := []) (by decide +kernel) rfl trivial ?_
        refine am_wk [some (.ref 10), none, some (.int (l2))] ⟨rfl, rfl, trivial⟩ rfl ?_
        exact B_X4_dueCount_32 x C0 hR w F g R _ (fun l1 l2 hf => ih l1 l2 hf) (l2) (l1) ((0 : Int32)) hf
      · rw [if_neg hc3] at hf
        refine am_b1 C0 am_YYk (pc := 27) (pc2 := 28) [(.iconst 1, 0, 0, .int 1)] (L := [some (.ref 10), some (.int (l1)), some (.int (l2))]) (st := [.int (l1)]) (L' := [some (.ref 10), some (.int (l1)), some (.int (l2))]) (st' := [.int ((1 : Int32)), .int (l1)]) (g' := g) (w' := w) (cl := []) (by decide +kernel) rfl trivial ?_
        refine am_goto C0 (off := 4) (tgt := 32) (by decide +kernel) ?_
        refine am_wk [some (.ref 10), none, some (.int (l2))] ⟨rfl, rfl, trivial⟩ rfl ?_
        exact B_X4_dueCount_32 x C0 hR w F g R _ (fun l1 l2 hf => ih l1 l2 hf) (l2) (l1) ((1 : Int32)) hf
def f_X4_dueCount (F : Nat) (g : am_G) : Option (Int32) :=
  f_X4_dueCount_4 F g F ((0 : Int32)) ((0 : Int32))
set_option maxRecDepth 20000 in
theorem M_X4_dueCount (l : Launch) (F : Nat) (g : am_G) (w : am_J)  (R : Int32) (hf : f_X4_dueCount F g = some R) : am_Met l mi_X4_dueCount rm_X4_dueCount [.ref 10] am_YY g w (some (.int R)) am_YY g w := by
  refine am_met (own := 4) [some (.ref 10), none, none] (by decide) rfl rfl (by first | decide | exact Nat.le_of_ble_eq_true rfl) (fun x C0 hR hl hnm => ?_)
  unfold f_X4_dueCount at hf
  refine am_b1 C0 am_YYk (pc := 0) (pc2 := 4) [(.iconst 0, 0, 0, .int 0), (.istore_n 1, 0, 0, .null), (.iconst 0, 0, 0, .int 0), (.istore_n 2, 0, 0, .null)] (L := [some (.ref 10), none, none]) (st := []) (L' := [some (.ref 10), some (.int ((0 : Int32))), some (.int ((0 : Int32)))]) (st' := []) (g' := g) (w' := w) (cl := []) (by decide +kernel) rfl trivial ?_
  refine B_X4_dueCount_4 x C0 hR w F g R   F ((0 : Int32)) ((0 : Int32)) hf
