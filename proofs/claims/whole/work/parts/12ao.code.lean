/-! ShutterTownModel.slams(IIIZ)I at (26,) -/
def f_X8_slams_160 (F : Nat) (g : am_G) (p1 : Int32) (p2 : Int32) (p3 : Int32) (p4 : Int32)  (l5 : Int32) (l6 : Int32) : Option (Int32) :=
  (f_X8_common F l5 l6).bind fun q1 =>
    if p4 = 0 then
      if ¬ q1 = 0 then
        some (l6 / q1)
      else none
    else
      if ¬ q1 = 0 then
        some (l5 / q1)
      else none
set_option maxRecDepth 20000 in
theorem B_X8_slams_160 (x : am_X) (C0 : am_Cm x 8 cX8_slams 10 (some .int)) (hR : am_R x = rm_X8_slams) (w : am_J) (F : Nat) (g : am_G) (p1 : Int32) (p2 : Int32) (p3 : Int32) (p4 : Int32) (R : Int32)   (l5 : Int32) (l6 : Int32) (hf : f_X8_slams_160 F g p1 p2 p3 p4 l5 l6 = some R) : am_Ev x 10 (0, 0) (am_Q x (0, 0) (some (.int R)) am_YY g w) 160 [none, some (.int (p1)), some (.int (p2)), some (.int (p3)), some (.int (p4)), some (.int (l5)), some (.int (l6)), none, none, none] [] am_YY g w := by
  unfold f_X8_slams_160 at hf
  refine am_b1 C0 am_YYk (pc := 160) (pc2 := 164) [(.iload 5, 0, 0, .null), (.iload 6, 0, 0, .null)] (L := [none, some (.int (p1)), some (.int (p2)), some (.int (p3)), some (.int (p4)), some (.int (l5)), some (.int (l6)), none, none, none]) (st := []) (L' := [none, some (.int (p1)), some (.int (p2)), some (.int (p3)), some (.int (p4)), some (.int (l5)), some (.int (l6)), none, none, none]) (st' := [.int (l6), .int (l5)]) (g' := g) (w' := w) (cl := []) (by decide +kernel) rfl trivial ?_
  obtain ⟨q1, hq1, hf⟩ := Option.bind_eq_some_iff.mp hf
  refine am_callS (mi := mi_X8_common) (rm := rm_X8_common) [.int (l5), .int (l6)] C0.1 cv_8_230 (M_X8_common _ F g w l5 l6 _ hq1) (by rw [hR]; rfl) rfl rfl (Nat.le_of_ble_eq_true rfl) (by decide +kernel) ?_
  refine am_b1 C0 am_YYk (pc := 167) (pc2 := 171) [(.istore 7, 0, 0, .null), (.iload 4, 0, 0, .null)] (L := [none, some (.int (p1)), some (.int (p2)), some (.int (p3)), some (.int (p4)), some (.int (l5)), some (.int (l6)), none, none, none]) (st := [.int (q1)]) (L' := [none, some (.int (p1)), some (.int (p2)), some (.int (p3)), some (.int (p4)), some (.int (l5)), some (.int (l6)), some (.int (q1)), none, none]) (st' := [.int (p4)]) (g' := g) (w' := w) (cl := []) (by decide +kernel) rfl trivial ?_
  refine am_if_eq C0 (off := 11) (tgt := 182) (by decide +kernel) (fun hc4 => ?_) (fun hc4 => ?_)
  · rw [if_pos hc4] at hf
    obtain ⟨hg2, hf⟩ := am_g hf
    refine am_b1 C0 am_YYk (pc := 182) (pc2 := 187) [(.iload 6, 0, 0, .null), (.iload 7, 0, 0, .null), (.idiv, 0, 0, .null)] (L := [none, some (.int (p1)), some (.int (p2)), some (.int (p3)), some (.int (p4)), some (.int (l5)), some (.int (l6)), some (.int (q1)), none, none]) (st := []) (L' := [none, some (.int (p1)), some (.int (p2)), some (.int (p3)), some (.int (p4)), some (.int (l5)), some (.int (l6)), some (.int (q1)), none, none]) (st' := [.int (l6 / q1)]) (g' := g) (w' := w) (cl := [¬ q1 = 0]) (by decide +kernel) rfl ⟨hg2, trivial⟩ ?_
    cases hf
    exact am_iret C0 (by decide +kernel)
  · rw [if_neg hc4] at hf
    obtain ⟨hg3, hf⟩ := am_g hf
    refine am_b1 C0 am_YYk (pc := 174) (pc2 := 179) [(.iload 5, 0, 0, .null), (.iload 7, 0, 0, .null), (.idiv, 0, 0, .null)] (L := [none, some (.int (p1)), some (.int (p2)), some (.int (p3)), some (.int (p4)), some (.int (l5)), some (.int (l6)), some (.int (q1)), none, none]) (st := []) (L' := [none, some (.int (p1)), some (.int (p2)), some (.int (p3)), some (.int (p4)), some (.int (l5)), some (.int (l6)), some (.int (q1)), none, none]) (st' := [.int (l5 / q1)]) (g' := g) (w' := w) (cl := [¬ q1 = 0]) (by decide +kernel) rfl ⟨hg3, trivial⟩ ?_
    refine am_goto C0 (off := 8) (tgt := 187) (by decide +kernel) ?_
    cases hf
    exact am_iret C0 (by decide +kernel)
def f_X8_slams_154 (F : Nat) (g : am_G) (p1 : Int32) (p2 : Int32) (p3 : Int32) (p4 : Int32) (k46 : Int32 → Int32 → Int32 → Option (Int32)) (k160 : Int32 → Int32 → Option (Int32)) (l5 : Int32) (l6 : Int32) (l7 : Int32) : Option (Int32) :=
  k46 (l5) (l6) (l7 + (1 : Int32))
set_option maxRecDepth 20000 in
theorem B_X8_slams_154 (x : am_X) (C0 : am_Cm x 8 cX8_slams 10 (some .int)) (hR : am_R x = rm_X8_slams) (w : am_J) (F : Nat) (g : am_G) (p1 : Int32) (p2 : Int32) (p3 : Int32) (p4 : Int32) (R : Int32) (k46 : Int32 → Int32 → Int32 → Option (Int32)) (k160 : Int32 → Int32 → Option (Int32)) (hk46 : ∀ (l5 : Int32) (l6 : Int32) (l7 : Int32), k46 l5 l6 l7 = some R → am_Ev x 10 (0, 0) (am_Q x (0, 0) (some (.int R)) am_YY g w) 46 [some (.ref 26), some (.int (p1)), some (.int (p2)), some (.int (p3)), some (.int (p4)), some (.int (l5)), some (.int (l6)), some (.int (l7)), none, none] [] am_YY g w) (hk160 : ∀ (l5 : Int32) (l6 : Int32), k160 l5 l6 = some R → am_Ev x 10 (0, 0) (am_Q x (0, 0) (some (.int R)) am_YY g w) 160 [none, some (.int (p1)), some (.int (p2)), some (.int (p3)), some (.int (p4)), some (.int (l5)), some (.int (l6)), none, none, none] [] am_YY g w) (l5 : Int32) (l6 : Int32) (l7 : Int32) (hf : f_X8_slams_154 F g p1 p2 p3 p4 k46 k160 l5 l6 l7 = some R) : am_Ev x 10 (0, 0) (am_Q x (0, 0) (some (.int R)) am_YY g w) 154 [some (.ref 26), some (.int (p1)), some (.int (p2)), some (.int (p3)), some (.int (p4)), some (.int (l5)), some (.int (l6)), some (.int (l7)), none, none] [] am_YY g w := by
  unfold f_X8_slams_154 at hf
  refine am_b1 C0 am_YYk (pc := 154) (pc2 := 157) [(.iinc 7 1, 0, 0, .int 1)] (L := [some (.ref 26), some (.int (p1)), some (.int (p2)), some (.int (p3)), some (.int (p4)), some (.int (l5)), some (.int (l6)), some (.int (l7)), none, none]) (st := []) (L' := [some (.ref 26), some (.int (p1)), some (.int (p2)), some (.int (p3)), some (.int (p4)), some (.int (l5)), some (.int (l6)), some (.int (l7 + (1 : Int32))), none, none]) (st' := []) (g' := g) (w' := w) (cl := []) (by decide +kernel) rfl trivial ?_
  refine am_goto C0 (off := (-111)) (tgt := 46) (by decide +kernel) ?_
  exact hk46 (l5) (l6) (l7 + (1 : Int32)) hf
def f_X8_slams_151 (F : Nat) (g : am_G) (p1 : Int32) (p2 : Int32) (p3 : Int32) (p4 : Int32) (k46 : Int32 → Int32 → Int32 → Option (Int32)) (k160 : Int32 → Int32 → Option (Int32)) (l6 : Int32) (l7 : Int32) (s0 : Int32) (s1 : Int32) : Option (Int32) :=
  f_X8_slams_154 F g p1 p2 p3 p4 k46 k160 (s0 + s1) (l6) (l7)
set_option maxRecDepth 20000 in
theorem B_X8_slams_151 (x : am_X) (C0 : am_Cm x 8 cX8_slams 10 (some .int)) (hR : am_R x = rm_X8_slams) (w : am_J) (F : Nat) (g : am_G) (p1 : Int32) (p2 : Int32) (p3 : Int32) (p4 : Int32) (R : Int32) (k46 : Int32 → Int32 → Int32 → Option (Int32)) (k160 : Int32 → Int32 → Option (Int32)) (hk46 : ∀ (l5 : Int32) (l6 : Int32) (l7 : Int32), k46 l5 l6 l7 = some R → am_Ev x 10 (0, 0) (am_Q x (0, 0) (some (.int R)) am_YY g w) 46 [some (.ref 26), some (.int (p1)), some (.int (p2)), some (.int (p3)), some (.int (p4)), some (.int (l5)), some (.int (l6)), some (.int (l7)), none, none] [] am_YY g w) (hk160 : ∀ (l5 : Int32) (l6 : Int32), k160 l5 l6 = some R → am_Ev x 10 (0, 0) (am_Q x (0, 0) (some (.int R)) am_YY g w) 160 [none, some (.int (p1)), some (.int (p2)), some (.int (p3)), some (.int (p4)), some (.int (l5)), some (.int (l6)), none, none, none] [] am_YY g w) (l6 : Int32) (l7 : Int32) (s0 : Int32) (s1 : Int32) (hf : f_X8_slams_151 F g p1 p2 p3 p4 k46 k160 l6 l7 s0 s1 = some R) : am_Ev x 10 (0, 0) (am_Q x (0, 0) (some (.int R)) am_YY g w) 151 [some (.ref 26), some (.int (p1)), some (.int (p2)), some (.int (p3)), some (.int (p4)), none, some (.int (l6)), some (.int (l7)), none, none] [.int (s1), .int (s0)] am_YY g w := by
  unfold f_X8_slams_151 at hf
  refine am_b1 C0 am_YYk (pc := 151) (pc2 := 154) [(.iadd, 0, 0, .null), (.istore 5, 0, 0, .null)] (L := [some (.ref 26), some (.int (p1)), some (.int (p2)), some (.int (p3)), some (.int (p4)), none, some (.int (l6)), some (.int (l7)), none, none]) (st := [.int (s1), .int (s0)]) (L' := [some (.ref 26), some (.int (p1)), some (.int (p2)), some (.int (p3)), some (.int (p4)), some (.int (s0 + s1)), some (.int (l6)), some (.int (l7)), none, none]) (st' := []) (g' := g) (w' := w) (cl := []) (by decide +kernel) rfl trivial ?_
  exact B_X8_slams_154 x C0 hR w F g p1 p2 p3 p4 R _ _ hk46 hk160 (s0 + s1) (l6) (l7) hf
def f_X8_slams_125 (F : Nat) (g : am_G) (p1 : Int32) (p2 : Int32) (p3 : Int32) (p4 : Int32) (k46 : Int32 → Int32 → Int32 → Option (Int32)) (k160 : Int32 → Int32 → Option (Int32)) (l5 : Int32) (l6 : Int32) (l7 : Int32) (l8 : Int32) : Option (Int32) :=
  (f_X8_reads F g p1 p2 l7).bind fun q5 =>
    if q5 = 0 then
      f_X8_slams_151 F g p1 p2 p3 p4 k46 k160 (l6 + l8) (l7) (l5) ((0 : Int32))
    else
      f_X8_slams_151 F g p1 p2 p3 p4 k46 k160 (l6 + l8) (l7) (l5) (l8)
set_option maxRecDepth 20000 in
theorem B_X8_slams_125 (x : am_X) (C0 : am_Cm x 8 cX8_slams 10 (some .int)) (hR : am_R x = rm_X8_slams) (w : am_J) (F : Nat) (g : am_G) (p1 : Int32) (p2 : Int32) (p3 : Int32) (p4 : Int32) (R : Int32) (k46 : Int32 → Int32 → Int32 → Option (Int32)) (k160 : Int32 → Int32 → Option (Int32)) (hk46 : ∀ (l5 : Int32) (l6 : Int32) (l7 : Int32), k46 l5 l6 l7 = some R → am_Ev x 10 (0, 0) (am_Q x (0, 0) (some (.int R)) am_YY g w) 46 [some (.ref 26), some (.int (p1)), some (.int (p2)), some (.int (p3)), some (.int (p4)), some (.int (l5)), some (.int (l6)), some (.int (l7)), none, none] [] am_YY g w) (hk160 : ∀ (l5 : Int32) (l6 : Int32), k160 l5 l6 = some R → am_Ev x 10 (0, 0) (am_Q x (0, 0) (some (.int R)) am_YY g w) 160 [none, some (.int (p1)), some (.int (p2)), some (.int (p3)), some (.int (p4)), some (.int (l5)), some (.int (l6)), none, none, none] [] am_YY g w) (l5 : Int32) (l6 : Int32) (l7 : Int32) (l8 : Int32) (hf : f_X8_slams_125 F g p1 p2 p3 p4 k46 k160 l5 l6 l7 l8 = some R) : am_Ev x 10 (0, 0) (am_Q x (0, 0) (some (.int R)) am_YY g w) 125 [some (.ref 26), some (.int (p1)), some (.int (p2)), some (.int (p3)), some (.int (p4)), some (.int (l5)), some (.int (l6)), some (.int (l7)), some (.int (l8)), none] [] am_YY g w := by
  unfold f_X8_slams_125 at hf
  refine am_b1 C0 am_YYk (pc := 125) (pc2 := 139) [(.iload 6, 0, 0, .null), (.iload 8, 0, 0, .null), (.iadd, 0, 0, .null), (.istore 6, 0, 0, .null), (.iload 5, 0, 0, .null), (.aload_n 0, 0, 0, .null), (.iload_n 1, 0, 0, .null), (.iload_n 2, 0, 0, .null), (.iload 7, 0, 0, .null)] (L := [some (.ref 26), some (.int (p1)), some (.int (p2)), some (.int (p3)), some (.int (p4)), some (.int (l5)), some (.int (l6)), some (.int (l7)), some (.int (l8)), none]) (st := []) (L' := [some (.ref 26), some (.int (p1)), some (.int (p2)), some (.int (p3)), some (.int (p4)), some (.int (l5)), some (.int (l6 + l8)), some (.int (l7)), some (.int (l8)), none]) (st' := [.int (l7), .int (p2), .int (p1), .ref 26, .int (l5)]) (g' := g) (w' := w) (cl := []) (by decide +kernel) rfl trivial ?_
  obtain ⟨q5, hq5, hf⟩ := Option.bind_eq_some_iff.mp hf
  refine am_callV (mi := mi_X8_reads) (rm := rm_X8_reads) [.int (p1), .int (p2), .int (l7)] C0.1 am_YYl cv_8_226 (M_X8_reads _ F g w p1 p2 l7 _ hq5) (ci := 8) rfl (by decide) rfl (by rw [hR]; rfl) rfl rfl (Nat.le_of_ble_eq_true rfl) (by decide +kernel) ?_
  refine am_if_eq C0 (off := 8) (tgt := 150) (by decide +kernel) (fun hc6 => ?_) (fun hc6 => ?_)
  · rw [if_pos hc6] at hf
    refine am_b1 C0 am_YYk (pc := 150) (pc2 := 151) [(.iconst 0, 0, 0, .int 0)] (L := [some (.ref 26), some (.int (p1)), some (.int (p2)), some (.int (p3)), some (.int (p4)), some (.int (l5)), some (.int (l6 + l8)), some (.int (l7)), some (.int (l8)), none]) (st := [.int (l5)]) (L' := [some (.ref 26), some (.int (p1)), some (.int (p2)), some (.int (p3)), some (.int (p4)), some (.int (l5)), some (.int (l6 + l8)), some (.int (l7)), some (.int (l8)), none]) (st' := [.int ((0 : Int32)), .int (l5)]) (g' := g) (w' := w) (cl := []) (by decide +kernel) rfl trivial ?_
    refine am_wk [some (.ref 26), some (.int (p1)), some (.int (p2)), some (.int (p3)), some (.int (p4)), none, some (.int (l6 + l8)), some (.int (l7)), none, none] ⟨rfl, rfl, rfl, rfl, rfl, rfl, rfl, trivial⟩ rfl ?_
    exact B_X8_slams_151 x C0 hR w F g p1 p2 p3 p4 R _ _ hk46 hk160 (l6 + l8) (l7) (l5) ((0 : Int32)) hf
  · rw [if_neg hc6] at hf
    refine am_b1 C0 am_YYk (pc := 145) (pc2 := 147) [(.iload 8, 0, 0, .null)] (L := [some (.ref 26), some (.int (p1)), some (.int (p2)), some (.int (p3)), some (.int (p4)), some (.int (l5)), some (.int (l6 + l8)), some (.int (l7)), some (.int (l8)), none]) (st := [.int (l5)]) (L' := [some (.ref 26), some (.int (p1)), some (.int (p2)), some (.int (p3)), some (.int (p4)), some (.int (l5)), some (.int (l6 + l8)), some (.int (l7)), some (.int (l8)), none]) (st' := [.int (l8), .int (l5)]) (g' := g) (w' := w) (cl := []) (by decide +kernel) rfl trivial ?_
    refine am_goto C0 (off := 4) (tgt := 151) (by decide +kernel) ?_
    refine am_wk [some (.ref 26), some (.int (p1)), some (.int (p2)), some (.int (p3)), some (.int (p4)), none, some (.int (l6 + l8)), some (.int (l7)), none, none] ⟨rfl, rfl, rfl, rfl, rfl, rfl, rfl, trivial⟩ rfl ?_
    exact B_X8_slams_151 x C0 hR w F g p1 p2 p3 p4 R _ _ hk46 hk160 (l6 + l8) (l7) (l5) (l8) hf
def f_X8_slams_116 (F : Nat) (g : am_G) (p1 : Int32) (p2 : Int32) (p3 : Int32) (p4 : Int32) (k71 : Int32 → Int32 → Int32 → Int32 → Int32 → Option (Int32)) (k125 : Int32 → Int32 → Int32 → Int32 → Option (Int32)) (l5 : Int32) (l6 : Int32) (l7 : Int32) (l9 : Int32) (s0 : Int32) (s1 : Int32) : Option (Int32) :=
  k71 (l5) (l6) (l7) (s0 * s1) (l9 + (1 : Int32))
set_option maxRecDepth 20000 in
theorem B_X8_slams_116 (x : am_X) (C0 : am_Cm x 8 cX8_slams 10 (some .int)) (hR : am_R x = rm_X8_slams) (w : am_J) (F : Nat) (g : am_G) (p1 : Int32) (p2 : Int32) (p3 : Int32) (p4 : Int32) (R : Int32) (k71 : Int32 → Int32 → Int32 → Int32 → Int32 → Option (Int32)) (k125 : Int32 → Int32 → Int32 → Int32 → Option (Int32)) (hk71 : ∀ (l5 : Int32) (l6 : Int32) (l7 : Int32) (l8 : Int32) (l9 : Int32), k71 l5 l6 l7 l8 l9 = some R → am_Ev x 10 (0, 0) (am_Q x (0, 0) (some (.int R)) am_YY g w) 71 [some (.ref 26), some (.int (p1)), some (.int (p2)), some (.int (p3)), some (.int (p4)), some (.int (l5)), some (.int (l6)), some (.int (l7)), some (.int (l8)), some (.int (l9))] [] am_YY g w) (hk125 : ∀ (l5 : Int32) (l6 : Int32) (l7 : Int32) (l8 : Int32), k125 l5 l6 l7 l8 = some R → am_Ev x 10 (0, 0) (am_Q x (0, 0) (some (.int R)) am_YY g w) 125 [some (.ref 26), some (.int (p1)), some (.int (p2)), some (.int (p3)), some (.int (p4)), some (.int (l5)), some (.int (l6)), some (.int (l7)), some (.int (l8)), none] [] am_YY g w) (l5 : Int32) (l6 : Int32) (l7 : Int32) (l9 : Int32) (s0 : Int32) (s1 : Int32) (hf : f_X8_slams_116 F g p1 p2 p3 p4 k71 k125 l5 l6 l7 l9 s0 s1 = some R) : am_Ev x 10 (0, 0) (am_Q x (0, 0) (some (.int R)) am_YY g w) 116 [some (.ref 26), some (.int (p1)), some (.int (p2)), some (.int (p3)), some (.int (p4)), some (.int (l5)), some (.int (l6)), some (.int (l7)), none, some (.int (l9))] [.int (s1), .int (s0)] am_YY g w := by
  unfold f_X8_slams_116 at hf
  refine am_b1 C0 am_YYk (pc := 116) (pc2 := 122) [(.imul, 0, 0, .null), (.istore 8, 0, 0, .null), (.iinc 9 1, 0, 0, .int 1)] (L := [some (.ref 26), some (.int (p1)), some (.int (p2)), some (.int (p3)), some (.int (p4)), some (.int (l5)), some (.int (l6)), some (.int (l7)), none, some (.int (l9))]) (st := [.int (s1), .int (s0)]) (L' := [some (.ref 26), some (.int (p1)), some (.int (p2)), some (.int (p3)), some (.int (p4)), some (.int (l5)), some (.int (l6)), some (.int (l7)), some (.int (s0 * s1)), some (.int (l9 + (1 : Int32)))]) (st' := []) (g' := g) (w' := w) (cl := []) (by decide +kernel) rfl trivial ?_
  refine am_goto C0 (off := (-51)) (tgt := 71) (by decide +kernel) ?_
  exact hk71 (l5) (l6) (l7) (s0 * s1) (l9 + (1 : Int32)) hf
def f_X8_slams_71 (F : Nat) (g : am_G) (p1 : Int32) (p2 : Int32) (p3 : Int32) (p4 : Int32) (k125 : Int32 → Int32 → Int32 → Int32 → Option (Int32)) : Nat → Int32 → Int32 → Int32 → Int32 → Int32 → Option (Int32)
  | 0, _, _, _, _, _ => none
  | n + 1, l5, l6, l7, l8, l9 =>
    if (g 26 0) ≤ l9 then
      k125 (l5) (l6) (l7) (l8)
    else
      (f_X8_loose F g).bind fun q7 =>
        (f_X8_has q7 l9).bind fun q8 =>
          if q8 = 0 then
            f_X8_slams_116 F g p1 p2 p3 p4 (fun l5 l6 l7 l8 l9 => f_X8_slams_71 F g p1 p2 p3 p4 k125 n l5 l6 l7 l8 l9) k125 (l5) (l6) (l7) (l9) (l8) ((1 : Int32))
          else
            (f_X8_has l7 l9).bind fun q9 =>
              if q9 = 0 then
                f_X8_slams_116 F g p1 p2 p3 p4 (fun l5 l6 l7 l8 l9 => f_X8_slams_71 F g p1 p2 p3 p4 k125 n l5 l6 l7 l8 l9) k125 (l5) (l6) (l7) (l9) (l8) ((10 : Int32) - p3)
              else
                f_X8_slams_116 F g p1 p2 p3 p4 (fun l5 l6 l7 l8 l9 => f_X8_slams_71 F g p1 p2 p3 p4 k125 n l5 l6 l7 l8 l9) k125 (l5) (l6) (l7) (l9) (l8) (p3)
set_option maxRecDepth 20000 in
theorem B_X8_slams_71 (x : am_X) (C0 : am_Cm x 8 cX8_slams 10 (some .int)) (hR : am_R x = rm_X8_slams) (w : am_J) (F : Nat) (g : am_G) (p1 : Int32) (p2 : Int32) (p3 : Int32) (p4 : Int32) (R : Int32) (k125 : Int32 → Int32 → Int32 → Int32 → Option (Int32)) (hk125 : ∀ (l5 : Int32) (l6 : Int32) (l7 : Int32) (l8 : Int32), k125 l5 l6 l7 l8 = some R → am_Ev x 10 (0, 0) (am_Q x (0, 0) (some (.int R)) am_YY g w) 125 [some (.ref 26), some (.int (p1)), some (.int (p2)), some (.int (p3)), some (.int (p4)), some (.int (l5)), some (.int (l6)), some (.int (l7)), some (.int (l8)), none] [] am_YY g w) : ∀ (n : Nat) (l5 : Int32) (l6 : Int32) (l7 : Int32) (l8 : Int32) (l9 : Int32), f_X8_slams_71 F g p1 p2 p3 p4 k125 n l5 l6 l7 l8 l9 = some R → am_Ev x 10 (0, 0) (am_Q x (0, 0) (some (.int R)) am_YY g w) 71 [some (.ref 26), some (.int (p1)), some (.int (p2)), some (.int (p3)), some (.int (p4)), some (.int (l5)), some (.int (l6)), some (.int (l7)), some (.int (l8)), some (.int (l9))] [] am_YY g w := by
  intro n
  induction n with
  | zero => intro l5 l6 l7 l8 l9 hf; cases hf
  | succ n ih =>
    intro l5 l6 l7 l8 l9 hf
    rw [f_X8_slams_71.eq_2] at hf
    refine am_b1 C0 am_YYk (pc := 71) (pc2 := 77) [(.iload 9, 0, 0, .null), (.aload_n 0, 0, 0, .null), (.getfield 111, 8, 0, .null)] (L := [some (.ref 26), some (.int (p1)), some (.int (p2)), some (.int (p3)), some (.int (p4)), some (.int (l5)), some (.int (l6)), some (.int (l7)), some (.int (l8)), some (.int (l9))]) (st := []) (L' := [some (.ref 26), some (.int (p1)), some (.int (p2)), some (.int (p3)), some (.int (p4)), some (.int (l5)), some (.int (l6)), some (.int (l7)), some (.int (l8)), some (.int (l9))]) (st' := [.int (g 26 0), .int (l9)]) (g' := g) (w' := w) (cl := []) (by decide +kernel) rfl trivial ?_
    refine am_icmp_ge C0 (off := 48) (tgt := 125) (by decide +kernel) (fun hc12 => ?_) (fun hc12 => ?_)
    · rw [if_pos hc12] at hf
      refine am_wk [some (.ref 26), some (.int (p1)), some (.int (p2)), some (.int (p3)), some (.int (p4)), some (.int (l5)), some (.int (l6)), some (.int (l7)), some (.int (l8)), none] ⟨rfl, rfl, rfl, rfl, rfl, rfl, rfl, rfl, rfl, trivial⟩ rfl ?_
      exact hk125 (l5) (l6) (l7) (l8) hf
    · rw [if_neg hc12] at hf
      refine am_b1 C0 am_YYk (pc := 80) (pc2 := 83) [(.iload 8, 0, 0, .null), (.aload_n 0, 0, 0, .null)] (L := [some (.ref 26), some (.int (p1)), some (.int (p2)), some (.int (p3)), some (.int (p4)), some (.int (l5)), some (.int (l6)), some (.int (l7)), some (.int (l8)), some (.int (l9))]) (st := []) (L' := [some (.ref 26), some (.int (p1)), some (.int (p2)), some (.int (p3)), some (.int (p4)), some (.int (l5)), some (.int (l6)), some (.int (l7)), some (.int (l8)), some (.int (l9))]) (st' := [.ref 26, .int (l8)]) (g' := g) (w' := w) (cl := []) (by decide +kernel) rfl trivial ?_
      obtain ⟨q7, hq7, hf⟩ := Option.bind_eq_some_iff.mp hf
      refine am_callV (mi := mi_X8_loose) (rm := rm_X8_loose) [] C0.1 am_YYl cv_8_223 (M_X8_loose _ F g w _ hq7) (ci := 8) rfl (by decide) rfl (by rw [hR]; rfl) rfl rfl (Nat.le_of_ble_eq_true rfl) (by decide +kernel) ?_
      refine am_b1 C0 am_YYk (pc := 86) (pc2 := 88) [(.iload 9, 0, 0, .null)] (L := [some (.ref 26), some (.int (p1)), some (.int (p2)), some (.int (p3)), some (.int (p4)), some (.int (l5)), some (.int (l6)), some (.int (l7)), some (.int (l8)), some (.int (l9))]) (st := [.int (q7), .int (l8)]) (L' := [some (.ref 26), some (.int (p1)), some (.int (p2)), some (.int (p3)), some (.int (p4)), some (.int (l5)), some (.int (l6)), some (.int (l7)), some (.int (l8)), some (.int (l9))]) (st' := [.int (l9), .int (q7), .int (l8)]) (g' := g) (w' := w) (cl := []) (by decide +kernel) rfl trivial ?_
      obtain ⟨q8, hq8, hf⟩ := Option.bind_eq_some_iff.mp hf
      refine am_callS (mi := mi_X8_has) (rm := rm_X8_has) [.int (q7), .int (l9)] C0.1 cv_8_80 (M_X8_has _ g w q7 l9 _ hq8) (by rw [hR]; rfl) rfl rfl (Nat.le_of_ble_eq_true rfl) (by decide +kernel) ?_
      refine am_if_ne C0 (off := 7) (tgt := 98) (by decide +kernel) (fun hc11 => ?_) (fun hc11 => ?_)
      · rw [if_neg hc11] at hf
        refine am_b1 C0 am_YYk (pc := 98) (pc2 := 102) [(.iload 7, 0, 0, .null), (.iload 9, 0, 0, .null)] (L := [some (.ref 26), some (.int (p1)), some (.int (p2)), some (.int (p3)), some (.int (p4)), some (.int (l5)), some (.int (l6)), some (.int (l7)), some (.int (l8)), some (.int (l9))]) (st := [.int (l8)]) (L' := [some (.ref 26), some (.int (p1)), some (.int (p2)), some (.int (p3)), some (.int (p4)), some (.int (l5)), some (.int (l6)), some (.int (l7)), some (.int (l8)), some (.int (l9))]) (st' := [.int (l9), .int (l7), .int (l8)]) (g' := g) (w' := w) (cl := []) (by decide +kernel) rfl trivial ?_
        obtain ⟨q9, hq9, hf⟩ := Option.bind_eq_some_iff.mp hf
        refine am_callS (mi := mi_X8_has) (rm := rm_X8_has) [.int (l7), .int (l9)] C0.1 cv_8_80 (M_X8_has _ g w l7 l9 _ hq9) (by rw [hR]; rfl) rfl rfl (Nat.le_of_ble_eq_true rfl) (by decide +kernel) ?_
        refine am_if_eq C0 (off := 7) (tgt := 112) (by decide +kernel) (fun hc10 => ?_) (fun hc10 => ?_)
        · rw [if_pos hc10] at hf
          refine am_b1 C0 am_YYk (pc := 112) (pc2 := 116) [(.bipush 10, 0, 0, .int 10), (.iload_n 3, 0, 0, .null), (.isub, 0, 0, .null)] (L := [some (.ref 26), some (.int (p1)), some (.int (p2)), some (.int (p3)), some (.int (p4)), some (.int (l5)), some (.int (l6)), some (.int (l7)), some (.int (l8)), some (.int (l9))]) (st := [.int (l8)]) (L' := [some (.ref 26), some (.int (p1)), some (.int (p2)), some (.int (p3)), some (.int (p4)), some (.int (l5)), some (.int (l6)), some (.int (l7)), some (.int (l8)), some (.int (l9))]) (st' := [.int ((10 : Int32) - p3), .int (l8)]) (g' := g) (w' := w) (cl := []) (by decide +kernel) rfl trivial ?_
          refine am_wk [some (.ref 26), some (.int (p1)), some (.int (p2)), some (.int (p3)), some (.int (p4)), some (.int (l5)), some (.int (l6)), some (.int (l7)), none, some (.int (l9))] ⟨rfl, rfl, rfl, rfl, rfl, rfl, rfl, rfl, rfl, trivial⟩ rfl ?_
          exact B_X8_slams_116 x C0 hR w F g p1 p2 p3 p4 R _ _ (fun l5 l6 l7 l8 l9 hf => ih l5 l6 l7 l8 l9 hf) hk125 (l5) (l6) (l7) (l9) (l8) ((10 : Int32) - p3) hf
        · rw [if_neg hc10] at hf
          refine am_b1 C0 am_YYk (pc := 108) (pc2 := 109) [(.iload_n 3, 0, 0, .null)] (L := [some (.ref 26), some (.int (p1)), some (.int (p2)), some (.int (p3)), some (.int (p4)), some (.int (l5)), some (.int (l6)), some (.int (l7)), some (.int (l8)), some (.int (l9))]) (st := [.int (l8)]) (L' := [some (.ref 26), some (.int (p1)), some (.int (p2)), some (.int (p3)), some (.int (p4)), some (.int (l5)), some (.int (l6)), some (.int (l7)), some (.int (l8)), some (.int (l9))]) (st' := [.int (p3), .int (l8)]) (g' := g) (w' := w) (cl := []) (by decide +kernel) rfl trivial ?_
          refine am_goto C0 (off := 7) (tgt := 116) (by decide +kernel) ?_
          refine am_wk [some (.ref 26), some (.int (p1)), some (.int (p2)), some (.int (p3)), some (.int (p4)), some (.int (l5)), some (.int (l6)), some (.int (l7)), none, some (.int (l9))] ⟨rfl, rfl, rfl, rfl, rfl, rfl, rfl, rfl, rfl, trivial⟩ rfl ?_
          exact B_X8_slams_116 x C0 hR w F g p1 p2 p3 p4 R _ _ (fun l5 l6 l7 l8 l9 hf => ih l5 l6 l7 l8 l9 hf) hk125 (l5) (l6) (l7) (l9) (l8) (p3) hf
      · rw [if_pos hc11] at hf
        refine am_b1 C0 am_YYk (pc := 94) (pc2 := 95) [(.iconst 1, 0, 0, .int 1)] (L := [some (.ref 26), some (.int (p1)), some (.int (p2)), some (.int (p3)), some (.int (p4)), some (.int (l5)), some (.int (l6)), some (.int (l7)), some (.int (l8)), some (.int (l9))]) (st := [.int (l8)]) (L' := [some (.ref 26), some (.int (p1)), some (.int (p2)), some (.int (p3)), some (.int (p4)), some (.int (l5)), some (.int (l6)), some (.int (l7)), some (.int (l8)), some (.int (l9))]) (st' := [.int ((1 : Int32)), .int (l8)]) (g' := g) (w' := w) (cl := []) (by decide +kernel) rfl trivial ?_
        refine am_goto C0 (off := 21) (tgt := 116) (by decide +kernel) ?_
        refine am_wk [some (.ref 26), some (.int (p1)), some (.int (p2)), some (.int (p3)), some (.int (p4)), some (.int (l5)), some (.int (l6)), some (.int (l7)), none, some (.int (l9))] ⟨rfl, rfl, rfl, rfl, rfl, rfl, rfl, rfl, rfl, trivial⟩ rfl ?_
        exact B_X8_slams_116 x C0 hR w F g p1 p2 p3 p4 R _ _ (fun l5 l6 l7 l8 l9 hf => ih l5 l6 l7 l8 l9 hf) hk125 (l5) (l6) (l7) (l9) (l8) ((1 : Int32)) hf
def f_X8_slams_46 (F : Nat) (g : am_G) (p1 : Int32) (p2 : Int32) (p3 : Int32) (p4 : Int32) (k160 : Int32 → Int32 → Option (Int32)) : Nat → Int32 → Int32 → Int32 → Option (Int32)
  | 0, _, _, _ => none
  | n + 1, l5, l6, l7 =>
    if (64 : Int32) ≤ l7 then
      k160 (l5) (l6)
    else
      (f_X8_loose F g).bind fun q13 =>
        if (l7 &&& (q13 ^^^ (-1 : Int32))) = 0 then
          f_X8_slams_71 F g p1 p2 p3 p4 (fun l5 l6 l7 l8 => f_X8_slams_125 F g p1 p2 p3 p4 (fun l5 l6 l7 => f_X8_slams_46 F g p1 p2 p3 p4 k160 n l5 l6 l7) k160 (l5) (l6) (l7) (l8)) F (l5) (l6) (l7) ((1 : Int32)) ((0 : Int32))
        else
          f_X8_slams_154 F g p1 p2 p3 p4 (fun l5 l6 l7 => f_X8_slams_46 F g p1 p2 p3 p4 k160 n l5 l6 l7) k160 (l5) (l6) (l7)
set_option maxRecDepth 20000 in
theorem B_X8_slams_46 (x : am_X) (C0 : am_Cm x 8 cX8_slams 10 (some .int)) (hR : am_R x = rm_X8_slams) (w : am_J) (F : Nat) (g : am_G) (p1 : Int32) (p2 : Int32) (p3 : Int32) (p4 : Int32) (R : Int32) (k160 : Int32 → Int32 → Option (Int32)) (hk160 : ∀ (l5 : Int32) (l6 : Int32), k160 l5 l6 = some R → am_Ev x 10 (0, 0) (am_Q x (0, 0) (some (.int R)) am_YY g w) 160 [none, some (.int (p1)), some (.int (p2)), some (.int (p3)), some (.int (p4)), some (.int (l5)), some (.int (l6)), none, none, none] [] am_YY g w) : ∀ (n : Nat) (l5 : Int32) (l6 : Int32) (l7 : Int32), f_X8_slams_46 F g p1 p2 p3 p4 k160 n l5 l6 l7 = some R → am_Ev x 10 (0, 0) (am_Q x (0, 0) (some (.int R)) am_YY g w) 46 [some (.ref 26), some (.int (p1)), some (.int (p2)), some (.int (p3)), some (.int (p4)), some (.int (l5)), some (.int (l6)), some (.int (l7)), none, none] [] am_YY g w := by
  intro n
  induction n with
  | zero => intro l5 l6 l7 hf; cases hf
  | succ n ih =>
    intro l5 l6 l7 hf
    rw [f_X8_slams_46.eq_2] at hf
    refine am_b1 C0 am_YYk (pc := 46) (pc2 := 50) [(.iload 7, 0, 0, .null), (.bipush 64, 0, 0, .int 64)] (L := [some (.ref 26), some (.int (p1)), some (.int (p2)), some (.int (p3)), some (.int (p4)), some (.int (l5)), some (.int (l6)), some (.int (l7)), none, none]) (st := []) (L' := [some (.ref 26), some (.int (p1)), some (.int (p2)), some (.int (p3)), some (.int (p4)), some (.int (l5)), some (.int (l6)), some (.int (l7)), none, none]) (st' := [.int ((64 : Int32)), .int (l7)]) (g' := g) (w' := w) (cl := []) (by decide +kernel) rfl trivial ?_
    refine am_icmp_ge C0 (off := 110) (tgt := 160) (by decide +kernel) (fun hc15 => ?_) (fun hc15 => ?_)
    · rw [if_pos hc15] at hf
      refine am_wk [none, some (.int (p1)), some (.int (p2)), some (.int (p3)), some (.int (p4)), some (.int (l5)), some (.int (l6)), none, none, none] ⟨rfl, rfl, rfl, rfl, rfl, rfl, trivial⟩ rfl ?_
      exact hk160 (l5) (l6) hf
    · rw [if_neg hc15] at hf
      refine am_b1 C0 am_YYk (pc := 53) (pc2 := 56) [(.iload 7, 0, 0, .null), (.aload_n 0, 0, 0, .null)] (L := [some (.ref 26), some (.int (p1)), some (.int (p2)), some (.int (p3)), some (.int (p4)), some (.int (l5)), some (.int (l6)), some (.int (l7)), none, none]) (st := []) (L' := [some (.ref 26), some (.int (p1)), some (.int (p2)), some (.int (p3)), some (.int (p4)), some (.int (l5)), some (.int (l6)), some (.int (l7)), none, none]) (st' := [.ref 26, .int (l7)]) (g' := g) (w' := w) (cl := []) (by decide +kernel) rfl trivial ?_
      obtain ⟨q13, hq13, hf⟩ := Option.bind_eq_some_iff.mp hf
      refine am_callV (mi := mi_X8_loose) (rm := rm_X8_loose) [] C0.1 am_YYl cv_8_223 (M_X8_loose _ F g w _ hq13) (ci := 8) rfl (by decide) rfl (by rw [hR]; rfl) rfl rfl (Nat.le_of_ble_eq_true rfl) (by decide +kernel) ?_
      refine am_b1 C0 am_YYk (pc := 59) (pc2 := 62) [(.iconst (-1), 0, 0, .int (-1)), (.ixor, 0, 0, .null), (.iand, 0, 0, .null)] (L := [some (.ref 26), some (.int (p1)), some (.int (p2)), some (.int (p3)), some (.int (p4)), some (.int (l5)), some (.int (l6)), some (.int (l7)), none, none]) (st := [.int (q13), .int (l7)]) (L' := [some (.ref 26), some (.int (p1)), some (.int (p2)), some (.int (p3)), some (.int (p4)), some (.int (l5)), some (.int (l6)), some (.int (l7)), none, none]) (st' := [.int (l7 &&& (q13 ^^^ (-1 : Int32)))]) (g' := g) (w' := w) (cl := []) (by decide +kernel) rfl trivial ?_
      refine am_if_ne C0 (off := 92) (tgt := 154) (by decide +kernel) (fun hc14 => ?_) (fun hc14 => ?_)
      · rw [if_neg hc14] at hf
        exact B_X8_slams_154 x C0 hR w F g p1 p2 p3 p4 R _ _ (fun l5 l6 l7 hf => ih l5 l6 l7 hf) hk160 (l5) (l6) (l7) hf
      · rw [if_pos hc14] at hf
        refine am_b1 C0 am_YYk (pc := 65) (pc2 := 71) [(.iconst 1, 0, 0, .int 1), (.istore 8, 0, 0, .null), (.iconst 0, 0, 0, .int 0), (.istore 9, 0, 0, .null)] (L := [some (.ref 26), some (.int (p1)), some (.int (p2)), some (.int (p3)), some (.int (p4)), some (.int (l5)), some (.int (l6)), some (.int (l7)), none, none]) (st := []) (L' := [some (.ref 26), some (.int (p1)), some (.int (p2)), some (.int (p3)), some (.int (p4)), some (.int (l5)), some (.int (l6)), some (.int (l7)), some (.int ((1 : Int32))), some (.int ((0 : Int32)))]) (st' := []) (g' := g) (w' := w) (cl := []) (by decide +kernel) rfl trivial ?_
        refine B_X8_slams_71 x C0 hR w F g p1 p2 p3 p4 R _ ?_ F (l5) (l6) (l7) ((1 : Int32)) ((0 : Int32)) hf
        · intro l5 l6 l7 l8 hf
          exact B_X8_slams_125 x C0 hR w F g p1 p2 p3 p4 R _ _ (fun l5 l6 l7 hf => ih l5 l6 l7 hf) hk160 (l5) (l6) (l7) (l8) hf
def f_X8_slams (F : Nat) (g : am_G) (p1 : Int32) (p2 : Int32) (p3 : Int32) (p4 : Int32) : Option (Int32) :=
  (f_X8_isWindow g p1).bind fun q16 =>
    if q16 = 0 then
      some ((-1 : Int32))
    else
      (f_X8_in (Int32.toInt64 p2) (0 : Int64) (3 : Int64)).bind fun q17 =>
        if q17 = 0 then
          some ((-2 : Int32))
        else
          (f_X8_in (Int32.toInt64 p3) (0 : Int64) (10 : Int64)).bind fun q18 =>
            if q18 = 0 then
              some ((-2 : Int32))
            else
              f_X8_slams_46 F g p1 p2 p3 p4 (fun l5 l6 => f_X8_slams_160 F g p1 p2 p3 p4 (l5) (l6)) F ((0 : Int32)) ((0 : Int32)) ((0 : Int32))
set_option maxRecDepth 20000 in
theorem M_X8_slams (l : Launch) (F : Nat) (g : am_G) (w : am_J) (p1 : Int32) (p2 : Int32) (p3 : Int32) (p4 : Int32) (R : Int32) (hf : f_X8_slams F g p1 p2 p3 p4 = some R) : am_Met l mi_X8_slams rm_X8_slams [.ref 26, .int p1, .int p2, .int p3, .int p4] am_YY g w (some (.int R)) am_YY g w := by
  refine am_met (own := 8) [some (.ref 26), some (.int (p1)), some (.int (p2)), some (.int (p3)), some (.int (p4)), none, none, none, none, none] (by decide) rfl rfl (by first | decide | exact Nat.le_of_ble_eq_true rfl) (fun x C0 hR hl hnm => ?_)
  unfold f_X8_slams at hf
  refine am_b1 C0 am_YYk (pc := 0) (pc2 := 2) [(.aload_n 0, 0, 0, .null), (.iload_n 1, 0, 0, .null)] (L := [some (.ref 26), some (.int (p1)), some (.int (p2)), some (.int (p3)), some (.int (p4)), none, none, none, none, none]) (st := []) (L' := [some (.ref 26), some (.int (p1)), some (.int (p2)), some (.int (p3)), some (.int (p4)), none, none, none, none, none]) (st' := [.int (p1), .ref 26]) (g' := g) (w' := w) (cl := []) (by decide +kernel) rfl trivial ?_
  obtain ⟨q16, hq16, hf⟩ := Option.bind_eq_some_iff.mp hf
  refine am_callV (mi := mi_X8_isWindow) (rm := rm_X8_isWindow) [.int (p1)] C0.1 am_YYl cv_8_125 (M_X8_isWindow _ g w p1 _ hq16) (ci := 8) rfl (by decide) rfl (by rw [hR]; rfl) rfl rfl (Nat.le_of_ble_eq_true rfl) (by decide +kernel) ?_
  refine am_if_ne C0 (off := 5) (tgt := 10) (by decide +kernel) (fun hc21 => ?_) (fun hc21 => ?_)
  · rw [if_neg hc21] at hf
    refine am_b1 C0 am_YYk (pc := 10) (pc2 := 16) [(.iload_n 2, 0, 0, .null), (.i2l, 0, 0, .null), (.lconst 0, 0, 0, .long 0), (.ldc2_w 135, 0, 0, .long 3)] (L := [some (.ref 26), some (.int (p1)), some (.int (p2)), some (.int (p3)), some (.int (p4)), none, none, none, none, none]) (st := []) (L' := [some (.ref 26), some (.int (p1)), some (.int (p2)), some (.int (p3)), some (.int (p4)), none, none, none, none, none]) (st' := [.long ((3 : Int64)), .long ((0 : Int64)), .long (Int32.toInt64 p2)]) (g' := g) (w' := w) (cl := []) (by decide +kernel) rfl trivial ?_
    obtain ⟨q17, hq17, hf⟩ := Option.bind_eq_some_iff.mp hf
    refine am_callS (mi := mi_X8_in) (rm := rm_X8_in) [.long (Int32.toInt64 p2), .long ((0 : Int64)), .long ((3 : Int64))] C0.1 cv_8_65 (M_X8_in _ g w (Int32.toInt64 p2) (0 : Int64) (3 : Int64) _ hq17) (by rw [hR]; rfl) rfl rfl (Nat.le_of_ble_eq_true rfl) (by decide +kernel) ?_
    refine am_if_eq C0 (off := 15) (tgt := 34) (by decide +kernel) (fun hc20 => ?_) (fun hc20 => ?_)
    · rw [if_pos hc20] at hf
      refine am_b1 C0 am_YYk (pc := 34) (pc2 := 36) [(.bipush (-2), 0, 0, .int (-2))] (L := [some (.ref 26), some (.int (p1)), some (.int (p2)), some (.int (p3)), some (.int (p4)), none, none, none, none, none]) (st := []) (L' := [some (.ref 26), some (.int (p1)), some (.int (p2)), some (.int (p3)), some (.int (p4)), none, none, none, none, none]) (st' := [.int ((-2 : Int32))]) (g' := g) (w' := w) (cl := []) (by decide +kernel) rfl trivial ?_
      cases hf
      exact am_iret C0 (by decide +kernel)
    · rw [if_neg hc20] at hf
      refine am_b1 C0 am_YYk (pc := 22) (pc2 := 28) [(.iload_n 3, 0, 0, .null), (.i2l, 0, 0, .null), (.lconst 0, 0, 0, .long 0), (.ldc2_w 179, 0, 0, .long 10)] (L := [some (.ref 26), some (.int (p1)), some (.int (p2)), some (.int (p3)), some (.int (p4)), none, none, none, none, none]) (st := []) (L' := [some (.ref 26), some (.int (p1)), some (.int (p2)), some (.int (p3)), some (.int (p4)), none, none, none, none, none]) (st' := [.long ((10 : Int64)), .long ((0 : Int64)), .long (Int32.toInt64 p3)]) (g' := g) (w' := w) (cl := []) (by decide +kernel) rfl trivial ?_
      obtain ⟨q18, hq18, hf⟩ := Option.bind_eq_some_iff.mp hf
      refine am_callS (mi := mi_X8_in) (rm := rm_X8_in) [.long (Int32.toInt64 p3), .long ((0 : Int64)), .long ((10 : Int64))] C0.1 cv_8_65 (M_X8_in _ g w (Int32.toInt64 p3) (0 : Int64) (10 : Int64) _ hq18) (by rw [hR]; rfl) rfl rfl (Nat.le_of_ble_eq_true rfl) (by decide +kernel) ?_
      refine am_if_ne C0 (off := 6) (tgt := 37) (by decide +kernel) (fun hc19 => ?_) (fun hc19 => ?_)
      · rw [if_neg hc19] at hf
        refine am_b1 C0 am_YYk (pc := 37) (pc2 := 46) [(.iconst 0, 0, 0, .int 0), (.istore 5, 0, 0, .null), (.iconst 0, 0, 0, .int 0), (.istore 6, 0, 0, .null), (.iconst 0, 0, 0, .int 0), (.istore 7, 0, 0, .null)] (L := [some (.ref 26), some (.int (p1)), some (.int (p2)), some (.int (p3)), some (.int (p4)), none, none, none, none, none]) (st := []) (L' := [some (.ref 26), some (.int (p1)), some (.int (p2)), some (.int (p3)), some (.int (p4)), some (.int ((0 : Int32))), some (.int ((0 : Int32))), some (.int ((0 : Int32))), none, none]) (st' := []) (g' := g) (w' := w) (cl := []) (by decide +kernel) rfl trivial ?_
        refine B_X8_slams_46 x C0 hR w F g p1 p2 p3 p4 R _ ?_ F ((0 : Int32)) ((0 : Int32)) ((0 : Int32)) hf
        · intro l5 l6 hf
          exact B_X8_slams_160 x C0 hR w F g p1 p2 p3 p4 R  (l5) (l6) hf
      · rw [if_pos hc19] at hf
        refine am_b1 C0 am_YYk (pc := 34) (pc2 := 36) [(.bipush (-2), 0, 0, .int (-2))] (L := [some (.ref 26), some (.int (p1)), some (.int (p2)), some (.int (p3)), some (.int (p4)), none, none, none, none, none]) (st := []) (L' := [some (.ref 26), some (.int (p1)), some (.int (p2)), some (.int (p3)), some (.int (p4)), none, none, none, none, none]) (st' := [.int ((-2 : Int32))]) (g' := g) (w' := w) (cl := []) (by decide +kernel) rfl trivial ?_
        cases hf
        exact am_iret C0 (by decide +kernel)
  · rw [if_pos hc21] at hf
    refine am_b1 C0 am_YYk (pc := 8) (pc2 := 9) [(.iconst (-1), 0, 0, .int (-1))] (L := [some (.ref 26), some (.int (p1)), some (.int (p2)), some (.int (p3)), some (.int (p4)), none, none, none, none, none]) (st := []) (L' := [some (.ref 26), some (.int (p1)), some (.int (p2)), some (.int (p3)), some (.int (p4)), none, none, none, none, none]) (st' := [.int ((-1 : Int32))]) (g' := g) (w' := w) (cl := []) (by decide +kernel) rfl trivial ?_
    cases hf
    exact am_iret C0 (by decide +kernel)
/-! ShutterTownModel.seed(J)J at (26,) -/
def f_X8_seed (w : am_J) (p1 : Int64) : Option (Int64 × am_J) :=
  some (w 26 28, am_ul w 26 28 p1)
set_option maxRecDepth 20000 in
theorem M_X8_seed (l : Launch) (g : am_G) (w : am_J) (p1 : Int64) (R : Int64 × am_J) (hf : f_X8_seed w p1 = some R) : am_Met l mi_X8_seed rm_X8_seed [.ref 26, .long p1] am_YY g w (some (.long R.1)) am_YY g (R.2) := by
  refine am_met (own := 8) [some (.ref 26), some (.long (p1)), none, none, none] (by decide) rfl rfl (by first | decide | exact Nat.le_of_ble_eq_true rfl) (fun x C0 hR hl hnm => ?_)
  unfold f_X8_seed at hf
  refine am_b1 C0 am_YYk (pc := 0) (pc2 := 11) [(.aload_n 0, 0, 0, .null), (.getfield 233, 8, 28, .null), (.lstore_n 3, 0, 0, .null), (.aload_n 0, 0, 0, .null), (.lload_n 1, 0, 0, .null), (.putfield 233, 8, 28, .null), (.lload_n 3, 0, 0, .null)] (L := [some (.ref 26), some (.long (p1)), none, none, none]) (st := []) (L' := [some (.ref 26), some (.long (p1)), none, some (.long (w 26 28)), none]) (st' := [.long (w 26 28)]) (g' := g) (w' := am_ul w 26 28 p1) (cl := []) (by decide +kernel) rfl trivial ?_
  cases hf
  exact am_lret C0 (by decide +kernel)
/-! ShutterTownModel.afternoons(I)I at (26,) -/
def f_X8_afternoons_78 (F : Nat) (p1 : Int32)  (g : am_G) (w : am_J) : Option (Int32 × am_G × am_J) :=
  (f_X8_alike F g (1 : Int32)).bind fun q1 =>
    some (q1, g, w)
set_option maxRecDepth 20000 in
theorem B_X8_afternoons_78 (x : am_X) (C0 : am_Cm x 8 cX8_afternoons 4 (some .int)) (hR : am_R x = rm_X8_afternoons) (F : Nat) (p1 : Int32) (R : Int32 × am_G × am_J)   (g : am_G) (w : am_J) (hf : f_X8_afternoons_78 F p1 g w = some R) : am_Ev x 4 (0, 0) (am_Q x (0, 0) (some (.int R.1)) am_YY (R.2.1) (R.2.2)) 78 [some (.ref 26), some (.int (p1)), none, none] [] am_YY g w := by
  unfold f_X8_afternoons_78 at hf
  refine am_b1 C0 am_YYk (pc := 78) (pc2 := 80) [(.aload_n 0, 0, 0, .null), (.iconst 1, 0, 0, .int 1)] (L := [some (.ref 26), some (.int (p1)), none, none]) (st := []) (L' := [some (.ref 26), some (.int (p1)), none, none]) (st' := [.int ((1 : Int32)), .ref 26]) (g' := g) (w' := w) (cl := []) (by decide +kernel) rfl trivial ?_
  obtain ⟨q1, hq1, hf⟩ := Option.bind_eq_some_iff.mp hf
  refine am_callV (mi := mi_X8_alike) (rm := rm_X8_alike) [.int ((1 : Int32))] C0.1 am_YYl cv_8_195 (M_X8_alike _ F g w (1 : Int32) _ hq1) (ci := 8) rfl (by decide) rfl (by rw [hR]; rfl) rfl rfl (Nat.le_of_ble_eq_true rfl) (by decide +kernel) ?_
  cases hf
  exact am_iret C0 (by decide +kernel)
def f_X8_afternoons_55 (F : Nat) (p1 : Int32) (k21 : Int32 → am_G → am_J → Option (Int32 × am_G × am_J)) (k78 : am_G → am_J → Option (Int32 × am_G × am_J)) (l2 : Int32) (l3 : Int32) (g : am_G) (w : am_J) : Option (Int32 × am_G × am_J) :=
  (f_X8_tryMove g (l3 / (4 : Int32)) (l3 - l3 / (4 : Int32) * (4 : Int32))).bind fun q2 =>
    (f_X8_windOn F q2.2 (1 : Int32)).bind fun q3 =>
      k21 (l2 + (1 : Int32)) (q3.2) (w)
set_option maxRecDepth 20000 in
theorem B_X8_afternoons_55 (x : am_X) (C0 : am_Cm x 8 cX8_afternoons 4 (some .int)) (hR : am_R x = rm_X8_afternoons) (F : Nat) (p1 : Int32) (R : Int32 × am_G × am_J) (k21 : Int32 → am_G → am_J → Option (Int32 × am_G × am_J)) (k78 : am_G → am_J → Option (Int32 × am_G × am_J)) (hk21 : ∀ (l2 : Int32) (g : am_G) (w : am_J), k21 l2 g w = some R → am_Ev x 4 (0, 0) (am_Q x (0, 0) (some (.int R.1)) am_YY (R.2.1) (R.2.2)) 21 [some (.ref 26), some (.int (p1)), some (.int (l2)), none] [] am_YY g w) (hk78 : ∀ (g : am_G) (w : am_J), k78 g w = some R → am_Ev x 4 (0, 0) (am_Q x (0, 0) (some (.int R.1)) am_YY (R.2.1) (R.2.2)) 78 [some (.ref 26), some (.int (p1)), none, none] [] am_YY g w) (l2 : Int32) (l3 : Int32) (g : am_G) (w : am_J) (hf : f_X8_afternoons_55 F p1 k21 k78 l2 l3 g w = some R) : am_Ev x 4 (0, 0) (am_Q x (0, 0) (some (.int R.1)) am_YY (R.2.1) (R.2.2)) 55 [some (.ref 26), some (.int (p1)), some (.int (l2)), some (.int (l3))] [] am_YY g w := by
  unfold f_X8_afternoons_55 at hf
  refine am_b1 C0 am_YYk (pc := 55) (pc2 := 62) [(.aload_n 0, 0, 0, .null), (.iload_n 3, 0, 0, .null), (.iconst 4, 0, 0, .int 4), (.idiv, 0, 0, .null), (.iload_n 3, 0, 0, .null), (.iconst 4, 0, 0, .int 4), (.irem, 0, 0, .null)] (L := [some (.ref 26), some (.int (p1)), some (.int (l2)), some (.int (l3))]) (st := []) (L' := [some (.ref 26), some (.int (p1)), some (.int (l2)), some (.int (l3))]) (st' := [.int (l3 - l3 / (4 : Int32) * (4 : Int32)), .int (l3 / (4 : Int32)), .ref 26]) (g' := g) (w' := w) (cl := [¬ (4 : Int32) = 0, ¬ (4 : Int32) = 0]) (by decide +kernel) rfl ⟨by decide, by decide, trivial⟩ ?_
  obtain ⟨q2, hq2, hf⟩ := Option.bind_eq_some_iff.mp hf
  refine am_callV (mi := mi_X8_tryMove) (rm := rm_X8_tryMove) [.int (l3 / (4 : Int32)), .int (l3 - l3 / (4 : Int32) * (4 : Int32))] C0.1 am_YYl cv_8_192 (M_X8_tryMove _ g w (l3 / (4 : Int32)) (l3 - l3 / (4 : Int32) * (4 : Int32)) _ hq2) (ci := 8) rfl (by decide) rfl (by rw [hR]; rfl) rfl rfl (Nat.le_of_ble_eq_true rfl) (by decide +kernel) ?_
  refine am_b1 C0 am_YYk (pc := 65) (pc2 := 68) [(.pop, 0, 0, .null), (.aload_n 0, 0, 0, .null), (.iconst 1, 0, 0, .int 1)] (L := [some (.ref 26), some (.int (p1)), some (.int (l2)), some (.int (l3))]) (st := [.int (q2.1)]) (L' := [some (.ref 26), some (.int (p1)), some (.int (l2)), some (.int (l3))]) (st' := [.int ((1 : Int32)), .ref 26]) (g' := q2.2) (w' := w) (cl := []) (by decide +kernel) rfl trivial ?_
  obtain ⟨q3, hq3, hf⟩ := Option.bind_eq_some_iff.mp hf
  refine am_callV (mi := mi_X8_windOn) (rm := rm_X8_windOn) [.int ((1 : Int32))] C0.1 am_YYl cv_8_140 (M_X8_windOn _ F q2.2 w (1 : Int32) _ hq3) (ci := 8) rfl (by decide) rfl (by rw [hR]; rfl) rfl rfl (Nat.le_of_ble_eq_true rfl) (by decide +kernel) ?_
  refine am_b1 C0 am_YYk (pc := 71) (pc2 := 75) [(.pop, 0, 0, .null), (.iinc 2 1, 0, 0, .int 1)] (L := [some (.ref 26), some (.int (p1)), some (.int (l2)), some (.int (l3))]) (st := [.int (q3.1)]) (L' := [some (.ref 26), some (.int (p1)), some (.int (l2 + (1 : Int32))), some (.int (l3))]) (st' := []) (g' := q3.2) (w' := w) (cl := []) (by decide +kernel) rfl trivial ?_
  refine am_goto C0 (off := (-54)) (tgt := 21) (by decide +kernel) ?_
  refine am_wk [some (.ref 26), some (.int (p1)), some (.int (l2 + (1 : Int32))), none] ⟨rfl, rfl, rfl, trivial⟩ rfl ?_
  exact hk21 (l2 + (1 : Int32)) (q3.2) (w) hf
def f_X8_afternoons_21 (F : Nat) (p1 : Int32) (k78 : am_G → am_J → Option (Int32 × am_G × am_J)) : Nat → Int32 → am_G → am_J → Option (Int32 × am_G × am_J)
  | 0, _, _, _ => none
  | n + 1, l2, g, w =>
    if p1 ≤ l2 then
      k78 (g) (w)
    else
      f_X8_afternoons_55 F p1 (fun l2 g w => f_X8_afternoons_21 F p1 k78 n l2 g w) k78 (l2) (Int64.toInt32 ((am_lushr ((am_ul w 26 28 (((w 26 28) * (6364136223846793005 : Int64)) + (1442695040888963407 : Int64))) 26 28) (33 : Int32)) - (am_lushr ((am_ul w 26 28 (((w 26 28) * (6364136223846793005 : Int64)) + (1442695040888963407 : Int64))) 26 28) (33 : Int32)) / (32 : Int64) * (32 : Int64))) (g) (am_ul w 26 28 (((w 26 28) * (6364136223846793005 : Int64)) + (1442695040888963407 : Int64)))
set_option maxRecDepth 20000 in
theorem B_X8_afternoons_21 (x : am_X) (C0 : am_Cm x 8 cX8_afternoons 4 (some .int)) (hR : am_R x = rm_X8_afternoons) (F : Nat) (p1 : Int32) (R : Int32 × am_G × am_J) (k78 : am_G → am_J → Option (Int32 × am_G × am_J)) (hk78 : ∀ (g : am_G) (w : am_J), k78 g w = some R → am_Ev x 4 (0, 0) (am_Q x (0, 0) (some (.int R.1)) am_YY (R.2.1) (R.2.2)) 78 [some (.ref 26), some (.int (p1)), none, none] [] am_YY g w) : ∀ (n : Nat) (l2 : Int32) (g : am_G) (w : am_J), f_X8_afternoons_21 F p1 k78 n l2 g w = some R → am_Ev x 4 (0, 0) (am_Q x (0, 0) (some (.int R.1)) am_YY (R.2.1) (R.2.2)) 21 [some (.ref 26), some (.int (p1)), some (.int (l2)), none] [] am_YY g w := by
  intro n
  induction n with
  | zero => intro l2 g w hf; cases hf
  | succ n ih =>
    intro l2 g w hf
    rw [f_X8_afternoons_21.eq_2] at hf
    refine am_b1 C0 am_YYk (pc := 21) (pc2 := 23) [(.iload_n 2, 0, 0, .null), (.iload_n 1, 0, 0, .null)] (L := [some (.ref 26), some (.int (p1)), some (.int (l2)), none]) (st := []) (L' := [some (.ref 26), some (.int (p1)), some (.int (l2)), none]) (st' := [.int (p1), .int (l2)]) (g' := g) (w' := w) (cl := []) (by decide +kernel) rfl trivial ?_
    refine am_icmp_ge C0 (off := 55) (tgt := 78) (by decide +kernel) (fun hc4 => ?_) (fun hc4 => ?_)
    · rw [if_pos hc4] at hf
      refine am_wk [some (.ref 26), some (.int (p1)), none, none] ⟨rfl, rfl, trivial⟩ rfl ?_
      exact hk78 (g) (w) hf
    · rw [if_neg hc4] at hf
      refine am_b1 C0 am_YYk (pc := 26) (pc2 := 55) [(.aload_n 0, 0, 0, .null), (.aload_n 0, 0, 0, .null), (.getfield 233, 8, 28, .null), (.ldc2_w 239, 0, 0, .long 6364136223846793005), (.lmul, 0, 0, .null), (.ldc2_w 241, 0, 0, .long 1442695040888963407), (.ladd, 0, 0, .null), (.putfield 233, 8, 28, .null), (.aload_n 0, 0, 0, .null), (.getfield 233, 8, 28, .null), (.bipush 33, 0, 0, .int 33), (.lushr, 0, 0, .null), (.ldc2_w 243, 0, 0, .long 32), (.lrem, 0, 0, .null), (.l2i, 0, 0, .null), (.istore_n 3, 0, 0, .null)] (L := [some (.ref 26), some (.int (p1)), some (.int (l2)), none]) (st := []) (L' := [some (.ref 26), some (.int (p1)), some (.int (l2)), some (.int (Int64.toInt32 ((am_lushr ((am_ul w 26 28 (((w 26 28) * (6364136223846793005 : Int64)) + (1442695040888963407 : Int64))) 26 28) (33 : Int32)) - (am_lushr ((am_ul w 26 28 (((w 26 28) * (6364136223846793005 : Int64)) + (1442695040888963407 : Int64))) 26 28) (33 : Int32)) / (32 : Int64) * (32 : Int64))))]) (st' := []) (g' := g) (w' := am_ul w 26 28 (((w 26 28) * (6364136223846793005 : Int64)) + (1442695040888963407 : Int64))) (cl := [¬ (32 : Int64) = 0]) (by decide +kernel) rfl ⟨by decide, trivial⟩ ?_
      exact B_X8_afternoons_55 x C0 hR F p1 R _ _ (fun l2 g w hf => ih l2 g w hf) hk78 (l2) (Int64.toInt32 ((am_lushr ((am_ul w 26 28 (((w 26 28) * (6364136223846793005 : Int64)) + (1442695040888963407 : Int64))) 26 28) (33 : Int32)) - (am_lushr ((am_ul w 26 28 (((w 26 28) * (6364136223846793005 : Int64)) + (1442695040888963407 : Int64))) 26 28) (33 : Int32)) / (32 : Int64) * (32 : Int64))) (g) (am_ul w 26 28 (((w 26 28) * (6364136223846793005 : Int64)) + (1442695040888963407 : Int64))) hf
def f_X8_afternoons (F : Nat) (g : am_G) (w : am_J) (p1 : Int32) : Option (Int32 × am_G × am_J) :=
  (f_X8_in (Int32.toInt64 p1) (1 : Int64) (30 : Int64)).bind fun q5 =>
    if q5 = 0 then
      some ((-2 : Int32), g, w)
    else
      (f_X8_layTrial F g).bind fun q6 =>
        f_X8_afternoons_21 F p1 (fun g w => f_X8_afternoons_78 F p1 (g) (w)) F ((0 : Int32)) (q6) (w)
set_option maxRecDepth 20000 in
theorem M_X8_afternoons (l : Launch) (F : Nat) (g : am_G) (w : am_J) (p1 : Int32) (R : Int32 × am_G × am_J) (hf : f_X8_afternoons F g w p1 = some R) : am_Met l mi_X8_afternoons rm_X8_afternoons [.ref 26, .int p1] am_YY g w (some (.int R.1)) am_YY (R.2.1) (R.2.2) := by
  refine am_met (own := 8) [some (.ref 26), some (.int (p1)), none, none] (by decide) rfl rfl (by first | decide | exact Nat.le_of_ble_eq_true rfl) (fun x C0 hR hl hnm => ?_)
  unfold f_X8_afternoons at hf
  refine am_b1 C0 am_YYk (pc := 0) (pc2 := 6) [(.iload_n 1, 0, 0, .null), (.i2l, 0, 0, .null), (.lconst 1, 0, 0, .long 1), (.ldc2_w 237, 0, 0, .long 30)] (L := [some (.ref 26), some (.int (p1)), none, none]) (st := []) (L' := [some (.ref 26), some (.int (p1)), none, none]) (st' := [.long ((30 : Int64)), .long ((1 : Int64)), .long (Int32.toInt64 p1)]) (g' := g) (w' := w) (cl := []) (by decide +kernel) rfl trivial ?_
  obtain ⟨q5, hq5, hf⟩ := Option.bind_eq_some_iff.mp hf
  refine am_callS (mi := mi_X8_in) (rm := rm_X8_in) [.long (Int32.toInt64 p1), .long ((1 : Int64)), .long ((30 : Int64))] C0.1 cv_8_65 (M_X8_in _ g w (Int32.toInt64 p1) (1 : Int64) (30 : Int64) _ hq5) (by rw [hR]; rfl) rfl rfl (Nat.le_of_ble_eq_true rfl) (by decide +kernel) ?_
  refine am_if_ne C0 (off := 6) (tgt := 15) (by decide +kernel) (fun hc7 => ?_) (fun hc7 => ?_)
  · rw [if_neg hc7] at hf
    refine am_b1 C0 am_YYk (pc := 15) (pc2 := 16) [(.aload_n 0, 0, 0, .null)] (L := [some (.ref 26), some (.int (p1)), none, none]) (st := []) (L' := [some (.ref 26), some (.int (p1)), none, none]) (st' := [.ref 26]) (g' := g) (w' := w) (cl := []) (by decide +kernel) rfl trivial ?_
    obtain ⟨q6, hq6, hf⟩ := Option.bind_eq_some_iff.mp hf
    refine am_callV (mi := mi_X8_layTrial) (rm := rm_X8_layTrial) [] C0.1 am_YYl cv_8_187 (M_X8_layTrial _ F g w _ hq6) (ci := 8) rfl (by decide) rfl (by rw [hR]; rfl) rfl rfl (Nat.le_of_ble_eq_true rfl) (by decide +kernel) ?_
    refine am_b1 C0 am_YYk (pc := 19) (pc2 := 21) [(.iconst 0, 0, 0, .int 0), (.istore_n 2, 0, 0, .null)] (L := [some (.ref 26), some (.int (p1)), none, none]) (st := []) (L' := [some (.ref 26), some (.int (p1)), some (.int ((0 : Int32))), none]) (st' := []) (g' := q6) (w' := w) (cl := []) (by decide +kernel) rfl trivial ?_
    refine B_X8_afternoons_21 x C0 hR F p1 R _ ?_ F ((0 : Int32)) (q6) (w) hf
    · intro g w hf
      exact B_X8_afternoons_78 x C0 hR F p1 R  (g) (w) hf
  · rw [if_pos hc7] at hf
    refine am_b1 C0 am_YYk (pc := 12) (pc2 := 14) [(.bipush (-2), 0, 0, .int (-2))] (L := [some (.ref 26), some (.int (p1)), none, none]) (st := []) (L' := [some (.ref 26), some (.int (p1)), none, none]) (st' := [.int ((-2 : Int32))]) (g' := g) (w' := w) (cl := []) (by decide +kernel) rfl trivial ?_
    cases hf
    exact am_iret C0 (by decide +kernel)
/-! ShutterTownModel.keep(I)I at (26,) -/
def f_X8_keep_50 (F : Nat) (p1 : Int32)  (g : am_G) : Option (Int32 × am_G) :=
  some (g 32 (Int32.toNatClampNeg (12 : Int32)), g)
set_option maxRecDepth 20000 in
theorem B_X8_keep_50 (x : am_X) (C0 : am_Cm x 8 cX8_keep 3 (some .int)) (hR : am_R x = rm_X8_keep) (w : am_J) (F : Nat) (p1 : Int32) (R : Int32 × am_G)   (g : am_G) (hf : f_X8_keep_50 F p1 g = some R) : am_Ev x 3 (0, 0) (am_Q x (0, 0) (some (.int R.1)) am_YY (R.2) w) 50 [some (.ref 26), some (.int (p1)), none] [] am_YY g w := by
  unfold f_X8_keep_50 at hf
  refine am_b1 C0 am_YYk (pc := 50) (pc2 := 57) [(.aload_n 0, 0, 0, .null), (.getfield 25, 8, 7, .null), (.bipush 12, 0, 0, .int 12), (.iaload, 0, 0, .null)] (L := [some (.ref 26), some (.int (p1)), none]) (st := []) (L' := [some (.ref 26), some (.int (p1)), none]) (st' := [.int (g 32 (Int32.toNatClampNeg (12 : Int32)))]) (g' := g) (w' := w) (cl := [am_in (12 : Int32) 26]) (by decide +kernel) rfl ⟨by decide, trivial⟩ ?_
  cases hf
  exact am_iret C0 (by decide +kernel)
def f_X8_keep_21 (F : Nat) (p1 : Int32) (k50 : am_G → Option (Int32 × am_G)) : Nat → Int32 → am_G → Option (Int32 × am_G)
  | 0, _, _ => none
  | n + 1, l2, g =>
    if (13 : Int32) ≤ l2 then
      k50 (g)
    else
      if am_in l2 26 then
        if am_in (((13 : Int32) * p1) + l2) 26 then
          f_X8_keep_21 F p1 k50 n (l2 + (1 : Int32)) (am_u g 42 (Int32.toNatClampNeg (((13 : Int32) * p1) + l2)) (g 32 (Int32.toNatClampNeg l2)))
        else none
      else none
set_option maxRecDepth 20000 in
theorem B_X8_keep_21 (x : am_X) (C0 : am_Cm x 8 cX8_keep 3 (some .int)) (hR : am_R x = rm_X8_keep) (w : am_J) (F : Nat) (p1 : Int32) (R : Int32 × am_G) (k50 : am_G → Option (Int32 × am_G)) (hk50 : ∀ (g : am_G), k50 g = some R → am_Ev x 3 (0, 0) (am_Q x (0, 0) (some (.int R.1)) am_YY (R.2) w) 50 [some (.ref 26), some (.int (p1)), none] [] am_YY g w) : ∀ (n : Nat) (l2 : Int32) (g : am_G), f_X8_keep_21 F p1 k50 n l2 g = some R → am_Ev x 3 (0, 0) (am_Q x (0, 0) (some (.int R.1)) am_YY (R.2) w) 21 [some (.ref 26), some (.int (p1)), some (.int (l2))] [] am_YY g w := by
  intro n
  induction n with
  | zero => intro l2 g hf; cases hf
  | succ n ih =>
    intro l2 g hf
    rw [f_X8_keep_21.eq_2] at hf
    refine am_b1 C0 am_YYk (pc := 21) (pc2 := 24) [(.iload_n 2, 0, 0, .null), (.bipush 13, 0, 0, .int 13)] (L := [some (.ref 26), some (.int (p1)), some (.int (l2))]) (st := []) (L' := [some (.ref 26), some (.int (p1)), some (.int (l2))]) (st' := [.int ((13 : Int32)), .int (l2)]) (g' := g) (w' := w) (cl := []) (by decide +kernel) rfl trivial ?_
    refine am_icmp_ge C0 (off := 26) (tgt := 50) (by decide +kernel) (fun hc3 => ?_) (fun hc3 => ?_)
    · rw [if_pos hc3] at hf
      refine am_wk [some (.ref 26), some (.int (p1)), none] ⟨rfl, rfl, trivial⟩ rfl ?_
      exact hk50 (g) hf
    · rw [if_neg hc3] at hf
      obtain ⟨hg1, hf⟩ := am_g hf
      obtain ⟨hg2, hf⟩ := am_g hf
      refine am_b1 C0 am_YYk (pc := 27) (pc2 := 47) [(.aload_n 0, 0, 0, .null), (.getfield 56, 8, 30, .null), (.bipush 13, 0, 0, .int 13), (.iload_n 1, 0, 0, .null), (.imul, 0, 0, .null), (.iload_n 2, 0, 0, .null), (.iadd, 0, 0, .null), (.aload_n 0, 0, 0, .null), (.getfield 25, 8, 7, .null), (.iload_n 2, 0, 0, .null), (.iaload, 0, 0, .null), (.iastore, 0, 0, .null), (.iinc 2 1, 0, 0, .int 1)] (L := [some (.ref 26), some (.int (p1)), some (.int (l2))]) (st := []) (L' := [some (.ref 26), some (.int (p1)), some (.int (l2 + (1 : Int32)))]) (st' := []) (g' := am_u g 42 (Int32.toNatClampNeg (((13 : Int32) * p1) + l2)) (g 32 (Int32.toNatClampNeg l2))) (w' := w) (cl := [am_in l2 26, am_in (((13 : Int32) * p1) + l2) 26]) (by decide +kernel) rfl ⟨hg1, hg2, trivial⟩ ?_
      refine am_goto C0 (off := (-26)) (tgt := 21) (by decide +kernel) ?_
      exact ih (l2 + (1 : Int32)) (am_u g 42 (Int32.toNatClampNeg (((13 : Int32) * p1) + l2)) (g 32 (Int32.toNatClampNeg l2))) hf
def f_X8_keep (F : Nat) (g : am_G) (p1 : Int32) : Option (Int32 × am_G) :=
  (f_X8_in (Int32.toInt64 p1) (0 : Int64) (1 : Int64)).bind fun q4 =>
    if q4 = 0 then
      some ((-1 : Int32), g)
    else
      if am_in p1 2 then
        f_X8_keep_21 F p1 (fun g => f_X8_keep_50 F p1 (g)) F ((0 : Int32)) (am_u g 41 (Int32.toNatClampNeg p1) (vp_nar .boolean (1 : Int32)))
      else none
set_option maxRecDepth 20000 in
theorem M_X8_keep (l : Launch) (F : Nat) (g : am_G) (w : am_J) (p1 : Int32) (R : Int32 × am_G) (hf : f_X8_keep F g p1 = some R) : am_Met l mi_X8_keep rm_X8_keep [.ref 26, .int p1] am_YY g w (some (.int R.1)) am_YY (R.2) w := by
  refine am_met (own := 8) [some (.ref 26), some (.int (p1)), none] (by decide) rfl rfl (by first | decide | exact Nat.le_of_ble_eq_true rfl) (fun x C0 hR hl hnm => ?_)
  unfold f_X8_keep at hf
  refine am_b1 C0 am_YYk (pc := 0) (pc2 := 4) [(.iload_n 1, 0, 0, .null), (.i2l, 0, 0, .null), (.lconst 0, 0, 0, .long 0), (.lconst 1, 0, 0, .long 1)] (L := [some (.ref 26), some (.int (p1)), none]) (st := []) (L' := [some (.ref 26), some (.int (p1)), none]) (st' := [.long ((1 : Int64)), .long ((0 : Int64)), .long (Int32.toInt64 p1)]) (g' := g) (w' := w) (cl := []) (by decide +kernel) rfl trivial ?_
  obtain ⟨q4, hq4, hf⟩ := Option.bind_eq_some_iff.mp hf
  refine am_callS (mi := mi_X8_in) (rm := rm_X8_in) [.long (Int32.toInt64 p1), .long ((0 : Int64)), .long ((1 : Int64))] C0.1 cv_8_65 (M_X8_in _ g w (Int32.toInt64 p1) (0 : Int64) (1 : Int64) _ hq4) (by rw [hR]; rfl) rfl rfl (Nat.le_of_ble_eq_true rfl) (by decide +kernel) ?_
  refine am_if_ne C0 (off := 5) (tgt := 12) (by decide +kernel) (fun hc6 => ?_) (fun hc6 => ?_)
  · rw [if_neg hc6] at hf
    obtain ⟨hg5, hf⟩ := am_g hf
    refine am_b1 C0 am_YYk (pc := 12) (pc2 := 21) [(.aload_n 0, 0, 0, .null), (.getfield 53, 8, 29, .null), (.iload_n 1, 0, 0, .null), (.iconst 1, 0, 0, .int 1), (.bastore, 0, 0, .null), (.iconst 0, 0, 0, .int 0), (.istore_n 2, 0, 0, .null)] (L := [some (.ref 26), some (.int (p1)), none]) (st := []) (L' := [some (.ref 26), some (.int (p1)), some (.int ((0 : Int32)))]) (st' := []) (g' := am_u g 41 (Int32.toNatClampNeg p1) (vp_nar .boolean (1 : Int32))) (w' := w) (cl := [am_in p1 2]) (by decide +kernel) rfl ⟨hg5, trivial⟩ ?_
    refine B_X8_keep_21 x C0 hR w F p1 R _ ?_ F ((0 : Int32)) (am_u g 41 (Int32.toNatClampNeg p1) (vp_nar .boolean (1 : Int32))) hf
    · intro g hf
      exact B_X8_keep_50 x C0 hR w F p1 R  (g) hf
  · rw [if_pos hc6] at hf
    refine am_b1 C0 am_YYk (pc := 10) (pc2 := 11) [(.iconst (-1), 0, 0, .int (-1))] (L := [some (.ref 26), some (.int (p1)), none]) (st := []) (L' := [some (.ref 26), some (.int (p1)), none]) (st' := [.int ((-1 : Int32))]) (g' := g) (w' := w) (cl := []) (by decide +kernel) rfl trivial ?_
    cases hf
    exact am_iret C0 (by decide +kernel)
/-! ShutterTownModel.again(I)I at (26,) -/
def f_X8_again_55 (F : Nat) (p1 : Int32)  (g : am_G) : Option (Int32 × am_G) :=
  some ((am_u g 26 17 (0 : Int32)) 32 (Int32.toNatClampNeg (12 : Int32)), am_u g 26 17 (0 : Int32))
set_option maxRecDepth 20000 in
theorem B_X8_again_55 (x : am_X) (C0 : am_Cm x 8 cX8_again 3 (some .int)) (hR : am_R x = rm_X8_again) (w : am_J) (F : Nat) (p1 : Int32) (R : Int32 × am_G)   (g : am_G) (hf : f_X8_again_55 F p1 g = some R) : am_Ev x 3 (0, 0) (am_Q x (0, 0) (some (.int R.1)) am_YY (R.2) w) 55 [some (.ref 26), some (.int (p1)), none] [] am_YY g w := by
  unfold f_X8_again_55 at hf
  refine am_b1 C0 am_YYk (pc := 55) (pc2 := 67) [(.aload_n 0, 0, 0, .null), (.iconst 0, 0, 0, .int 0), (.putfield 114, 8, 17, .null), (.aload_n 0, 0, 0, .null), (.getfield 25, 8, 7, .null), (.bipush 12, 0, 0, .int 12), (.iaload, 0, 0, .null)] (L := [some (.ref 26), some (.int (p1)), none]) (st := []) (L' := [some (.ref 26), some (.int (p1)), none]) (st' := [.int ((am_u g 26 17 (0 : Int32)) 32 (Int32.toNatClampNeg (12 : Int32)))]) (g' := am_u g 26 17 (0 : Int32)) (w' := w) (cl := [am_in (12 : Int32) 26]) (by decide +kernel) rfl ⟨by decide, trivial⟩ ?_
  cases hf
  exact am_iret C0 (by decide +kernel)
def f_X8_again_26 (F : Nat) (p1 : Int32) (k55 : am_G → Option (Int32 × am_G)) : Nat → Int32 → am_G → Option (Int32 × am_G)
  | 0, _, _ => none
  | n + 1, l2, g =>
    if (13 : Int32) ≤ l2 then
      k55 (g)
    else
      if am_in (((13 : Int32) * p1) + l2) 26 then
        if am_in l2 26 then
          f_X8_again_26 F p1 k55 n (l2 + (1 : Int32)) (am_u g 32 (Int32.toNatClampNeg l2) (g 42 (Int32.toNatClampNeg (((13 : Int32) * p1) + l2))))
        else none
      else none
set_option maxRecDepth 20000 in
theorem B_X8_again_26 (x : am_X) (C0 : am_Cm x 8 cX8_again 3 (some .int)) (hR : am_R x = rm_X8_again) (w : am_J) (F : Nat) (p1 : Int32) (R : Int32 × am_G) (k55 : am_G → Option (Int32 × am_G)) (hk55 : ∀ (g : am_G), k55 g = some R → am_Ev x 3 (0, 0) (am_Q x (0, 0) (some (.int R.1)) am_YY (R.2) w) 55 [some (.ref 26), some (.int (p1)), none] [] am_YY g w) : ∀ (n : Nat) (l2 : Int32) (g : am_G), f_X8_again_26 F p1 k55 n l2 g = some R → am_Ev x 3 (0, 0) (am_Q x (0, 0) (some (.int R.1)) am_YY (R.2) w) 26 [some (.ref 26), some (.int (p1)), some (.int (l2))] [] am_YY g w := by
  intro n
  induction n with
  | zero => intro l2 g hf; cases hf
  | succ n ih =>
    intro l2 g hf
    rw [f_X8_again_26.eq_2] at hf
    refine am_b1 C0 am_YYk (pc := 26) (pc2 := 29) [(.iload_n 2, 0, 0, .null), (.bipush 13, 0, 0, .int 13)] (L := [some (.ref 26), some (.int (p1)), some (.int (l2))]) (st := []) (L' := [some (.ref 26), some (.int (p1)), some (.int (l2))]) (st' := [.int ((13 : Int32)), .int (l2)]) (g' := g) (w' := w) (cl := []) (by decide +kernel) rfl trivial ?_
    refine am_icmp_ge C0 (off := 26) (tgt := 55) (by decide +kernel) (fun hc3 => ?_) (fun hc3 => ?_)
    · rw [if_pos hc3] at hf
      refine am_wk [some (.ref 26), some (.int (p1)), none] ⟨rfl, rfl, trivial⟩ rfl ?_
      exact hk55 (g) hf
    · rw [if_neg hc3] at hf
      obtain ⟨hg1, hf⟩ := am_g hf
      obtain ⟨hg2, hf⟩ := am_g hf
      refine am_b1 C0 am_YYk (pc := 32) (pc2 := 52) [(.aload_n 0, 0, 0, .null), (.getfield 25, 8, 7, .null), (.iload_n 2, 0, 0, .null), (.aload_n 0, 0, 0, .null), (.getfield 56, 8, 30, .null), (.bipush 13, 0, 0, .int 13), (.iload_n 1, 0, 0, .null), (.imul, 0, 0, .null), (.iload_n 2, 0, 0, .null), (.iadd, 0, 0, .null), (.iaload, 0, 0, .null), (.iastore, 0, 0, .null), (.iinc 2 1, 0, 0, .int 1)] (L := [some (.ref 26), some (.int (p1)), some (.int (l2))]) (st := []) (L' := [some (.ref 26), some (.int (p1)), some (.int (l2 + (1 : Int32)))]) (st' := []) (g' := am_u g 32 (Int32.toNatClampNeg l2) (g 42 (Int32.toNatClampNeg (((13 : Int32) * p1) + l2)))) (w' := w) (cl := [am_in (((13 : Int32) * p1) + l2) 26, am_in l2 26]) (by decide +kernel) rfl ⟨hg1, hg2, trivial⟩ ?_
      refine am_goto C0 (off := (-26)) (tgt := 26) (by decide +kernel) ?_
      exact ih (l2 + (1 : Int32)) (am_u g 32 (Int32.toNatClampNeg l2) (g 42 (Int32.toNatClampNeg (((13 : Int32) * p1) + l2)))) hf
def f_X8_again (F : Nat) (g : am_G) (p1 : Int32) : Option (Int32 × am_G) :=
  (f_X8_in (Int32.toInt64 p1) (0 : Int64) (1 : Int64)).bind fun q4 =>
    if q4 = 0 then
      some ((-1 : Int32), g)
    else
      if am_in p1 2 then
        if (g 41 (Int32.toNatClampNeg p1)) = 0 then
          some ((-3 : Int32), g)
        else
          f_X8_again_26 F p1 (fun g => f_X8_again_55 F p1 (g)) F ((0 : Int32)) (g)
      else none
set_option maxRecDepth 20000 in
theorem M_X8_again (l : Launch) (F : Nat) (g : am_G) (w : am_J) (p1 : Int32) (R : Int32 × am_G) (hf : f_X8_again F g p1 = some R) : am_Met l mi_X8_again rm_X8_again [.ref 26, .int p1] am_YY g w (some (.int R.1)) am_YY (R.2) w := by
  refine am_met (own := 8) [some (.ref 26), some (.int (p1)), none] (by decide) rfl rfl (by first | decide | exact Nat.le_of_ble_eq_true rfl) (fun x C0 hR hl hnm => ?_)
  unfold f_X8_again at hf
  refine am_b1 C0 am_YYk (pc := 0) (pc2 := 4) [(.iload_n 1, 0, 0, .null), (.i2l, 0, 0, .null), (.lconst 0, 0, 0, .long 0), (.lconst 1, 0, 0, .long 1)] (L := [some (.ref 26), some (.int (p1)), none]) (st := []) (L' := [some (.ref 26), some (.int (p1)), none]) (st' := [.long ((1 : Int64)), .long ((0 : Int64)), .long (Int32.toInt64 p1)]) (g' := g) (w' := w) (cl := []) (by decide +kernel) rfl trivial ?_
  obtain ⟨q4, hq4, hf⟩ := Option.bind_eq_some_iff.mp hf
  refine am_callS (mi := mi_X8_in) (rm := rm_X8_in) [.long (Int32.toInt64 p1), .long ((0 : Int64)), .long ((1 : Int64))] C0.1 cv_8_65 (M_X8_in _ g w (Int32.toInt64 p1) (0 : Int64) (1 : Int64) _ hq4) (by rw [hR]; rfl) rfl rfl (Nat.le_of_ble_eq_true rfl) (by decide +kernel) ?_
  refine am_if_ne C0 (off := 5) (tgt := 12) (by decide +kernel) (fun hc7 => ?_) (fun hc7 => ?_)
  · rw [if_neg hc7] at hf
    obtain ⟨hg5, hf⟩ := am_g hf
    refine am_b1 C0 am_YYk (pc := 12) (pc2 := 18) [(.aload_n 0, 0, 0, .null), (.getfield 53, 8, 29, .null), (.iload_n 1, 0, 0, .null), (.baload, 0, 0, .null)] (L := [some (.ref 26), some (.int (p1)), none]) (st := []) (L' := [some (.ref 26), some (.int (p1)), none]) (st' := [.int (g 41 (Int32.toNatClampNeg p1))]) (g' := g) (w' := w) (cl := [am_in p1 2]) (by decide +kernel) rfl ⟨hg5, trivial⟩ ?_
    refine am_if_ne C0 (off := 6) (tgt := 24) (by decide +kernel) (fun hc6 => ?_) (fun hc6 => ?_)
    · rw [if_neg hc6] at hf
      refine am_b1 C0 am_YYk (pc := 24) (pc2 := 26) [(.iconst 0, 0, 0, .int 0), (.istore_n 2, 0, 0, .null)] (L := [some (.ref 26), some (.int (p1)), none]) (st := []) (L' := [some (.ref 26), some (.int (p1)), some (.int ((0 : Int32)))]) (st' := []) (g' := g) (w' := w) (cl := []) (by decide +kernel) rfl trivial ?_
      refine B_X8_again_26 x C0 hR w F p1 R _ ?_ F ((0 : Int32)) (g) hf
      · intro g hf
        exact B_X8_again_55 x C0 hR w F p1 R  (g) hf
    · rw [if_pos hc6] at hf
      refine am_b1 C0 am_YYk (pc := 21) (pc2 := 23) [(.bipush (-3), 0, 0, .int (-3))] (L := [some (.ref 26), some (.int (p1)), none]) (st := []) (L' := [some (.ref 26), some (.int (p1)), none]) (st' := [.int ((-3 : Int32))]) (g' := g) (w' := w) (cl := []) (by decide +kernel) rfl trivial ?_
      cases hf
      exact am_iret C0 (by decide +kernel)
  · rw [if_pos hc7] at hf
    refine am_b1 C0 am_YYk (pc := 10) (pc2 := 11) [(.iconst (-1), 0, 0, .int (-1))] (L := [some (.ref 26), some (.int (p1)), none]) (st := []) (L' := [some (.ref 26), some (.int (p1)), none]) (st' := [.int ((-1 : Int32))]) (g' := g) (w' := w) (cl := []) (by decide +kernel) rfl trivial ?_
    cases hf
    exact am_iret C0 (by decide +kernel)
/-! ShutterTownModel.count(I)I at (26,) -/
def f_X8_count_40 (F : Nat) (g : am_G) (p1 : Int32)  (l2 : Int32) : Option (Int32) :=
  if p1 = (0 : Int32) then
    some (g 26 14)
  else
  if p1 = (1 : Int32) then
    some (g 26 0)
  else
  if p1 = (2 : Int32) then
    some (g 26 1)
  else
  if p1 = (3 : Int32) then
    some (g 32 (Int32.toNatClampNeg (12 : Int32)))
  else
  if p1 = (4 : Int32) then
    some (((((1000 : Int32) * (g 27 (Int32.toNatClampNeg (0 : Int32)))) + ((100 : Int32) * (g 27 (Int32.toNatClampNeg (1 : Int32))))) + ((10 : Int32) * (g 27 (Int32.toNatClampNeg (2 : Int32))))) + (g 27 (Int32.toNatClampNeg (3 : Int32))))
  else
  if p1 = (5 : Int32) then
    some (l2)
  else
  if p1 = (6 : Int32) then
    some (g 26 17)
  else
  if p1 = (7 : Int32) then
    some (g 26 23)
  else
  if p1 = (8 : Int32) then
    (f_X8_alike F g (0 : Int32)).bind fun q1 =>
      some (q1)
  else
  some ((-2 : Int32))
set_option maxRecDepth 20000 in
theorem B_X8_count_40 (x : am_X) (C0 : am_Cm x 8 cX8_count 4 (some .int)) (hR : am_R x = rm_X8_count) (w : am_J) (F : Nat) (g : am_G) (p1 : Int32) (R : Int32)   (l2 : Int32) (hf : f_X8_count_40 F g p1 l2 = some R) : am_Ev x 4 (0, 0) (am_Q x (0, 0) (some (.int R)) am_YY g w) 40 [some (.ref 26), some (.int (p1)), some (.int (l2)), none] [] am_YY g w := by
  unfold f_X8_count_40 at hf
  refine am_b1 C0 am_YYk (pc := 40) (pc2 := 41) [(.iload_n 1, 0, 0, .null)] (L := [some (.ref 26), some (.int (p1)), some (.int (l2)), none]) (st := []) (L' := [some (.ref 26), some (.int (p1)), some (.int (l2)), none]) (st' := [.int (p1)]) (g' := g) (w' := w) (cl := []) (by decide +kernel) rfl trivial ?_
  by_cases hs2 : p1 = (0 : Int32)
  · rw [if_pos hs2] at hf
    refine am_swIn C0 (n := 51) (dflt := 130) (lo := 0) (hi := 8) (offs := #[51, 56, 61, 66, 74, 112, 114, 119, 124]) (by decide +kernel) (off := 51) (tgt := 92) (by rw [hs2]; decide) (by rw [hs2]; decide) (by rw [hs2]; rfl) (by decide) ?_
    refine am_b1 C0 am_YYk (pc := 92) (pc2 := 96) [(.aload_n 0, 0, 0, .null), (.getfield 69, 8, 14, .null)] (L := [some (.ref 26), some (.int (p1)), some (.int (l2)), none]) (st := []) (L' := [some (.ref 26), some (.int (p1)), some (.int (l2)), none]) (st' := [.int (g 26 14)]) (g' := g) (w' := w) (cl := []) (by decide +kernel) rfl trivial ?_
    cases hf
    exact am_iret C0 (by decide +kernel)
  rw [if_neg hs2] at hf
  by_cases hs3 : p1 = (1 : Int32)
  · rw [if_pos hs3] at hf
    refine am_swIn C0 (n := 51) (dflt := 130) (lo := 0) (hi := 8) (offs := #[51, 56, 61, 66, 74, 112, 114, 119, 124]) (by decide +kernel) (off := 56) (tgt := 97) (by rw [hs3]; decide) (by rw [hs3]; decide) (by rw [hs3]; rfl) (by decide) ?_
    refine am_b1 C0 am_YYk (pc := 97) (pc2 := 101) [(.aload_n 0, 0, 0, .null), (.getfield 111, 8, 0, .null)] (L := [some (.ref 26), some (.int (p1)), some (.int (l2)), none]) (st := []) (L' := [some (.ref 26), some (.int (p1)), some (.int (l2)), none]) (st' := [.int (g 26 0)]) (g' := g) (w' := w) (cl := []) (by decide +kernel) rfl trivial ?_
    cases hf
    exact am_iret C0 (by decide +kernel)
  rw [if_neg hs3] at hf
  by_cases hs4 : p1 = (2 : Int32)
  · rw [if_pos hs4] at hf
    refine am_swIn C0 (n := 51) (dflt := 130) (lo := 0) (hi := 8) (offs := #[51, 56, 61, 66, 74, 112, 114, 119, 124]) (by decide +kernel) (off := 61) (tgt := 102) (by rw [hs4]; decide) (by rw [hs4]; decide) (by rw [hs4]; rfl) (by decide) ?_
    refine am_b1 C0 am_YYk (pc := 102) (pc2 := 106) [(.aload_n 0, 0, 0, .null), (.getfield 59, 8, 1, .null)] (L := [some (.ref 26), some (.int (p1)), some (.int (l2)), none]) (st := []) (L' := [some (.ref 26), some (.int (p1)), some (.int (l2)), none]) (st' := [.int (g 26 1)]) (g' := g) (w' := w) (cl := []) (by decide +kernel) rfl trivial ?_
    cases hf
    exact am_iret C0 (by decide +kernel)
  rw [if_neg hs4] at hf
  by_cases hs5 : p1 = (3 : Int32)
  · rw [if_pos hs5] at hf
    refine am_swIn C0 (n := 51) (dflt := 130) (lo := 0) (hi := 8) (offs := #[51, 56, 61, 66, 74, 112, 114, 119, 124]) (by decide +kernel) (off := 66) (tgt := 107) (by rw [hs5]; decide) (by rw [hs5]; decide) (by rw [hs5]; rfl) (by decide) ?_
    refine am_b1 C0 am_YYk (pc := 107) (pc2 := 114) [(.aload_n 0, 0, 0, .null), (.getfield 25, 8, 7, .null), (.bipush 12, 0, 0, .int 12), (.iaload, 0, 0, .null)] (L := [some (.ref 26), some (.int (p1)), some (.int (l2)), none]) (st := []) (L' := [some (.ref 26), some (.int (p1)), some (.int (l2)), none]) (st' := [.int (g 32 (Int32.toNatClampNeg (12 : Int32)))]) (g' := g) (w' := w) (cl := [am_in (12 : Int32) 26]) (by decide +kernel) rfl ⟨by decide, trivial⟩ ?_
    cases hf
    exact am_iret C0 (by decide +kernel)
  rw [if_neg hs5] at hf
  by_cases hs6 : p1 = (4 : Int32)
  · rw [if_pos hs6] at hf
    refine am_swIn C0 (n := 51) (dflt := 130) (lo := 0) (hi := 8) (offs := #[51, 56, 61, 66, 74, 112, 114, 119, 124]) (by decide +kernel) (off := 74) (tgt := 115) (by rw [hs6]; decide) (by rw [hs6]; decide) (by rw [hs6]; rfl) (by decide) ?_
    refine am_b1 C0 am_YYk (pc := 115) (pc2 := 152) [(.sipush 1000, 0, 0, .int 1000), (.aload_n 0, 0, 0, .null), (.getfield 7, 8, 2, .null), (.iconst 0, 0, 0, .int 0), (.iaload, 0, 0, .null), (.imul, 0, 0, .null), (.bipush 100, 0, 0, .int 100), (.aload_n 0, 0, 0, .null), (.getfield 7, 8, 2, .null), (.iconst 1, 0, 0, .int 1), (.iaload, 0, 0, .null), (.imul, 0, 0, .null), (.iadd, 0, 0, .null), (.bipush 10, 0, 0, .int 10), (.aload_n 0, 0, 0, .null), (.getfield 7, 8, 2, .null), (.iconst 2, 0, 0, .int 2), (.iaload, 0, 0, .null), (.imul, 0, 0, .null), (.iadd, 0, 0, .null), (.aload_n 0, 0, 0, .null), (.getfield 7, 8, 2, .null), (.iconst 3, 0, 0, .int 3), (.iaload, 0, 0, .null), (.iadd, 0, 0, .null)] (L := [some (.ref 26), some (.int (p1)), some (.int (l2)), none]) (st := []) (L' := [some (.ref 26), some (.int (p1)), some (.int (l2)), none]) (st' := [.int (((((1000 : Int32) * (g 27 (Int32.toNatClampNeg (0 : Int32)))) + ((100 : Int32) * (g 27 (Int32.toNatClampNeg (1 : Int32))))) + ((10 : Int32) * (g 27 (Int32.toNatClampNeg (2 : Int32))))) + (g 27 (Int32.toNatClampNeg (3 : Int32))))]) (g' := g) (w' := w) (cl := [am_in (0 : Int32) 4, am_in (1 : Int32) 4, am_in (2 : Int32) 4, am_in (3 : Int32) 4]) (by decide +kernel) rfl ⟨by decide, by decide, by decide, by decide, trivial⟩ ?_
    cases hf
    exact am_iret C0 (by decide +kernel)
  rw [if_neg hs6] at hf
  by_cases hs7 : p1 = (5 : Int32)
  · rw [if_pos hs7] at hf
    refine am_swIn C0 (n := 51) (dflt := 130) (lo := 0) (hi := 8) (offs := #[51, 56, 61, 66, 74, 112, 114, 119, 124]) (by decide +kernel) (off := 112) (tgt := 153) (by rw [hs7]; decide) (by rw [hs7]; decide) (by rw [hs7]; rfl) (by decide) ?_
    refine am_b1 C0 am_YYk (pc := 153) (pc2 := 154) [(.iload_n 2, 0, 0, .null)] (L := [some (.ref 26), some (.int (p1)), some (.int (l2)), none]) (st := []) (L' := [some (.ref 26), some (.int (p1)), some (.int (l2)), none]) (st' := [.int (l2)]) (g' := g) (w' := w) (cl := []) (by decide +kernel) rfl trivial ?_
    cases hf
    exact am_iret C0 (by decide +kernel)
  rw [if_neg hs7] at hf
  by_cases hs8 : p1 = (6 : Int32)
  · rw [if_pos hs8] at hf
    refine am_swIn C0 (n := 51) (dflt := 130) (lo := 0) (hi := 8) (offs := #[51, 56, 61, 66, 74, 112, 114, 119, 124]) (by decide +kernel) (off := 114) (tgt := 155) (by rw [hs8]; decide) (by rw [hs8]; decide) (by rw [hs8]; rfl) (by decide) ?_
    refine am_b1 C0 am_YYk (pc := 155) (pc2 := 159) [(.aload_n 0, 0, 0, .null), (.getfield 114, 8, 17, .null)] (L := [some (.ref 26), some (.int (p1)), some (.int (l2)), none]) (st := []) (L' := [some (.ref 26), some (.int (p1)), some (.int (l2)), none]) (st' := [.int (g 26 17)]) (g' := g) (w' := w) (cl := []) (by decide +kernel) rfl trivial ?_
    cases hf
    exact am_iret C0 (by decide +kernel)
  rw [if_neg hs8] at hf
  by_cases hs9 : p1 = (7 : Int32)
  · rw [if_pos hs9] at hf
    refine am_swIn C0 (n := 51) (dflt := 130) (lo := 0) (hi := 8) (offs := #[51, 56, 61, 66, 74, 112, 114, 119, 124]) (by decide +kernel) (off := 119) (tgt := 160) (by rw [hs9]; decide) (by rw [hs9]; decide) (by rw [hs9]; rfl) (by decide) ?_
    refine am_b1 C0 am_YYk (pc := 160) (pc2 := 164) [(.aload_n 0, 0, 0, .null), (.getfield 198, 8, 23, .null)] (L := [some (.ref 26), some (.int (p1)), some (.int (l2)), none]) (st := []) (L' := [some (.ref 26), some (.int (p1)), some (.int (l2)), none]) (st' := [.int (g 26 23)]) (g' := g) (w' := w) (cl := []) (by decide +kernel) rfl trivial ?_
    cases hf
    exact am_iret C0 (by decide +kernel)
  rw [if_neg hs9] at hf
  by_cases hs10 : p1 = (8 : Int32)
  · rw [if_pos hs10] at hf
    refine am_swIn C0 (n := 51) (dflt := 130) (lo := 0) (hi := 8) (offs := #[51, 56, 61, 66, 74, 112, 114, 119, 124]) (by decide +kernel) (off := 124) (tgt := 165) (by rw [hs10]; decide) (by rw [hs10]; decide) (by rw [hs10]; rfl) (by decide) ?_
    refine am_b1 C0 am_YYk (pc := 165) (pc2 := 167) [(.aload_n 0, 0, 0, .null), (.iconst 0, 0, 0, .int 0)] (L := [some (.ref 26), some (.int (p1)), some (.int (l2)), none]) (st := []) (L' := [some (.ref 26), some (.int (p1)), some (.int (l2)), none]) (st' := [.int ((0 : Int32)), .ref 26]) (g' := g) (w' := w) (cl := []) (by decide +kernel) rfl trivial ?_
    obtain ⟨q1, hq1, hf⟩ := Option.bind_eq_some_iff.mp hf
    refine am_callV (mi := mi_X8_alike) (rm := rm_X8_alike) [.int ((0 : Int32))] C0.1 am_YYl cv_8_195 (M_X8_alike _ F g w (0 : Int32) _ hq1) (ci := 8) rfl (by decide) rfl (by rw [hR]; rfl) rfl rfl (Nat.le_of_ble_eq_true rfl) (by decide +kernel) ?_
    cases hf
    exact am_iret C0 (by decide +kernel)
  rw [if_neg hs10] at hf
  refine am_swOut C0 (n := 51) (dflt := 130) (lo := 0) (hi := 8) (offs := #[51, 56, 61, 66, 74, 112, 114, 119, 124]) (by decide +kernel) (tgt := 171) (am_sw8 hs2 hs3 hs4 hs5 hs6 hs7 hs8 hs9 hs10) (by decide) ?_
  refine am_b1 C0 am_YYk (pc := 171) (pc2 := 173) [(.bipush (-2), 0, 0, .int (-2))] (L := [some (.ref 26), some (.int (p1)), some (.int (l2)), none]) (st := []) (L' := [some (.ref 26), some (.int (p1)), some (.int (l2)), none]) (st' := [.int ((-2 : Int32))]) (g' := g) (w' := w) (cl := []) (by decide +kernel) rfl trivial ?_
  cases hf
  exact am_iret C0 (by decide +kernel)
def f_X8_count_32 (F : Nat) (g : am_G) (p1 : Int32) (k4 : Int32 → Int32 → Option (Int32)) (k40 : Int32 → Option (Int32)) (l3 : Int32) (s0 : Int32) (s1 : Int32) : Option (Int32) :=
  k4 (s0 + s1) (l3 + (1 : Int32))
set_option maxRecDepth 20000 in
theorem B_X8_count_32 (x : am_X) (C0 : am_Cm x 8 cX8_count 4 (some .int)) (hR : am_R x = rm_X8_count) (w : am_J) (F : Nat) (g : am_G) (p1 : Int32) (R : Int32) (k4 : Int32 → Int32 → Option (Int32)) (k40 : Int32 → Option (Int32)) (hk4 : ∀ (l2 : Int32) (l3 : Int32), k4 l2 l3 = some R → am_Ev x 4 (0, 0) (am_Q x (0, 0) (some (.int R)) am_YY g w) 4 [some (.ref 26), some (.int (p1)), some (.int (l2)), some (.int (l3))] [] am_YY g w) (hk40 : ∀ (l2 : Int32), k40 l2 = some R → am_Ev x 4 (0, 0) (am_Q x (0, 0) (some (.int R)) am_YY g w) 40 [some (.ref 26), some (.int (p1)), some (.int (l2)), none] [] am_YY g w) (l3 : Int32) (s0 : Int32) (s1 : Int32) (hf : f_X8_count_32 F g p1 k4 k40 l3 s0 s1 = some R) : am_Ev x 4 (0, 0) (am_Q x (0, 0) (some (.int R)) am_YY g w) 32 [some (.ref 26), some (.int (p1)), none, some (.int (l3))] [.int (s1), .int (s0)] am_YY g w := by
  unfold f_X8_count_32 at hf
  refine am_b1 C0 am_YYk (pc := 32) (pc2 := 37) [(.iadd, 0, 0, .null), (.istore_n 2, 0, 0, .null), (.iinc 3 1, 0, 0, .int 1)] (L := [some (.ref 26), some (.int (p1)), none, some (.int (l3))]) (st := [.int (s1), .int (s0)]) (L' := [some (.ref 26), some (.int (p1)), some (.int (s0 + s1)), some (.int (l3 + (1 : Int32)))]) (st' := []) (g' := g) (w' := w) (cl := []) (by decide +kernel) rfl trivial ?_
  refine am_goto C0 (off := (-33)) (tgt := 4) (by decide +kernel) ?_
  exact hk4 (s0 + s1) (l3 + (1 : Int32)) hf
def f_X8_count_4 (F : Nat) (g : am_G) (p1 : Int32) (k40 : Int32 → Option (Int32)) : Nat → Int32 → Int32 → Option (Int32)
  | 0, _, _ => none
  | n + 1, l2, l3 =>
    if (g 26 0) ≤ l3 then
      k40 (l2)
    else
      if am_in ((6 : Int32) + l3) 26 then
        if (g 32 (Int32.toNatClampNeg ((6 : Int32) + l3))) = (-9 : Int32) then
          f_X8_count_32 F g p1 (fun l2 l3 => f_X8_count_4 F g p1 k40 n l2 l3) k40 (l3) (l2) ((0 : Int32))
        else
          f_X8_count_32 F g p1 (fun l2 l3 => f_X8_count_4 F g p1 k40 n l2 l3) k40 (l3) (l2) ((1 : Int32))
      else none
set_option maxRecDepth 20000 in
theorem B_X8_count_4 (x : am_X) (C0 : am_Cm x 8 cX8_count 4 (some .int)) (hR : am_R x = rm_X8_count) (w : am_J) (F : Nat) (g : am_G) (p1 : Int32) (R : Int32) (k40 : Int32 → Option (Int32)) (hk40 : ∀ (l2 : Int32), k40 l2 = some R → am_Ev x 4 (0, 0) (am_Q x (0, 0) (some (.int R)) am_YY g w) 40 [some (.ref 26), some (.int (p1)), some (.int (l2)), none] [] am_YY g w) : ∀ (n : Nat) (l2 : Int32) (l3 : Int32), f_X8_count_4 F g p1 k40 n l2 l3 = some R → am_Ev x 4 (0, 0) (am_Q x (0, 0) (some (.int R)) am_YY g w) 4 [some (.ref 26), some (.int (p1)), some (.int (l2)), some (.int (l3))] [] am_YY g w := by
  intro n
  induction n with
  | zero => intro l2 l3 hf; cases hf
  | succ n ih =>
    intro l2 l3 hf
    rw [f_X8_count_4.eq_2] at hf
    refine am_b1 C0 am_YYk (pc := 4) (pc2 := 9) [(.iload_n 3, 0, 0, .null), (.aload_n 0, 0, 0, .null), (.getfield 111, 8, 0, .null)] (L := [some (.ref 26), some (.int (p1)), some (.int (l2)), some (.int (l3))]) (st := []) (L' := [some (.ref 26), some (.int (p1)), some (.int (l2)), some (.int (l3))]) (st' := [.int (g 26 0), .int (l3)]) (g' := g) (w' := w) (cl := []) (by decide +kernel) rfl trivial ?_
    refine am_icmp_ge C0 (off := 31) (tgt := 40) (by decide +kernel) (fun hc13 => ?_) (fun hc13 => ?_)
    · rw [if_pos hc13] at hf
      refine am_wk [some (.ref 26), some (.int (p1)), some (.int (l2)), none] ⟨rfl, rfl, rfl, trivial⟩ rfl ?_
      exact hk40 (l2) hf
    · rw [if_neg hc13] at hf
      obtain ⟨hg11, hf⟩ := am_g hf
      refine am_b1 C0 am_YYk (pc := 12) (pc2 := 24) [(.iload_n 2, 0, 0, .null), (.aload_n 0, 0, 0, .null), (.getfield 25, 8, 7, .null), (.bipush 6, 0, 0, .int 6), (.iload_n 3, 0, 0, .null), (.iadd, 0, 0, .null), (.iaload, 0, 0, .null), (.bipush (-9), 0, 0, .int (-9))] (L := [some (.ref 26), some (.int (p1)), some (.int (l2)), some (.int (l3))]) (st := []) (L' := [some (.ref 26), some (.int (p1)), some (.int (l2)), some (.int (l3))]) (st' := [.int ((-9 : Int32)), .int (g 32 (Int32.toNatClampNeg ((6 : Int32) + l3))), .int (l2)]) (g' := g) (w' := w) (cl := [am_in ((6 : Int32) + l3) 26]) (by decide +kernel) rfl ⟨hg11, trivial⟩ ?_
      refine am_icmp_eq C0 (off := 7) (tgt := 31) (by decide +kernel) (fun hc12 => ?_) (fun hc12 => ?_)
      · rw [if_pos hc12] at hf
        refine am_b1 C0 am_YYk (pc := 31) (pc2 := 32) [(.iconst 0, 0, 0, .int 0)] (L := [some (.ref 26), some (.int (p1)), some (.int (l2)), some (.int (l3))]) (st := [.int (l2)]) (L' := [some (.ref 26), some (.int (p1)), some (.int (l2)), some (.int (l3))]) (st' := [.int ((0 : Int32)), .int (l2)]) (g' := g) (w' := w) (cl := []) (by decide +kernel) rfl trivial ?_
        refine am_wk [some (.ref 26), some (.int (p1)), none, some (.int (l3))] ⟨rfl, rfl, rfl, trivial⟩ rfl ?_
        exact B_X8_count_32 x C0 hR w F g p1 R _ _ (fun l2 l3 hf => ih l2 l3 hf) hk40 (l3) (l2) ((0 : Int32)) hf
      · rw [if_neg hc12] at hf
        refine am_b1 C0 am_YYk (pc := 27) (pc2 := 28) [(.iconst 1, 0, 0, .int 1)] (L := [some (.ref 26), some (.int (p1)), some (.int (l2)), some (.int (l3))]) (st := [.int (l2)]) (L' := [some (.ref 26), some (.int (p1)), some (.int (l2)), some (.int (l3))]) (st' := [.int ((1 : Int32)), .int (l2)]) (g' := g) (w' := w) (cl := []) (by decide +kernel) rfl trivial ?_
        refine am_goto C0 (off := 4) (tgt := 32) (by decide +kernel) ?_
        refine am_wk [some (.ref 26), some (.int (p1)), none, some (.int (l3))] ⟨rfl, rfl, rfl, trivial⟩ rfl ?_
        exact B_X8_count_32 x C0 hR w F g p1 R _ _ (fun l2 l3 hf => ih l2 l3 hf) hk40 (l3) (l2) ((1 : Int32)) hf
def f_X8_count (F : Nat) (g : am_G) (p1 : Int32) : Option (Int32) :=
  f_X8_count_4 F g p1 (fun l2 => f_X8_count_40 F g p1 (l2)) F ((0 : Int32)) ((0 : Int32))
set_option maxRecDepth 20000 in
theorem M_X8_count (l : Launch) (F : Nat) (g : am_G) (w : am_J) (p1 : Int32) (R : Int32) (hf : f_X8_count F g p1 = some R) : am_Met l mi_X8_count rm_X8_count [.ref 26, .int p1] am_YY g w (some (.int R)) am_YY g w := by
  refine am_met (own := 8) [some (.ref 26), some (.int (p1)), none, none] (by decide) rfl rfl (by first | decide | exact Nat.le_of_ble_eq_true rfl) (fun x C0 hR hl hnm => ?_)
  unfold f_X8_count at hf
  refine am_b1 C0 am_YYk (pc := 0) (pc2 := 4) [(.iconst 0, 0, 0, .int 0), (.istore_n 2, 0, 0, .null), (.iconst 0, 0, 0, .int 0), (.istore_n 3, 0, 0, .null)] (L := [some (.ref 26), some (.int (p1)), none, none]) (st := []) (L' := [some (.ref 26), some (.int (p1)), some (.int ((0 : Int32))), some (.int ((0 : Int32)))]) (st' := []) (g' := g) (w' := w) (cl := []) (by decide +kernel) rfl trivial ?_
  refine B_X8_count_4 x C0 hR w F g p1 R _ ?_ F ((0 : Int32)) ((0 : Int32)) hf
  · intro l2 hf
    exact B_X8_count_40 x C0 hR w F g p1 R  (l2) hf
