/-! ShutterTownModel.judge(IJ)I at (26,) -/
def f_X8_judge_131 (F : Nat) (p1 : Int32) (p2 : Int64) (k38 : Int32 → am_G → Option (Int32 × am_G)) (l4 : Int32) (l6 : Int32) (g : am_G) : Option (Int32 × am_G) :=
  if l6 = 0 then
    some (l4, g)
  else
    (f_X8_alike F g (1 : Int32)).bind fun q1 =>
      if q1 ≤ 0 then
        k38 (l4 + (1 : Int32)) (g)
      else
        some (l4, g)
set_option maxRecDepth 20000 in
theorem B_X8_judge_131 (x : am_X) (C0 : am_Cm x 8 cX8_judge 7 (some .int)) (hR : am_R x = rm_X8_judge) (w : am_J) (F : Nat) (p1 : Int32) (p2 : Int64) (R : Int32 × am_G) (k38 : Int32 → am_G → Option (Int32 × am_G)) (hk38 : ∀ (l4 : Int32) (g : am_G), k38 l4 g = some R → am_Ev x 7 (0, 0) (am_Q x (0, 0) (some (.int R.1)) am_YY (R.2) w) 38 [some (.ref 26), some (.int (p1)), some (.long (p2)), none, some (.int (l4)), none, none] [] am_YY g w) (l4 : Int32) (l6 : Int32) (g : am_G) (hf : f_X8_judge_131 F p1 p2 k38 l4 l6 g = some R) : am_Ev x 7 (0, 0) (am_Q x (0, 0) (some (.int R.1)) am_YY (R.2) w) 131 [some (.ref 26), some (.int (p1)), some (.long (p2)), none, some (.int (l4)), none, some (.int (l6))] [] am_YY g w := by
  unfold f_X8_judge_131 at hf
  refine am_b1 C0 am_YYk (pc := 131) (pc2 := 133) [(.iload 6, 0, 0, .null)] (L := [some (.ref 26), some (.int (p1)), some (.long (p2)), none, some (.int (l4)), none, some (.int (l6))]) (st := []) (L' := [some (.ref 26), some (.int (p1)), some (.long (p2)), none, some (.int (l4)), none, some (.int (l6))]) (st' := [.int (l6)]) (g' := g) (w' := w) (cl := []) (by decide +kernel) rfl trivial ?_
  refine am_if_eq C0 (off := 11) (tgt := 144) (by decide +kernel) (fun hc3 => ?_) (fun hc3 => ?_)
  · rw [if_pos hc3] at hf
    refine am_b1 C0 am_YYk (pc := 144) (pc2 := 146) [(.iload 4, 0, 0, .null)] (L := [some (.ref 26), some (.int (p1)), some (.long (p2)), none, some (.int (l4)), none, some (.int (l6))]) (st := []) (L' := [some (.ref 26), some (.int (p1)), some (.long (p2)), none, some (.int (l4)), none, some (.int (l6))]) (st' := [.int (l4)]) (g' := g) (w' := w) (cl := []) (by decide +kernel) rfl trivial ?_
    cases hf
    exact am_iret C0 (by decide +kernel)
  · rw [if_neg hc3] at hf
    refine am_b1 C0 am_YYk (pc := 136) (pc2 := 138) [(.aload_n 0, 0, 0, .null), (.iconst 1, 0, 0, .int 1)] (L := [some (.ref 26), some (.int (p1)), some (.long (p2)), none, some (.int (l4)), none, some (.int (l6))]) (st := []) (L' := [some (.ref 26), some (.int (p1)), some (.long (p2)), none, some (.int (l4)), none, some (.int (l6))]) (st' := [.int ((1 : Int32)), .ref 26]) (g' := g) (w' := w) (cl := []) (by decide +kernel) rfl trivial ?_
    obtain ⟨q1, hq1, hf⟩ := Option.bind_eq_some_iff.mp hf
    refine am_callV (mi := mi_X8_alike) (rm := rm_X8_alike) [.int ((1 : Int32))] C0.1 am_YYl cv_8_195 (M_X8_alike _ F g w (1 : Int32) _ hq1) (ci := 8) rfl (by decide) rfl (by rw [hR]; rfl) rfl rfl (Nat.le_of_ble_eq_true rfl) (by decide +kernel) ?_
    refine am_if_le C0 (off := 6) (tgt := 147) (by decide +kernel) (fun hc2 => ?_) (fun hc2 => ?_)
    · rw [if_pos hc2] at hf
      refine am_b1 C0 am_YYk (pc := 147) (pc2 := 150) [(.iinc 4 1, 0, 0, .int 1)] (L := [some (.ref 26), some (.int (p1)), some (.long (p2)), none, some (.int (l4)), none, some (.int (l6))]) (st := []) (L' := [some (.ref 26), some (.int (p1)), some (.long (p2)), none, some (.int (l4 + (1 : Int32))), none, some (.int (l6))]) (st' := []) (g' := g) (w' := w) (cl := []) (by decide +kernel) rfl trivial ?_
      refine am_goto C0 (off := (-112)) (tgt := 38) (by decide +kernel) ?_
      refine am_wk [some (.ref 26), some (.int (p1)), some (.long (p2)), none, some (.int (l4 + (1 : Int32))), none, none] ⟨rfl, rfl, rfl, rfl, trivial⟩ rfl ?_
      exact hk38 (l4 + (1 : Int32)) (g) hf
    · rw [if_neg hc2] at hf
      refine am_b1 C0 am_YYk (pc := 144) (pc2 := 146) [(.iload 4, 0, 0, .null)] (L := [some (.ref 26), some (.int (p1)), some (.long (p2)), none, some (.int (l4)), none, some (.int (l6))]) (st := []) (L' := [some (.ref 26), some (.int (p1)), some (.long (p2)), none, some (.int (l4)), none, some (.int (l6))]) (st' := [.int (l4)]) (g' := g) (w' := w) (cl := []) (by decide +kernel) rfl trivial ?_
      cases hf
      exact am_iret C0 (by decide +kernel)
def f_X8_judge_100 (F : Nat) (p1 : Int32) (p2 : Int64) (k38 : Int32 → am_G → Option (Int32 × am_G)) (l4 : Int32) (l5 : Int32) (s0 : Int32) (g : am_G) : Option (Int32 × am_G) :=
  if l5 = (90 : Int32) then
    (f_X8_windOn F g (1 : Int32)).bind fun q6 =>
      f_X8_judge_131 F p1 p2 k38 (l4) (s0) (q6.2)
  else
    if l5 = (91 : Int32) then
      (f_X8_hourOn F g (1 : Int32)).bind fun q4 =>
        f_X8_judge_131 F p1 p2 k38 (l4) (s0) (q4.2)
    else
      f_X8_judge_131 F p1 p2 k38 (l4) (s0) (g)
set_option maxRecDepth 20000 in
theorem B_X8_judge_100 (x : am_X) (C0 : am_Cm x 8 cX8_judge 7 (some .int)) (hR : am_R x = rm_X8_judge) (w : am_J) (F : Nat) (p1 : Int32) (p2 : Int64) (R : Int32 × am_G) (k38 : Int32 → am_G → Option (Int32 × am_G)) (hk38 : ∀ (l4 : Int32) (g : am_G), k38 l4 g = some R → am_Ev x 7 (0, 0) (am_Q x (0, 0) (some (.int R.1)) am_YY (R.2) w) 38 [some (.ref 26), some (.int (p1)), some (.long (p2)), none, some (.int (l4)), none, none] [] am_YY g w) (l4 : Int32) (l5 : Int32) (s0 : Int32) (g : am_G) (hf : f_X8_judge_100 F p1 p2 k38 l4 l5 s0 g = some R) : am_Ev x 7 (0, 0) (am_Q x (0, 0) (some (.int R.1)) am_YY (R.2) w) 100 [some (.ref 26), some (.int (p1)), some (.long (p2)), none, some (.int (l4)), some (.int (l5)), none] [.int (s0)] am_YY g w := by
  unfold f_X8_judge_100 at hf
  refine am_b1 C0 am_YYk (pc := 100) (pc2 := 106) [(.istore 6, 0, 0, .null), (.iload 5, 0, 0, .null), (.bipush 90, 0, 0, .int 90)] (L := [some (.ref 26), some (.int (p1)), some (.long (p2)), none, some (.int (l4)), some (.int (l5)), none]) (st := [.int (s0)]) (L' := [some (.ref 26), some (.int (p1)), some (.long (p2)), none, some (.int (l4)), some (.int (l5)), some (.int (s0))]) (st' := [.int ((90 : Int32)), .int (l5)]) (g' := g) (w' := w) (cl := []) (by decide +kernel) rfl trivial ?_
  refine am_icmp_ne C0 (off := 12) (tgt := 118) (by decide +kernel) (fun hc7 => ?_) (fun hc7 => ?_)
  · rw [if_neg hc7] at hf
    refine am_b1 C0 am_YYk (pc := 118) (pc2 := 122) [(.iload 5, 0, 0, .null), (.bipush 91, 0, 0, .int 91)] (L := [some (.ref 26), some (.int (p1)), some (.long (p2)), none, some (.int (l4)), some (.int (l5)), some (.int (s0))]) (st := []) (L' := [some (.ref 26), some (.int (p1)), some (.long (p2)), none, some (.int (l4)), some (.int (l5)), some (.int (s0))]) (st' := [.int ((91 : Int32)), .int (l5)]) (g' := g) (w' := w) (cl := []) (by decide +kernel) rfl trivial ?_
    refine am_icmp_ne C0 (off := 9) (tgt := 131) (by decide +kernel) (fun hc5 => ?_) (fun hc5 => ?_)
    · rw [if_neg hc5] at hf
      refine am_wk [some (.ref 26), some (.int (p1)), some (.long (p2)), none, some (.int (l4)), none, some (.int (s0))] ⟨rfl, rfl, rfl, rfl, rfl, trivial⟩ rfl ?_
      exact B_X8_judge_131 x C0 hR w F p1 p2 R _ hk38 (l4) (s0) (g) hf
    · rw [if_pos hc5] at hf
      refine am_b1 C0 am_YYk (pc := 125) (pc2 := 127) [(.aload_n 0, 0, 0, .null), (.iconst 1, 0, 0, .int 1)] (L := [some (.ref 26), some (.int (p1)), some (.long (p2)), none, some (.int (l4)), some (.int (l5)), some (.int (s0))]) (st := []) (L' := [some (.ref 26), some (.int (p1)), some (.long (p2)), none, some (.int (l4)), some (.int (l5)), some (.int (s0))]) (st' := [.int ((1 : Int32)), .ref 26]) (g' := g) (w' := w) (cl := []) (by decide +kernel) rfl trivial ?_
      obtain ⟨q4, hq4, hf⟩ := Option.bind_eq_some_iff.mp hf
      refine am_callV (mi := mi_X8_hourOn) (rm := rm_X8_hourOn) [.int ((1 : Int32))] C0.1 am_YYl cv_8_146 (M_X8_hourOn _ F g w (1 : Int32) _ hq4) (ci := 8) rfl (by decide) rfl (by rw [hR]; rfl) rfl rfl (Nat.le_of_ble_eq_true rfl) (by decide +kernel) ?_
      refine am_b1 C0 am_YYk (pc := 130) (pc2 := 131) [(.pop, 0, 0, .null)] (L := [some (.ref 26), some (.int (p1)), some (.long (p2)), none, some (.int (l4)), some (.int (l5)), some (.int (s0))]) (st := [.int (q4.1)]) (L' := [some (.ref 26), some (.int (p1)), some (.long (p2)), none, some (.int (l4)), some (.int (l5)), some (.int (s0))]) (st' := []) (g' := q4.2) (w' := w) (cl := []) (by decide +kernel) rfl trivial ?_
      refine am_wk [some (.ref 26), some (.int (p1)), some (.long (p2)), none, some (.int (l4)), none, some (.int (s0))] ⟨rfl, rfl, rfl, rfl, rfl, trivial⟩ rfl ?_
      exact B_X8_judge_131 x C0 hR w F p1 p2 R _ hk38 (l4) (s0) (q4.2) hf
  · rw [if_pos hc7] at hf
    refine am_b1 C0 am_YYk (pc := 109) (pc2 := 111) [(.aload_n 0, 0, 0, .null), (.iconst 1, 0, 0, .int 1)] (L := [some (.ref 26), some (.int (p1)), some (.long (p2)), none, some (.int (l4)), some (.int (l5)), some (.int (s0))]) (st := []) (L' := [some (.ref 26), some (.int (p1)), some (.long (p2)), none, some (.int (l4)), some (.int (l5)), some (.int (s0))]) (st' := [.int ((1 : Int32)), .ref 26]) (g' := g) (w' := w) (cl := []) (by decide +kernel) rfl trivial ?_
    obtain ⟨q6, hq6, hf⟩ := Option.bind_eq_some_iff.mp hf
    refine am_callV (mi := mi_X8_windOn) (rm := rm_X8_windOn) [.int ((1 : Int32))] C0.1 am_YYl cv_8_140 (M_X8_windOn _ F g w (1 : Int32) _ hq6) (ci := 8) rfl (by decide) rfl (by rw [hR]; rfl) rfl rfl (Nat.le_of_ble_eq_true rfl) (by decide +kernel) ?_
    refine am_b1 C0 am_YYk (pc := 114) (pc2 := 115) [(.pop, 0, 0, .null)] (L := [some (.ref 26), some (.int (p1)), some (.long (p2)), none, some (.int (l4)), some (.int (l5)), some (.int (s0))]) (st := [.int (q6.1)]) (L' := [some (.ref 26), some (.int (p1)), some (.long (p2)), none, some (.int (l4)), some (.int (l5)), some (.int (s0))]) (st' := []) (g' := q6.2) (w' := w) (cl := []) (by decide +kernel) rfl trivial ?_
    refine am_goto C0 (off := 16) (tgt := 131) (by decide +kernel) ?_
    refine am_wk [some (.ref 26), some (.int (p1)), some (.long (p2)), none, some (.int (l4)), none, some (.int (s0))] ⟨rfl, rfl, rfl, rfl, rfl, trivial⟩ rfl ?_
    exact B_X8_judge_131 x C0 hR w F p1 p2 R _ hk38 (l4) (s0) (q6.2) hf
def f_X8_judge_95 (F : Nat) (p1 : Int32) (p2 : Int64) (k38 : Int32 → am_G → Option (Int32 × am_G)) (l4 : Int32) (l5 : Int32) (g : am_G) : Option (Int32 × am_G) :=
  f_X8_judge_100 F p1 p2 k38 (l4) (l5) ((1 : Int32)) (g)
set_option maxRecDepth 20000 in
theorem B_X8_judge_95 (x : am_X) (C0 : am_Cm x 8 cX8_judge 7 (some .int)) (hR : am_R x = rm_X8_judge) (w : am_J) (F : Nat) (p1 : Int32) (p2 : Int64) (R : Int32 × am_G) (k38 : Int32 → am_G → Option (Int32 × am_G)) (hk38 : ∀ (l4 : Int32) (g : am_G), k38 l4 g = some R → am_Ev x 7 (0, 0) (am_Q x (0, 0) (some (.int R.1)) am_YY (R.2) w) 38 [some (.ref 26), some (.int (p1)), some (.long (p2)), none, some (.int (l4)), none, none] [] am_YY g w) (l4 : Int32) (l5 : Int32) (g : am_G) (hf : f_X8_judge_95 F p1 p2 k38 l4 l5 g = some R) : am_Ev x 7 (0, 0) (am_Q x (0, 0) (some (.int R.1)) am_YY (R.2) w) 95 [some (.ref 26), some (.int (p1)), some (.long (p2)), none, some (.int (l4)), some (.int (l5)), none] [] am_YY g w := by
  unfold f_X8_judge_95 at hf
  refine am_b1 C0 am_YYk (pc := 95) (pc2 := 96) [(.iconst 1, 0, 0, .int 1)] (L := [some (.ref 26), some (.int (p1)), some (.long (p2)), none, some (.int (l4)), some (.int (l5)), none]) (st := []) (L' := [some (.ref 26), some (.int (p1)), some (.long (p2)), none, some (.int (l4)), some (.int (l5)), none]) (st' := [.int ((1 : Int32))]) (g' := g) (w' := w) (cl := []) (by decide +kernel) rfl trivial ?_
  refine am_goto C0 (off := 4) (tgt := 100) (by decide +kernel) ?_
  exact B_X8_judge_100 x C0 hR w F p1 p2 R _ hk38 (l4) (l5) ((1 : Int32)) (g) hf
def f_X8_judge_38 (F : Nat) (p1 : Int32) (p2 : Int64)  : Nat → Int32 → am_G → Option (Int32 × am_G)
  | 0, _, _ => none
  | n + 1, l4, g =>
    if p1 ≤ l4 then
      some ((-9 : Int32), g)
    else
      (f_X8_tenTo F ((2 : Int32) * ((p1 - (1 : Int32)) - l4))).bind fun q8 =>
        if ¬ q8 = 0 then
          if (Int64.toInt32 ((p2 / q8) - (p2 / q8) / (100 : Int64) * (100 : Int64))) = (90 : Int32) then
            f_X8_judge_95 F p1 p2 (fun l4 g => f_X8_judge_38 F p1 p2 n l4 g) (l4) (Int64.toInt32 ((p2 / q8) - (p2 / q8) / (100 : Int64) * (100 : Int64))) (g)
          else
            if (Int64.toInt32 ((p2 / q8) - (p2 / q8) / (100 : Int64) * (100 : Int64))) = (91 : Int32) then
              f_X8_judge_95 F p1 p2 (fun l4 g => f_X8_judge_38 F p1 p2 n l4 g) (l4) (Int64.toInt32 ((p2 / q8) - (p2 / q8) / (100 : Int64) * (100 : Int64))) (g)
            else
              (f_X8_tryMove g ((Int64.toInt32 ((p2 / q8) - (p2 / q8) / (100 : Int64) * (100 : Int64))) / (10 : Int32)) ((Int64.toInt32 ((p2 / q8) - (p2 / q8) / (100 : Int64) * (100 : Int64))) - (Int64.toInt32 ((p2 / q8) - (p2 / q8) / (100 : Int64) * (100 : Int64))) / (10 : Int32) * (10 : Int32))).bind fun q10 =>
                if q10.1 = 0 then
                  f_X8_judge_100 F p1 p2 (fun l4 g => f_X8_judge_38 F p1 p2 n l4 g) (l4) (Int64.toInt32 ((p2 / q8) - (p2 / q8) / (100 : Int64) * (100 : Int64))) ((0 : Int32)) (q10.2)
                else
                  f_X8_judge_95 F p1 p2 (fun l4 g => f_X8_judge_38 F p1 p2 n l4 g) (l4) (Int64.toInt32 ((p2 / q8) - (p2 / q8) / (100 : Int64) * (100 : Int64))) (q10.2)
        else none
set_option maxRecDepth 20000 in
theorem B_X8_judge_38 (x : am_X) (C0 : am_Cm x 8 cX8_judge 7 (some .int)) (hR : am_R x = rm_X8_judge) (w : am_J) (F : Nat) (p1 : Int32) (p2 : Int64) (R : Int32 × am_G)   : ∀ (n : Nat) (l4 : Int32) (g : am_G), f_X8_judge_38 F p1 p2 n l4 g = some R → am_Ev x 7 (0, 0) (am_Q x (0, 0) (some (.int R.1)) am_YY (R.2) w) 38 [some (.ref 26), some (.int (p1)), some (.long (p2)), none, some (.int (l4)), none, none] [] am_YY g w := by
  intro n
  induction n with
  | zero => intro l4 g hf; cases hf
  | succ n ih =>
    intro l4 g hf
    rw [f_X8_judge_38.eq_2] at hf
    refine am_b1 C0 am_YYk (pc := 38) (pc2 := 41) [(.iload 4, 0, 0, .null), (.iload_n 1, 0, 0, .null)] (L := [some (.ref 26), some (.int (p1)), some (.long (p2)), none, some (.int (l4)), none, none]) (st := []) (L' := [some (.ref 26), some (.int (p1)), some (.long (p2)), none, some (.int (l4)), none, none]) (st' := [.int (p1), .int (l4)]) (g' := g) (w' := w) (cl := []) (by decide +kernel) rfl trivial ?_
    refine am_icmp_ge C0 (off := 112) (tgt := 153) (by decide +kernel) (fun hc14 => ?_) (fun hc14 => ?_)
    · rw [if_pos hc14] at hf
      refine am_b1 C0 am_YYk (pc := 153) (pc2 := 155) [(.bipush (-9), 0, 0, .int (-9))] (L := [some (.ref 26), some (.int (p1)), some (.long (p2)), none, some (.int (l4)), none, none]) (st := []) (L' := [some (.ref 26), some (.int (p1)), some (.long (p2)), none, some (.int (l4)), none, none]) (st' := [.int ((-9 : Int32))]) (g' := g) (w' := w) (cl := []) (by decide +kernel) rfl trivial ?_
      cases hf
      exact am_iret C0 (by decide +kernel)
    · rw [if_neg hc14] at hf
      refine am_b1 C0 am_YYk (pc := 44) (pc2 := 53) [(.lload_n 2, 0, 0, .null), (.iconst 2, 0, 0, .int 2), (.iload_n 1, 0, 0, .null), (.iconst 1, 0, 0, .int 1), (.isub, 0, 0, .null), (.iload 4, 0, 0, .null), (.isub, 0, 0, .null), (.imul, 0, 0, .null)] (L := [some (.ref 26), some (.int (p1)), some (.long (p2)), none, some (.int (l4)), none, none]) (st := []) (L' := [some (.ref 26), some (.int (p1)), some (.long (p2)), none, some (.int (l4)), none, none]) (st' := [.int ((2 : Int32) * ((p1 - (1 : Int32)) - l4)), .long (p2)]) (g' := g) (w' := w) (cl := []) (by decide +kernel) rfl trivial ?_
      obtain ⟨q8, hq8, hf⟩ := Option.bind_eq_some_iff.mp hf
      refine am_callS (mi := mi_X8_tenTo) (rm := rm_X8_tenTo) [.int ((2 : Int32) * ((p1 - (1 : Int32)) - l4))] C0.1 cv_8_183 (M_X8_tenTo _ F g w ((2 : Int32) * ((p1 - (1 : Int32)) - l4)) _ hq8) (by rw [hR]; rfl) rfl rfl (Nat.le_of_ble_eq_true rfl) (by decide +kernel) ?_
      obtain ⟨hg9, hf⟩ := am_g hf
      refine am_b1 C0 am_YYk (pc := 56) (pc2 := 68) [(.ldiv, 0, 0, .null), (.ldc2_w 190, 0, 0, .long 100), (.lrem, 0, 0, .null), (.l2i, 0, 0, .null), (.istore 5, 0, 0, .null), (.iload 5, 0, 0, .null), (.bipush 90, 0, 0, .int 90)] (L := [some (.ref 26), some (.int (p1)), some (.long (p2)), none, some (.int (l4)), none, none]) (st := [.long (q8), .long (p2)]) (L' := [some (.ref 26), some (.int (p1)), some (.long (p2)), none, some (.int (l4)), some (.int (Int64.toInt32 ((p2 / q8) - (p2 / q8) / (100 : Int64) * (100 : Int64)))), none]) (st' := [.int ((90 : Int32)), .int (Int64.toInt32 ((p2 / q8) - (p2 / q8) / (100 : Int64) * (100 : Int64)))]) (g' := g) (w' := w) (cl := [¬ q8 = 0, ¬ (100 : Int64) = 0]) (by decide +kernel) rfl ⟨hg9, by decide, trivial⟩ ?_
      refine am_icmp_eq C0 (off := 27) (tgt := 95) (by decide +kernel) (fun hc13 => ?_) (fun hc13 => ?_)
      · rw [if_pos hc13] at hf
        exact B_X8_judge_95 x C0 hR w F p1 p2 R _ (fun l4 g hf => ih l4 g hf) (l4) (Int64.toInt32 ((p2 / q8) - (p2 / q8) / (100 : Int64) * (100 : Int64))) (g) hf
      · rw [if_neg hc13] at hf
        refine am_b1 C0 am_YYk (pc := 71) (pc2 := 75) [(.iload 5, 0, 0, .null), (.bipush 91, 0, 0, .int 91)] (L := [some (.ref 26), some (.int (p1)), some (.long (p2)), none, some (.int (l4)), some (.int (Int64.toInt32 ((p2 / q8) - (p2 / q8) / (100 : Int64) * (100 : Int64)))), none]) (st := []) (L' := [some (.ref 26), some (.int (p1)), some (.long (p2)), none, some (.int (l4)), some (.int (Int64.toInt32 ((p2 / q8) - (p2 / q8) / (100 : Int64) * (100 : Int64)))), none]) (st' := [.int ((91 : Int32)), .int (Int64.toInt32 ((p2 / q8) - (p2 / q8) / (100 : Int64) * (100 : Int64)))]) (g' := g) (w' := w) (cl := []) (by decide +kernel) rfl trivial ?_
        refine am_icmp_eq C0 (off := 20) (tgt := 95) (by decide +kernel) (fun hc12 => ?_) (fun hc12 => ?_)
        · rw [if_pos hc12] at hf
          exact B_X8_judge_95 x C0 hR w F p1 p2 R _ (fun l4 g hf => ih l4 g hf) (l4) (Int64.toInt32 ((p2 / q8) - (p2 / q8) / (100 : Int64) * (100 : Int64))) (g) hf
        · rw [if_neg hc12] at hf
          refine am_b1 C0 am_YYk (pc := 78) (pc2 := 89) [(.aload_n 0, 0, 0, .null), (.iload 5, 0, 0, .null), (.bipush 10, 0, 0, .int 10), (.idiv, 0, 0, .null), (.iload 5, 0, 0, .null), (.bipush 10, 0, 0, .int 10), (.irem, 0, 0, .null)] (L := [some (.ref 26), some (.int (p1)), some (.long (p2)), none, some (.int (l4)), some (.int (Int64.toInt32 ((p2 / q8) - (p2 / q8) / (100 : Int64) * (100 : Int64)))), none]) (st := []) (L' := [some (.ref 26), some (.int (p1)), some (.long (p2)), none, some (.int (l4)), some (.int (Int64.toInt32 ((p2 / q8) - (p2 / q8) / (100 : Int64) * (100 : Int64)))), none]) (st' := [.int ((Int64.toInt32 ((p2 / q8) - (p2 / q8) / (100 : Int64) * (100 : Int64))) - (Int64.toInt32 ((p2 / q8) - (p2 / q8) / (100 : Int64) * (100 : Int64))) / (10 : Int32) * (10 : Int32)), .int ((Int64.toInt32 ((p2 / q8) - (p2 / q8) / (100 : Int64) * (100 : Int64))) / (10 : Int32)), .ref 26]) (g' := g) (w' := w) (cl := [¬ (10 : Int32) = 0, ¬ (10 : Int32) = 0]) (by decide +kernel) rfl ⟨by decide, by decide, trivial⟩ ?_
          obtain ⟨q10, hq10, hf⟩ := Option.bind_eq_some_iff.mp hf
          refine am_callV (mi := mi_X8_tryMove) (rm := rm_X8_tryMove) [.int ((Int64.toInt32 ((p2 / q8) - (p2 / q8) / (100 : Int64) * (100 : Int64))) / (10 : Int32)), .int ((Int64.toInt32 ((p2 / q8) - (p2 / q8) / (100 : Int64) * (100 : Int64))) - (Int64.toInt32 ((p2 / q8) - (p2 / q8) / (100 : Int64) * (100 : Int64))) / (10 : Int32) * (10 : Int32))] C0.1 am_YYl cv_8_192 (M_X8_tryMove _ g w ((Int64.toInt32 ((p2 / q8) - (p2 / q8) / (100 : Int64) * (100 : Int64))) / (10 : Int32)) ((Int64.toInt32 ((p2 / q8) - (p2 / q8) / (100 : Int64) * (100 : Int64))) - (Int64.toInt32 ((p2 / q8) - (p2 / q8) / (100 : Int64) * (100 : Int64))) / (10 : Int32) * (10 : Int32)) _ hq10) (ci := 8) rfl (by decide) rfl (by rw [hR]; rfl) rfl rfl (Nat.le_of_ble_eq_true rfl) (by decide +kernel) ?_
          refine am_if_eq C0 (off := 7) (tgt := 99) (by decide +kernel) (fun hc11 => ?_) (fun hc11 => ?_)
          · rw [if_pos hc11] at hf
            refine am_b1 C0 am_YYk (pc := 99) (pc2 := 100) [(.iconst 0, 0, 0, .int 0)] (L := [some (.ref 26), some (.int (p1)), some (.long (p2)), none, some (.int (l4)), some (.int (Int64.toInt32 ((p2 / q8) - (p2 / q8) / (100 : Int64) * (100 : Int64)))), none]) (st := []) (L' := [some (.ref 26), some (.int (p1)), some (.long (p2)), none, some (.int (l4)), some (.int (Int64.toInt32 ((p2 / q8) - (p2 / q8) / (100 : Int64) * (100 : Int64)))), none]) (st' := [.int ((0 : Int32))]) (g' := q10.2) (w' := w) (cl := []) (by decide +kernel) rfl trivial ?_
            exact B_X8_judge_100 x C0 hR w F p1 p2 R _ (fun l4 g hf => ih l4 g hf) (l4) (Int64.toInt32 ((p2 / q8) - (p2 / q8) / (100 : Int64) * (100 : Int64))) ((0 : Int32)) (q10.2) hf
          · rw [if_neg hc11] at hf
            exact B_X8_judge_95 x C0 hR w F p1 p2 R _ (fun l4 g hf => ih l4 g hf) (l4) (Int64.toInt32 ((p2 / q8) - (p2 / q8) / (100 : Int64) * (100 : Int64))) (q10.2) hf
def f_X8_judge (F : Nat) (g : am_G) (p1 : Int32) (p2 : Int64) : Option (Int32 × am_G) :=
  (f_X8_in (Int32.toInt64 p1) (1 : Int64) (5 : Int64)).bind fun q15 =>
    if q15 = 0 then
      some ((-2 : Int32), g)
    else
      (f_X8_tenTo F ((2 : Int32) * p1)).bind fun q16 =>
        (f_X8_in p2 (0 : Int64) (q16 - (1 : Int64))).bind fun q17 =>
          if q17 = 0 then
            some ((-2 : Int32), g)
          else
            (f_X8_layTrial F g).bind fun q18 =>
              f_X8_judge_38 F p1 p2 F ((0 : Int32)) (q18)
set_option maxRecDepth 20000 in
theorem M_X8_judge (l : Launch) (F : Nat) (g : am_G) (w : am_J) (p1 : Int32) (p2 : Int64) (R : Int32 × am_G) (hf : f_X8_judge F g p1 p2 = some R) : am_Met l mi_X8_judge rm_X8_judge [.ref 26, .int p1, .long p2] am_YY g w (some (.int R.1)) am_YY (R.2) w := by
  refine am_met (own := 8) [some (.ref 26), some (.int (p1)), some (.long (p2)), none, none, none, none] (by decide) rfl rfl (by first | decide | exact Nat.le_of_ble_eq_true rfl) (fun x C0 hR hl hnm => ?_)
  unfold f_X8_judge at hf
  refine am_b1 C0 am_YYk (pc := 0) (pc2 := 6) [(.iload_n 1, 0, 0, .null), (.i2l, 0, 0, .null), (.lconst 1, 0, 0, .long 1), (.ldc2_w 181, 0, 0, .long 5)] (L := [some (.ref 26), some (.int (p1)), some (.long (p2)), none, none, none, none]) (st := []) (L' := [some (.ref 26), some (.int (p1)), some (.long (p2)), none, none, none, none]) (st' := [.long ((5 : Int64)), .long ((1 : Int64)), .long (Int32.toInt64 p1)]) (g' := g) (w' := w) (cl := []) (by decide +kernel) rfl trivial ?_
  obtain ⟨q15, hq15, hf⟩ := Option.bind_eq_some_iff.mp hf
  refine am_callS (mi := mi_X8_in) (rm := rm_X8_in) [.long (Int32.toInt64 p1), .long ((1 : Int64)), .long ((5 : Int64))] C0.1 cv_8_65 (M_X8_in _ g w (Int32.toInt64 p1) (1 : Int64) (5 : Int64) _ hq15) (by rw [hR]; rfl) rfl rfl (Nat.le_of_ble_eq_true rfl) (by decide +kernel) ?_
  refine am_if_eq C0 (off := 19) (tgt := 28) (by decide +kernel) (fun hc20 => ?_) (fun hc20 => ?_)
  · rw [if_pos hc20] at hf
    refine am_b1 C0 am_YYk (pc := 28) (pc2 := 30) [(.bipush (-2), 0, 0, .int (-2))] (L := [some (.ref 26), some (.int (p1)), some (.long (p2)), none, none, none, none]) (st := []) (L' := [some (.ref 26), some (.int (p1)), some (.long (p2)), none, none, none, none]) (st' := [.int ((-2 : Int32))]) (g' := g) (w' := w) (cl := []) (by decide +kernel) rfl trivial ?_
    cases hf
    exact am_iret C0 (by decide +kernel)
  · rw [if_neg hc20] at hf
    refine am_b1 C0 am_YYk (pc := 12) (pc2 := 17) [(.lload_n 2, 0, 0, .null), (.lconst 0, 0, 0, .long 0), (.iconst 2, 0, 0, .int 2), (.iload_n 1, 0, 0, .null), (.imul, 0, 0, .null)] (L := [some (.ref 26), some (.int (p1)), some (.long (p2)), none, none, none, none]) (st := []) (L' := [some (.ref 26), some (.int (p1)), some (.long (p2)), none, none, none, none]) (st' := [.int ((2 : Int32) * p1), .long ((0 : Int64)), .long (p2)]) (g' := g) (w' := w) (cl := []) (by decide +kernel) rfl trivial ?_
    obtain ⟨q16, hq16, hf⟩ := Option.bind_eq_some_iff.mp hf
    refine am_callS (mi := mi_X8_tenTo) (rm := rm_X8_tenTo) [.int ((2 : Int32) * p1)] C0.1 cv_8_183 (M_X8_tenTo _ F g w ((2 : Int32) * p1) _ hq16) (by rw [hR]; rfl) rfl rfl (Nat.le_of_ble_eq_true rfl) (by decide +kernel) ?_
    refine am_b1 C0 am_YYk (pc := 20) (pc2 := 22) [(.lconst 1, 0, 0, .long 1), (.lsub, 0, 0, .null)] (L := [some (.ref 26), some (.int (p1)), some (.long (p2)), none, none, none, none]) (st := [.long (q16), .long ((0 : Int64)), .long (p2)]) (L' := [some (.ref 26), some (.int (p1)), some (.long (p2)), none, none, none, none]) (st' := [.long (q16 - (1 : Int64)), .long ((0 : Int64)), .long (p2)]) (g' := g) (w' := w) (cl := []) (by decide +kernel) rfl trivial ?_
    obtain ⟨q17, hq17, hf⟩ := Option.bind_eq_some_iff.mp hf
    refine am_callS (mi := mi_X8_in) (rm := rm_X8_in) [.long (p2), .long ((0 : Int64)), .long (q16 - (1 : Int64))] C0.1 cv_8_65 (M_X8_in _ g w p2 (0 : Int64) (q16 - (1 : Int64)) _ hq17) (by rw [hR]; rfl) rfl rfl (Nat.le_of_ble_eq_true rfl) (by decide +kernel) ?_
    refine am_if_ne C0 (off := 6) (tgt := 31) (by decide +kernel) (fun hc19 => ?_) (fun hc19 => ?_)
    · rw [if_neg hc19] at hf
      refine am_b1 C0 am_YYk (pc := 31) (pc2 := 32) [(.aload_n 0, 0, 0, .null)] (L := [some (.ref 26), some (.int (p1)), some (.long (p2)), none, none, none, none]) (st := []) (L' := [some (.ref 26), some (.int (p1)), some (.long (p2)), none, none, none, none]) (st' := [.ref 26]) (g' := g) (w' := w) (cl := []) (by decide +kernel) rfl trivial ?_
      obtain ⟨q18, hq18, hf⟩ := Option.bind_eq_some_iff.mp hf
      refine am_callV (mi := mi_X8_layTrial) (rm := rm_X8_layTrial) [] C0.1 am_YYl cv_8_187 (M_X8_layTrial _ F g w _ hq18) (ci := 8) rfl (by decide) rfl (by rw [hR]; rfl) rfl rfl (Nat.le_of_ble_eq_true rfl) (by decide +kernel) ?_
      refine am_b1 C0 am_YYk (pc := 35) (pc2 := 38) [(.iconst 0, 0, 0, .int 0), (.istore 4, 0, 0, .null)] (L := [some (.ref 26), some (.int (p1)), some (.long (p2)), none, none, none, none]) (st := []) (L' := [some (.ref 26), some (.int (p1)), some (.long (p2)), none, some (.int ((0 : Int32))), none, none]) (st' := []) (g' := q18) (w' := w) (cl := []) (by decide +kernel) rfl trivial ?_
      refine B_X8_judge_38 x C0 hR w F p1 p2 R   F ((0 : Int32)) (q18) hf
    · rw [if_pos hc19] at hf
      refine am_b1 C0 am_YYk (pc := 28) (pc2 := 30) [(.bipush (-2), 0, 0, .int (-2))] (L := [some (.ref 26), some (.int (p1)), some (.long (p2)), none, none, none, none]) (st := []) (L' := [some (.ref 26), some (.int (p1)), some (.long (p2)), none, none, none, none]) (st' := [.int ((-2 : Int32))]) (g' := g) (w' := w) (cl := []) (by decide +kernel) rfl trivial ?_
      cases hf
      exact am_iret C0 (by decide +kernel)
/-! ShutterTownModel.follow(IIZ)I at (26,) -/
def f_X8_follow_69 (p1 : Int32) (p2 : Int32) (p3 : Int32)  (g : am_G) : Option (Int32 × am_G) :=
  some ((am_u g 26 23 ((g 26 23) + (1 : Int32))) 26 23, am_u g 26 23 ((g 26 23) + (1 : Int32)))
set_option maxRecDepth 20000 in
theorem B_X8_follow_69 (x : am_X) (C0 : am_Cm x 8 cX8_follow 4 (some .int)) (hR : am_R x = rm_X8_follow) (w : am_J) (p1 : Int32) (p2 : Int32) (p3 : Int32) (R : Int32 × am_G)   (g : am_G) (hf : f_X8_follow_69 p1 p2 p3 g = some R) : am_Ev x 4 (0, 0) (am_Q x (0, 0) (some (.int R.1)) am_YY (R.2) w) 69 [some (.ref 26), some (.int (p1)), some (.int (p2)), some (.int (p3))] [] am_YY g w := by
  unfold f_X8_follow_69 at hf
  refine am_b1 C0 am_YYk (pc := 69) (pc2 := 83) [(.aload_n 0, 0, 0, .null), (.dup, 0, 0, .null), (.getfield 198, 8, 23, .null), (.iconst 1, 0, 0, .int 1), (.iadd, 0, 0, .null), (.putfield 198, 8, 23, .null), (.aload_n 0, 0, 0, .null), (.getfield 198, 8, 23, .null)] (L := [some (.ref 26), some (.int (p1)), some (.int (p2)), some (.int (p3))]) (st := []) (L' := [some (.ref 26), some (.int (p1)), some (.int (p2)), some (.int (p3))]) (st' := [.int ((am_u g 26 23 ((g 26 23) + (1 : Int32))) 26 23)]) (g' := am_u g 26 23 ((g 26 23) + (1 : Int32))) (w' := w) (cl := []) (by decide +kernel) rfl trivial ?_
  cases hf
  exact am_iret C0 (by decide +kernel)
def f_X8_follow (g : am_G) (p1 : Int32) (p2 : Int32) (p3 : Int32) : Option (Int32 × am_G) :=
  (f_X8_in (Int32.toInt64 p1) (0 : Int64) (3 : Int64)).bind fun q1 =>
    if q1 = 0 then
      some ((-2 : Int32), g)
    else
      (f_X8_in (Int32.toInt64 p2) (0 : Int64) (3 : Int64)).bind fun q2 =>
        if q2 = 0 then
          some ((-2 : Int32), g)
        else
          if (g 26 23) = (6 : Int32) then
            some ((-4 : Int32), g)
          else
            if am_in (g 26 23) 6 then
              if am_in ((am_u g 37 (Int32.toNatClampNeg (g 26 23)) p1) 26 23) 6 then
                if am_in ((am_u (am_u g 37 (Int32.toNatClampNeg (g 26 23)) p1) 38 (Int32.toNatClampNeg ((am_u g 37 (Int32.toNatClampNeg (g 26 23)) p1) 26 23)) p2) 26 23) 6 then
                  f_X8_follow_69 p1 p2 p3 (am_u (am_u (am_u g 37 (Int32.toNatClampNeg (g 26 23)) p1) 38 (Int32.toNatClampNeg ((am_u g 37 (Int32.toNatClampNeg (g 26 23)) p1) 26 23)) p2) 39 (Int32.toNatClampNeg ((am_u (am_u g 37 (Int32.toNatClampNeg (g 26 23)) p1) 38 (Int32.toNatClampNeg ((am_u g 37 (Int32.toNatClampNeg (g 26 23)) p1) 26 23)) p2) 26 23)) (vp_nar .boolean p3))
                else none
              else none
            else none
set_option maxRecDepth 20000 in
theorem M_X8_follow (l : Launch) (g : am_G) (w : am_J) (p1 : Int32) (p2 : Int32) (p3 : Int32) (R : Int32 × am_G) (hf : f_X8_follow g p1 p2 p3 = some R) : am_Met l mi_X8_follow rm_X8_follow [.ref 26, .int p1, .int p2, .int p3] am_YY g w (some (.int R.1)) am_YY (R.2) w := by
  refine am_met (own := 8) [some (.ref 26), some (.int (p1)), some (.int (p2)), some (.int (p3))] (by decide) rfl rfl (by first | decide | exact Nat.le_of_ble_eq_true rfl) (fun x C0 hR hl hnm => ?_)
  unfold f_X8_follow at hf
  refine am_b1 C0 am_YYk (pc := 0) (pc2 := 6) [(.iload_n 1, 0, 0, .null), (.i2l, 0, 0, .null), (.lconst 0, 0, 0, .long 0), (.ldc2_w 135, 0, 0, .long 3)] (L := [some (.ref 26), some (.int (p1)), some (.int (p2)), some (.int (p3))]) (st := []) (L' := [some (.ref 26), some (.int (p1)), some (.int (p2)), some (.int (p3))]) (st' := [.long ((3 : Int64)), .long ((0 : Int64)), .long (Int32.toInt64 p1)]) (g' := g) (w' := w) (cl := []) (by decide +kernel) rfl trivial ?_
  obtain ⟨q1, hq1, hf⟩ := Option.bind_eq_some_iff.mp hf
  refine am_callS (mi := mi_X8_in) (rm := rm_X8_in) [.long (Int32.toInt64 p1), .long ((0 : Int64)), .long ((3 : Int64))] C0.1 cv_8_65 (M_X8_in _ g w (Int32.toInt64 p1) (0 : Int64) (3 : Int64) _ hq1) (by rw [hR]; rfl) rfl rfl (Nat.le_of_ble_eq_true rfl) (by decide +kernel) ?_
  refine am_if_eq C0 (off := 15) (tgt := 24) (by decide +kernel) (fun hc8 => ?_) (fun hc8 => ?_)
  · rw [if_pos hc8] at hf
    refine am_b1 C0 am_YYk (pc := 24) (pc2 := 26) [(.bipush (-2), 0, 0, .int (-2))] (L := [some (.ref 26), some (.int (p1)), some (.int (p2)), some (.int (p3))]) (st := []) (L' := [some (.ref 26), some (.int (p1)), some (.int (p2)), some (.int (p3))]) (st' := [.int ((-2 : Int32))]) (g' := g) (w' := w) (cl := []) (by decide +kernel) rfl trivial ?_
    cases hf
    exact am_iret C0 (by decide +kernel)
  · rw [if_neg hc8] at hf
    refine am_b1 C0 am_YYk (pc := 12) (pc2 := 18) [(.iload_n 2, 0, 0, .null), (.i2l, 0, 0, .null), (.lconst 0, 0, 0, .long 0), (.ldc2_w 135, 0, 0, .long 3)] (L := [some (.ref 26), some (.int (p1)), some (.int (p2)), some (.int (p3))]) (st := []) (L' := [some (.ref 26), some (.int (p1)), some (.int (p2)), some (.int (p3))]) (st' := [.long ((3 : Int64)), .long ((0 : Int64)), .long (Int32.toInt64 p2)]) (g' := g) (w' := w) (cl := []) (by decide +kernel) rfl trivial ?_
    obtain ⟨q2, hq2, hf⟩ := Option.bind_eq_some_iff.mp hf
    refine am_callS (mi := mi_X8_in) (rm := rm_X8_in) [.long (Int32.toInt64 p2), .long ((0 : Int64)), .long ((3 : Int64))] C0.1 cv_8_65 (M_X8_in _ g w (Int32.toInt64 p2) (0 : Int64) (3 : Int64) _ hq2) (by rw [hR]; rfl) rfl rfl (Nat.le_of_ble_eq_true rfl) (by decide +kernel) ?_
    refine am_if_ne C0 (off := 6) (tgt := 27) (by decide +kernel) (fun hc7 => ?_) (fun hc7 => ?_)
    · rw [if_neg hc7] at hf
      refine am_b1 C0 am_YYk (pc := 27) (pc2 := 33) [(.aload_n 0, 0, 0, .null), (.getfield 198, 8, 23, .null), (.bipush 6, 0, 0, .int 6)] (L := [some (.ref 26), some (.int (p1)), some (.int (p2)), some (.int (p3))]) (st := []) (L' := [some (.ref 26), some (.int (p1)), some (.int (p2)), some (.int (p3))]) (st' := [.int ((6 : Int32)), .int (g 26 23)]) (g' := g) (w' := w) (cl := []) (by decide +kernel) rfl trivial ?_
      refine am_icmp_ne C0 (off := 6) (tgt := 39) (by decide +kernel) (fun hc6 => ?_) (fun hc6 => ?_)
      · rw [if_neg hc6] at hf
        obtain ⟨hg3, hf⟩ := am_g hf
        obtain ⟨hg4, hf⟩ := am_g hf
        obtain ⟨hg5, hf⟩ := am_g hf
        refine am_b1 C0 am_YYk (pc := 39) (pc2 := 69) [(.aload_n 0, 0, 0, .null), (.getfield 40, 8, 24, .null), (.aload_n 0, 0, 0, .null), (.getfield 198, 8, 23, .null), (.iload_n 1, 0, 0, .null), (.iastore, 0, 0, .null), (.aload_n 0, 0, 0, .null), (.getfield 43, 8, 25, .null), (.aload_n 0, 0, 0, .null), (.getfield 198, 8, 23, .null), (.iload_n 2, 0, 0, .null), (.iastore, 0, 0, .null), (.aload_n 0, 0, 0, .null), (.getfield 46, 8, 26, .null), (.aload_n 0, 0, 0, .null), (.getfield 198, 8, 23, .null), (.iload_n 3, 0, 0, .null), (.bastore, 0, 0, .null)] (L := [some (.ref 26), some (.int (p1)), some (.int (p2)), some (.int (p3))]) (st := []) (L' := [some (.ref 26), some (.int (p1)), some (.int (p2)), some (.int (p3))]) (st' := []) (g' := am_u (am_u (am_u g 37 (Int32.toNatClampNeg (g 26 23)) p1) 38 (Int32.toNatClampNeg ((am_u g 37 (Int32.toNatClampNeg (g 26 23)) p1) 26 23)) p2) 39 (Int32.toNatClampNeg ((am_u (am_u g 37 (Int32.toNatClampNeg (g 26 23)) p1) 38 (Int32.toNatClampNeg ((am_u g 37 (Int32.toNatClampNeg (g 26 23)) p1) 26 23)) p2) 26 23)) (vp_nar .boolean p3)) (w' := w) (cl := [am_in (g 26 23) 6, am_in ((am_u g 37 (Int32.toNatClampNeg (g 26 23)) p1) 26 23) 6, am_in ((am_u (am_u g 37 (Int32.toNatClampNeg (g 26 23)) p1) 38 (Int32.toNatClampNeg ((am_u g 37 (Int32.toNatClampNeg (g 26 23)) p1) 26 23)) p2) 26 23) 6]) (by decide +kernel) rfl ⟨hg3, hg4, hg5, trivial⟩ ?_
        exact B_X8_follow_69 x C0 hR w p1 p2 p3 R  (am_u (am_u (am_u g 37 (Int32.toNatClampNeg (g 26 23)) p1) 38 (Int32.toNatClampNeg ((am_u g 37 (Int32.toNatClampNeg (g 26 23)) p1) 26 23)) p2) 39 (Int32.toNatClampNeg ((am_u (am_u g 37 (Int32.toNatClampNeg (g 26 23)) p1) 38 (Int32.toNatClampNeg ((am_u g 37 (Int32.toNatClampNeg (g 26 23)) p1) 26 23)) p2) 26 23)) (vp_nar .boolean p3)) hf
      · rw [if_pos hc6] at hf
        refine am_b1 C0 am_YYk (pc := 36) (pc2 := 38) [(.bipush (-4), 0, 0, .int (-4))] (L := [some (.ref 26), some (.int (p1)), some (.int (p2)), some (.int (p3))]) (st := []) (L' := [some (.ref 26), some (.int (p1)), some (.int (p2)), some (.int (p3))]) (st' := [.int ((-4 : Int32))]) (g' := g) (w' := w) (cl := []) (by decide +kernel) rfl trivial ?_
        cases hf
        exact am_iret C0 (by decide +kernel)
    · rw [if_pos hc7] at hf
      refine am_b1 C0 am_YYk (pc := 24) (pc2 := 26) [(.bipush (-2), 0, 0, .int (-2))] (L := [some (.ref 26), some (.int (p1)), some (.int (p2)), some (.int (p3))]) (st := []) (L' := [some (.ref 26), some (.int (p1)), some (.int (p2)), some (.int (p3))]) (st' := [.int ((-2 : Int32))]) (g' := g) (w' := w) (cl := []) (by decide +kernel) rfl trivial ?_
      cases hf
      exact am_iret C0 (by decide +kernel)
/-! ShutterTownModel.unfollow()I at (26,) -/
def f_X8_unfollow (g : am_G) : Option (Int32 × am_G) :=
  some (g 26 23, am_u g 26 23 (0 : Int32))
set_option maxRecDepth 20000 in
theorem M_X8_unfollow (l : Launch) (g : am_G) (w : am_J)  (R : Int32 × am_G) (hf : f_X8_unfollow g = some R) : am_Met l mi_X8_unfollow rm_X8_unfollow [.ref 26] am_YY g w (some (.int R.1)) am_YY (R.2) w := by
  refine am_met (own := 8) [some (.ref 26), none] (by decide) rfl rfl (by first | decide | exact Nat.le_of_ble_eq_true rfl) (fun x C0 hR hl hnm => ?_)
  unfold f_X8_unfollow at hf
  refine am_b1 C0 am_YYk (pc := 0) (pc2 := 11) [(.aload_n 0, 0, 0, .null), (.getfield 198, 8, 23, .null), (.istore_n 1, 0, 0, .null), (.aload_n 0, 0, 0, .null), (.iconst 0, 0, 0, .int 0), (.putfield 198, 8, 23, .null), (.iload_n 1, 0, 0, .null)] (L := [some (.ref 26), none]) (st := []) (L' := [some (.ref 26), some (.int (g 26 23))]) (st' := [.int (g 26 23)]) (g' := am_u g 26 23 (0 : Int32)) (w' := w) (cl := []) (by decide +kernel) rfl trivial ?_
  cases hf
  exact am_iret C0 (by decide +kernel)
/-! ShutterTownModel.wordBy(II)I at () -/
def f_X8_wordBy (p0 : Int32) (p1 : Int32) : Option (Int32) :=
  some ((p0 >>> (((2 : Int32) * ((3 : Int32) - p1)) &&& 31)) &&& (3 : Int32))
set_option maxRecDepth 20000 in
theorem M_X8_wordBy (l : Launch) (g : am_G) (w : am_J) (p0 : Int32) (p1 : Int32) (R : Int32) (hf : f_X8_wordBy p0 p1 = some R) : am_Met l mi_X8_wordBy rm_X8_wordBy [.int p0, .int p1] am_YY g w (some (.int R)) am_YY g w := by
  refine am_met (own := 8) [some (.int (p0)), some (.int (p1))] (by decide) rfl rfl (by first | decide | exact Nat.le_of_ble_eq_true rfl) (fun x C0 hR hl hnm => ?_)
  unfold f_X8_wordBy at hf
  refine am_b1 C0 am_YYk (pc := 0) (pc2 := 9) [(.iload_n 0, 0, 0, .null), (.iconst 2, 0, 0, .int 2), (.iconst 3, 0, 0, .int 3), (.iload_n 1, 0, 0, .null), (.isub, 0, 0, .null), (.imul, 0, 0, .null), (.ishr, 0, 0, .null), (.iconst 3, 0, 0, .int 3), (.iand, 0, 0, .null)] (L := [some (.int (p0)), some (.int (p1))]) (st := []) (L' := [some (.int (p0)), some (.int (p1))]) (st' := [.int ((p0 >>> (((2 : Int32) * ((3 : Int32) - p1)) &&& 31)) &&& (3 : Int32))]) (g' := g) (w' := w) (cl := []) (by decide +kernel) rfl trivial ?_
  cases hf
  exact am_iret C0 (by decide +kernel)
/-! ShutterTownModel.isCode(I)Z at (26,) -/
def f_X8_isCode_68 (F : Nat) (g : am_G) (p1 : Int32) (k4 : Int32 → Int32 → Option (Int32)) (l3 : Int32) (s0 : Int32) : Option (Int32) :=
  k4 (s0) (l3 + (1 : Int32))
set_option maxRecDepth 20000 in
theorem B_X8_isCode_68 (x : am_X) (C0 : am_Cm x 8 cX8_isCode 5 (some .boolean)) (hR : am_R x = rm_X8_isCode) (w : am_J) (F : Nat) (g : am_G) (p1 : Int32) (R : Int32) (k4 : Int32 → Int32 → Option (Int32)) (hk4 : ∀ (l2 : Int32) (l3 : Int32), k4 l2 l3 = some R → am_Ev x 5 (0, 0) (am_Q x (0, 0) (some (.int R)) am_YY g w) 4 [some (.ref 26), some (.int (p1)), some (.int (l2)), some (.int (l3)), none] [] am_YY g w) (l3 : Int32) (s0 : Int32) (hf : f_X8_isCode_68 F g p1 k4 l3 s0 = some R) : am_Ev x 5 (0, 0) (am_Q x (0, 0) (some (.int R)) am_YY g w) 68 [some (.ref 26), some (.int (p1)), none, some (.int (l3)), none] [.int (s0)] am_YY g w := by
  unfold f_X8_isCode_68 at hf
  refine am_b1 C0 am_YYk (pc := 68) (pc2 := 72) [(.istore_n 2, 0, 0, .null), (.iinc 3 1, 0, 0, .int 1)] (L := [some (.ref 26), some (.int (p1)), none, some (.int (l3)), none]) (st := [.int (s0)]) (L' := [some (.ref 26), some (.int (p1)), some (.int (s0)), some (.int (l3 + (1 : Int32))), none]) (st' := []) (g' := g) (w' := w) (cl := []) (by decide +kernel) rfl trivial ?_
  refine am_goto C0 (off := (-68)) (tgt := 4) (by decide +kernel) ?_
  exact hk4 (s0) (l3 + (1 : Int32)) hf
def f_X8_isCode_63 (F : Nat) (g : am_G) (p1 : Int32) (k4 : Int32 → Int32 → Option (Int32)) (l3 : Int32) : Option (Int32) :=
  f_X8_isCode_68 F g p1 k4 (l3) ((1 : Int32))
set_option maxRecDepth 20000 in
theorem B_X8_isCode_63 (x : am_X) (C0 : am_Cm x 8 cX8_isCode 5 (some .boolean)) (hR : am_R x = rm_X8_isCode) (w : am_J) (F : Nat) (g : am_G) (p1 : Int32) (R : Int32) (k4 : Int32 → Int32 → Option (Int32)) (hk4 : ∀ (l2 : Int32) (l3 : Int32), k4 l2 l3 = some R → am_Ev x 5 (0, 0) (am_Q x (0, 0) (some (.int R)) am_YY g w) 4 [some (.ref 26), some (.int (p1)), some (.int (l2)), some (.int (l3)), none] [] am_YY g w) (l3 : Int32) (hf : f_X8_isCode_63 F g p1 k4 l3 = some R) : am_Ev x 5 (0, 0) (am_Q x (0, 0) (some (.int R)) am_YY g w) 63 [some (.ref 26), some (.int (p1)), none, some (.int (l3)), none] [] am_YY g w := by
  unfold f_X8_isCode_63 at hf
  refine am_b1 C0 am_YYk (pc := 63) (pc2 := 64) [(.iconst 1, 0, 0, .int 1)] (L := [some (.ref 26), some (.int (p1)), none, some (.int (l3)), none]) (st := []) (L' := [some (.ref 26), some (.int (p1)), none, some (.int (l3)), none]) (st' := [.int ((1 : Int32))]) (g' := g) (w' := w) (cl := []) (by decide +kernel) rfl trivial ?_
  refine am_goto C0 (off := 4) (tgt := 68) (by decide +kernel) ?_
  exact B_X8_isCode_68 x C0 hR w F g p1 R _ hk4 (l3) ((1 : Int32)) hf
def f_X8_isCode_67 (F : Nat) (g : am_G) (p1 : Int32) (k4 : Int32 → Int32 → Option (Int32)) (l3 : Int32) : Option (Int32) :=
  f_X8_isCode_68 F g p1 k4 (l3) ((0 : Int32))
set_option maxRecDepth 20000 in
theorem B_X8_isCode_67 (x : am_X) (C0 : am_Cm x 8 cX8_isCode 5 (some .boolean)) (hR : am_R x = rm_X8_isCode) (w : am_J) (F : Nat) (g : am_G) (p1 : Int32) (R : Int32) (k4 : Int32 → Int32 → Option (Int32)) (hk4 : ∀ (l2 : Int32) (l3 : Int32), k4 l2 l3 = some R → am_Ev x 5 (0, 0) (am_Q x (0, 0) (some (.int R)) am_YY g w) 4 [some (.ref 26), some (.int (p1)), some (.int (l2)), some (.int (l3)), none] [] am_YY g w) (l3 : Int32) (hf : f_X8_isCode_67 F g p1 k4 l3 = some R) : am_Ev x 5 (0, 0) (am_Q x (0, 0) (some (.int R)) am_YY g w) 67 [some (.ref 26), some (.int (p1)), none, some (.int (l3)), none] [] am_YY g w := by
  unfold f_X8_isCode_67 at hf
  refine am_b1 C0 am_YYk (pc := 67) (pc2 := 68) [(.iconst 0, 0, 0, .int 0)] (L := [some (.ref 26), some (.int (p1)), none, some (.int (l3)), none]) (st := []) (L' := [some (.ref 26), some (.int (p1)), none, some (.int (l3)), none]) (st' := [.int ((0 : Int32))]) (g' := g) (w' := w) (cl := []) (by decide +kernel) rfl trivial ?_
  exact B_X8_isCode_68 x C0 hR w F g p1 R _ hk4 (l3) ((0 : Int32)) hf
def f_X8_isCode_4 (F : Nat) (g : am_G) (p1 : Int32)  : Nat → Int32 → Int32 → Option (Int32)
  | 0, _, _ => none
  | n + 1, l2, l3 =>
    if (g 26 23) ≤ l3 then
      if l2 = 0 ∨ l2 = 1 then
        some (l2)
      else none
    else
      if am_in l3 6 then
        (f_X8_wordBy p1 (g 37 (Int32.toNatClampNeg l3))).bind fun q3 =>
          if l2 = 0 then
            f_X8_isCode_67 F g p1 (fun l2 l3 => f_X8_isCode_4 F g p1 n l2 l3) (l3)
          else
            if am_in l3 6 then
              if q3 = (g 38 (Int32.toNatClampNeg l3)) then
                f_X8_isCode_63 F g p1 (fun l2 l3 => f_X8_isCode_4 F g p1 n l2 l3) (l3)
              else
                if am_in l3 6 then
                  if (g 39 (Int32.toNatClampNeg l3)) = 0 then
                    if am_in l3 6 then
                      if q3 = (((g 38 (Int32.toNatClampNeg l3)) + (1 : Int32)) - ((g 38 (Int32.toNatClampNeg l3)) + (1 : Int32)) / (4 : Int32) * (4 : Int32)) then
                        f_X8_isCode_63 F g p1 (fun l2 l3 => f_X8_isCode_4 F g p1 n l2 l3) (l3)
                      else
                        f_X8_isCode_67 F g p1 (fun l2 l3 => f_X8_isCode_4 F g p1 n l2 l3) (l3)
                    else none
                  else
                    f_X8_isCode_67 F g p1 (fun l2 l3 => f_X8_isCode_4 F g p1 n l2 l3) (l3)
                else none
            else none
      else none
set_option maxRecDepth 20000 in
theorem B_X8_isCode_4 (x : am_X) (C0 : am_Cm x 8 cX8_isCode 5 (some .boolean)) (hR : am_R x = rm_X8_isCode) (w : am_J) (F : Nat) (g : am_G) (p1 : Int32) (R : Int32)   : ∀ (n : Nat) (l2 : Int32) (l3 : Int32), f_X8_isCode_4 F g p1 n l2 l3 = some R → am_Ev x 5 (0, 0) (am_Q x (0, 0) (some (.int R)) am_YY g w) 4 [some (.ref 26), some (.int (p1)), some (.int (l2)), some (.int (l3)), none] [] am_YY g w := by
  intro n
  induction n with
  | zero => intro l2 l3 hf; cases hf
  | succ n ih =>
    intro l2 l3 hf
    rw [f_X8_isCode_4.eq_2] at hf
    refine am_b1 C0 am_YYk (pc := 4) (pc2 := 9) [(.iload_n 3, 0, 0, .null), (.aload_n 0, 0, 0, .null), (.getfield 198, 8, 23, .null)] (L := [some (.ref 26), some (.int (p1)), some (.int (l2)), some (.int (l3)), none]) (st := []) (L' := [some (.ref 26), some (.int (p1)), some (.int (l2)), some (.int (l3)), none]) (st' := [.int (g 26 23), .int (l3)]) (g' := g) (w' := w) (cl := []) (by decide +kernel) rfl trivial ?_
    refine am_icmp_ge C0 (off := 66) (tgt := 75) (by decide +kernel) (fun hc11 => ?_) (fun hc11 => ?_)
    · rw [if_pos hc11] at hf
      refine am_b1 C0 am_YYk (pc := 75) (pc2 := 76) [(.iload_n 2, 0, 0, .null)] (L := [some (.ref 26), some (.int (p1)), some (.int (l2)), some (.int (l3)), none]) (st := []) (L' := [some (.ref 26), some (.int (p1)), some (.int (l2)), some (.int (l3)), none]) (st' := [.int (l2)]) (g' := g) (w' := w) (cl := []) (by decide +kernel) rfl trivial ?_
      obtain ⟨hz1, hf⟩ := am_g hf
      cases hf
      exact am_zret C0 (by decide +kernel) hz1
    · rw [if_neg hc11] at hf
      obtain ⟨hg2, hf⟩ := am_g hf
      refine am_b1 C0 am_YYk (pc := 12) (pc2 := 19) [(.iload_n 1, 0, 0, .null), (.aload_n 0, 0, 0, .null), (.getfield 40, 8, 24, .null), (.iload_n 3, 0, 0, .null), (.iaload, 0, 0, .null)] (L := [some (.ref 26), some (.int (p1)), some (.int (l2)), some (.int (l3)), none]) (st := []) (L' := [some (.ref 26), some (.int (p1)), some (.int (l2)), some (.int (l3)), none]) (st' := [.int (g 37 (Int32.toNatClampNeg l3)), .int (p1)]) (g' := g) (w' := w) (cl := [am_in l3 6]) (by decide +kernel) rfl ⟨hg2, trivial⟩ ?_
      obtain ⟨q3, hq3, hf⟩ := Option.bind_eq_some_iff.mp hf
      refine am_callS (mi := mi_X8_wordBy) (rm := rm_X8_wordBy) [.int (p1), .int (g 37 (Int32.toNatClampNeg l3))] C0.1 cv_8_201 (M_X8_wordBy _ g w p1 (g 37 (Int32.toNatClampNeg l3)) _ hq3) (by rw [hR]; rfl) rfl rfl (Nat.le_of_ble_eq_true rfl) (by decide +kernel) ?_
      refine am_b1 C0 am_YYk (pc := 22) (pc2 := 25) [(.istore 4, 0, 0, .null), (.iload_n 2, 0, 0, .null)] (L := [some (.ref 26), some (.int (p1)), some (.int (l2)), some (.int (l3)), none]) (st := [.int (q3)]) (L' := [some (.ref 26), some (.int (p1)), some (.int (l2)), some (.int (l3)), some (.int (q3))]) (st' := [.int (l2)]) (g' := g) (w' := w) (cl := []) (by decide +kernel) rfl trivial ?_
      refine am_if_eq C0 (off := 42) (tgt := 67) (by decide +kernel) (fun hc10 => ?_) (fun hc10 => ?_)
      · rw [if_pos hc10] at hf
        refine am_wk [some (.ref 26), some (.int (p1)), none, some (.int (l3)), none] ⟨rfl, rfl, rfl, trivial⟩ rfl ?_
        exact B_X8_isCode_67 x C0 hR w F g p1 R _ (fun l2 l3 hf => ih l2 l3 hf) (l3) hf
      · rw [if_neg hc10] at hf
        obtain ⟨hg4, hf⟩ := am_g hf
        refine am_b1 C0 am_YYk (pc := 28) (pc2 := 36) [(.iload 4, 0, 0, .null), (.aload_n 0, 0, 0, .null), (.getfield 43, 8, 25, .null), (.iload_n 3, 0, 0, .null), (.iaload, 0, 0, .null)] (L := [some (.ref 26), some (.int (p1)), some (.int (l2)), some (.int (l3)), some (.int (q3))]) (st := []) (L' := [some (.ref 26), some (.int (p1)), some (.int (l2)), some (.int (l3)), some (.int (q3))]) (st' := [.int (g 38 (Int32.toNatClampNeg l3)), .int (q3)]) (g' := g) (w' := w) (cl := [am_in l3 6]) (by decide +kernel) rfl ⟨hg4, trivial⟩ ?_
        refine am_icmp_eq C0 (off := 27) (tgt := 63) (by decide +kernel) (fun hc9 => ?_) (fun hc9 => ?_)
        · rw [if_pos hc9] at hf
          refine am_wk [some (.ref 26), some (.int (p1)), none, some (.int (l3)), none] ⟨rfl, rfl, rfl, trivial⟩ rfl ?_
          exact B_X8_isCode_63 x C0 hR w F g p1 R _ (fun l2 l3 hf => ih l2 l3 hf) (l3) hf
        · rw [if_neg hc9] at hf
          obtain ⟨hg5, hf⟩ := am_g hf
          refine am_b1 C0 am_YYk (pc := 39) (pc2 := 45) [(.aload_n 0, 0, 0, .null), (.getfield 46, 8, 26, .null), (.iload_n 3, 0, 0, .null), (.baload, 0, 0, .null)] (L := [some (.ref 26), some (.int (p1)), some (.int (l2)), some (.int (l3)), some (.int (q3))]) (st := []) (L' := [some (.ref 26), some (.int (p1)), some (.int (l2)), some (.int (l3)), some (.int (q3))]) (st' := [.int (g 39 (Int32.toNatClampNeg l3))]) (g' := g) (w' := w) (cl := [am_in l3 6]) (by decide +kernel) rfl ⟨hg5, trivial⟩ ?_
          refine am_if_ne C0 (off := 22) (tgt := 67) (by decide +kernel) (fun hc8 => ?_) (fun hc8 => ?_)
          · rw [if_neg hc8] at hf
            refine am_wk [some (.ref 26), some (.int (p1)), none, some (.int (l3)), none] ⟨rfl, rfl, rfl, trivial⟩ rfl ?_
            exact B_X8_isCode_67 x C0 hR w F g p1 R _ (fun l2 l3 hf => ih l2 l3 hf) (l3) hf
          · rw [if_pos hc8] at hf
            obtain ⟨hg6, hf⟩ := am_g hf
            refine am_b1 C0 am_YYk (pc := 48) (pc2 := 60) [(.iload 4, 0, 0, .null), (.aload_n 0, 0, 0, .null), (.getfield 43, 8, 25, .null), (.iload_n 3, 0, 0, .null), (.iaload, 0, 0, .null), (.iconst 1, 0, 0, .int 1), (.iadd, 0, 0, .null), (.iconst 4, 0, 0, .int 4), (.irem, 0, 0, .null)] (L := [some (.ref 26), some (.int (p1)), some (.int (l2)), some (.int (l3)), some (.int (q3))]) (st := []) (L' := [some (.ref 26), some (.int (p1)), some (.int (l2)), some (.int (l3)), some (.int (q3))]) (st' := [.int (((g 38 (Int32.toNatClampNeg l3)) + (1 : Int32)) - ((g 38 (Int32.toNatClampNeg l3)) + (1 : Int32)) / (4 : Int32) * (4 : Int32)), .int (q3)]) (g' := g) (w' := w) (cl := [am_in l3 6, ¬ (4 : Int32) = 0]) (by decide +kernel) rfl ⟨hg6, by decide, trivial⟩ ?_
            refine am_icmp_ne C0 (off := 7) (tgt := 67) (by decide +kernel) (fun hc7 => ?_) (fun hc7 => ?_)
            · rw [if_neg hc7] at hf
              refine am_wk [some (.ref 26), some (.int (p1)), none, some (.int (l3)), none] ⟨rfl, rfl, rfl, trivial⟩ rfl ?_
              exact B_X8_isCode_67 x C0 hR w F g p1 R _ (fun l2 l3 hf => ih l2 l3 hf) (l3) hf
            · rw [if_pos hc7] at hf
              refine am_wk [some (.ref 26), some (.int (p1)), none, some (.int (l3)), none] ⟨rfl, rfl, rfl, trivial⟩ rfl ?_
              exact B_X8_isCode_63 x C0 hR w F g p1 R _ (fun l2 l3 hf => ih l2 l3 hf) (l3) hf
def f_X8_isCode (F : Nat) (g : am_G) (p1 : Int32) : Option (Int32) :=
  f_X8_isCode_4 F g p1 F ((1 : Int32)) ((0 : Int32))
set_option maxRecDepth 20000 in
theorem M_X8_isCode (l : Launch) (F : Nat) (g : am_G) (w : am_J) (p1 : Int32) (R : Int32) (hf : f_X8_isCode F g p1 = some R) : am_Met l mi_X8_isCode rm_X8_isCode [.ref 26, .int p1] am_YY g w (some (.int R)) am_YY g w := by
  refine am_met (own := 8) [some (.ref 26), some (.int (p1)), none, none, none] (by decide) rfl rfl (by first | decide | exact Nat.le_of_ble_eq_true rfl) (fun x C0 hR hl hnm => ?_)
  unfold f_X8_isCode at hf
  refine am_b1 C0 am_YYk (pc := 0) (pc2 := 4) [(.iconst 1, 0, 0, .int 1), (.istore_n 2, 0, 0, .null), (.iconst 0, 0, 0, .int 0), (.istore_n 3, 0, 0, .null)] (L := [some (.ref 26), some (.int (p1)), none, none, none]) (st := []) (L' := [some (.ref 26), some (.int (p1)), some (.int ((1 : Int32))), some (.int ((0 : Int32))), none]) (st' := []) (g' := g) (w' := w) (cl := []) (by decide +kernel) rfl trivial ?_
  refine B_X8_isCode_4 x C0 hR w F g p1 R   F ((1 : Int32)) ((0 : Int32)) hf
/-! ShutterTownModel.codes(Z)I at (26,) -/
def f_X8_codes_80 (F : Nat) (g : am_G) (p1 : Int32)  (l2 : Int32) (l3 : Int32) : Option (Int32) :=
  if p1 = 0 then
    some (l2)
  else
    some (l3)
set_option maxRecDepth 20000 in
theorem B_X8_codes_80 (x : am_X) (C0 : am_Cm x 8 cX8_codes 5 (some .int)) (hR : am_R x = rm_X8_codes) (w : am_J) (F : Nat) (g : am_G) (p1 : Int32) (R : Int32)   (l2 : Int32) (l3 : Int32) (hf : f_X8_codes_80 F g p1 l2 l3 = some R) : am_Ev x 5 (0, 0) (am_Q x (0, 0) (some (.int R)) am_YY g w) 80 [none, some (.int (p1)), some (.int (l2)), some (.int (l3)), none] [] am_YY g w := by
  unfold f_X8_codes_80 at hf
  refine am_b1 C0 am_YYk (pc := 80) (pc2 := 81) [(.iload_n 1, 0, 0, .null)] (L := [none, some (.int (p1)), some (.int (l2)), some (.int (l3)), none]) (st := []) (L' := [none, some (.int (p1)), some (.int (l2)), some (.int (l3)), none]) (st' := [.int (p1)]) (g' := g) (w' := w) (cl := []) (by decide +kernel) rfl trivial ?_
  refine am_if_eq C0 (off := 7) (tgt := 88) (by decide +kernel) (fun hc1 => ?_) (fun hc1 => ?_)
  · rw [if_pos hc1] at hf
    refine am_b1 C0 am_YYk (pc := 88) (pc2 := 89) [(.iload_n 2, 0, 0, .null)] (L := [none, some (.int (p1)), some (.int (l2)), some (.int (l3)), none]) (st := []) (L' := [none, some (.int (p1)), some (.int (l2)), some (.int (l3)), none]) (st' := [.int (l2)]) (g' := g) (w' := w) (cl := []) (by decide +kernel) rfl trivial ?_
    cases hf
    exact am_iret C0 (by decide +kernel)
  · rw [if_neg hc1] at hf
    refine am_b1 C0 am_YYk (pc := 84) (pc2 := 85) [(.iload_n 3, 0, 0, .null)] (L := [none, some (.int (p1)), some (.int (l2)), some (.int (l3)), none]) (st := []) (L' := [none, some (.int (p1)), some (.int (l2)), some (.int (l3)), none]) (st' := [.int (l3)]) (g' := g) (w' := w) (cl := []) (by decide +kernel) rfl trivial ?_
    refine am_goto C0 (off := 4) (tgt := 89) (by decide +kernel) ?_
    cases hf
    exact am_iret C0 (by decide +kernel)
def f_X8_codes_74 (F : Nat) (g : am_G) (p1 : Int32) (k8 : Int32 → Int32 → Int32 → Option (Int32)) (k80 : Int32 → Int32 → Option (Int32)) (l2 : Int32) (l3 : Int32) (l4 : Int32) : Option (Int32) :=
  k8 (l2) (l3) (l4 + (1 : Int32))
set_option maxRecDepth 20000 in
theorem B_X8_codes_74 (x : am_X) (C0 : am_Cm x 8 cX8_codes 5 (some .int)) (hR : am_R x = rm_X8_codes) (w : am_J) (F : Nat) (g : am_G) (p1 : Int32) (R : Int32) (k8 : Int32 → Int32 → Int32 → Option (Int32)) (k80 : Int32 → Int32 → Option (Int32)) (hk8 : ∀ (l2 : Int32) (l3 : Int32) (l4 : Int32), k8 l2 l3 l4 = some R → am_Ev x 5 (0, 0) (am_Q x (0, 0) (some (.int R)) am_YY g w) 8 [some (.ref 26), some (.int (p1)), some (.int (l2)), some (.int (l3)), some (.int (l4))] [] am_YY g w) (hk80 : ∀ (l2 : Int32) (l3 : Int32), k80 l2 l3 = some R → am_Ev x 5 (0, 0) (am_Q x (0, 0) (some (.int R)) am_YY g w) 80 [none, some (.int (p1)), some (.int (l2)), some (.int (l3)), none] [] am_YY g w) (l2 : Int32) (l3 : Int32) (l4 : Int32) (hf : f_X8_codes_74 F g p1 k8 k80 l2 l3 l4 = some R) : am_Ev x 5 (0, 0) (am_Q x (0, 0) (some (.int R)) am_YY g w) 74 [some (.ref 26), some (.int (p1)), some (.int (l2)), some (.int (l3)), some (.int (l4))] [] am_YY g w := by
  unfold f_X8_codes_74 at hf
  refine am_b1 C0 am_YYk (pc := 74) (pc2 := 77) [(.iinc 4 1, 0, 0, .int 1)] (L := [some (.ref 26), some (.int (p1)), some (.int (l2)), some (.int (l3)), some (.int (l4))]) (st := []) (L' := [some (.ref 26), some (.int (p1)), some (.int (l2)), some (.int (l3)), some (.int (l4 + (1 : Int32)))]) (st' := []) (g' := g) (w' := w) (cl := []) (by decide +kernel) rfl trivial ?_
  refine am_goto C0 (off := (-69)) (tgt := 8) (by decide +kernel) ?_
  exact hk8 (l2) (l3) (l4 + (1 : Int32)) hf
def f_X8_codes_70 (F : Nat) (g : am_G) (p1 : Int32) (k8 : Int32 → Int32 → Int32 → Option (Int32)) (k80 : Int32 → Int32 → Option (Int32)) (l2 : Int32) (l4 : Int32) (s0 : Int32) : Option (Int32) :=
  f_X8_codes_74 F g p1 k8 k80 (l2 + (1 : Int32)) (s0) (l4)
set_option maxRecDepth 20000 in
theorem B_X8_codes_70 (x : am_X) (C0 : am_Cm x 8 cX8_codes 5 (some .int)) (hR : am_R x = rm_X8_codes) (w : am_J) (F : Nat) (g : am_G) (p1 : Int32) (R : Int32) (k8 : Int32 → Int32 → Int32 → Option (Int32)) (k80 : Int32 → Int32 → Option (Int32)) (hk8 : ∀ (l2 : Int32) (l3 : Int32) (l4 : Int32), k8 l2 l3 l4 = some R → am_Ev x 5 (0, 0) (am_Q x (0, 0) (some (.int R)) am_YY g w) 8 [some (.ref 26), some (.int (p1)), some (.int (l2)), some (.int (l3)), some (.int (l4))] [] am_YY g w) (hk80 : ∀ (l2 : Int32) (l3 : Int32), k80 l2 l3 = some R → am_Ev x 5 (0, 0) (am_Q x (0, 0) (some (.int R)) am_YY g w) 80 [none, some (.int (p1)), some (.int (l2)), some (.int (l3)), none] [] am_YY g w) (l2 : Int32) (l4 : Int32) (s0 : Int32) (hf : f_X8_codes_70 F g p1 k8 k80 l2 l4 s0 = some R) : am_Ev x 5 (0, 0) (am_Q x (0, 0) (some (.int R)) am_YY g w) 70 [some (.ref 26), some (.int (p1)), some (.int (l2)), none, some (.int (l4))] [.int (s0)] am_YY g w := by
  unfold f_X8_codes_70 at hf
  refine am_b1 C0 am_YYk (pc := 70) (pc2 := 74) [(.istore_n 3, 0, 0, .null), (.iinc 2 1, 0, 0, .int 1)] (L := [some (.ref 26), some (.int (p1)), some (.int (l2)), none, some (.int (l4))]) (st := [.int (s0)]) (L' := [some (.ref 26), some (.int (p1)), some (.int (l2 + (1 : Int32))), some (.int (s0)), some (.int (l4))]) (st' := []) (g' := g) (w' := w) (cl := []) (by decide +kernel) rfl trivial ?_
  exact B_X8_codes_74 x C0 hR w F g p1 R _ _ hk8 hk80 (l2 + (1 : Int32)) (s0) (l4) hf
def f_X8_codes_8 (F : Nat) (g : am_G) (p1 : Int32) (k80 : Int32 → Int32 → Option (Int32)) : Nat → Int32 → Int32 → Int32 → Option (Int32)
  | 0, _, _, _ => none
  | n + 1, l2, l3, l4 =>
    if (256 : Int32) ≤ l4 then
      k80 (l2) (l3)
    else
      (f_X8_isCode F g l4).bind fun q2 =>
        if q2 = 0 then
          f_X8_codes_74 F g p1 (fun l2 l3 l4 => f_X8_codes_8 F g p1 k80 n l2 l3 l4) k80 (l2) (l3) (l4)
        else
          if l2 = 0 then
            (f_X8_wordBy l4 (0 : Int32)).bind fun q3 =>
              (f_X8_wordBy l4 (1 : Int32)).bind fun q4 =>
                (f_X8_wordBy l4 (2 : Int32)).bind fun q5 =>
                  (f_X8_wordBy l4 (3 : Int32)).bind fun q6 =>
                    f_X8_codes_70 F g p1 (fun l2 l3 l4 => f_X8_codes_8 F g p1 k80 n l2 l3 l4) k80 (l2) (l4) (((((1000 : Int32) * q3) + ((100 : Int32) * q4)) + ((10 : Int32) * q5)) + q6)
          else
            f_X8_codes_70 F g p1 (fun l2 l3 l4 => f_X8_codes_8 F g p1 k80 n l2 l3 l4) k80 (l2) (l4) (l3)
set_option maxRecDepth 20000 in
theorem B_X8_codes_8 (x : am_X) (C0 : am_Cm x 8 cX8_codes 5 (some .int)) (hR : am_R x = rm_X8_codes) (w : am_J) (F : Nat) (g : am_G) (p1 : Int32) (R : Int32) (k80 : Int32 → Int32 → Option (Int32)) (hk80 : ∀ (l2 : Int32) (l3 : Int32), k80 l2 l3 = some R → am_Ev x 5 (0, 0) (am_Q x (0, 0) (some (.int R)) am_YY g w) 80 [none, some (.int (p1)), some (.int (l2)), some (.int (l3)), none] [] am_YY g w) : ∀ (n : Nat) (l2 : Int32) (l3 : Int32) (l4 : Int32), f_X8_codes_8 F g p1 k80 n l2 l3 l4 = some R → am_Ev x 5 (0, 0) (am_Q x (0, 0) (some (.int R)) am_YY g w) 8 [some (.ref 26), some (.int (p1)), some (.int (l2)), some (.int (l3)), some (.int (l4))] [] am_YY g w := by
  intro n
  induction n with
  | zero => intro l2 l3 l4 hf; cases hf
  | succ n ih =>
    intro l2 l3 l4 hf
    rw [f_X8_codes_8.eq_2] at hf
    refine am_b1 C0 am_YYk (pc := 8) (pc2 := 13) [(.iload 4, 0, 0, .null), (.sipush 256, 0, 0, .int 256)] (L := [some (.ref 26), some (.int (p1)), some (.int (l2)), some (.int (l3)), some (.int (l4))]) (st := []) (L' := [some (.ref 26), some (.int (p1)), some (.int (l2)), some (.int (l3)), some (.int (l4))]) (st' := [.int ((256 : Int32)), .int (l4)]) (g' := g) (w' := w) (cl := []) (by decide +kernel) rfl trivial ?_
    refine am_icmp_ge C0 (off := 67) (tgt := 80) (by decide +kernel) (fun hc9 => ?_) (fun hc9 => ?_)
    · rw [if_pos hc9] at hf
      refine am_wk [none, some (.int (p1)), some (.int (l2)), some (.int (l3)), none] ⟨rfl, rfl, rfl, trivial⟩ rfl ?_
      exact hk80 (l2) (l3) hf
    · rw [if_neg hc9] at hf
      refine am_b1 C0 am_YYk (pc := 16) (pc2 := 19) [(.aload_n 0, 0, 0, .null), (.iload 4, 0, 0, .null)] (L := [some (.ref 26), some (.int (p1)), some (.int (l2)), some (.int (l3)), some (.int (l4))]) (st := []) (L' := [some (.ref 26), some (.int (p1)), some (.int (l2)), some (.int (l3)), some (.int (l4))]) (st' := [.int (l4), .ref 26]) (g' := g) (w' := w) (cl := []) (by decide +kernel) rfl trivial ?_
      obtain ⟨q2, hq2, hf⟩ := Option.bind_eq_some_iff.mp hf
      refine am_callV (mi := mi_X8_isCode) (rm := rm_X8_isCode) [.int (l4)] C0.1 am_YYl cv_8_204 (M_X8_isCode _ F g w l4 _ hq2) (ci := 8) rfl (by decide) rfl (by rw [hR]; rfl) rfl rfl (Nat.le_of_ble_eq_true rfl) (by decide +kernel) ?_
      refine am_if_eq C0 (off := 52) (tgt := 74) (by decide +kernel) (fun hc8 => ?_) (fun hc8 => ?_)
      · rw [if_pos hc8] at hf
        exact B_X8_codes_74 x C0 hR w F g p1 R _ _ (fun l2 l3 l4 hf => ih l2 l3 l4 hf) hk80 (l2) (l3) (l4) hf
      · rw [if_neg hc8] at hf
        refine am_b1 C0 am_YYk (pc := 25) (pc2 := 26) [(.iload_n 2, 0, 0, .null)] (L := [some (.ref 26), some (.int (p1)), some (.int (l2)), some (.int (l3)), some (.int (l4))]) (st := []) (L' := [some (.ref 26), some (.int (p1)), some (.int (l2)), some (.int (l3)), some (.int (l4))]) (st' := [.int (l2)]) (g' := g) (w' := w) (cl := []) (by decide +kernel) rfl trivial ?_
        refine am_if_ne C0 (off := 43) (tgt := 69) (by decide +kernel) (fun hc7 => ?_) (fun hc7 => ?_)
        · rw [if_neg hc7] at hf
          refine am_b1 C0 am_YYk (pc := 69) (pc2 := 70) [(.iload_n 3, 0, 0, .null)] (L := [some (.ref 26), some (.int (p1)), some (.int (l2)), some (.int (l3)), some (.int (l4))]) (st := []) (L' := [some (.ref 26), some (.int (p1)), some (.int (l2)), some (.int (l3)), some (.int (l4))]) (st' := [.int (l3)]) (g' := g) (w' := w) (cl := []) (by decide +kernel) rfl trivial ?_
          refine am_wk [some (.ref 26), some (.int (p1)), some (.int (l2)), none, some (.int (l4))] ⟨rfl, rfl, rfl, rfl, trivial⟩ rfl ?_
          exact B_X8_codes_70 x C0 hR w F g p1 R _ _ (fun l2 l3 l4 hf => ih l2 l3 l4 hf) hk80 (l2) (l4) (l3) hf
        · rw [if_pos hc7] at hf
          refine am_b1 C0 am_YYk (pc := 29) (pc2 := 35) [(.sipush 1000, 0, 0, .int 1000), (.iload 4, 0, 0, .null), (.iconst 0, 0, 0, .int 0)] (L := [some (.ref 26), some (.int (p1)), some (.int (l2)), some (.int (l3)), some (.int (l4))]) (st := []) (L' := [some (.ref 26), some (.int (p1)), some (.int (l2)), some (.int (l3)), some (.int (l4))]) (st' := [.int ((0 : Int32)), .int (l4), .int ((1000 : Int32))]) (g' := g) (w' := w) (cl := []) (by decide +kernel) rfl trivial ?_
          obtain ⟨q3, hq3, hf⟩ := Option.bind_eq_some_iff.mp hf
          refine am_callS (mi := mi_X8_wordBy) (rm := rm_X8_wordBy) [.int (l4), .int ((0 : Int32))] C0.1 cv_8_201 (M_X8_wordBy _ g w l4 (0 : Int32) _ hq3) (by rw [hR]; rfl) rfl rfl (Nat.le_of_ble_eq_true rfl) (by decide +kernel) ?_
          refine am_b1 C0 am_YYk (pc := 38) (pc2 := 44) [(.imul, 0, 0, .null), (.bipush 100, 0, 0, .int 100), (.iload 4, 0, 0, .null), (.iconst 1, 0, 0, .int 1)] (L := [some (.ref 26), some (.int (p1)), some (.int (l2)), some (.int (l3)), some (.int (l4))]) (st := [.int (q3), .int ((1000 : Int32))]) (L' := [some (.ref 26), some (.int (p1)), some (.int (l2)), some (.int (l3)), some (.int (l4))]) (st' := [.int ((1 : Int32)), .int (l4), .int ((100 : Int32)), .int ((1000 : Int32) * q3)]) (g' := g) (w' := w) (cl := []) (by decide +kernel) rfl trivial ?_
          obtain ⟨q4, hq4, hf⟩ := Option.bind_eq_some_iff.mp hf
          refine am_callS (mi := mi_X8_wordBy) (rm := rm_X8_wordBy) [.int (l4), .int ((1 : Int32))] C0.1 cv_8_201 (M_X8_wordBy _ g w l4 (1 : Int32) _ hq4) (by rw [hR]; rfl) rfl rfl (Nat.le_of_ble_eq_true rfl) (by decide +kernel) ?_
          refine am_b1 C0 am_YYk (pc := 47) (pc2 := 54) [(.imul, 0, 0, .null), (.iadd, 0, 0, .null), (.bipush 10, 0, 0, .int 10), (.iload 4, 0, 0, .null), (.iconst 2, 0, 0, .int 2)] (L := [some (.ref 26), some (.int (p1)), some (.int (l2)), some (.int (l3)), some (.int (l4))]) (st := [.int (q4), .int ((100 : Int32)), .int ((1000 : Int32) * q3)]) (L' := [some (.ref 26), some (.int (p1)), some (.int (l2)), some (.int (l3)), some (.int (l4))]) (st' := [.int ((2 : Int32)), .int (l4), .int ((10 : Int32)), .int (((1000 : Int32) * q3) + ((100 : Int32) * q4))]) (g' := g) (w' := w) (cl := []) (by decide +kernel) rfl trivial ?_
          obtain ⟨q5, hq5, hf⟩ := Option.bind_eq_some_iff.mp hf
          refine am_callS (mi := mi_X8_wordBy) (rm := rm_X8_wordBy) [.int (l4), .int ((2 : Int32))] C0.1 cv_8_201 (M_X8_wordBy _ g w l4 (2 : Int32) _ hq5) (by rw [hR]; rfl) rfl rfl (Nat.le_of_ble_eq_true rfl) (by decide +kernel) ?_
          refine am_b1 C0 am_YYk (pc := 57) (pc2 := 62) [(.imul, 0, 0, .null), (.iadd, 0, 0, .null), (.iload 4, 0, 0, .null), (.iconst 3, 0, 0, .int 3)] (L := [some (.ref 26), some (.int (p1)), some (.int (l2)), some (.int (l3)), some (.int (l4))]) (st := [.int (q5), .int ((10 : Int32)), .int (((1000 : Int32) * q3) + ((100 : Int32) * q4))]) (L' := [some (.ref 26), some (.int (p1)), some (.int (l2)), some (.int (l3)), some (.int (l4))]) (st' := [.int ((3 : Int32)), .int (l4), .int ((((1000 : Int32) * q3) + ((100 : Int32) * q4)) + ((10 : Int32) * q5))]) (g' := g) (w' := w) (cl := []) (by decide +kernel) rfl trivial ?_
          obtain ⟨q6, hq6, hf⟩ := Option.bind_eq_some_iff.mp hf
          refine am_callS (mi := mi_X8_wordBy) (rm := rm_X8_wordBy) [.int (l4), .int ((3 : Int32))] C0.1 cv_8_201 (M_X8_wordBy _ g w l4 (3 : Int32) _ hq6) (by rw [hR]; rfl) rfl rfl (Nat.le_of_ble_eq_true rfl) (by decide +kernel) ?_
          refine am_b1 C0 am_YYk (pc := 65) (pc2 := 66) [(.iadd, 0, 0, .null)] (L := [some (.ref 26), some (.int (p1)), some (.int (l2)), some (.int (l3)), some (.int (l4))]) (st := [.int (q6), .int ((((1000 : Int32) * q3) + ((100 : Int32) * q4)) + ((10 : Int32) * q5))]) (L' := [some (.ref 26), some (.int (p1)), some (.int (l2)), some (.int (l3)), some (.int (l4))]) (st' := [.int (((((1000 : Int32) * q3) + ((100 : Int32) * q4)) + ((10 : Int32) * q5)) + q6)]) (g' := g) (w' := w) (cl := []) (by decide +kernel) rfl trivial ?_
          refine am_goto C0 (off := 4) (tgt := 70) (by decide +kernel) ?_
          refine am_wk [some (.ref 26), some (.int (p1)), some (.int (l2)), none, some (.int (l4))] ⟨rfl, rfl, rfl, rfl, trivial⟩ rfl ?_
          exact B_X8_codes_70 x C0 hR w F g p1 R _ _ (fun l2 l3 l4 hf => ih l2 l3 l4 hf) hk80 (l2) (l4) (((((1000 : Int32) * q3) + ((100 : Int32) * q4)) + ((10 : Int32) * q5)) + q6) hf
def f_X8_codes (F : Nat) (g : am_G) (p1 : Int32) : Option (Int32) :=
  f_X8_codes_8 F g p1 (fun l2 l3 => f_X8_codes_80 F g p1 (l2) (l3)) F ((0 : Int32)) ((-9 : Int32)) ((0 : Int32))
set_option maxRecDepth 20000 in
theorem M_X8_codes (l : Launch) (F : Nat) (g : am_G) (w : am_J) (p1 : Int32) (R : Int32) (hf : f_X8_codes F g p1 = some R) : am_Met l mi_X8_codes rm_X8_codes [.ref 26, .int p1] am_YY g w (some (.int R)) am_YY g w := by
  refine am_met (own := 8) [some (.ref 26), some (.int (p1)), none, none, none] (by decide) rfl rfl (by first | decide | exact Nat.le_of_ble_eq_true rfl) (fun x C0 hR hl hnm => ?_)
  unfold f_X8_codes at hf
  refine am_b1 C0 am_YYk (pc := 0) (pc2 := 8) [(.iconst 0, 0, 0, .int 0), (.istore_n 2, 0, 0, .null), (.bipush (-9), 0, 0, .int (-9)), (.istore_n 3, 0, 0, .null), (.iconst 0, 0, 0, .int 0), (.istore 4, 0, 0, .null)] (L := [some (.ref 26), some (.int (p1)), none, none, none]) (st := []) (L' := [some (.ref 26), some (.int (p1)), some (.int ((0 : Int32))), some (.int ((-9 : Int32))), some (.int ((0 : Int32)))]) (st' := []) (g' := g) (w' := w) (cl := []) (by decide +kernel) rfl trivial ?_
  refine B_X8_codes_8 x C0 hR w F g p1 R _ ?_ F ((0 : Int32)) ((-9 : Int32)) ((0 : Int32)) hf
  · intro l2 l3 hf
    exact B_X8_codes_80 x C0 hR w F g p1 R  (l2) (l3) hf
/-! ShutterTownModel.greatestPart(I)I at (26,) -/
def f_X8_greatestPart_70 (F : Nat) (g : am_G) (p1 : Int32) (k4 : Int32 → Int32 → Option (Int32)) (l3 : Int32) (s0 : Int32) : Option (Int32) :=
  k4 (s0) (l3 + (1 : Int32))
set_option maxRecDepth 20000 in
theorem B_X8_greatestPart_70 (x : am_X) (C0 : am_Cm x 8 cX8_greatestPart 6 (some .int)) (hR : am_R x = rm_X8_greatestPart) (w : am_J) (F : Nat) (g : am_G) (p1 : Int32) (R : Int32) (k4 : Int32 → Int32 → Option (Int32)) (hk4 : ∀ (l2 : Int32) (l3 : Int32), k4 l2 l3 = some R → am_Ev x 6 (0, 0) (am_Q x (0, 0) (some (.int R)) am_YY g w) 4 [some (.ref 26), some (.int (p1)), some (.int (l2)), some (.int (l3)), none, none] [] am_YY g w) (l3 : Int32) (s0 : Int32) (hf : f_X8_greatestPart_70 F g p1 k4 l3 s0 = some R) : am_Ev x 6 (0, 0) (am_Q x (0, 0) (some (.int R)) am_YY g w) 70 [some (.ref 26), some (.int (p1)), none, some (.int (l3)), none, none] [.int (s0)] am_YY g w := by
  unfold f_X8_greatestPart_70 at hf
  refine am_b1 C0 am_YYk (pc := 70) (pc2 := 74) [(.istore_n 2, 0, 0, .null), (.iinc 3 1, 0, 0, .int 1)] (L := [some (.ref 26), some (.int (p1)), none, some (.int (l3)), none, none]) (st := [.int (s0)]) (L' := [some (.ref 26), some (.int (p1)), some (.int (s0)), some (.int (l3 + (1 : Int32))), none, none]) (st' := []) (g' := g) (w' := w) (cl := []) (by decide +kernel) rfl trivial ?_
  refine am_goto C0 (off := (-70)) (tgt := 4) (by decide +kernel) ?_
  exact hk4 (s0) (l3 + (1 : Int32)) hf
def f_X8_greatestPart_58 (F : Nat) (g : am_G) (p1 : Int32) (k4 : Int32 → Int32 → Option (Int32)) (l2 : Int32) (l3 : Int32) (l4 : Int32) : Option (Int32) :=
  if l4 ≤ l2 then
    f_X8_greatestPart_70 F g p1 k4 (l3) (l2)
  else
    f_X8_greatestPart_70 F g p1 k4 (l3) (l4)
set_option maxRecDepth 20000 in
theorem B_X8_greatestPart_58 (x : am_X) (C0 : am_Cm x 8 cX8_greatestPart 6 (some .int)) (hR : am_R x = rm_X8_greatestPart) (w : am_J) (F : Nat) (g : am_G) (p1 : Int32) (R : Int32) (k4 : Int32 → Int32 → Option (Int32)) (hk4 : ∀ (l2 : Int32) (l3 : Int32), k4 l2 l3 = some R → am_Ev x 6 (0, 0) (am_Q x (0, 0) (some (.int R)) am_YY g w) 4 [some (.ref 26), some (.int (p1)), some (.int (l2)), some (.int (l3)), none, none] [] am_YY g w) (l2 : Int32) (l3 : Int32) (l4 : Int32) (hf : f_X8_greatestPart_58 F g p1 k4 l2 l3 l4 = some R) : am_Ev x 6 (0, 0) (am_Q x (0, 0) (some (.int R)) am_YY g w) 58 [some (.ref 26), some (.int (p1)), some (.int (l2)), some (.int (l3)), some (.int (l4)), none] [] am_YY g w := by
  unfold f_X8_greatestPart_58 at hf
  refine am_b1 C0 am_YYk (pc := 58) (pc2 := 61) [(.iload 4, 0, 0, .null), (.iload_n 2, 0, 0, .null)] (L := [some (.ref 26), some (.int (p1)), some (.int (l2)), some (.int (l3)), some (.int (l4)), none]) (st := []) (L' := [some (.ref 26), some (.int (p1)), some (.int (l2)), some (.int (l3)), some (.int (l4)), none]) (st' := [.int (l2), .int (l4)]) (g' := g) (w' := w) (cl := []) (by decide +kernel) rfl trivial ?_
  refine am_icmp_le C0 (off := 8) (tgt := 69) (by decide +kernel) (fun hc1 => ?_) (fun hc1 => ?_)
  · rw [if_pos hc1] at hf
    refine am_b1 C0 am_YYk (pc := 69) (pc2 := 70) [(.iload_n 2, 0, 0, .null)] (L := [some (.ref 26), some (.int (p1)), some (.int (l2)), some (.int (l3)), some (.int (l4)), none]) (st := []) (L' := [some (.ref 26), some (.int (p1)), some (.int (l2)), some (.int (l3)), some (.int (l4)), none]) (st' := [.int (l2)]) (g' := g) (w' := w) (cl := []) (by decide +kernel) rfl trivial ?_
    refine am_wk [some (.ref 26), some (.int (p1)), none, some (.int (l3)), none, none] ⟨rfl, rfl, rfl, trivial⟩ rfl ?_
    exact B_X8_greatestPart_70 x C0 hR w F g p1 R _ hk4 (l3) (l2) hf
  · rw [if_neg hc1] at hf
    refine am_b1 C0 am_YYk (pc := 64) (pc2 := 66) [(.iload 4, 0, 0, .null)] (L := [some (.ref 26), some (.int (p1)), some (.int (l2)), some (.int (l3)), some (.int (l4)), none]) (st := []) (L' := [some (.ref 26), some (.int (p1)), some (.int (l2)), some (.int (l3)), some (.int (l4)), none]) (st' := [.int (l4)]) (g' := g) (w' := w) (cl := []) (by decide +kernel) rfl trivial ?_
    refine am_goto C0 (off := 4) (tgt := 70) (by decide +kernel) ?_
    refine am_wk [some (.ref 26), some (.int (p1)), none, some (.int (l3)), none, none] ⟨rfl, rfl, rfl, trivial⟩ rfl ?_
    exact B_X8_greatestPart_70 x C0 hR w F g p1 R _ hk4 (l3) (l4) hf
def f_X8_greatestPart_49 (F : Nat) (g : am_G) (p1 : Int32) (k15 : Int32 → Int32 → Int32 → Int32 → Option (Int32)) (k58 : Int32 → Int32 → Int32 → Option (Int32)) (l2 : Int32) (l3 : Int32) (l5 : Int32) (s0 : Int32) (s1 : Int32) : Option (Int32) :=
  k15 (l2) (l3) (s0 + s1) (l5 + (1 : Int32))
set_option maxRecDepth 20000 in
theorem B_X8_greatestPart_49 (x : am_X) (C0 : am_Cm x 8 cX8_greatestPart 6 (some .int)) (hR : am_R x = rm_X8_greatestPart) (w : am_J) (F : Nat) (g : am_G) (p1 : Int32) (R : Int32) (k15 : Int32 → Int32 → Int32 → Int32 → Option (Int32)) (k58 : Int32 → Int32 → Int32 → Option (Int32)) (hk15 : ∀ (l2 : Int32) (l3 : Int32) (l4 : Int32) (l5 : Int32), k15 l2 l3 l4 l5 = some R → am_Ev x 6 (0, 0) (am_Q x (0, 0) (some (.int R)) am_YY g w) 15 [some (.ref 26), some (.int (p1)), some (.int (l2)), some (.int (l3)), some (.int (l4)), some (.int (l5))] [] am_YY g w) (hk58 : ∀ (l2 : Int32) (l3 : Int32) (l4 : Int32), k58 l2 l3 l4 = some R → am_Ev x 6 (0, 0) (am_Q x (0, 0) (some (.int R)) am_YY g w) 58 [some (.ref 26), some (.int (p1)), some (.int (l2)), some (.int (l3)), some (.int (l4)), none] [] am_YY g w) (l2 : Int32) (l3 : Int32) (l5 : Int32) (s0 : Int32) (s1 : Int32) (hf : f_X8_greatestPart_49 F g p1 k15 k58 l2 l3 l5 s0 s1 = some R) : am_Ev x 6 (0, 0) (am_Q x (0, 0) (some (.int R)) am_YY g w) 49 [some (.ref 26), some (.int (p1)), some (.int (l2)), some (.int (l3)), none, some (.int (l5))] [.int (s1), .int (s0)] am_YY g w := by
  unfold f_X8_greatestPart_49 at hf
  refine am_b1 C0 am_YYk (pc := 49) (pc2 := 55) [(.iadd, 0, 0, .null), (.istore 4, 0, 0, .null), (.iinc 5 1, 0, 0, .int 1)] (L := [some (.ref 26), some (.int (p1)), some (.int (l2)), some (.int (l3)), none, some (.int (l5))]) (st := [.int (s1), .int (s0)]) (L' := [some (.ref 26), some (.int (p1)), some (.int (l2)), some (.int (l3)), some (.int (s0 + s1)), some (.int (l5 + (1 : Int32)))]) (st' := []) (g' := g) (w' := w) (cl := []) (by decide +kernel) rfl trivial ?_
  refine am_goto C0 (off := (-40)) (tgt := 15) (by decide +kernel) ?_
  exact hk15 (l2) (l3) (s0 + s1) (l5 + (1 : Int32)) hf
def f_X8_greatestPart_48 (F : Nat) (g : am_G) (p1 : Int32) (k15 : Int32 → Int32 → Int32 → Int32 → Option (Int32)) (k58 : Int32 → Int32 → Int32 → Option (Int32)) (l2 : Int32) (l3 : Int32) (l5 : Int32) (s0 : Int32) : Option (Int32) :=
  f_X8_greatestPart_49 F g p1 k15 k58 (l2) (l3) (l5) (s0) ((0 : Int32))
set_option maxRecDepth 20000 in
theorem B_X8_greatestPart_48 (x : am_X) (C0 : am_Cm x 8 cX8_greatestPart 6 (some .int)) (hR : am_R x = rm_X8_greatestPart) (w : am_J) (F : Nat) (g : am_G) (p1 : Int32) (R : Int32) (k15 : Int32 → Int32 → Int32 → Int32 → Option (Int32)) (k58 : Int32 → Int32 → Int32 → Option (Int32)) (hk15 : ∀ (l2 : Int32) (l3 : Int32) (l4 : Int32) (l5 : Int32), k15 l2 l3 l4 l5 = some R → am_Ev x 6 (0, 0) (am_Q x (0, 0) (some (.int R)) am_YY g w) 15 [some (.ref 26), some (.int (p1)), some (.int (l2)), some (.int (l3)), some (.int (l4)), some (.int (l5))] [] am_YY g w) (hk58 : ∀ (l2 : Int32) (l3 : Int32) (l4 : Int32), k58 l2 l3 l4 = some R → am_Ev x 6 (0, 0) (am_Q x (0, 0) (some (.int R)) am_YY g w) 58 [some (.ref 26), some (.int (p1)), some (.int (l2)), some (.int (l3)), some (.int (l4)), none] [] am_YY g w) (l2 : Int32) (l3 : Int32) (l5 : Int32) (s0 : Int32) (hf : f_X8_greatestPart_48 F g p1 k15 k58 l2 l3 l5 s0 = some R) : am_Ev x 6 (0, 0) (am_Q x (0, 0) (some (.int R)) am_YY g w) 48 [some (.ref 26), some (.int (p1)), some (.int (l2)), some (.int (l3)), none, some (.int (l5))] [.int (s0)] am_YY g w := by
  unfold f_X8_greatestPart_48 at hf
  refine am_b1 C0 am_YYk (pc := 48) (pc2 := 49) [(.iconst 0, 0, 0, .int 0)] (L := [some (.ref 26), some (.int (p1)), some (.int (l2)), some (.int (l3)), none, some (.int (l5))]) (st := [.int (s0)]) (L' := [some (.ref 26), some (.int (p1)), some (.int (l2)), some (.int (l3)), none, some (.int (l5))]) (st' := [.int ((0 : Int32)), .int (s0)]) (g' := g) (w' := w) (cl := []) (by decide +kernel) rfl trivial ?_
  exact B_X8_greatestPart_49 x C0 hR w F g p1 R _ _ hk15 hk58 (l2) (l3) (l5) (s0) ((0 : Int32)) hf
def f_X8_greatestPart_15 (F : Nat) (g : am_G) (p1 : Int32) (k58 : Int32 → Int32 → Int32 → Option (Int32)) : Nat → Int32 → Int32 → Int32 → Int32 → Option (Int32)
  | 0, _, _, _, _ => none
  | n + 1, l2, l3, l4, l5 =>
    if (256 : Int32) ≤ l5 then
      k58 (l2) (l3) (l4)
    else
      (f_X8_isCode F g l5).bind fun q2 =>
        if q2 = 0 then
          f_X8_greatestPart_48 F g p1 (fun l2 l3 l4 l5 => f_X8_greatestPart_15 F g p1 k58 n l2 l3 l4 l5) k58 (l2) (l3) (l5) (l4)
        else
          (f_X8_wordBy l5 p1).bind fun q3 =>
            if q3 = l3 then
              f_X8_greatestPart_49 F g p1 (fun l2 l3 l4 l5 => f_X8_greatestPart_15 F g p1 k58 n l2 l3 l4 l5) k58 (l2) (l3) (l5) (l4) ((1 : Int32))
            else
              f_X8_greatestPart_48 F g p1 (fun l2 l3 l4 l5 => f_X8_greatestPart_15 F g p1 k58 n l2 l3 l4 l5) k58 (l2) (l3) (l5) (l4)
set_option maxRecDepth 20000 in
theorem B_X8_greatestPart_15 (x : am_X) (C0 : am_Cm x 8 cX8_greatestPart 6 (some .int)) (hR : am_R x = rm_X8_greatestPart) (w : am_J) (F : Nat) (g : am_G) (p1 : Int32) (R : Int32) (k58 : Int32 → Int32 → Int32 → Option (Int32)) (hk58 : ∀ (l2 : Int32) (l3 : Int32) (l4 : Int32), k58 l2 l3 l4 = some R → am_Ev x 6 (0, 0) (am_Q x (0, 0) (some (.int R)) am_YY g w) 58 [some (.ref 26), some (.int (p1)), some (.int (l2)), some (.int (l3)), some (.int (l4)), none] [] am_YY g w) : ∀ (n : Nat) (l2 : Int32) (l3 : Int32) (l4 : Int32) (l5 : Int32), f_X8_greatestPart_15 F g p1 k58 n l2 l3 l4 l5 = some R → am_Ev x 6 (0, 0) (am_Q x (0, 0) (some (.int R)) am_YY g w) 15 [some (.ref 26), some (.int (p1)), some (.int (l2)), some (.int (l3)), some (.int (l4)), some (.int (l5))] [] am_YY g w := by
  intro n
  induction n with
  | zero => intro l2 l3 l4 l5 hf; cases hf
  | succ n ih =>
    intro l2 l3 l4 l5 hf
    rw [f_X8_greatestPart_15.eq_2] at hf
    refine am_b1 C0 am_YYk (pc := 15) (pc2 := 20) [(.iload 5, 0, 0, .null), (.sipush 256, 0, 0, .int 256)] (L := [some (.ref 26), some (.int (p1)), some (.int (l2)), some (.int (l3)), some (.int (l4)), some (.int (l5))]) (st := []) (L' := [some (.ref 26), some (.int (p1)), some (.int (l2)), some (.int (l3)), some (.int (l4)), some (.int (l5))]) (st' := [.int ((256 : Int32)), .int (l5)]) (g' := g) (w' := w) (cl := []) (by decide +kernel) rfl trivial ?_
    refine am_icmp_ge C0 (off := 38) (tgt := 58) (by decide +kernel) (fun hc6 => ?_) (fun hc6 => ?_)
    · rw [if_pos hc6] at hf
      refine am_wk [some (.ref 26), some (.int (p1)), some (.int (l2)), some (.int (l3)), some (.int (l4)), none] ⟨rfl, rfl, rfl, rfl, rfl, trivial⟩ rfl ?_
      exact hk58 (l2) (l3) (l4) hf
    · rw [if_neg hc6] at hf
      refine am_b1 C0 am_YYk (pc := 23) (pc2 := 28) [(.iload 4, 0, 0, .null), (.aload_n 0, 0, 0, .null), (.iload 5, 0, 0, .null)] (L := [some (.ref 26), some (.int (p1)), some (.int (l2)), some (.int (l3)), some (.int (l4)), some (.int (l5))]) (st := []) (L' := [some (.ref 26), some (.int (p1)), some (.int (l2)), some (.int (l3)), some (.int (l4)), some (.int (l5))]) (st' := [.int (l5), .ref 26, .int (l4)]) (g' := g) (w' := w) (cl := []) (by decide +kernel) rfl trivial ?_
      obtain ⟨q2, hq2, hf⟩ := Option.bind_eq_some_iff.mp hf
      refine am_callV (mi := mi_X8_isCode) (rm := rm_X8_isCode) [.int (l5)] C0.1 am_YYl cv_8_204 (M_X8_isCode _ F g w l5 _ hq2) (ci := 8) rfl (by decide) rfl (by rw [hR]; rfl) rfl rfl (Nat.le_of_ble_eq_true rfl) (by decide +kernel) ?_
      refine am_if_eq C0 (off := 17) (tgt := 48) (by decide +kernel) (fun hc5 => ?_) (fun hc5 => ?_)
      · rw [if_pos hc5] at hf
        refine am_wk [some (.ref 26), some (.int (p1)), some (.int (l2)), some (.int (l3)), none, some (.int (l5))] ⟨rfl, rfl, rfl, rfl, rfl, trivial⟩ rfl ?_
        exact B_X8_greatestPart_48 x C0 hR w F g p1 R _ _ (fun l2 l3 l4 l5 hf => ih l2 l3 l4 l5 hf) hk58 (l2) (l3) (l5) (l4) hf
      · rw [if_neg hc5] at hf
        refine am_b1 C0 am_YYk (pc := 34) (pc2 := 37) [(.iload 5, 0, 0, .null), (.iload_n 1, 0, 0, .null)] (L := [some (.ref 26), some (.int (p1)), some (.int (l2)), some (.int (l3)), some (.int (l4)), some (.int (l5))]) (st := [.int (l4)]) (L' := [some (.ref 26), some (.int (p1)), some (.int (l2)), some (.int (l3)), some (.int (l4)), some (.int (l5))]) (st' := [.int (p1), .int (l5), .int (l4)]) (g' := g) (w' := w) (cl := []) (by decide +kernel) rfl trivial ?_
        obtain ⟨q3, hq3, hf⟩ := Option.bind_eq_some_iff.mp hf
        refine am_callS (mi := mi_X8_wordBy) (rm := rm_X8_wordBy) [.int (l5), .int (p1)] C0.1 cv_8_201 (M_X8_wordBy _ g w l5 p1 _ hq3) (by rw [hR]; rfl) rfl rfl (Nat.le_of_ble_eq_true rfl) (by decide +kernel) ?_
        refine am_b1 C0 am_YYk (pc := 40) (pc2 := 41) [(.iload_n 3, 0, 0, .null)] (L := [some (.ref 26), some (.int (p1)), some (.int (l2)), some (.int (l3)), some (.int (l4)), some (.int (l5))]) (st := [.int (q3), .int (l4)]) (L' := [some (.ref 26), some (.int (p1)), some (.int (l2)), some (.int (l3)), some (.int (l4)), some (.int (l5))]) (st' := [.int (l3), .int (q3), .int (l4)]) (g' := g) (w' := w) (cl := []) (by decide +kernel) rfl trivial ?_
        refine am_icmp_ne C0 (off := 7) (tgt := 48) (by decide +kernel) (fun hc4 => ?_) (fun hc4 => ?_)
        · rw [if_neg hc4] at hf
          refine am_wk [some (.ref 26), some (.int (p1)), some (.int (l2)), some (.int (l3)), none, some (.int (l5))] ⟨rfl, rfl, rfl, rfl, rfl, trivial⟩ rfl ?_
          exact B_X8_greatestPart_48 x C0 hR w F g p1 R _ _ (fun l2 l3 l4 l5 hf => ih l2 l3 l4 l5 hf) hk58 (l2) (l3) (l5) (l4) hf
        · rw [if_pos hc4] at hf
          refine am_b1 C0 am_YYk (pc := 44) (pc2 := 45) [(.iconst 1, 0, 0, .int 1)] (L := [some (.ref 26), some (.int (p1)), some (.int (l2)), some (.int (l3)), some (.int (l4)), some (.int (l5))]) (st := [.int (l4)]) (L' := [some (.ref 26), some (.int (p1)), some (.int (l2)), some (.int (l3)), some (.int (l4)), some (.int (l5))]) (st' := [.int ((1 : Int32)), .int (l4)]) (g' := g) (w' := w) (cl := []) (by decide +kernel) rfl trivial ?_
          refine am_goto C0 (off := 4) (tgt := 49) (by decide +kernel) ?_
          refine am_wk [some (.ref 26), some (.int (p1)), some (.int (l2)), some (.int (l3)), none, some (.int (l5))] ⟨rfl, rfl, rfl, rfl, rfl, trivial⟩ rfl ?_
          exact B_X8_greatestPart_49 x C0 hR w F g p1 R _ _ (fun l2 l3 l4 l5 hf => ih l2 l3 l4 l5 hf) hk58 (l2) (l3) (l5) (l4) ((1 : Int32)) hf
def f_X8_greatestPart_4 (F : Nat) (g : am_G) (p1 : Int32)  : Nat → Int32 → Int32 → Option (Int32)
  | 0, _, _ => none
  | n + 1, l2, l3 =>
    if (4 : Int32) ≤ l3 then
      some (l2)
    else
      f_X8_greatestPart_15 F g p1 (fun l2 l3 l4 => f_X8_greatestPart_58 F g p1 (fun l2 l3 => f_X8_greatestPart_4 F g p1 n l2 l3) (l2) (l3) (l4)) F (l2) (l3) ((0 : Int32)) ((0 : Int32))
set_option maxRecDepth 20000 in
theorem B_X8_greatestPart_4 (x : am_X) (C0 : am_Cm x 8 cX8_greatestPart 6 (some .int)) (hR : am_R x = rm_X8_greatestPart) (w : am_J) (F : Nat) (g : am_G) (p1 : Int32) (R : Int32)   : ∀ (n : Nat) (l2 : Int32) (l3 : Int32), f_X8_greatestPart_4 F g p1 n l2 l3 = some R → am_Ev x 6 (0, 0) (am_Q x (0, 0) (some (.int R)) am_YY g w) 4 [some (.ref 26), some (.int (p1)), some (.int (l2)), some (.int (l3)), none, none] [] am_YY g w := by
  intro n
  induction n with
  | zero => intro l2 l3 hf; cases hf
  | succ n ih =>
    intro l2 l3 hf
    rw [f_X8_greatestPart_4.eq_2] at hf
    refine am_b1 C0 am_YYk (pc := 4) (pc2 := 6) [(.iload_n 3, 0, 0, .null), (.iconst 4, 0, 0, .int 4)] (L := [some (.ref 26), some (.int (p1)), some (.int (l2)), some (.int (l3)), none, none]) (st := []) (L' := [some (.ref 26), some (.int (p1)), some (.int (l2)), some (.int (l3)), none, none]) (st' := [.int ((4 : Int32)), .int (l3)]) (g' := g) (w' := w) (cl := []) (by decide +kernel) rfl trivial ?_
    refine am_icmp_ge C0 (off := 71) (tgt := 77) (by decide +kernel) (fun hc7 => ?_) (fun hc7 => ?_)
    · rw [if_pos hc7] at hf
      refine am_b1 C0 am_YYk (pc := 77) (pc2 := 78) [(.iload_n 2, 0, 0, .null)] (L := [some (.ref 26), some (.int (p1)), some (.int (l2)), some (.int (l3)), none, none]) (st := []) (L' := [some (.ref 26), some (.int (p1)), some (.int (l2)), some (.int (l3)), none, none]) (st' := [.int (l2)]) (g' := g) (w' := w) (cl := []) (by decide +kernel) rfl trivial ?_
      cases hf
      exact am_iret C0 (by decide +kernel)
    · rw [if_neg hc7] at hf
      refine am_b1 C0 am_YYk (pc := 9) (pc2 := 15) [(.iconst 0, 0, 0, .int 0), (.istore 4, 0, 0, .null), (.iconst 0, 0, 0, .int 0), (.istore 5, 0, 0, .null)] (L := [some (.ref 26), some (.int (p1)), some (.int (l2)), some (.int (l3)), none, none]) (st := []) (L' := [some (.ref 26), some (.int (p1)), some (.int (l2)), some (.int (l3)), some (.int ((0 : Int32))), some (.int ((0 : Int32)))]) (st' := []) (g' := g) (w' := w) (cl := []) (by decide +kernel) rfl trivial ?_
      refine B_X8_greatestPart_15 x C0 hR w F g p1 R _ ?_ F (l2) (l3) ((0 : Int32)) ((0 : Int32)) hf
      · intro l2 l3 l4 hf
        exact B_X8_greatestPart_58 x C0 hR w F g p1 R _ (fun l2 l3 hf => ih l2 l3 hf) (l2) (l3) (l4) hf
def f_X8_greatestPart (F : Nat) (g : am_G) (p1 : Int32) : Option (Int32) :=
  f_X8_greatestPart_4 F g p1 F ((0 : Int32)) ((0 : Int32))
set_option maxRecDepth 20000 in
theorem M_X8_greatestPart (l : Launch) (F : Nat) (g : am_G) (w : am_J) (p1 : Int32) (R : Int32) (hf : f_X8_greatestPart F g p1 = some R) : am_Met l mi_X8_greatestPart rm_X8_greatestPart [.ref 26, .int p1] am_YY g w (some (.int R)) am_YY g w := by
  refine am_met (own := 8) [some (.ref 26), some (.int (p1)), none, none, none, none] (by decide) rfl rfl (by first | decide | exact Nat.le_of_ble_eq_true rfl) (fun x C0 hR hl hnm => ?_)
  unfold f_X8_greatestPart at hf
  refine am_b1 C0 am_YYk (pc := 0) (pc2 := 4) [(.iconst 0, 0, 0, .int 0), (.istore_n 2, 0, 0, .null), (.iconst 0, 0, 0, .int 0), (.istore_n 3, 0, 0, .null)] (L := [some (.ref 26), some (.int (p1)), none, none, none, none]) (st := []) (L' := [some (.ref 26), some (.int (p1)), some (.int ((0 : Int32))), some (.int ((0 : Int32))), none, none]) (st' := []) (g' := g) (w' := w) (cl := []) (by decide +kernel) rfl trivial ?_
  refine B_X8_greatestPart_4 x C0 hR w F g p1 R   F ((0 : Int32)) ((0 : Int32)) hf
/-! ShutterTownModel.look()I at (26,) -/
def f_X8_look_34 (F : Nat) (g : am_G)  (l1 : Int32) : Option (Int32) :=
  (f_X8_codes F g (0 : Int32)).bind fun q1 =>
    if q1 = 0 then
      some ((-9 : Int32))
    else
      some (l1)
set_option maxRecDepth 20000 in
theorem B_X8_look_34 (x : am_X) (C0 : am_Cm x 8 cX8_look 3 (some .int)) (hR : am_R x = rm_X8_look) (w : am_J) (F : Nat) (g : am_G) (R : Int32)   (l1 : Int32) (hf : f_X8_look_34 F g l1 = some R) : am_Ev x 3 (0, 0) (am_Q x (0, 0) (some (.int R)) am_YY g w) 34 [some (.ref 26), some (.int (l1)), none] [] am_YY g w := by
  unfold f_X8_look_34 at hf
  refine am_b1 C0 am_YYk (pc := 34) (pc2 := 36) [(.aload_n 0, 0, 0, .null), (.iconst 0, 0, 0, .int 0)] (L := [some (.ref 26), some (.int (l1)), none]) (st := []) (L' := [some (.ref 26), some (.int (l1)), none]) (st' := [.int ((0 : Int32)), .ref 26]) (g' := g) (w' := w) (cl := []) (by decide +kernel) rfl trivial ?_
  obtain ⟨q1, hq1, hf⟩ := Option.bind_eq_some_iff.mp hf
  refine am_callV (mi := mi_X8_codes) (rm := rm_X8_codes) [.int ((0 : Int32))] C0.1 am_YYl cv_8_210 (M_X8_codes _ F g w (0 : Int32) _ hq1) (ci := 8) rfl (by decide) rfl (by rw [hR]; rfl) rfl rfl (Nat.le_of_ble_eq_true rfl) (by decide +kernel) ?_
  refine am_if_ne C0 (off := 8) (tgt := 47) (by decide +kernel) (fun hc2 => ?_) (fun hc2 => ?_)
  · rw [if_neg hc2] at hf
    refine am_b1 C0 am_YYk (pc := 47) (pc2 := 48) [(.iload_n 1, 0, 0, .null)] (L := [some (.ref 26), some (.int (l1)), none]) (st := []) (L' := [some (.ref 26), some (.int (l1)), none]) (st' := [.int (l1)]) (g' := g) (w' := w) (cl := []) (by decide +kernel) rfl trivial ?_
    cases hf
    exact am_iret C0 (by decide +kernel)
  · rw [if_pos hc2] at hf
    refine am_b1 C0 am_YYk (pc := 42) (pc2 := 44) [(.bipush (-9), 0, 0, .int (-9))] (L := [some (.ref 26), some (.int (l1)), none]) (st := []) (L' := [some (.ref 26), some (.int (l1)), none]) (st' := [.int ((-9 : Int32))]) (g' := g) (w' := w) (cl := []) (by decide +kernel) rfl trivial ?_
    refine am_goto C0 (off := 4) (tgt := 48) (by decide +kernel) ?_
    cases hf
    exact am_iret C0 (by decide +kernel)
def f_X8_look_27 (F : Nat) (g : am_G) (k4 : Int32 → Int32 → Option (Int32)) (k34 : Int32 → Option (Int32)) (l2 : Int32) (s0 : Int32) : Option (Int32) :=
  k4 (s0) (l2 + (1 : Int32))
set_option maxRecDepth 20000 in
theorem B_X8_look_27 (x : am_X) (C0 : am_Cm x 8 cX8_look 3 (some .int)) (hR : am_R x = rm_X8_look) (w : am_J) (F : Nat) (g : am_G) (R : Int32) (k4 : Int32 → Int32 → Option (Int32)) (k34 : Int32 → Option (Int32)) (hk4 : ∀ (l1 : Int32) (l2 : Int32), k4 l1 l2 = some R → am_Ev x 3 (0, 0) (am_Q x (0, 0) (some (.int R)) am_YY g w) 4 [some (.ref 26), some (.int (l1)), some (.int (l2))] [] am_YY g w) (hk34 : ∀ (l1 : Int32), k34 l1 = some R → am_Ev x 3 (0, 0) (am_Q x (0, 0) (some (.int R)) am_YY g w) 34 [some (.ref 26), some (.int (l1)), none] [] am_YY g w) (l2 : Int32) (s0 : Int32) (hf : f_X8_look_27 F g k4 k34 l2 s0 = some R) : am_Ev x 3 (0, 0) (am_Q x (0, 0) (some (.int R)) am_YY g w) 27 [some (.ref 26), none, some (.int (l2))] [.int (s0)] am_YY g w := by
  unfold f_X8_look_27 at hf
  refine am_b1 C0 am_YYk (pc := 27) (pc2 := 31) [(.istore_n 1, 0, 0, .null), (.iinc 2 1, 0, 0, .int 1)] (L := [some (.ref 26), none, some (.int (l2))]) (st := [.int (s0)]) (L' := [some (.ref 26), some (.int (s0)), some (.int (l2 + (1 : Int32)))]) (st' := []) (g' := g) (w' := w) (cl := []) (by decide +kernel) rfl trivial ?_
  refine am_goto C0 (off := (-27)) (tgt := 4) (by decide +kernel) ?_
  exact hk4 (s0) (l2 + (1 : Int32)) hf
def f_X8_look_4 (F : Nat) (g : am_G) (k34 : Int32 → Option (Int32)) : Nat → Int32 → Int32 → Option (Int32)
  | 0, _, _ => none
  | n + 1, l1, l2 =>
    if (4 : Int32) ≤ l2 then
      k34 (l1)
    else
      (f_X8_greatestPart F g l2).bind fun q3 =>
        (f_X8_greatestPart F g l1).bind fun q4 =>
          if q4 ≤ q3 then
            f_X8_look_27 F g (fun l1 l2 => f_X8_look_4 F g k34 n l1 l2) k34 (l2) (l1)
          else
            f_X8_look_27 F g (fun l1 l2 => f_X8_look_4 F g k34 n l1 l2) k34 (l2) (l2)
set_option maxRecDepth 20000 in
theorem B_X8_look_4 (x : am_X) (C0 : am_Cm x 8 cX8_look 3 (some .int)) (hR : am_R x = rm_X8_look) (w : am_J) (F : Nat) (g : am_G) (R : Int32) (k34 : Int32 → Option (Int32)) (hk34 : ∀ (l1 : Int32), k34 l1 = some R → am_Ev x 3 (0, 0) (am_Q x (0, 0) (some (.int R)) am_YY g w) 34 [some (.ref 26), some (.int (l1)), none] [] am_YY g w) : ∀ (n : Nat) (l1 : Int32) (l2 : Int32), f_X8_look_4 F g k34 n l1 l2 = some R → am_Ev x 3 (0, 0) (am_Q x (0, 0) (some (.int R)) am_YY g w) 4 [some (.ref 26), some (.int (l1)), some (.int (l2))] [] am_YY g w := by
  intro n
  induction n with
  | zero => intro l1 l2 hf; cases hf
  | succ n ih =>
    intro l1 l2 hf
    rw [f_X8_look_4.eq_2] at hf
    refine am_b1 C0 am_YYk (pc := 4) (pc2 := 6) [(.iload_n 2, 0, 0, .null), (.iconst 4, 0, 0, .int 4)] (L := [some (.ref 26), some (.int (l1)), some (.int (l2))]) (st := []) (L' := [some (.ref 26), some (.int (l1)), some (.int (l2))]) (st' := [.int ((4 : Int32)), .int (l2)]) (g' := g) (w' := w) (cl := []) (by decide +kernel) rfl trivial ?_
    refine am_icmp_ge C0 (off := 28) (tgt := 34) (by decide +kernel) (fun hc6 => ?_) (fun hc6 => ?_)
    · rw [if_pos hc6] at hf
      refine am_wk [some (.ref 26), some (.int (l1)), none] ⟨rfl, rfl, trivial⟩ rfl ?_
      exact hk34 (l1) hf
    · rw [if_neg hc6] at hf
      refine am_b1 C0 am_YYk (pc := 9) (pc2 := 11) [(.aload_n 0, 0, 0, .null), (.iload_n 2, 0, 0, .null)] (L := [some (.ref 26), some (.int (l1)), some (.int (l2))]) (st := []) (L' := [some (.ref 26), some (.int (l1)), some (.int (l2))]) (st' := [.int (l2), .ref 26]) (g' := g) (w' := w) (cl := []) (by decide +kernel) rfl trivial ?_
      obtain ⟨q3, hq3, hf⟩ := Option.bind_eq_some_iff.mp hf
      refine am_callV (mi := mi_X8_greatestPart) (rm := rm_X8_greatestPart) [.int (l2)] C0.1 am_YYl cv_8_207 (M_X8_greatestPart _ F g w l2 _ hq3) (ci := 8) rfl (by decide) rfl (by rw [hR]; rfl) rfl rfl (Nat.le_of_ble_eq_true rfl) (by decide +kernel) ?_
      refine am_b1 C0 am_YYk (pc := 14) (pc2 := 16) [(.aload_n 0, 0, 0, .null), (.iload_n 1, 0, 0, .null)] (L := [some (.ref 26), some (.int (l1)), some (.int (l2))]) (st := [.int (q3)]) (L' := [some (.ref 26), some (.int (l1)), some (.int (l2))]) (st' := [.int (l1), .ref 26, .int (q3)]) (g' := g) (w' := w) (cl := []) (by decide +kernel) rfl trivial ?_
      obtain ⟨q4, hq4, hf⟩ := Option.bind_eq_some_iff.mp hf
      refine am_callV (mi := mi_X8_greatestPart) (rm := rm_X8_greatestPart) [.int (l1)] C0.1 am_YYl cv_8_207 (M_X8_greatestPart _ F g w l1 _ hq4) (ci := 8) rfl (by decide) rfl (by rw [hR]; rfl) rfl rfl (Nat.le_of_ble_eq_true rfl) (by decide +kernel) ?_
      refine am_icmp_ge C0 (off := 7) (tgt := 26) (by decide +kernel) (fun hc5 => ?_) (fun hc5 => ?_)
      · rw [if_pos hc5] at hf
        refine am_b1 C0 am_YYk (pc := 26) (pc2 := 27) [(.iload_n 1, 0, 0, .null)] (L := [some (.ref 26), some (.int (l1)), some (.int (l2))]) (st := []) (L' := [some (.ref 26), some (.int (l1)), some (.int (l2))]) (st' := [.int (l1)]) (g' := g) (w' := w) (cl := []) (by decide +kernel) rfl trivial ?_
        refine am_wk [some (.ref 26), none, some (.int (l2))] ⟨rfl, rfl, trivial⟩ rfl ?_
        exact B_X8_look_27 x C0 hR w F g R _ _ (fun l1 l2 hf => ih l1 l2 hf) hk34 (l2) (l1) hf
      · rw [if_neg hc5] at hf
        refine am_b1 C0 am_YYk (pc := 22) (pc2 := 23) [(.iload_n 2, 0, 0, .null)] (L := [some (.ref 26), some (.int (l1)), some (.int (l2))]) (st := []) (L' := [some (.ref 26), some (.int (l1)), some (.int (l2))]) (st' := [.int (l2)]) (g' := g) (w' := w) (cl := []) (by decide +kernel) rfl trivial ?_
        refine am_goto C0 (off := 4) (tgt := 27) (by decide +kernel) ?_
        refine am_wk [some (.ref 26), none, some (.int (l2))] ⟨rfl, rfl, trivial⟩ rfl ?_
        exact B_X8_look_27 x C0 hR w F g R _ _ (fun l1 l2 hf => ih l1 l2 hf) hk34 (l2) (l2) hf
def f_X8_look (F : Nat) (g : am_G) : Option (Int32) :=
  f_X8_look_4 F g (fun l1 => f_X8_look_34 F g (l1)) F ((0 : Int32)) ((1 : Int32))
set_option maxRecDepth 20000 in
theorem M_X8_look (l : Launch) (F : Nat) (g : am_G) (w : am_J)  (R : Int32) (hf : f_X8_look F g = some R) : am_Met l mi_X8_look rm_X8_look [.ref 26] am_YY g w (some (.int R)) am_YY g w := by
  refine am_met (own := 8) [some (.ref 26), none, none] (by decide) rfl rfl (by first | decide | exact Nat.le_of_ble_eq_true rfl) (fun x C0 hR hl hnm => ?_)
  unfold f_X8_look at hf
  refine am_b1 C0 am_YYk (pc := 0) (pc2 := 4) [(.iconst 0, 0, 0, .int 0), (.istore_n 1, 0, 0, .null), (.iconst 1, 0, 0, .int 1), (.istore_n 2, 0, 0, .null)] (L := [some (.ref 26), none, none]) (st := []) (L' := [some (.ref 26), some (.int ((0 : Int32))), some (.int ((1 : Int32)))]) (st' := []) (g' := g) (w' := w) (cl := []) (by decide +kernel) rfl trivial ?_
  refine B_X8_look_4 x C0 hR w F g R _ ?_ F ((0 : Int32)) ((1 : Int32)) hf
  · intro l1 hf
    exact B_X8_look_34 x C0 hR w F g R  (l1) hf
/-! ShutterTownModel.will(III)I at (26,) -/
def f_X8_will (g : am_G) (p1 : Int32) (p2 : Int32) (p3 : Int32) : Option (Int32) :=
  (f_X8_isWindow g p1).bind fun q1 =>
    if q1 = 0 then
      some ((-1 : Int32))
    else
      (f_X8_in (Int32.toInt64 p2) (0 : Int64) (3 : Int64)).bind fun q2 =>
        if q2 = 0 then
          some ((-2 : Int32))
        else
          (f_X8_in (Int32.toInt64 p3) (0 : Int64) (3 : Int64)).bind fun q3 =>
            if q3 = 0 then
              some ((-2 : Int32))
            else
              if p2 = p3 then
                some ((-2 : Int32))
              else
                if am_in p1 6 then
                  if (g 31 (Int32.toNatClampNeg p1)) = (3 : Int32) then
                    some ((0 : Int32))
                  else
                    if am_in p1 6 then
                      if (g 31 (Int32.toNatClampNeg p1)) = (2 : Int32) then
                        if (p2 ^^^ p3) = (1 : Int32) then
                          some ((2 : Int32))
                        else
                          some ((1 : Int32))
                      else
                        some ((1 : Int32))
                    else none
                else none
set_option maxRecDepth 20000 in
theorem M_X8_will (l : Launch) (g : am_G) (w : am_J) (p1 : Int32) (p2 : Int32) (p3 : Int32) (R : Int32) (hf : f_X8_will g p1 p2 p3 = some R) : am_Met l mi_X8_will rm_X8_will [.ref 26, .int p1, .int p2, .int p3] am_YY g w (some (.int R)) am_YY g w := by
  refine am_met (own := 8) [some (.ref 26), some (.int (p1)), some (.int (p2)), some (.int (p3))] (by decide) rfl rfl (by first | decide | exact Nat.le_of_ble_eq_true rfl) (fun x C0 hR hl hnm => ?_)
  unfold f_X8_will at hf
  refine am_b1 C0 am_YYk (pc := 0) (pc2 := 2) [(.aload_n 0, 0, 0, .null), (.iload_n 1, 0, 0, .null)] (L := [some (.ref 26), some (.int (p1)), some (.int (p2)), some (.int (p3))]) (st := []) (L' := [some (.ref 26), some (.int (p1)), some (.int (p2)), some (.int (p3))]) (st' := [.int (p1), .ref 26]) (g' := g) (w' := w) (cl := []) (by decide +kernel) rfl trivial ?_
  obtain ⟨q1, hq1, hf⟩ := Option.bind_eq_some_iff.mp hf
  refine am_callV (mi := mi_X8_isWindow) (rm := rm_X8_isWindow) [.int (p1)] C0.1 am_YYl cv_8_125 (M_X8_isWindow _ g w p1 _ hq1) (ci := 8) rfl (by decide) rfl (by rw [hR]; rfl) rfl rfl (Nat.le_of_ble_eq_true rfl) (by decide +kernel) ?_
  refine am_if_ne C0 (off := 5) (tgt := 10) (by decide +kernel) (fun hc12 => ?_) (fun hc12 => ?_)
  · rw [if_neg hc12] at hf
    refine am_b1 C0 am_YYk (pc := 10) (pc2 := 16) [(.iload_n 2, 0, 0, .null), (.i2l, 0, 0, .null), (.lconst 0, 0, 0, .long 0), (.ldc2_w 135, 0, 0, .long 3)] (L := [some (.ref 26), some (.int (p1)), some (.int (p2)), some (.int (p3))]) (st := []) (L' := [some (.ref 26), some (.int (p1)), some (.int (p2)), some (.int (p3))]) (st' := [.long ((3 : Int64)), .long ((0 : Int64)), .long (Int32.toInt64 p2)]) (g' := g) (w' := w) (cl := []) (by decide +kernel) rfl trivial ?_
    obtain ⟨q2, hq2, hf⟩ := Option.bind_eq_some_iff.mp hf
    refine am_callS (mi := mi_X8_in) (rm := rm_X8_in) [.long (Int32.toInt64 p2), .long ((0 : Int64)), .long ((3 : Int64))] C0.1 cv_8_65 (M_X8_in _ g w (Int32.toInt64 p2) (0 : Int64) (3 : Int64) _ hq2) (by rw [hR]; rfl) rfl rfl (Nat.le_of_ble_eq_true rfl) (by decide +kernel) ?_
    refine am_if_eq C0 (off := 20) (tgt := 39) (by decide +kernel) (fun hc11 => ?_) (fun hc11 => ?_)
    · rw [if_pos hc11] at hf
      refine am_b1 C0 am_YYk (pc := 39) (pc2 := 41) [(.bipush (-2), 0, 0, .int (-2))] (L := [some (.ref 26), some (.int (p1)), some (.int (p2)), some (.int (p3))]) (st := []) (L' := [some (.ref 26), some (.int (p1)), some (.int (p2)), some (.int (p3))]) (st' := [.int ((-2 : Int32))]) (g' := g) (w' := w) (cl := []) (by decide +kernel) rfl trivial ?_
      cases hf
      exact am_iret C0 (by decide +kernel)
    · rw [if_neg hc11] at hf
      refine am_b1 C0 am_YYk (pc := 22) (pc2 := 28) [(.iload_n 3, 0, 0, .null), (.i2l, 0, 0, .null), (.lconst 0, 0, 0, .long 0), (.ldc2_w 135, 0, 0, .long 3)] (L := [some (.ref 26), some (.int (p1)), some (.int (p2)), some (.int (p3))]) (st := []) (L' := [some (.ref 26), some (.int (p1)), some (.int (p2)), some (.int (p3))]) (st' := [.long ((3 : Int64)), .long ((0 : Int64)), .long (Int32.toInt64 p3)]) (g' := g) (w' := w) (cl := []) (by decide +kernel) rfl trivial ?_
      obtain ⟨q3, hq3, hf⟩ := Option.bind_eq_some_iff.mp hf
      refine am_callS (mi := mi_X8_in) (rm := rm_X8_in) [.long (Int32.toInt64 p3), .long ((0 : Int64)), .long ((3 : Int64))] C0.1 cv_8_65 (M_X8_in _ g w (Int32.toInt64 p3) (0 : Int64) (3 : Int64) _ hq3) (by rw [hR]; rfl) rfl rfl (Nat.le_of_ble_eq_true rfl) (by decide +kernel) ?_
      refine am_if_eq C0 (off := 8) (tgt := 39) (by decide +kernel) (fun hc10 => ?_) (fun hc10 => ?_)
      · rw [if_pos hc10] at hf
        refine am_b1 C0 am_YYk (pc := 39) (pc2 := 41) [(.bipush (-2), 0, 0, .int (-2))] (L := [some (.ref 26), some (.int (p1)), some (.int (p2)), some (.int (p3))]) (st := []) (L' := [some (.ref 26), some (.int (p1)), some (.int (p2)), some (.int (p3))]) (st' := [.int ((-2 : Int32))]) (g' := g) (w' := w) (cl := []) (by decide +kernel) rfl trivial ?_
        cases hf
        exact am_iret C0 (by decide +kernel)
      · rw [if_neg hc10] at hf
        refine am_b1 C0 am_YYk (pc := 34) (pc2 := 36) [(.iload_n 2, 0, 0, .null), (.iload_n 3, 0, 0, .null)] (L := [some (.ref 26), some (.int (p1)), some (.int (p2)), some (.int (p3))]) (st := []) (L' := [some (.ref 26), some (.int (p1)), some (.int (p2)), some (.int (p3))]) (st' := [.int (p3), .int (p2)]) (g' := g) (w' := w) (cl := []) (by decide +kernel) rfl trivial ?_
        refine am_icmp_ne C0 (off := 6) (tgt := 42) (by decide +kernel) (fun hc9 => ?_) (fun hc9 => ?_)
        · rw [if_neg hc9] at hf
          obtain ⟨hg4, hf⟩ := am_g hf
          refine am_b1 C0 am_YYk (pc := 42) (pc2 := 49) [(.aload_n 0, 0, 0, .null), (.getfield 22, 8, 6, .null), (.iload_n 1, 0, 0, .null), (.iaload, 0, 0, .null), (.iconst 3, 0, 0, .int 3)] (L := [some (.ref 26), some (.int (p1)), some (.int (p2)), some (.int (p3))]) (st := []) (L' := [some (.ref 26), some (.int (p1)), some (.int (p2)), some (.int (p3))]) (st' := [.int ((3 : Int32)), .int (g 31 (Int32.toNatClampNeg p1))]) (g' := g) (w' := w) (cl := [am_in p1 6]) (by decide +kernel) rfl ⟨hg4, trivial⟩ ?_
          refine am_icmp_ne C0 (off := 7) (tgt := 56) (by decide +kernel) (fun hc8 => ?_) (fun hc8 => ?_)
          · rw [if_neg hc8] at hf
            obtain ⟨hg5, hf⟩ := am_g hf
            refine am_b1 C0 am_YYk (pc := 56) (pc2 := 63) [(.aload_n 0, 0, 0, .null), (.getfield 22, 8, 6, .null), (.iload_n 1, 0, 0, .null), (.iaload, 0, 0, .null), (.iconst 2, 0, 0, .int 2)] (L := [some (.ref 26), some (.int (p1)), some (.int (p2)), some (.int (p3))]) (st := []) (L' := [some (.ref 26), some (.int (p1)), some (.int (p2)), some (.int (p3))]) (st' := [.int ((2 : Int32)), .int (g 31 (Int32.toNatClampNeg p1))]) (g' := g) (w' := w) (cl := [am_in p1 6]) (by decide +kernel) rfl ⟨hg5, trivial⟩ ?_
            refine am_icmp_ne C0 (off := 14) (tgt := 77) (by decide +kernel) (fun hc7 => ?_) (fun hc7 => ?_)
            · rw [if_neg hc7] at hf
              refine am_b1 C0 am_YYk (pc := 77) (pc2 := 78) [(.iconst 1, 0, 0, .int 1)] (L := [some (.ref 26), some (.int (p1)), some (.int (p2)), some (.int (p3))]) (st := []) (L' := [some (.ref 26), some (.int (p1)), some (.int (p2)), some (.int (p3))]) (st' := [.int ((1 : Int32))]) (g' := g) (w' := w) (cl := []) (by decide +kernel) rfl trivial ?_
              cases hf
              exact am_iret C0 (by decide +kernel)
            · rw [if_pos hc7] at hf
              refine am_b1 C0 am_YYk (pc := 66) (pc2 := 70) [(.iload_n 2, 0, 0, .null), (.iload_n 3, 0, 0, .null), (.ixor, 0, 0, .null), (.iconst 1, 0, 0, .int 1)] (L := [some (.ref 26), some (.int (p1)), some (.int (p2)), some (.int (p3))]) (st := []) (L' := [some (.ref 26), some (.int (p1)), some (.int (p2)), some (.int (p3))]) (st' := [.int ((1 : Int32)), .int (p2 ^^^ p3)]) (g' := g) (w' := w) (cl := []) (by decide +kernel) rfl trivial ?_
              refine am_icmp_ne C0 (off := 7) (tgt := 77) (by decide +kernel) (fun hc6 => ?_) (fun hc6 => ?_)
              · rw [if_neg hc6] at hf
                refine am_b1 C0 am_YYk (pc := 77) (pc2 := 78) [(.iconst 1, 0, 0, .int 1)] (L := [some (.ref 26), some (.int (p1)), some (.int (p2)), some (.int (p3))]) (st := []) (L' := [some (.ref 26), some (.int (p1)), some (.int (p2)), some (.int (p3))]) (st' := [.int ((1 : Int32))]) (g' := g) (w' := w) (cl := []) (by decide +kernel) rfl trivial ?_
                cases hf
                exact am_iret C0 (by decide +kernel)
              · rw [if_pos hc6] at hf
                refine am_b1 C0 am_YYk (pc := 73) (pc2 := 74) [(.iconst 2, 0, 0, .int 2)] (L := [some (.ref 26), some (.int (p1)), some (.int (p2)), some (.int (p3))]) (st := []) (L' := [some (.ref 26), some (.int (p1)), some (.int (p2)), some (.int (p3))]) (st' := [.int ((2 : Int32))]) (g' := g) (w' := w) (cl := []) (by decide +kernel) rfl trivial ?_
                refine am_goto C0 (off := 4) (tgt := 78) (by decide +kernel) ?_
                cases hf
                exact am_iret C0 (by decide +kernel)
          · rw [if_pos hc8] at hf
            refine am_b1 C0 am_YYk (pc := 52) (pc2 := 53) [(.iconst 0, 0, 0, .int 0)] (L := [some (.ref 26), some (.int (p1)), some (.int (p2)), some (.int (p3))]) (st := []) (L' := [some (.ref 26), some (.int (p1)), some (.int (p2)), some (.int (p3))]) (st' := [.int ((0 : Int32))]) (g' := g) (w' := w) (cl := []) (by decide +kernel) rfl trivial ?_
            refine am_goto C0 (off := 25) (tgt := 78) (by decide +kernel) ?_
            cases hf
            exact am_iret C0 (by decide +kernel)
        · rw [if_pos hc9] at hf
          refine am_b1 C0 am_YYk (pc := 39) (pc2 := 41) [(.bipush (-2), 0, 0, .int (-2))] (L := [some (.ref 26), some (.int (p1)), some (.int (p2)), some (.int (p3))]) (st := []) (L' := [some (.ref 26), some (.int (p1)), some (.int (p2)), some (.int (p3))]) (st' := [.int ((-2 : Int32))]) (g' := g) (w' := w) (cl := []) (by decide +kernel) rfl trivial ?_
          cases hf
          exact am_iret C0 (by decide +kernel)
  · rw [if_pos hc12] at hf
    refine am_b1 C0 am_YYk (pc := 8) (pc2 := 9) [(.iconst (-1), 0, 0, .int (-1))] (L := [some (.ref 26), some (.int (p1)), some (.int (p2)), some (.int (p3))]) (st := []) (L' := [some (.ref 26), some (.int (p1)), some (.int (p2)), some (.int (p3))]) (st' := [.int ((-1 : Int32))]) (g' := g) (w' := w) (cl := []) (by decide +kernel) rfl trivial ?_
    cases hf
    exact am_iret C0 (by decide +kernel)
