/-! ShutterTownModel.leastState(I)I at (26,) -/
def f_X8_leastState_2 (F : Nat) (g : am_G) (p1 : Int32)  : Nat → Int32 → Option (Int32)
  | 0, _ => none
  | n + 1, l2 =>
    if am_in l2 4 then
      if (g 27 (Int32.toNatClampNeg l2)) = p1 then
        some (l2)
      else
        f_X8_leastState_2 F g p1 n (l2 + (1 : Int32))
    else none
set_option maxRecDepth 20000 in
theorem B_X8_leastState_2 (x : am_X) (C0 : am_Cm x 8 cX8_leastState 3 (some .int)) (hR : am_R x = rm_X8_leastState) (w : am_J) (F : Nat) (g : am_G) (p1 : Int32) (R : Int32)   : ∀ (n : Nat) (l2 : Int32), f_X8_leastState_2 F g p1 n l2 = some R → am_Ev x 3 (0, 0) (am_Q x (0, 0) (some (.int R)) am_YY g w) 2 [some (.ref 26), some (.int (p1)), some (.int (l2))] [] am_YY g w := by
  intro n
  induction n with
  | zero => intro l2 hf; cases hf
  | succ n ih =>
    intro l2 hf
    rw [f_X8_leastState_2.eq_2] at hf
    obtain ⟨hg1, hf⟩ := am_g hf
    refine am_b1 C0 am_YYk (pc := 2) (pc2 := 9) [(.aload_n 0, 0, 0, .null), (.getfield 7, 8, 2, .null), (.iload_n 2, 0, 0, .null), (.iaload, 0, 0, .null), (.iload_n 1, 0, 0, .null)] (L := [some (.ref 26), some (.int (p1)), some (.int (l2))]) (st := []) (L' := [some (.ref 26), some (.int (p1)), some (.int (l2))]) (st' := [.int (p1), .int (g 27 (Int32.toNatClampNeg l2))]) (g' := g) (w' := w) (cl := [am_in l2 4]) (by decide +kernel) rfl ⟨hg1, trivial⟩ ?_
    refine am_icmp_eq C0 (off := 9) (tgt := 18) (by decide +kernel) (fun hc2 => ?_) (fun hc2 => ?_)
    · rw [if_pos hc2] at hf
      refine am_b1 C0 am_YYk (pc := 18) (pc2 := 19) [(.iload_n 2, 0, 0, .null)] (L := [some (.ref 26), some (.int (p1)), some (.int (l2))]) (st := []) (L' := [some (.ref 26), some (.int (p1)), some (.int (l2))]) (st' := [.int (l2)]) (g' := g) (w' := w) (cl := []) (by decide +kernel) rfl trivial ?_
      cases hf
      exact am_iret C0 (by decide +kernel)
    · rw [if_neg hc2] at hf
      refine am_b1 C0 am_YYk (pc := 12) (pc2 := 15) [(.iinc 2 1, 0, 0, .int 1)] (L := [some (.ref 26), some (.int (p1)), some (.int (l2))]) (st := []) (L' := [some (.ref 26), some (.int (p1)), some (.int (l2 + (1 : Int32)))]) (st' := []) (g' := g) (w' := w) (cl := []) (by decide +kernel) rfl trivial ?_
      refine am_goto C0 (off := (-13)) (tgt := 2) (by decide +kernel) ?_
      exact ih (l2 + (1 : Int32)) hf
def f_X8_leastState (F : Nat) (g : am_G) (p1 : Int32) : Option (Int32) :=
  f_X8_leastState_2 F g p1 F ((0 : Int32))
set_option maxRecDepth 20000 in
theorem M_X8_leastState (l : Launch) (F : Nat) (g : am_G) (w : am_J) (p1 : Int32) (R : Int32) (hf : f_X8_leastState F g p1 = some R) : am_Met l mi_X8_leastState rm_X8_leastState [.ref 26, .int p1] am_YY g w (some (.int R)) am_YY g w := by
  refine am_met (own := 8) [some (.ref 26), some (.int (p1)), none] (by decide) rfl rfl (by first | decide | exact Nat.le_of_ble_eq_true rfl) (fun x C0 hR hl hnm => ?_)
  unfold f_X8_leastState at hf
  refine am_b1 C0 am_YYk (pc := 0) (pc2 := 2) [(.iconst 0, 0, 0, .int 0), (.istore_n 2, 0, 0, .null)] (L := [some (.ref 26), some (.int (p1)), none]) (st := []) (L' := [some (.ref 26), some (.int (p1)), some (.int ((0 : Int32)))]) (st' := []) (g' := g) (w' := w) (cl := []) (by decide +kernel) rfl trivial ?_
  refine B_X8_leastState_2 x C0 hR w F g p1 R   F ((0 : Int32)) hf
/-! ShutterTownModel.pass(II)I at (26,) -/
def f_X8_pass (F : Nat) (g : am_G) (p1 : Int32) (p2 : Int32) : Option (Int32 × am_G) :=
  (f_X8_isWindow g p1).bind fun q1 =>
    if q1 = 0 then
      some ((-1 : Int32), g)
    else
      (f_X8_isWindow g p2).bind fun q2 =>
        if q2 = 0 then
          some ((-1 : Int32), g)
        else
          (f_X8_sees g p1 p2).bind fun q3 =>
            if q3 = 0 then
              some ((-3 : Int32), g)
            else
              if am_in p1 6 then
                if (g 31 (Int32.toNatClampNeg p1)) = (3 : Int32) then
                  some ((-3 : Int32), g)
                else
                  (f_X8_keepAct F g).bind fun q5 =>
                    (f_X8_wordOf q5 (0 : Int32) p2).bind fun q6 =>
                      if am_in p1 6 then
                        if (q5 31 (Int32.toNatClampNeg p1)) = (1 : Int32) then
                          (f_X8_leastState F q5 q6).bind fun q9 =>
                            if am_in p1 26 then
                              some (q6, am_u q5 32 (Int32.toNatClampNeg p1) q9)
                            else none
                        else
                          if am_in ((6 : Int32) + p1) 26 then
                            some (q6, am_u q5 32 (Int32.toNatClampNeg ((6 : Int32) + p1)) q6)
                          else none
                      else none
              else none
set_option maxRecDepth 20000 in
theorem M_X8_pass (l : Launch) (F : Nat) (g : am_G) (w : am_J) (p1 : Int32) (p2 : Int32) (R : Int32 × am_G) (hf : f_X8_pass F g p1 p2 = some R) : am_Met l mi_X8_pass rm_X8_pass [.ref 26, .int p1, .int p2] am_YY g w (some (.int R.1)) am_YY (R.2) w := by
  refine am_met (own := 8) [some (.ref 26), some (.int (p1)), some (.int (p2)), none] (by decide) rfl rfl (by first | decide | exact Nat.le_of_ble_eq_true rfl) (fun x C0 hR hl hnm => ?_)
  unfold f_X8_pass at hf
  refine am_b1 C0 am_YYk (pc := 0) (pc2 := 2) [(.aload_n 0, 0, 0, .null), (.iload_n 1, 0, 0, .null)] (L := [some (.ref 26), some (.int (p1)), some (.int (p2)), none]) (st := []) (L' := [some (.ref 26), some (.int (p1)), some (.int (p2)), none]) (st' := [.int (p1), .ref 26]) (g' := g) (w' := w) (cl := []) (by decide +kernel) rfl trivial ?_
  obtain ⟨q1, hq1, hf⟩ := Option.bind_eq_some_iff.mp hf
  refine am_callV (mi := mi_X8_isWindow) (rm := rm_X8_isWindow) [.int (p1)] C0.1 am_YYl cv_8_125 (M_X8_isWindow _ g w p1 _ hq1) (ci := 8) rfl (by decide) rfl (by rw [hR]; rfl) rfl rfl (Nat.le_of_ble_eq_true rfl) (by decide +kernel) ?_
  refine am_if_eq C0 (off := 11) (tgt := 16) (by decide +kernel) (fun hc15 => ?_) (fun hc15 => ?_)
  · rw [if_pos hc15] at hf
    refine am_b1 C0 am_YYk (pc := 16) (pc2 := 17) [(.iconst (-1), 0, 0, .int (-1))] (L := [some (.ref 26), some (.int (p1)), some (.int (p2)), none]) (st := []) (L' := [some (.ref 26), some (.int (p1)), some (.int (p2)), none]) (st' := [.int ((-1 : Int32))]) (g' := g) (w' := w) (cl := []) (by decide +kernel) rfl trivial ?_
    cases hf
    exact am_iret C0 (by decide +kernel)
  · rw [if_neg hc15] at hf
    refine am_b1 C0 am_YYk (pc := 8) (pc2 := 10) [(.aload_n 0, 0, 0, .null), (.iload_n 2, 0, 0, .null)] (L := [some (.ref 26), some (.int (p1)), some (.int (p2)), none]) (st := []) (L' := [some (.ref 26), some (.int (p1)), some (.int (p2)), none]) (st' := [.int (p2), .ref 26]) (g' := g) (w' := w) (cl := []) (by decide +kernel) rfl trivial ?_
    obtain ⟨q2, hq2, hf⟩ := Option.bind_eq_some_iff.mp hf
    refine am_callV (mi := mi_X8_isWindow) (rm := rm_X8_isWindow) [.int (p2)] C0.1 am_YYl cv_8_125 (M_X8_isWindow _ g w p2 _ hq2) (ci := 8) rfl (by decide) rfl (by rw [hR]; rfl) rfl rfl (Nat.le_of_ble_eq_true rfl) (by decide +kernel) ?_
    refine am_if_ne C0 (off := 5) (tgt := 18) (by decide +kernel) (fun hc14 => ?_) (fun hc14 => ?_)
    · rw [if_neg hc14] at hf
      refine am_b1 C0 am_YYk (pc := 18) (pc2 := 21) [(.aload_n 0, 0, 0, .null), (.iload_n 1, 0, 0, .null), (.iload_n 2, 0, 0, .null)] (L := [some (.ref 26), some (.int (p1)), some (.int (p2)), none]) (st := []) (L' := [some (.ref 26), some (.int (p1)), some (.int (p2)), none]) (st' := [.int (p2), .int (p1), .ref 26]) (g' := g) (w' := w) (cl := []) (by decide +kernel) rfl trivial ?_
      obtain ⟨q3, hq3, hf⟩ := Option.bind_eq_some_iff.mp hf
      refine am_callV (mi := mi_X8_sees) (rm := rm_X8_sees) [.int (p1), .int (p2)] C0.1 am_YYl cv_8_119 (M_X8_sees _ g w p1 p2 _ hq3) (ci := 8) rfl (by decide) rfl (by rw [hR]; rfl) rfl rfl (Nat.le_of_ble_eq_true rfl) (by decide +kernel) ?_
      refine am_if_eq C0 (off := 13) (tgt := 37) (by decide +kernel) (fun hc13 => ?_) (fun hc13 => ?_)
      · rw [if_pos hc13] at hf
        refine am_b1 C0 am_YYk (pc := 37) (pc2 := 39) [(.bipush (-3), 0, 0, .int (-3))] (L := [some (.ref 26), some (.int (p1)), some (.int (p2)), none]) (st := []) (L' := [some (.ref 26), some (.int (p1)), some (.int (p2)), none]) (st' := [.int ((-3 : Int32))]) (g' := g) (w' := w) (cl := []) (by decide +kernel) rfl trivial ?_
        cases hf
        exact am_iret C0 (by decide +kernel)
      · rw [if_neg hc13] at hf
        obtain ⟨hg4, hf⟩ := am_g hf
        refine am_b1 C0 am_YYk (pc := 27) (pc2 := 34) [(.aload_n 0, 0, 0, .null), (.getfield 22, 8, 6, .null), (.iload_n 1, 0, 0, .null), (.iaload, 0, 0, .null), (.iconst 3, 0, 0, .int 3)] (L := [some (.ref 26), some (.int (p1)), some (.int (p2)), none]) (st := []) (L' := [some (.ref 26), some (.int (p1)), some (.int (p2)), none]) (st' := [.int ((3 : Int32)), .int (g 31 (Int32.toNatClampNeg p1))]) (g' := g) (w' := w) (cl := [am_in p1 6]) (by decide +kernel) rfl ⟨hg4, trivial⟩ ?_
        refine am_icmp_ne C0 (off := 6) (tgt := 40) (by decide +kernel) (fun hc12 => ?_) (fun hc12 => ?_)
        · rw [if_neg hc12] at hf
          refine am_b1 C0 am_YYk (pc := 40) (pc2 := 41) [(.aload_n 0, 0, 0, .null)] (L := [some (.ref 26), some (.int (p1)), some (.int (p2)), none]) (st := []) (L' := [some (.ref 26), some (.int (p1)), some (.int (p2)), none]) (st' := [.ref 26]) (g' := g) (w' := w) (cl := []) (by decide +kernel) rfl trivial ?_
          obtain ⟨q5, hq5, hf⟩ := Option.bind_eq_some_iff.mp hf
          refine am_callV (mi := mi_X8_keepAct) (rm := rm_X8_keepAct) [] C0.1 am_YYl cv_8_137 (M_X8_keepAct _ F g w _ hq5) (ci := 8) rfl (by decide) rfl (by rw [hR]; rfl) rfl rfl (Nat.le_of_ble_eq_true rfl) (by decide +kernel) ?_
          refine am_b1 C0 am_YYk (pc := 44) (pc2 := 47) [(.aload_n 0, 0, 0, .null), (.iconst 0, 0, 0, .int 0), (.iload_n 2, 0, 0, .null)] (L := [some (.ref 26), some (.int (p1)), some (.int (p2)), none]) (st := []) (L' := [some (.ref 26), some (.int (p1)), some (.int (p2)), none]) (st' := [.int (p2), .int ((0 : Int32)), .ref 26]) (g' := q5) (w' := w) (cl := []) (by decide +kernel) rfl trivial ?_
          obtain ⟨q6, hq6, hf⟩ := Option.bind_eq_some_iff.mp hf
          refine am_callV (mi := mi_X8_wordOf) (rm := rm_X8_wordOf) [.int ((0 : Int32)), .int (p2)] C0.1 am_YYl cv_8_122 (M_X8_wordOf _ q5 w (0 : Int32) p2 _ hq6) (ci := 8) rfl (by decide) rfl (by rw [hR]; rfl) rfl rfl (Nat.le_of_ble_eq_true rfl) (by decide +kernel) ?_
          obtain ⟨hg7, hf⟩ := am_g hf
          refine am_b1 C0 am_YYk (pc := 50) (pc2 := 58) [(.istore_n 3, 0, 0, .null), (.aload_n 0, 0, 0, .null), (.getfield 22, 8, 6, .null), (.iload_n 1, 0, 0, .null), (.iaload, 0, 0, .null), (.iconst 1, 0, 0, .int 1)] (L := [some (.ref 26), some (.int (p1)), some (.int (p2)), none]) (st := [.int (q6)]) (L' := [some (.ref 26), some (.int (p1)), some (.int (p2)), some (.int (q6))]) (st' := [.int ((1 : Int32)), .int (q5 31 (Int32.toNatClampNeg p1))]) (g' := q5) (w' := w) (cl := [am_in p1 6]) (by decide +kernel) rfl ⟨hg7, trivial⟩ ?_
          refine am_icmp_ne C0 (off := 17) (tgt := 75) (by decide +kernel) (fun hc11 => ?_) (fun hc11 => ?_)
          · rw [if_neg hc11] at hf
            obtain ⟨hg8, hf⟩ := am_g hf
            refine am_b1 C0 am_YYk (pc := 75) (pc2 := 86) [(.aload_n 0, 0, 0, .null), (.getfield 25, 8, 7, .null), (.bipush 6, 0, 0, .int 6), (.iload_n 1, 0, 0, .null), (.iadd, 0, 0, .null), (.iload_n 3, 0, 0, .null), (.iastore, 0, 0, .null), (.iload_n 3, 0, 0, .null)] (L := [some (.ref 26), some (.int (p1)), some (.int (p2)), some (.int (q6))]) (st := []) (L' := [some (.ref 26), some (.int (p1)), some (.int (p2)), some (.int (q6))]) (st' := [.int (q6)]) (g' := am_u q5 32 (Int32.toNatClampNeg ((6 : Int32) + p1)) q6) (w' := w) (cl := [am_in ((6 : Int32) + p1) 26]) (by decide +kernel) rfl ⟨hg8, trivial⟩ ?_
            cases hf
            exact am_iret C0 (by decide +kernel)
          · rw [if_pos hc11] at hf
            refine am_b1 C0 am_YYk (pc := 61) (pc2 := 68) [(.aload_n 0, 0, 0, .null), (.getfield 25, 8, 7, .null), (.iload_n 1, 0, 0, .null), (.aload_n 0, 0, 0, .null), (.iload_n 3, 0, 0, .null)] (L := [some (.ref 26), some (.int (p1)), some (.int (p2)), some (.int (q6))]) (st := []) (L' := [some (.ref 26), some (.int (p1)), some (.int (p2)), some (.int (q6))]) (st' := [.int (q6), .ref 26, .int (p1), .ref 32]) (g' := q5) (w' := w) (cl := []) (by decide +kernel) rfl trivial ?_
            obtain ⟨q9, hq9, hf⟩ := Option.bind_eq_some_iff.mp hf
            refine am_callV (mi := mi_X8_leastState) (rm := rm_X8_leastState) [.int (q6)] C0.1 am_YYl cv_8_143 (M_X8_leastState _ F q5 w q6 _ hq9) (ci := 8) rfl (by decide) rfl (by rw [hR]; rfl) rfl rfl (Nat.le_of_ble_eq_true rfl) (by decide +kernel) ?_
            obtain ⟨hg10, hf⟩ := am_g hf
            refine am_b1 C0 am_YYk (pc := 71) (pc2 := 72) [(.iastore, 0, 0, .null)] (L := [some (.ref 26), some (.int (p1)), some (.int (p2)), some (.int (q6))]) (st := [.int (q9), .int (p1), .ref 32]) (L' := [some (.ref 26), some (.int (p1)), some (.int (p2)), some (.int (q6))]) (st' := []) (g' := am_u q5 32 (Int32.toNatClampNeg p1) q9) (w' := w) (cl := [am_in p1 26]) (by decide +kernel) rfl ⟨hg10, trivial⟩ ?_
            refine am_goto C0 (off := 13) (tgt := 85) (by decide +kernel) ?_
            refine am_b1 C0 am_YYk (pc := 85) (pc2 := 86) [(.iload_n 3, 0, 0, .null)] (L := [some (.ref 26), some (.int (p1)), some (.int (p2)), some (.int (q6))]) (st := []) (L' := [some (.ref 26), some (.int (p1)), some (.int (p2)), some (.int (q6))]) (st' := [.int (q6)]) (g' := am_u q5 32 (Int32.toNatClampNeg p1) q9) (w' := w) (cl := []) (by decide +kernel) rfl trivial ?_
            cases hf
            exact am_iret C0 (by decide +kernel)
        · rw [if_pos hc12] at hf
          refine am_b1 C0 am_YYk (pc := 37) (pc2 := 39) [(.bipush (-3), 0, 0, .int (-3))] (L := [some (.ref 26), some (.int (p1)), some (.int (p2)), none]) (st := []) (L' := [some (.ref 26), some (.int (p1)), some (.int (p2)), none]) (st' := [.int ((-3 : Int32))]) (g' := g) (w' := w) (cl := []) (by decide +kernel) rfl trivial ?_
          cases hf
          exact am_iret C0 (by decide +kernel)
    · rw [if_pos hc14] at hf
      refine am_b1 C0 am_YYk (pc := 16) (pc2 := 17) [(.iconst (-1), 0, 0, .int (-1))] (L := [some (.ref 26), some (.int (p1)), some (.int (p2)), none]) (st := []) (L' := [some (.ref 26), some (.int (p1)), some (.int (p2)), none]) (st' := [.int ((-1 : Int32))]) (g' := g) (w' := w) (cl := []) (by decide +kernel) rfl trivial ?_
      cases hf
      exact am_iret C0 (by decide +kernel)
/-! ShutterTownModel.hourOn(I)I at (26,) -/
def f_X8_hourOn_113 (F : Nat) (p1 : Int32)  (l2 : Int32) (l3 : Int32) (g : am_G) : Option (Int32 × am_G) :=
  if am_in (l2 + (12 : Int32)) 26 then
    if am_in (l2 + (12 : Int32)) 26 then
      some (l3, am_u g 32 (Int32.toNatClampNeg (l2 + (12 : Int32))) ((g 32 (Int32.toNatClampNeg (l2 + (12 : Int32)))) + (1 : Int32)))
    else none
  else none
set_option maxRecDepth 20000 in
theorem B_X8_hourOn_113 (x : am_X) (C0 : am_Cm x 8 cX8_hourOn 6 (some .int)) (hR : am_R x = rm_X8_hourOn) (w : am_J) (F : Nat) (p1 : Int32) (R : Int32 × am_G)   (l2 : Int32) (l3 : Int32) (g : am_G) (hf : f_X8_hourOn_113 F p1 l2 l3 g = some R) : am_Ev x 6 (0, 0) (am_Q x (0, 0) (some (.int R.1)) am_YY (R.2) w) 113 [some (.ref 26), some (.int (p1)), some (.int (l2)), some (.int (l3)), none, none] [] am_YY g w := by
  unfold f_X8_hourOn_113 at hf
  obtain ⟨hg1, hf⟩ := am_g hf
  obtain ⟨hg2, hf⟩ := am_g hf
  refine am_b1 C0 am_YYk (pc := 113) (pc2 := 127) [(.aload_n 0, 0, 0, .null), (.getfield 25, 8, 7, .null), (.iload_n 2, 0, 0, .null), (.bipush 12, 0, 0, .int 12), (.iadd, 0, 0, .null), (.dup2, 0, 0, .null), (.iaload, 0, 0, .null), (.iconst 1, 0, 0, .int 1), (.iadd, 0, 0, .null), (.iastore, 0, 0, .null), (.iload_n 3, 0, 0, .null)] (L := [some (.ref 26), some (.int (p1)), some (.int (l2)), some (.int (l3)), none, none]) (st := []) (L' := [some (.ref 26), some (.int (p1)), some (.int (l2)), some (.int (l3)), none, none]) (st' := [.int (l3)]) (g' := am_u g 32 (Int32.toNatClampNeg (l2 + (12 : Int32))) ((g 32 (Int32.toNatClampNeg (l2 + (12 : Int32)))) + (1 : Int32))) (w' := w) (cl := [am_in (l2 + (12 : Int32)) 26, am_in (l2 + (12 : Int32)) 26]) (by decide +kernel) rfl ⟨hg1, hg2, trivial⟩ ?_
  cases hf
  exact am_iret C0 (by decide +kernel)
def f_X8_hourOn_105 (F : Nat) (p1 : Int32) (k10 : Int32 → Int32 → Int32 → am_G → Option (Int32 × am_G)) (k113 : Int32 → Int32 → am_G → Option (Int32 × am_G)) (l2 : Int32) (l4 : Int32) (s0 : Int32) (s1 : Int32) (g : am_G) : Option (Int32 × am_G) :=
  k10 (l2) (s0 ||| s1) (l4 + (1 : Int32)) (g)
set_option maxRecDepth 20000 in
theorem B_X8_hourOn_105 (x : am_X) (C0 : am_Cm x 8 cX8_hourOn 6 (some .int)) (hR : am_R x = rm_X8_hourOn) (w : am_J) (F : Nat) (p1 : Int32) (R : Int32 × am_G) (k10 : Int32 → Int32 → Int32 → am_G → Option (Int32 × am_G)) (k113 : Int32 → Int32 → am_G → Option (Int32 × am_G)) (hk10 : ∀ (l2 : Int32) (l3 : Int32) (l4 : Int32) (g : am_G), k10 l2 l3 l4 g = some R → am_Ev x 6 (0, 0) (am_Q x (0, 0) (some (.int R.1)) am_YY (R.2) w) 10 [some (.ref 26), some (.int (p1)), some (.int (l2)), some (.int (l3)), some (.int (l4)), none] [] am_YY g w) (hk113 : ∀ (l2 : Int32) (l3 : Int32) (g : am_G), k113 l2 l3 g = some R → am_Ev x 6 (0, 0) (am_Q x (0, 0) (some (.int R.1)) am_YY (R.2) w) 113 [some (.ref 26), some (.int (p1)), some (.int (l2)), some (.int (l3)), none, none] [] am_YY g w) (l2 : Int32) (l4 : Int32) (s0 : Int32) (s1 : Int32) (g : am_G) (hf : f_X8_hourOn_105 F p1 k10 k113 l2 l4 s0 s1 g = some R) : am_Ev x 6 (0, 0) (am_Q x (0, 0) (some (.int R.1)) am_YY (R.2) w) 105 [some (.ref 26), some (.int (p1)), some (.int (l2)), none, some (.int (l4)), none] [.int (s1), .int (s0)] am_YY g w := by
  unfold f_X8_hourOn_105 at hf
  refine am_b1 C0 am_YYk (pc := 105) (pc2 := 110) [(.ior, 0, 0, .null), (.istore_n 3, 0, 0, .null), (.iinc 4 1, 0, 0, .int 1)] (L := [some (.ref 26), some (.int (p1)), some (.int (l2)), none, some (.int (l4)), none]) (st := [.int (s1), .int (s0)]) (L' := [some (.ref 26), some (.int (p1)), some (.int (l2)), some (.int (s0 ||| s1)), some (.int (l4 + (1 : Int32))), none]) (st' := []) (g' := g) (w' := w) (cl := []) (by decide +kernel) rfl trivial ?_
  refine am_goto C0 (off := (-100)) (tgt := 10) (by decide +kernel) ?_
  exact hk10 (l2) (s0 ||| s1) (l4 + (1 : Int32)) (g) hf
def f_X8_hourOn_84 (F : Nat) (p1 : Int32) (k10 : Int32 → Int32 → Int32 → am_G → Option (Int32 × am_G)) (k113 : Int32 → Int32 → am_G → Option (Int32 × am_G)) (l2 : Int32) (l3 : Int32) (l4 : Int32) (l5 : Int32) (g : am_G) : Option (Int32 × am_G) :=
  (f_X8_wordOf g p1 l4).bind fun q3 =>
    if q3 = l5 then
      f_X8_hourOn_105 F p1 k10 k113 (l2) (l4) (l3) ((0 : Int32)) (g)
    else
      f_X8_hourOn_105 F p1 k10 k113 (l2) (l4) (l3) ((1 : Int32) <<< (l4 &&& 31)) (g)
set_option maxRecDepth 20000 in
theorem B_X8_hourOn_84 (x : am_X) (C0 : am_Cm x 8 cX8_hourOn 6 (some .int)) (hR : am_R x = rm_X8_hourOn) (w : am_J) (F : Nat) (p1 : Int32) (R : Int32 × am_G) (k10 : Int32 → Int32 → Int32 → am_G → Option (Int32 × am_G)) (k113 : Int32 → Int32 → am_G → Option (Int32 × am_G)) (hk10 : ∀ (l2 : Int32) (l3 : Int32) (l4 : Int32) (g : am_G), k10 l2 l3 l4 g = some R → am_Ev x 6 (0, 0) (am_Q x (0, 0) (some (.int R.1)) am_YY (R.2) w) 10 [some (.ref 26), some (.int (p1)), some (.int (l2)), some (.int (l3)), some (.int (l4)), none] [] am_YY g w) (hk113 : ∀ (l2 : Int32) (l3 : Int32) (g : am_G), k113 l2 l3 g = some R → am_Ev x 6 (0, 0) (am_Q x (0, 0) (some (.int R.1)) am_YY (R.2) w) 113 [some (.ref 26), some (.int (p1)), some (.int (l2)), some (.int (l3)), none, none] [] am_YY g w) (l2 : Int32) (l3 : Int32) (l4 : Int32) (l5 : Int32) (g : am_G) (hf : f_X8_hourOn_84 F p1 k10 k113 l2 l3 l4 l5 g = some R) : am_Ev x 6 (0, 0) (am_Q x (0, 0) (some (.int R.1)) am_YY (R.2) w) 84 [some (.ref 26), some (.int (p1)), some (.int (l2)), some (.int (l3)), some (.int (l4)), some (.int (l5))] [] am_YY g w := by
  unfold f_X8_hourOn_84 at hf
  refine am_b1 C0 am_YYk (pc := 84) (pc2 := 89) [(.iload_n 3, 0, 0, .null), (.aload_n 0, 0, 0, .null), (.iload_n 1, 0, 0, .null), (.iload 4, 0, 0, .null)] (L := [some (.ref 26), some (.int (p1)), some (.int (l2)), some (.int (l3)), some (.int (l4)), some (.int (l5))]) (st := []) (L' := [some (.ref 26), some (.int (p1)), some (.int (l2)), some (.int (l3)), some (.int (l4)), some (.int (l5))]) (st' := [.int (l4), .int (p1), .ref 26, .int (l3)]) (g' := g) (w' := w) (cl := []) (by decide +kernel) rfl trivial ?_
  obtain ⟨q3, hq3, hf⟩ := Option.bind_eq_some_iff.mp hf
  refine am_callV (mi := mi_X8_wordOf) (rm := rm_X8_wordOf) [.int (p1), .int (l4)] C0.1 am_YYl cv_8_122 (M_X8_wordOf _ g w p1 l4 _ hq3) (ci := 8) rfl (by decide) rfl (by rw [hR]; rfl) rfl rfl (Nat.le_of_ble_eq_true rfl) (by decide +kernel) ?_
  refine am_b1 C0 am_YYk (pc := 92) (pc2 := 94) [(.iload 5, 0, 0, .null)] (L := [some (.ref 26), some (.int (p1)), some (.int (l2)), some (.int (l3)), some (.int (l4)), some (.int (l5))]) (st := [.int (q3), .int (l3)]) (L' := [some (.ref 26), some (.int (p1)), some (.int (l2)), some (.int (l3)), some (.int (l4)), some (.int (l5))]) (st' := [.int (l5), .int (q3), .int (l3)]) (g' := g) (w' := w) (cl := []) (by decide +kernel) rfl trivial ?_
  refine am_icmp_eq C0 (off := 10) (tgt := 104) (by decide +kernel) (fun hc4 => ?_) (fun hc4 => ?_)
  · rw [if_pos hc4] at hf
    refine am_b1 C0 am_YYk (pc := 104) (pc2 := 105) [(.iconst 0, 0, 0, .int 0)] (L := [some (.ref 26), some (.int (p1)), some (.int (l2)), some (.int (l3)), some (.int (l4)), some (.int (l5))]) (st := [.int (l3)]) (L' := [some (.ref 26), some (.int (p1)), some (.int (l2)), some (.int (l3)), some (.int (l4)), some (.int (l5))]) (st' := [.int ((0 : Int32)), .int (l3)]) (g' := g) (w' := w) (cl := []) (by decide +kernel) rfl trivial ?_
    refine am_wk [some (.ref 26), some (.int (p1)), some (.int (l2)), none, some (.int (l4)), none] ⟨rfl, rfl, rfl, rfl, trivial⟩ rfl ?_
    exact B_X8_hourOn_105 x C0 hR w F p1 R _ _ hk10 hk113 (l2) (l4) (l3) ((0 : Int32)) (g) hf
  · rw [if_neg hc4] at hf
    refine am_b1 C0 am_YYk (pc := 97) (pc2 := 101) [(.iconst 1, 0, 0, .int 1), (.iload 4, 0, 0, .null), (.ishl, 0, 0, .null)] (L := [some (.ref 26), some (.int (p1)), some (.int (l2)), some (.int (l3)), some (.int (l4)), some (.int (l5))]) (st := [.int (l3)]) (L' := [some (.ref 26), some (.int (p1)), some (.int (l2)), some (.int (l3)), some (.int (l4)), some (.int (l5))]) (st' := [.int ((1 : Int32) <<< (l4 &&& 31)), .int (l3)]) (g' := g) (w' := w) (cl := []) (by decide +kernel) rfl trivial ?_
    refine am_goto C0 (off := 4) (tgt := 105) (by decide +kernel) ?_
    refine am_wk [some (.ref 26), some (.int (p1)), some (.int (l2)), none, some (.int (l4)), none] ⟨rfl, rfl, rfl, rfl, trivial⟩ rfl ?_
    exact B_X8_hourOn_105 x C0 hR w F p1 R _ _ hk10 hk113 (l2) (l4) (l3) ((1 : Int32) <<< (l4 &&& 31)) (g) hf
def f_X8_hourOn_10 (F : Nat) (p1 : Int32) (k113 : Int32 → Int32 → am_G → Option (Int32 × am_G)) : Nat → Int32 → Int32 → Int32 → am_G → Option (Int32 × am_G)
  | 0, _, _, _, _ => none
  | n + 1, l2, l3, l4, g =>
    if (g 26 0) ≤ l4 then
      k113 (l2) (l3) (g)
    else
      (f_X8_wordOf g p1 l4).bind fun q5 =>
        if am_in ((l2 + (6 : Int32)) + l4) 26 then
          if (g 32 (Int32.toNatClampNeg ((l2 + (6 : Int32)) + l4))) = (-9 : Int32) then
            f_X8_hourOn_84 F p1 (fun l2 l3 l4 g => f_X8_hourOn_10 F p1 k113 n l2 l3 l4 g) k113 (l2) (l3) (l4) (q5) (g)
          else
            if am_in ((l2 + (6 : Int32)) + l4) 26 then
              (f_X8_leastState F g (g 32 (Int32.toNatClampNeg ((l2 + (6 : Int32)) + l4)))).bind fun q8 =>
                if am_in (l2 + l4) 26 then
                  if am_in ((l2 + (6 : Int32)) + l4) 26 then
                    f_X8_hourOn_84 F p1 (fun l2 l3 l4 g => f_X8_hourOn_10 F p1 k113 n l2 l3 l4 g) k113 (l2) (l3) (l4) (q5) (am_u (am_u g 32 (Int32.toNatClampNeg (l2 + l4)) q8) 32 (Int32.toNatClampNeg ((l2 + (6 : Int32)) + l4)) (-9 : Int32))
                  else none
                else none
            else none
        else none
set_option maxRecDepth 20000 in
theorem B_X8_hourOn_10 (x : am_X) (C0 : am_Cm x 8 cX8_hourOn 6 (some .int)) (hR : am_R x = rm_X8_hourOn) (w : am_J) (F : Nat) (p1 : Int32) (R : Int32 × am_G) (k113 : Int32 → Int32 → am_G → Option (Int32 × am_G)) (hk113 : ∀ (l2 : Int32) (l3 : Int32) (g : am_G), k113 l2 l3 g = some R → am_Ev x 6 (0, 0) (am_Q x (0, 0) (some (.int R.1)) am_YY (R.2) w) 113 [some (.ref 26), some (.int (p1)), some (.int (l2)), some (.int (l3)), none, none] [] am_YY g w) : ∀ (n : Nat) (l2 : Int32) (l3 : Int32) (l4 : Int32) (g : am_G), f_X8_hourOn_10 F p1 k113 n l2 l3 l4 g = some R → am_Ev x 6 (0, 0) (am_Q x (0, 0) (some (.int R.1)) am_YY (R.2) w) 10 [some (.ref 26), some (.int (p1)), some (.int (l2)), some (.int (l3)), some (.int (l4)), none] [] am_YY g w := by
  intro n
  induction n with
  | zero => intro l2 l3 l4 g hf; cases hf
  | succ n ih =>
    intro l2 l3 l4 g hf
    rw [f_X8_hourOn_10.eq_2] at hf
    refine am_b1 C0 am_YYk (pc := 10) (pc2 := 16) [(.iload 4, 0, 0, .null), (.aload_n 0, 0, 0, .null), (.getfield 111, 8, 0, .null)] (L := [some (.ref 26), some (.int (p1)), some (.int (l2)), some (.int (l3)), some (.int (l4)), none]) (st := []) (L' := [some (.ref 26), some (.int (p1)), some (.int (l2)), some (.int (l3)), some (.int (l4)), none]) (st' := [.int (g 26 0), .int (l4)]) (g' := g) (w' := w) (cl := []) (by decide +kernel) rfl trivial ?_
    refine am_icmp_ge C0 (off := 97) (tgt := 113) (by decide +kernel) (fun hc12 => ?_) (fun hc12 => ?_)
    · rw [if_pos hc12] at hf
      refine am_wk [some (.ref 26), some (.int (p1)), some (.int (l2)), some (.int (l3)), none, none] ⟨rfl, rfl, rfl, rfl, trivial⟩ rfl ?_
      exact hk113 (l2) (l3) (g) hf
    · rw [if_neg hc12] at hf
      refine am_b1 C0 am_YYk (pc := 19) (pc2 := 23) [(.aload_n 0, 0, 0, .null), (.iload_n 1, 0, 0, .null), (.iload 4, 0, 0, .null)] (L := [some (.ref 26), some (.int (p1)), some (.int (l2)), some (.int (l3)), some (.int (l4)), none]) (st := []) (L' := [some (.ref 26), some (.int (p1)), some (.int (l2)), some (.int (l3)), some (.int (l4)), none]) (st' := [.int (l4), .int (p1), .ref 26]) (g' := g) (w' := w) (cl := []) (by decide +kernel) rfl trivial ?_
      obtain ⟨q5, hq5, hf⟩ := Option.bind_eq_some_iff.mp hf
      refine am_callV (mi := mi_X8_wordOf) (rm := rm_X8_wordOf) [.int (p1), .int (l4)] C0.1 am_YYl cv_8_122 (M_X8_wordOf _ g w p1 l4 _ hq5) (ci := 8) rfl (by decide) rfl (by rw [hR]; rfl) rfl rfl (Nat.le_of_ble_eq_true rfl) (by decide +kernel) ?_
      obtain ⟨hg6, hf⟩ := am_g hf
      refine am_b1 C0 am_YYk (pc := 26) (pc2 := 42) [(.istore 5, 0, 0, .null), (.aload_n 0, 0, 0, .null), (.getfield 25, 8, 7, .null), (.iload_n 2, 0, 0, .null), (.bipush 6, 0, 0, .int 6), (.iadd, 0, 0, .null), (.iload 4, 0, 0, .null), (.iadd, 0, 0, .null), (.iaload, 0, 0, .null), (.bipush (-9), 0, 0, .int (-9))] (L := [some (.ref 26), some (.int (p1)), some (.int (l2)), some (.int (l3)), some (.int (l4)), none]) (st := [.int (q5)]) (L' := [some (.ref 26), some (.int (p1)), some (.int (l2)), some (.int (l3)), some (.int (l4)), some (.int (q5))]) (st' := [.int ((-9 : Int32)), .int (g 32 (Int32.toNatClampNeg ((l2 + (6 : Int32)) + l4)))]) (g' := g) (w' := w) (cl := [am_in ((l2 + (6 : Int32)) + l4) 26]) (by decide +kernel) rfl ⟨hg6, trivial⟩ ?_
      refine am_icmp_eq C0 (off := 42) (tgt := 84) (by decide +kernel) (fun hc11 => ?_) (fun hc11 => ?_)
      · rw [if_pos hc11] at hf
        exact B_X8_hourOn_84 x C0 hR w F p1 R _ _ (fun l2 l3 l4 g hf => ih l2 l3 l4 g hf) hk113 (l2) (l3) (l4) (q5) (g) hf
      · rw [if_neg hc11] at hf
        obtain ⟨hg7, hf⟩ := am_g hf
        refine am_b1 C0 am_YYk (pc := 45) (pc2 := 66) [(.aload_n 0, 0, 0, .null), (.getfield 25, 8, 7, .null), (.iload_n 2, 0, 0, .null), (.iload 4, 0, 0, .null), (.iadd, 0, 0, .null), (.aload_n 0, 0, 0, .null), (.aload_n 0, 0, 0, .null), (.getfield 25, 8, 7, .null), (.iload_n 2, 0, 0, .null), (.bipush 6, 0, 0, .int 6), (.iadd, 0, 0, .null), (.iload 4, 0, 0, .null), (.iadd, 0, 0, .null), (.iaload, 0, 0, .null)] (L := [some (.ref 26), some (.int (p1)), some (.int (l2)), some (.int (l3)), some (.int (l4)), some (.int (q5))]) (st := []) (L' := [some (.ref 26), some (.int (p1)), some (.int (l2)), some (.int (l3)), some (.int (l4)), some (.int (q5))]) (st' := [.int (g 32 (Int32.toNatClampNeg ((l2 + (6 : Int32)) + l4))), .ref 26, .int (l2 + l4), .ref 32]) (g' := g) (w' := w) (cl := [am_in ((l2 + (6 : Int32)) + l4) 26]) (by decide +kernel) rfl ⟨hg7, trivial⟩ ?_
        obtain ⟨q8, hq8, hf⟩ := Option.bind_eq_some_iff.mp hf
        refine am_callV (mi := mi_X8_leastState) (rm := rm_X8_leastState) [.int (g 32 (Int32.toNatClampNeg ((l2 + (6 : Int32)) + l4)))] C0.1 am_YYl cv_8_143 (M_X8_leastState _ F g w (g 32 (Int32.toNatClampNeg ((l2 + (6 : Int32)) + l4))) _ hq8) (ci := 8) rfl (by decide) rfl (by rw [hR]; rfl) rfl rfl (Nat.le_of_ble_eq_true rfl) (by decide +kernel) ?_
        obtain ⟨hg9, hf⟩ := am_g hf
        obtain ⟨hg10, hf⟩ := am_g hf
        refine am_b1 C0 am_YYk (pc := 69) (pc2 := 84) [(.iastore, 0, 0, .null), (.aload_n 0, 0, 0, .null), (.getfield 25, 8, 7, .null), (.iload_n 2, 0, 0, .null), (.bipush 6, 0, 0, .int 6), (.iadd, 0, 0, .null), (.iload 4, 0, 0, .null), (.iadd, 0, 0, .null), (.bipush (-9), 0, 0, .int (-9)), (.iastore, 0, 0, .null)] (L := [some (.ref 26), some (.int (p1)), some (.int (l2)), some (.int (l3)), some (.int (l4)), some (.int (q5))]) (st := [.int (q8), .int (l2 + l4), .ref 32]) (L' := [some (.ref 26), some (.int (p1)), some (.int (l2)), some (.int (l3)), some (.int (l4)), some (.int (q5))]) (st' := []) (g' := am_u (am_u g 32 (Int32.toNatClampNeg (l2 + l4)) q8) 32 (Int32.toNatClampNeg ((l2 + (6 : Int32)) + l4)) (-9 : Int32)) (w' := w) (cl := [am_in (l2 + l4) 26, am_in ((l2 + (6 : Int32)) + l4) 26]) (by decide +kernel) rfl ⟨hg9, hg10, trivial⟩ ?_
        exact B_X8_hourOn_84 x C0 hR w F p1 R _ _ (fun l2 l3 l4 g hf => ih l2 l3 l4 g hf) hk113 (l2) (l3) (l4) (q5) (am_u (am_u g 32 (Int32.toNatClampNeg (l2 + l4)) q8) 32 (Int32.toNatClampNeg ((l2 + (6 : Int32)) + l4)) (-9 : Int32)) hf
def f_X8_hourOn (F : Nat) (g : am_G) (p1 : Int32) : Option (Int32 × am_G) :=
  f_X8_hourOn_10 F p1 (fun l2 l3 g => f_X8_hourOn_113 F p1 (l2) (l3) (g)) F ((13 : Int32) * p1) ((0 : Int32)) ((0 : Int32)) (g)
set_option maxRecDepth 20000 in
theorem M_X8_hourOn (l : Launch) (F : Nat) (g : am_G) (w : am_J) (p1 : Int32) (R : Int32 × am_G) (hf : f_X8_hourOn F g p1 = some R) : am_Met l mi_X8_hourOn rm_X8_hourOn [.ref 26, .int p1] am_YY g w (some (.int R.1)) am_YY (R.2) w := by
  refine am_met (own := 8) [some (.ref 26), some (.int (p1)), none, none, none, none] (by decide) rfl rfl (by first | decide | exact Nat.le_of_ble_eq_true rfl) (fun x C0 hR hl hnm => ?_)
  unfold f_X8_hourOn at hf
  refine am_b1 C0 am_YYk (pc := 0) (pc2 := 10) [(.bipush 13, 0, 0, .int 13), (.iload_n 1, 0, 0, .null), (.imul, 0, 0, .null), (.istore_n 2, 0, 0, .null), (.iconst 0, 0, 0, .int 0), (.istore_n 3, 0, 0, .null), (.iconst 0, 0, 0, .int 0), (.istore 4, 0, 0, .null)] (L := [some (.ref 26), some (.int (p1)), none, none, none, none]) (st := []) (L' := [some (.ref 26), some (.int (p1)), some (.int ((13 : Int32) * p1)), some (.int ((0 : Int32))), some (.int ((0 : Int32))), none]) (st' := []) (g' := g) (w' := w) (cl := []) (by decide +kernel) rfl trivial ?_
  refine B_X8_hourOn_10 x C0 hR w F p1 R _ ?_ F ((13 : Int32) * p1) ((0 : Int32)) ((0 : Int32)) (g) hf
  · intro l2 l3 g hf
    exact B_X8_hourOn_113 x C0 hR w F p1 R  (l2) (l3) (g) hf
/-! ShutterTownModel.hour()I at (26,) -/
def f_X8_hour (F : Nat) (g : am_G) : Option (Int32 × am_G) :=
  (f_X8_keepAct F g).bind fun q1 =>
    (f_X8_hourOn F q1 (0 : Int32)).bind fun q2 =>
      some (q2.1, q2.2)
set_option maxRecDepth 20000 in
theorem M_X8_hour (l : Launch) (F : Nat) (g : am_G) (w : am_J)  (R : Int32 × am_G) (hf : f_X8_hour F g = some R) : am_Met l mi_X8_hour rm_X8_hour [.ref 26] am_YY g w (some (.int R.1)) am_YY (R.2) w := by
  refine am_met (own := 8) [some (.ref 26)] (by decide) rfl rfl (by first | decide | exact Nat.le_of_ble_eq_true rfl) (fun x C0 hR hl hnm => ?_)
  unfold f_X8_hour at hf
  refine am_b1 C0 am_YYk (pc := 0) (pc2 := 1) [(.aload_n 0, 0, 0, .null)] (L := [some (.ref 26)]) (st := []) (L' := [some (.ref 26)]) (st' := [.ref 26]) (g' := g) (w' := w) (cl := []) (by decide +kernel) rfl trivial ?_
  obtain ⟨q1, hq1, hf⟩ := Option.bind_eq_some_iff.mp hf
  refine am_callV (mi := mi_X8_keepAct) (rm := rm_X8_keepAct) [] C0.1 am_YYl cv_8_137 (M_X8_keepAct _ F g w _ hq1) (ci := 8) rfl (by decide) rfl (by rw [hR]; rfl) rfl rfl (Nat.le_of_ble_eq_true rfl) (by decide +kernel) ?_
  refine am_b1 C0 am_YYk (pc := 4) (pc2 := 6) [(.aload_n 0, 0, 0, .null), (.iconst 0, 0, 0, .int 0)] (L := [some (.ref 26)]) (st := []) (L' := [some (.ref 26)]) (st' := [.int ((0 : Int32)), .ref 26]) (g' := q1) (w' := w) (cl := []) (by decide +kernel) rfl trivial ?_
  obtain ⟨q2, hq2, hf⟩ := Option.bind_eq_some_iff.mp hf
  refine am_callV (mi := mi_X8_hourOn) (rm := rm_X8_hourOn) [.int ((0 : Int32))] C0.1 am_YYl cv_8_146 (M_X8_hourOn _ F q1 w (0 : Int32) _ hq2) (ci := 8) rfl (by decide) rfl (by rw [hR]; rfl) rfl rfl (Nat.le_of_ble_eq_true rfl) (by decide +kernel) ?_
  cases hf
  exact am_iret C0 (by decide +kernel)
/-! ShutterTownModel.undo()I at (26,) -/
def f_X8_undo_36 (F : Nat)  : Nat → Int32 → am_G → Option (Int32 × am_G)
  | 0, _, _ => none
  | n + 1, l1, g =>
    if (13 : Int32) ≤ l1 then
      some (g 26 17, g)
    else
      if am_in (((13 : Int32) * (g 26 18)) + l1) 182 then
        if am_in l1 26 then
          f_X8_undo_36 F n (l1 + (1 : Int32)) (am_u g 32 (Int32.toNatClampNeg l1) (g 36 (Int32.toNatClampNeg (((13 : Int32) * (g 26 18)) + l1))))
        else none
      else none
set_option maxRecDepth 20000 in
theorem B_X8_undo_36 (x : am_X) (C0 : am_Cm x 8 cX8_undo 2 (some .int)) (hR : am_R x = rm_X8_undo) (w : am_J) (F : Nat) (R : Int32 × am_G)   : ∀ (n : Nat) (l1 : Int32) (g : am_G), f_X8_undo_36 F n l1 g = some R → am_Ev x 2 (0, 0) (am_Q x (0, 0) (some (.int R.1)) am_YY (R.2) w) 36 [some (.ref 26), some (.int (l1))] [] am_YY g w := by
  intro n
  induction n with
  | zero => intro l1 g hf; cases hf
  | succ n ih =>
    intro l1 g hf
    rw [f_X8_undo_36.eq_2] at hf
    refine am_b1 C0 am_YYk (pc := 36) (pc2 := 39) [(.iload_n 1, 0, 0, .null), (.bipush 13, 0, 0, .int 13)] (L := [some (.ref 26), some (.int (l1))]) (st := []) (L' := [some (.ref 26), some (.int (l1))]) (st' := [.int ((13 : Int32)), .int (l1)]) (g' := g) (w' := w) (cl := []) (by decide +kernel) rfl trivial ?_
    refine am_icmp_ge C0 (off := 29) (tgt := 68) (by decide +kernel) (fun hc3 => ?_) (fun hc3 => ?_)
    · rw [if_pos hc3] at hf
      refine am_b1 C0 am_YYk (pc := 68) (pc2 := 72) [(.aload_n 0, 0, 0, .null), (.getfield 114, 8, 17, .null)] (L := [some (.ref 26), some (.int (l1))]) (st := []) (L' := [some (.ref 26), some (.int (l1))]) (st' := [.int (g 26 17)]) (g' := g) (w' := w) (cl := []) (by decide +kernel) rfl trivial ?_
      cases hf
      exact am_iret C0 (by decide +kernel)
    · rw [if_neg hc3] at hf
      obtain ⟨hg1, hf⟩ := am_g hf
      obtain ⟨hg2, hf⟩ := am_g hf
      refine am_b1 C0 am_YYk (pc := 42) (pc2 := 65) [(.aload_n 0, 0, 0, .null), (.getfield 25, 8, 7, .null), (.iload_n 1, 0, 0, .null), (.aload_n 0, 0, 0, .null), (.getfield 37, 8, 19, .null), (.bipush 13, 0, 0, .int 13), (.aload_n 0, 0, 0, .null), (.getfield 132, 8, 18, .null), (.imul, 0, 0, .null), (.iload_n 1, 0, 0, .null), (.iadd, 0, 0, .null), (.iaload, 0, 0, .null), (.iastore, 0, 0, .null), (.iinc 1 1, 0, 0, .int 1)] (L := [some (.ref 26), some (.int (l1))]) (st := []) (L' := [some (.ref 26), some (.int (l1 + (1 : Int32)))]) (st' := []) (g' := am_u g 32 (Int32.toNatClampNeg l1) (g 36 (Int32.toNatClampNeg (((13 : Int32) * (g 26 18)) + l1)))) (w' := w) (cl := [am_in (((13 : Int32) * (g 26 18)) + l1) 182, am_in l1 26]) (by decide +kernel) rfl ⟨hg1, hg2, trivial⟩ ?_
      refine am_goto C0 (off := (-29)) (tgt := 36) (by decide +kernel) ?_
      exact ih (l1 + (1 : Int32)) (am_u g 32 (Int32.toNatClampNeg l1) (g 36 (Int32.toNatClampNeg (((13 : Int32) * (g 26 18)) + l1)))) hf
def f_X8_undo (F : Nat) (g : am_G) : Option (Int32 × am_G) :=
  if (g 26 17) = 0 then
    some ((-3 : Int32), g)
  else
    f_X8_undo_36 F F ((0 : Int32)) (am_u (am_u g 26 17 ((g 26 17) - (1 : Int32))) 26 18 ((((am_u g 26 17 ((g 26 17) - (1 : Int32))) 26 18) + (13 : Int32)) - (((am_u g 26 17 ((g 26 17) - (1 : Int32))) 26 18) + (13 : Int32)) / (14 : Int32) * (14 : Int32)))
set_option maxRecDepth 20000 in
theorem M_X8_undo (l : Launch) (F : Nat) (g : am_G) (w : am_J)  (R : Int32 × am_G) (hf : f_X8_undo F g = some R) : am_Met l mi_X8_undo rm_X8_undo [.ref 26] am_YY g w (some (.int R.1)) am_YY (R.2) w := by
  refine am_met (own := 8) [some (.ref 26), none] (by decide) rfl rfl (by first | decide | exact Nat.le_of_ble_eq_true rfl) (fun x C0 hR hl hnm => ?_)
  unfold f_X8_undo at hf
  refine am_b1 C0 am_YYk (pc := 0) (pc2 := 4) [(.aload_n 0, 0, 0, .null), (.getfield 114, 8, 17, .null)] (L := [some (.ref 26), none]) (st := []) (L' := [some (.ref 26), none]) (st' := [.int (g 26 17)]) (g' := g) (w' := w) (cl := []) (by decide +kernel) rfl trivial ?_
  refine am_if_ne C0 (off := 6) (tgt := 10) (by decide +kernel) (fun hc4 => ?_) (fun hc4 => ?_)
  · rw [if_neg hc4] at hf
    refine am_b1 C0 am_YYk (pc := 10) (pc2 := 36) [(.aload_n 0, 0, 0, .null), (.dup, 0, 0, .null), (.getfield 114, 8, 17, .null), (.iconst 1, 0, 0, .int 1), (.isub, 0, 0, .null), (.putfield 114, 8, 17, .null), (.aload_n 0, 0, 0, .null), (.aload_n 0, 0, 0, .null), (.getfield 132, 8, 18, .null), (.bipush 13, 0, 0, .int 13), (.iadd, 0, 0, .null), (.bipush 14, 0, 0, .int 14), (.irem, 0, 0, .null), (.putfield 132, 8, 18, .null), (.iconst 0, 0, 0, .int 0), (.istore_n 1, 0, 0, .null)] (L := [some (.ref 26), none]) (st := []) (L' := [some (.ref 26), some (.int ((0 : Int32)))]) (st' := []) (g' := am_u (am_u g 26 17 ((g 26 17) - (1 : Int32))) 26 18 ((((am_u g 26 17 ((g 26 17) - (1 : Int32))) 26 18) + (13 : Int32)) - (((am_u g 26 17 ((g 26 17) - (1 : Int32))) 26 18) + (13 : Int32)) / (14 : Int32) * (14 : Int32))) (w' := w) (cl := [¬ (14 : Int32) = 0]) (by decide +kernel) rfl ⟨by decide, trivial⟩ ?_
    refine B_X8_undo_36 x C0 hR w F R   F ((0 : Int32)) (am_u (am_u g 26 17 ((g 26 17) - (1 : Int32))) 26 18 ((((am_u g 26 17 ((g 26 17) - (1 : Int32))) 26 18) + (13 : Int32)) - (((am_u g 26 17 ((g 26 17) - (1 : Int32))) 26 18) + (13 : Int32)) / (14 : Int32) * (14 : Int32))) hf
  · rw [if_pos hc4] at hf
    refine am_b1 C0 am_YYk (pc := 7) (pc2 := 9) [(.bipush (-3), 0, 0, .int (-3))] (L := [some (.ref 26), none]) (st := []) (L' := [some (.ref 26), none]) (st' := [.int ((-3 : Int32))]) (g' := g) (w' := w) (cl := []) (by decide +kernel) rfl trivial ?_
    cases hf
    exact am_iret C0 (by decide +kernel)
/-! ShutterTownModel.sixes(I)I at () -/
def f_X8_sixes_4 (F : Nat) (p0 : Int32)  : Nat → Int32 → Int32 → Option (Int32)
  | 0, _, _ => none
  | n + 1, l1, l2 =>
    if p0 ≤ l2 then
      some (l1)
    else
      f_X8_sixes_4 F p0 n (l1 * (6 : Int32)) (l2 + (1 : Int32))
set_option maxRecDepth 20000 in
theorem B_X8_sixes_4 (x : am_X) (C0 : am_Cm x 8 cX8_sixes 3 (some .int)) (hR : am_R x = rm_X8_sixes) (g : am_G) (w : am_J) (F : Nat) (p0 : Int32) (R : Int32)   : ∀ (n : Nat) (l1 : Int32) (l2 : Int32), f_X8_sixes_4 F p0 n l1 l2 = some R → am_Ev x 3 (0, 0) (am_Q x (0, 0) (some (.int R)) am_YY g w) 4 [some (.int (p0)), some (.int (l1)), some (.int (l2))] [] am_YY g w := by
  intro n
  induction n with
  | zero => intro l1 l2 hf; cases hf
  | succ n ih =>
    intro l1 l2 hf
    rw [f_X8_sixes_4.eq_2] at hf
    refine am_b1 C0 am_YYk (pc := 4) (pc2 := 6) [(.iload_n 2, 0, 0, .null), (.iload_n 0, 0, 0, .null)] (L := [some (.int (p0)), some (.int (l1)), some (.int (l2))]) (st := []) (L' := [some (.int (p0)), some (.int (l1)), some (.int (l2))]) (st' := [.int (p0), .int (l2)]) (g' := g) (w' := w) (cl := []) (by decide +kernel) rfl trivial ?_
    refine am_icmp_ge C0 (off := 14) (tgt := 20) (by decide +kernel) (fun hc1 => ?_) (fun hc1 => ?_)
    · rw [if_pos hc1] at hf
      refine am_b1 C0 am_YYk (pc := 20) (pc2 := 21) [(.iload_n 1, 0, 0, .null)] (L := [some (.int (p0)), some (.int (l1)), some (.int (l2))]) (st := []) (L' := [some (.int (p0)), some (.int (l1)), some (.int (l2))]) (st' := [.int (l1)]) (g' := g) (w' := w) (cl := []) (by decide +kernel) rfl trivial ?_
      cases hf
      exact am_iret C0 (by decide +kernel)
    · rw [if_neg hc1] at hf
      refine am_b1 C0 am_YYk (pc := 9) (pc2 := 17) [(.iload_n 1, 0, 0, .null), (.bipush 6, 0, 0, .int 6), (.imul, 0, 0, .null), (.istore_n 1, 0, 0, .null), (.iinc 2 1, 0, 0, .int 1)] (L := [some (.int (p0)), some (.int (l1)), some (.int (l2))]) (st := []) (L' := [some (.int (p0)), some (.int (l1 * (6 : Int32))), some (.int (l2 + (1 : Int32)))]) (st' := []) (g' := g) (w' := w) (cl := []) (by decide +kernel) rfl trivial ?_
      refine am_goto C0 (off := (-13)) (tgt := 4) (by decide +kernel) ?_
      exact ih (l1 * (6 : Int32)) (l2 + (1 : Int32)) hf
def f_X8_sixes (F : Nat) (p0 : Int32) : Option (Int32) :=
  f_X8_sixes_4 F p0 F ((1 : Int32)) ((0 : Int32))
set_option maxRecDepth 20000 in
theorem M_X8_sixes (l : Launch) (F : Nat) (g : am_G) (w : am_J) (p0 : Int32) (R : Int32) (hf : f_X8_sixes F p0 = some R) : am_Met l mi_X8_sixes rm_X8_sixes [.int p0] am_YY g w (some (.int R)) am_YY g w := by
  refine am_met (own := 8) [some (.int (p0)), none, none] (by decide) rfl rfl (by first | decide | exact Nat.le_of_ble_eq_true rfl) (fun x C0 hR hl hnm => ?_)
  unfold f_X8_sixes at hf
  refine am_b1 C0 am_YYk (pc := 0) (pc2 := 4) [(.iconst 1, 0, 0, .int 1), (.istore_n 1, 0, 0, .null), (.iconst 0, 0, 0, .int 0), (.istore_n 2, 0, 0, .null)] (L := [some (.int (p0)), none, none]) (st := []) (L' := [some (.int (p0)), some (.int ((1 : Int32))), some (.int ((0 : Int32)))]) (st' := []) (g' := g) (w' := w) (cl := []) (by decide +kernel) rfl trivial ?_
  refine B_X8_sixes_4 x C0 hR g w F p0 R   F ((1 : Int32)) ((0 : Int32)) hf
/-! ShutterTownModel.between(III)I at () -/
def f_X8_between (F : Nat) (p0 : Int32) (p1 : Int32) (p2 : Int32) : Option (Int32) :=
  (f_X8_sixes F ((p1 - (1 : Int32)) - p2)).bind fun q1 =>
    if ¬ q1 = 0 then
      some ((p0 / q1) - (p0 / q1) / (6 : Int32) * (6 : Int32))
    else none
set_option maxRecDepth 20000 in
theorem M_X8_between (l : Launch) (F : Nat) (g : am_G) (w : am_J) (p0 : Int32) (p1 : Int32) (p2 : Int32) (R : Int32) (hf : f_X8_between F p0 p1 p2 = some R) : am_Met l mi_X8_between rm_X8_between [.int p0, .int p1, .int p2] am_YY g w (some (.int R)) am_YY g w := by
  refine am_met (own := 8) [some (.int (p0)), some (.int (p1)), some (.int (p2))] (by decide) rfl rfl (by first | decide | exact Nat.le_of_ble_eq_true rfl) (fun x C0 hR hl hnm => ?_)
  unfold f_X8_between at hf
  refine am_b1 C0 am_YYk (pc := 0) (pc2 := 6) [(.iload_n 0, 0, 0, .null), (.iload_n 1, 0, 0, .null), (.iconst 1, 0, 0, .int 1), (.isub, 0, 0, .null), (.iload_n 2, 0, 0, .null), (.isub, 0, 0, .null)] (L := [some (.int (p0)), some (.int (p1)), some (.int (p2))]) (st := []) (L' := [some (.int (p0)), some (.int (p1)), some (.int (p2))]) (st' := [.int ((p1 - (1 : Int32)) - p2), .int (p0)]) (g' := g) (w' := w) (cl := []) (by decide +kernel) rfl trivial ?_
  obtain ⟨q1, hq1, hf⟩ := Option.bind_eq_some_iff.mp hf
  refine am_callS (mi := mi_X8_sixes) (rm := rm_X8_sixes) [.int ((p1 - (1 : Int32)) - p2)] C0.1 cv_8_149 (M_X8_sixes _ F g w ((p1 - (1 : Int32)) - p2) _ hq1) (by rw [hR]; rfl) rfl rfl (Nat.le_of_ble_eq_true rfl) (by decide +kernel) ?_
  obtain ⟨hg2, hf⟩ := am_g hf
  refine am_b1 C0 am_YYk (pc := 9) (pc2 := 13) [(.idiv, 0, 0, .null), (.bipush 6, 0, 0, .int 6), (.irem, 0, 0, .null)] (L := [some (.int (p0)), some (.int (p1)), some (.int (p2))]) (st := [.int (q1), .int (p0)]) (L' := [some (.int (p0)), some (.int (p1)), some (.int (p2))]) (st' := [.int ((p0 / q1) - (p0 / q1) / (6 : Int32) * (6 : Int32))]) (g' := g) (w' := w) (cl := [¬ q1 = 0, ¬ (6 : Int32) = 0]) (by decide +kernel) rfl ⟨hg2, by decide, trivial⟩ ?_
  cases hf
  exact am_iret C0 (by decide +kernel)
/-! ShutterTownModel.hoursBy(IIIII)I at (26,) -/
def f_X8_hoursBy_129 (F : Nat) (g : am_G) (p1 : Int32) (p2 : Int32) (p3 : Int32) (p4 : Int32) (p5 : Int32)  (l6 : Int32) (l8 : Int32) : Option (Int32) :=
  (f_X8_sees g p2 l8).bind fun q1 =>
    if q1 = 0 then
      some ((-9 : Int32))
    else
      some (l6)
set_option maxRecDepth 20000 in
theorem B_X8_hoursBy_129 (x : am_X) (C0 : am_Cm x 8 cX8_hoursBy 11 (some .int)) (hR : am_R x = rm_X8_hoursBy) (w : am_J) (F : Nat) (g : am_G) (p1 : Int32) (p2 : Int32) (p3 : Int32) (p4 : Int32) (p5 : Int32) (R : Int32)   (l6 : Int32) (l8 : Int32) (hf : f_X8_hoursBy_129 F g p1 p2 p3 p4 p5 l6 l8 = some R) : am_Ev x 11 (0, 0) (am_Q x (0, 0) (some (.int R)) am_YY g w) 129 [some (.ref 26), some (.int (p1)), some (.int (p2)), some (.int (p3)), some (.int (p4)), some (.int (p5)), some (.int (l6)), none, some (.int (l8)), none, none] [] am_YY g w := by
  unfold f_X8_hoursBy_129 at hf
  refine am_b1 C0 am_YYk (pc := 129) (pc2 := 133) [(.aload_n 0, 0, 0, .null), (.iload_n 2, 0, 0, .null), (.iload 8, 0, 0, .null)] (L := [some (.ref 26), some (.int (p1)), some (.int (p2)), some (.int (p3)), some (.int (p4)), some (.int (p5)), some (.int (l6)), none, some (.int (l8)), none, none]) (st := []) (L' := [some (.ref 26), some (.int (p1)), some (.int (p2)), some (.int (p3)), some (.int (p4)), some (.int (p5)), some (.int (l6)), none, some (.int (l8)), none, none]) (st' := [.int (l8), .int (p2), .ref 26]) (g' := g) (w' := w) (cl := []) (by decide +kernel) rfl trivial ?_
  obtain ⟨q1, hq1, hf⟩ := Option.bind_eq_some_iff.mp hf
  refine am_callV (mi := mi_X8_sees) (rm := rm_X8_sees) [.int (p2), .int (l8)] C0.1 am_YYl cv_8_119 (M_X8_sees _ g w p2 l8 _ hq1) (ci := 8) rfl (by decide) rfl (by rw [hR]; rfl) rfl rfl (Nat.le_of_ble_eq_true rfl) (by decide +kernel) ?_
  refine am_if_eq C0 (off := 8) (tgt := 144) (by decide +kernel) (fun hc2 => ?_) (fun hc2 => ?_)
  · rw [if_pos hc2] at hf
    refine am_b1 C0 am_YYk (pc := 144) (pc2 := 146) [(.bipush (-9), 0, 0, .int (-9))] (L := [some (.ref 26), some (.int (p1)), some (.int (p2)), some (.int (p3)), some (.int (p4)), some (.int (p5)), some (.int (l6)), none, some (.int (l8)), none, none]) (st := []) (L' := [some (.ref 26), some (.int (p1)), some (.int (p2)), some (.int (p3)), some (.int (p4)), some (.int (p5)), some (.int (l6)), none, some (.int (l8)), none, none]) (st' := [.int ((-9 : Int32))]) (g' := g) (w' := w) (cl := []) (by decide +kernel) rfl trivial ?_
    cases hf
    exact am_iret C0 (by decide +kernel)
  · rw [if_neg hc2] at hf
    refine am_b1 C0 am_YYk (pc := 139) (pc2 := 141) [(.iload 6, 0, 0, .null)] (L := [some (.ref 26), some (.int (p1)), some (.int (p2)), some (.int (p3)), some (.int (p4)), some (.int (p5)), some (.int (l6)), none, some (.int (l8)), none, none]) (st := []) (L' := [some (.ref 26), some (.int (p1)), some (.int (p2)), some (.int (p3)), some (.int (p4)), some (.int (p5)), some (.int (l6)), none, some (.int (l8)), none, none]) (st' := [.int (l6)]) (g' := g) (w' := w) (cl := []) (by decide +kernel) rfl trivial ?_
    refine am_goto C0 (off := 5) (tgt := 146) (by decide +kernel) ?_
    cases hf
    exact am_iret C0 (by decide +kernel)
def f_X8_hoursBy_116 (F : Nat) (g : am_G) (p1 : Int32) (p2 : Int32) (p3 : Int32) (p4 : Int32) (p5 : Int32) (k18 : Int32 → Int32 → Int32 → Int32 → Option (Int32)) (k129 : Int32 → Int32 → Option (Int32)) (l7 : Int32) (l9 : Int32) (l10 : Int32) (s0 : Int32) (s1 : Int32) : Option (Int32) :=
  k18 (s0 + s1) (l7) (l10) (l9 + (1 : Int32))
set_option maxRecDepth 20000 in
theorem B_X8_hoursBy_116 (x : am_X) (C0 : am_Cm x 8 cX8_hoursBy 11 (some .int)) (hR : am_R x = rm_X8_hoursBy) (w : am_J) (F : Nat) (g : am_G) (p1 : Int32) (p2 : Int32) (p3 : Int32) (p4 : Int32) (p5 : Int32) (R : Int32) (k18 : Int32 → Int32 → Int32 → Int32 → Option (Int32)) (k129 : Int32 → Int32 → Option (Int32)) (hk18 : ∀ (l6 : Int32) (l7 : Int32) (l8 : Int32) (l9 : Int32), k18 l6 l7 l8 l9 = some R → am_Ev x 11 (0, 0) (am_Q x (0, 0) (some (.int R)) am_YY g w) 18 [some (.ref 26), some (.int (p1)), some (.int (p2)), some (.int (p3)), some (.int (p4)), some (.int (p5)), some (.int (l6)), some (.int (l7)), some (.int (l8)), some (.int (l9)), none] [] am_YY g w) (hk129 : ∀ (l6 : Int32) (l8 : Int32), k129 l6 l8 = some R → am_Ev x 11 (0, 0) (am_Q x (0, 0) (some (.int R)) am_YY g w) 129 [some (.ref 26), some (.int (p1)), some (.int (p2)), some (.int (p3)), some (.int (p4)), some (.int (p5)), some (.int (l6)), none, some (.int (l8)), none, none] [] am_YY g w) (l7 : Int32) (l9 : Int32) (l10 : Int32) (s0 : Int32) (s1 : Int32) (hf : f_X8_hoursBy_116 F g p1 p2 p3 p4 p5 k18 k129 l7 l9 l10 s0 s1 = some R) : am_Ev x 11 (0, 0) (am_Q x (0, 0) (some (.int R)) am_YY g w) 116 [some (.ref 26), some (.int (p1)), some (.int (p2)), some (.int (p3)), some (.int (p4)), some (.int (p5)), none, some (.int (l7)), none, some (.int (l9)), some (.int (l10))] [.int (s1), .int (s0)] am_YY g w := by
  unfold f_X8_hoursBy_116 at hf
  refine am_b1 C0 am_YYk (pc := 116) (pc2 := 126) [(.iadd, 0, 0, .null), (.istore 6, 0, 0, .null), (.iload 10, 0, 0, .null), (.istore 8, 0, 0, .null), (.iinc 9 1, 0, 0, .int 1)] (L := [some (.ref 26), some (.int (p1)), some (.int (p2)), some (.int (p3)), some (.int (p4)), some (.int (p5)), none, some (.int (l7)), none, some (.int (l9)), some (.int (l10))]) (st := [.int (s1), .int (s0)]) (L' := [some (.ref 26), some (.int (p1)), some (.int (p2)), some (.int (p3)), some (.int (p4)), some (.int (p5)), some (.int (s0 + s1)), some (.int (l7)), some (.int (l10)), some (.int (l9 + (1 : Int32))), some (.int (l10))]) (st' := []) (g' := g) (w' := w) (cl := []) (by decide +kernel) rfl trivial ?_
  refine am_goto C0 (off := (-108)) (tgt := 18) (by decide +kernel) ?_
  refine am_wk [some (.ref 26), some (.int (p1)), some (.int (p2)), some (.int (p3)), some (.int (p4)), some (.int (p5)), some (.int (s0 + s1)), some (.int (l7)), some (.int (l10)), some (.int (l9 + (1 : Int32))), none] ⟨rfl, rfl, rfl, rfl, rfl, rfl, rfl, rfl, rfl, rfl, trivial⟩ rfl ?_
  exact hk18 (s0 + s1) (l7) (l10) (l9 + (1 : Int32)) hf
def f_X8_hoursBy_18 (F : Nat) (g : am_G) (p1 : Int32) (p2 : Int32) (p3 : Int32) (p4 : Int32) (p5 : Int32) (k129 : Int32 → Int32 → Option (Int32)) : Nat → Int32 → Int32 → Int32 → Int32 → Option (Int32)
  | 0, _, _, _, _ => none
  | n + 1, l6, l7, l8, l9 =>
    if p4 ≤ l9 then
      k129 (l6) (l8)
    else
      (f_X8_between F p3 p4 l9).bind fun q3 =>
        (f_X8_isWindow g q3).bind fun q4 =>
          if q4 = 0 then
            some ((-9 : Int32))
          else
            (f_X8_has l7 q3).bind fun q5 =>
              if q5 = 0 then
                if am_in q3 6 then
                  if (g 31 (Int32.toNatClampNeg q3)) = (3 : Int32) then
                    some ((-9 : Int32))
                  else
                    (f_X8_has p5 q3).bind fun q7 =>
                      if q7 = 0 then
                        (f_X8_sees g q3 l8).bind fun q8 =>
                          if q8 = 0 then
                            some ((-9 : Int32))
                          else
                            if am_in q3 6 then
                              if (g 31 (Int32.toNatClampNeg q3)) = (1 : Int32) then
                                f_X8_hoursBy_116 F g p1 p2 p3 p4 p5 (fun l6 l7 l8 l9 => f_X8_hoursBy_18 F g p1 p2 p3 p4 p5 k129 n l6 l7 l8 l9) k129 (l7 ||| ((1 : Int32) <<< (q3 &&& 31))) (l9) (q3) (l6) ((0 : Int32))
                              else
                                f_X8_hoursBy_116 F g p1 p2 p3 p4 p5 (fun l6 l7 l8 l9 => f_X8_hoursBy_18 F g p1 p2 p3 p4 p5 k129 n l6 l7 l8 l9) k129 (l7 ||| ((1 : Int32) <<< (q3 &&& 31))) (l9) (q3) (l6) ((1 : Int32))
                            else none
                      else
                        some ((-9 : Int32))
                else none
              else
                some ((-9 : Int32))
set_option maxRecDepth 20000 in
theorem B_X8_hoursBy_18 (x : am_X) (C0 : am_Cm x 8 cX8_hoursBy 11 (some .int)) (hR : am_R x = rm_X8_hoursBy) (w : am_J) (F : Nat) (g : am_G) (p1 : Int32) (p2 : Int32) (p3 : Int32) (p4 : Int32) (p5 : Int32) (R : Int32) (k129 : Int32 → Int32 → Option (Int32)) (hk129 : ∀ (l6 : Int32) (l8 : Int32), k129 l6 l8 = some R → am_Ev x 11 (0, 0) (am_Q x (0, 0) (some (.int R)) am_YY g w) 129 [some (.ref 26), some (.int (p1)), some (.int (p2)), some (.int (p3)), some (.int (p4)), some (.int (p5)), some (.int (l6)), none, some (.int (l8)), none, none] [] am_YY g w) : ∀ (n : Nat) (l6 : Int32) (l7 : Int32) (l8 : Int32) (l9 : Int32), f_X8_hoursBy_18 F g p1 p2 p3 p4 p5 k129 n l6 l7 l8 l9 = some R → am_Ev x 11 (0, 0) (am_Q x (0, 0) (some (.int R)) am_YY g w) 18 [some (.ref 26), some (.int (p1)), some (.int (p2)), some (.int (p3)), some (.int (p4)), some (.int (p5)), some (.int (l6)), some (.int (l7)), some (.int (l8)), some (.int (l9)), none] [] am_YY g w := by
  intro n
  induction n with
  | zero => intro l6 l7 l8 l9 hf; cases hf
  | succ n ih =>
    intro l6 l7 l8 l9 hf
    rw [f_X8_hoursBy_18.eq_2] at hf
    refine am_b1 C0 am_YYk (pc := 18) (pc2 := 22) [(.iload 9, 0, 0, .null), (.iload 4, 0, 0, .null)] (L := [some (.ref 26), some (.int (p1)), some (.int (p2)), some (.int (p3)), some (.int (p4)), some (.int (p5)), some (.int (l6)), some (.int (l7)), some (.int (l8)), some (.int (l9)), none]) (st := []) (L' := [some (.ref 26), some (.int (p1)), some (.int (p2)), some (.int (p3)), some (.int (p4)), some (.int (p5)), some (.int (l6)), some (.int (l7)), some (.int (l8)), some (.int (l9)), none]) (st' := [.int (p4), .int (l9)]) (g' := g) (w' := w) (cl := []) (by decide +kernel) rfl trivial ?_
    refine am_icmp_ge C0 (off := 107) (tgt := 129) (by decide +kernel) (fun hc16 => ?_) (fun hc16 => ?_)
    · rw [if_pos hc16] at hf
      refine am_wk [some (.ref 26), some (.int (p1)), some (.int (p2)), some (.int (p3)), some (.int (p4)), some (.int (p5)), some (.int (l6)), none, some (.int (l8)), none, none] ⟨rfl, rfl, rfl, rfl, rfl, rfl, rfl, rfl, trivial⟩ rfl ?_
      exact hk129 (l6) (l8) hf
    · rw [if_neg hc16] at hf
      refine am_b1 C0 am_YYk (pc := 25) (pc2 := 30) [(.iload_n 3, 0, 0, .null), (.iload 4, 0, 0, .null), (.iload 9, 0, 0, .null)] (L := [some (.ref 26), some (.int (p1)), some (.int (p2)), some (.int (p3)), some (.int (p4)), some (.int (p5)), some (.int (l6)), some (.int (l7)), some (.int (l8)), some (.int (l9)), none]) (st := []) (L' := [some (.ref 26), some (.int (p1)), some (.int (p2)), some (.int (p3)), some (.int (p4)), some (.int (p5)), some (.int (l6)), some (.int (l7)), some (.int (l8)), some (.int (l9)), none]) (st' := [.int (l9), .int (p4), .int (p3)]) (g' := g) (w' := w) (cl := []) (by decide +kernel) rfl trivial ?_
      obtain ⟨q3, hq3, hf⟩ := Option.bind_eq_some_iff.mp hf
      refine am_callS (mi := mi_X8_between) (rm := rm_X8_between) [.int (p3), .int (p4), .int (l9)] C0.1 cv_8_152 (M_X8_between _ F g w p3 p4 l9 _ hq3) (by rw [hR]; rfl) rfl rfl (Nat.le_of_ble_eq_true rfl) (by decide +kernel) ?_
      refine am_b1 C0 am_YYk (pc := 33) (pc2 := 38) [(.istore 10, 0, 0, .null), (.aload_n 0, 0, 0, .null), (.iload 10, 0, 0, .null)] (L := [some (.ref 26), some (.int (p1)), some (.int (p2)), some (.int (p3)), some (.int (p4)), some (.int (p5)), some (.int (l6)), some (.int (l7)), some (.int (l8)), some (.int (l9)), none]) (st := [.int (q3)]) (L' := [some (.ref 26), some (.int (p1)), some (.int (p2)), some (.int (p3)), some (.int (p4)), some (.int (p5)), some (.int (l6)), some (.int (l7)), some (.int (l8)), some (.int (l9)), some (.int (q3))]) (st' := [.int (q3), .ref 26]) (g' := g) (w' := w) (cl := []) (by decide +kernel) rfl trivial ?_
      obtain ⟨q4, hq4, hf⟩ := Option.bind_eq_some_iff.mp hf
      refine am_callV (mi := mi_X8_isWindow) (rm := rm_X8_isWindow) [.int (q3)] C0.1 am_YYl cv_8_125 (M_X8_isWindow _ g w q3 _ hq4) (ci := 8) rfl (by decide) rfl (by rw [hR]; rfl) rfl rfl (Nat.le_of_ble_eq_true rfl) (by decide +kernel) ?_
      refine am_if_eq C0 (off := 45) (tgt := 86) (by decide +kernel) (fun hc15 => ?_) (fun hc15 => ?_)
      · rw [if_pos hc15] at hf
        refine am_b1 C0 am_YYk (pc := 86) (pc2 := 88) [(.bipush (-9), 0, 0, .int (-9))] (L := [some (.ref 26), some (.int (p1)), some (.int (p2)), some (.int (p3)), some (.int (p4)), some (.int (p5)), some (.int (l6)), some (.int (l7)), some (.int (l8)), some (.int (l9)), some (.int (q3))]) (st := []) (L' := [some (.ref 26), some (.int (p1)), some (.int (p2)), some (.int (p3)), some (.int (p4)), some (.int (p5)), some (.int (l6)), some (.int (l7)), some (.int (l8)), some (.int (l9)), some (.int (q3))]) (st' := [.int ((-9 : Int32))]) (g' := g) (w' := w) (cl := []) (by decide +kernel) rfl trivial ?_
        cases hf
        exact am_iret C0 (by decide +kernel)
      · rw [if_neg hc15] at hf
        refine am_b1 C0 am_YYk (pc := 44) (pc2 := 48) [(.iload 7, 0, 0, .null), (.iload 10, 0, 0, .null)] (L := [some (.ref 26), some (.int (p1)), some (.int (p2)), some (.int (p3)), some (.int (p4)), some (.int (p5)), some (.int (l6)), some (.int (l7)), some (.int (l8)), some (.int (l9)), some (.int (q3))]) (st := []) (L' := [some (.ref 26), some (.int (p1)), some (.int (p2)), some (.int (p3)), some (.int (p4)), some (.int (p5)), some (.int (l6)), some (.int (l7)), some (.int (l8)), some (.int (l9)), some (.int (q3))]) (st' := [.int (q3), .int (l7)]) (g' := g) (w' := w) (cl := []) (by decide +kernel) rfl trivial ?_
        obtain ⟨q5, hq5, hf⟩ := Option.bind_eq_some_iff.mp hf
        refine am_callS (mi := mi_X8_has) (rm := rm_X8_has) [.int (l7), .int (q3)] C0.1 cv_8_80 (M_X8_has _ g w l7 q3 _ hq5) (by rw [hR]; rfl) rfl rfl (Nat.le_of_ble_eq_true rfl) (by decide +kernel) ?_
        refine am_if_ne C0 (off := 35) (tgt := 86) (by decide +kernel) (fun hc14 => ?_) (fun hc14 => ?_)
        · rw [if_neg hc14] at hf
          refine am_b1 C0 am_YYk (pc := 86) (pc2 := 88) [(.bipush (-9), 0, 0, .int (-9))] (L := [some (.ref 26), some (.int (p1)), some (.int (p2)), some (.int (p3)), some (.int (p4)), some (.int (p5)), some (.int (l6)), some (.int (l7)), some (.int (l8)), some (.int (l9)), some (.int (q3))]) (st := []) (L' := [some (.ref 26), some (.int (p1)), some (.int (p2)), some (.int (p3)), some (.int (p4)), some (.int (p5)), some (.int (l6)), some (.int (l7)), some (.int (l8)), some (.int (l9)), some (.int (q3))]) (st' := [.int ((-9 : Int32))]) (g' := g) (w' := w) (cl := []) (by decide +kernel) rfl trivial ?_
          cases hf
          exact am_iret C0 (by decide +kernel)
        · rw [if_pos hc14] at hf
          obtain ⟨hg6, hf⟩ := am_g hf
          refine am_b1 C0 am_YYk (pc := 54) (pc2 := 62) [(.aload_n 0, 0, 0, .null), (.getfield 22, 8, 6, .null), (.iload 10, 0, 0, .null), (.iaload, 0, 0, .null), (.iconst 3, 0, 0, .int 3)] (L := [some (.ref 26), some (.int (p1)), some (.int (p2)), some (.int (p3)), some (.int (p4)), some (.int (p5)), some (.int (l6)), some (.int (l7)), some (.int (l8)), some (.int (l9)), some (.int (q3))]) (st := []) (L' := [some (.ref 26), some (.int (p1)), some (.int (p2)), some (.int (p3)), some (.int (p4)), some (.int (p5)), some (.int (l6)), some (.int (l7)), some (.int (l8)), some (.int (l9)), some (.int (q3))]) (st' := [.int ((3 : Int32)), .int (g 31 (Int32.toNatClampNeg q3))]) (g' := g) (w' := w) (cl := [am_in q3 6]) (by decide +kernel) rfl ⟨hg6, trivial⟩ ?_
          refine am_icmp_eq C0 (off := 24) (tgt := 86) (by decide +kernel) (fun hc13 => ?_) (fun hc13 => ?_)
          · rw [if_pos hc13] at hf
            refine am_b1 C0 am_YYk (pc := 86) (pc2 := 88) [(.bipush (-9), 0, 0, .int (-9))] (L := [some (.ref 26), some (.int (p1)), some (.int (p2)), some (.int (p3)), some (.int (p4)), some (.int (p5)), some (.int (l6)), some (.int (l7)), some (.int (l8)), some (.int (l9)), some (.int (q3))]) (st := []) (L' := [some (.ref 26), some (.int (p1)), some (.int (p2)), some (.int (p3)), some (.int (p4)), some (.int (p5)), some (.int (l6)), some (.int (l7)), some (.int (l8)), some (.int (l9)), some (.int (q3))]) (st' := [.int ((-9 : Int32))]) (g' := g) (w' := w) (cl := []) (by decide +kernel) rfl trivial ?_
            cases hf
            exact am_iret C0 (by decide +kernel)
          · rw [if_neg hc13] at hf
            refine am_b1 C0 am_YYk (pc := 65) (pc2 := 69) [(.iload 5, 0, 0, .null), (.iload 10, 0, 0, .null)] (L := [some (.ref 26), some (.int (p1)), some (.int (p2)), some (.int (p3)), some (.int (p4)), some (.int (p5)), some (.int (l6)), some (.int (l7)), some (.int (l8)), some (.int (l9)), some (.int (q3))]) (st := []) (L' := [some (.ref 26), some (.int (p1)), some (.int (p2)), some (.int (p3)), some (.int (p4)), some (.int (p5)), some (.int (l6)), some (.int (l7)), some (.int (l8)), some (.int (l9)), some (.int (q3))]) (st' := [.int (q3), .int (p5)]) (g' := g) (w' := w) (cl := []) (by decide +kernel) rfl trivial ?_
            obtain ⟨q7, hq7, hf⟩ := Option.bind_eq_some_iff.mp hf
            refine am_callS (mi := mi_X8_has) (rm := rm_X8_has) [.int (p5), .int (q3)] C0.1 cv_8_80 (M_X8_has _ g w p5 q3 _ hq7) (by rw [hR]; rfl) rfl rfl (Nat.le_of_ble_eq_true rfl) (by decide +kernel) ?_
            refine am_if_ne C0 (off := 14) (tgt := 86) (by decide +kernel) (fun hc12 => ?_) (fun hc12 => ?_)
            · rw [if_neg hc12] at hf
              refine am_b1 C0 am_YYk (pc := 86) (pc2 := 88) [(.bipush (-9), 0, 0, .int (-9))] (L := [some (.ref 26), some (.int (p1)), some (.int (p2)), some (.int (p3)), some (.int (p4)), some (.int (p5)), some (.int (l6)), some (.int (l7)), some (.int (l8)), some (.int (l9)), some (.int (q3))]) (st := []) (L' := [some (.ref 26), some (.int (p1)), some (.int (p2)), some (.int (p3)), some (.int (p4)), some (.int (p5)), some (.int (l6)), some (.int (l7)), some (.int (l8)), some (.int (l9)), some (.int (q3))]) (st' := [.int ((-9 : Int32))]) (g' := g) (w' := w) (cl := []) (by decide +kernel) rfl trivial ?_
              cases hf
              exact am_iret C0 (by decide +kernel)
            · rw [if_pos hc12] at hf
              refine am_b1 C0 am_YYk (pc := 75) (pc2 := 80) [(.aload_n 0, 0, 0, .null), (.iload 10, 0, 0, .null), (.iload 8, 0, 0, .null)] (L := [some (.ref 26), some (.int (p1)), some (.int (p2)), some (.int (p3)), some (.int (p4)), some (.int (p5)), some (.int (l6)), some (.int (l7)), some (.int (l8)), some (.int (l9)), some (.int (q3))]) (st := []) (L' := [some (.ref 26), some (.int (p1)), some (.int (p2)), some (.int (p3)), some (.int (p4)), some (.int (p5)), some (.int (l6)), some (.int (l7)), some (.int (l8)), some (.int (l9)), some (.int (q3))]) (st' := [.int (l8), .int (q3), .ref 26]) (g' := g) (w' := w) (cl := []) (by decide +kernel) rfl trivial ?_
              obtain ⟨q8, hq8, hf⟩ := Option.bind_eq_some_iff.mp hf
              refine am_callV (mi := mi_X8_sees) (rm := rm_X8_sees) [.int (q3), .int (l8)] C0.1 am_YYl cv_8_119 (M_X8_sees _ g w q3 l8 _ hq8) (ci := 8) rfl (by decide) rfl (by rw [hR]; rfl) rfl rfl (Nat.le_of_ble_eq_true rfl) (by decide +kernel) ?_
              refine am_if_ne C0 (off := 6) (tgt := 89) (by decide +kernel) (fun hc11 => ?_) (fun hc11 => ?_)
              · rw [if_neg hc11] at hf
                obtain ⟨hg9, hf⟩ := am_g hf
                refine am_b1 C0 am_YYk (pc := 89) (pc2 := 108) [(.iload 7, 0, 0, .null), (.iconst 1, 0, 0, .int 1), (.iload 10, 0, 0, .null), (.ishl, 0, 0, .null), (.ior, 0, 0, .null), (.istore 7, 0, 0, .null), (.iload 6, 0, 0, .null), (.aload_n 0, 0, 0, .null), (.getfield 22, 8, 6, .null), (.iload 10, 0, 0, .null), (.iaload, 0, 0, .null), (.iconst 1, 0, 0, .int 1)] (L := [some (.ref 26), some (.int (p1)), some (.int (p2)), some (.int (p3)), some (.int (p4)), some (.int (p5)), some (.int (l6)), some (.int (l7)), some (.int (l8)), some (.int (l9)), some (.int (q3))]) (st := []) (L' := [some (.ref 26), some (.int (p1)), some (.int (p2)), some (.int (p3)), some (.int (p4)), some (.int (p5)), some (.int (l6)), some (.int (l7 ||| ((1 : Int32) <<< (q3 &&& 31)))), some (.int (l8)), some (.int (l9)), some (.int (q3))]) (st' := [.int ((1 : Int32)), .int (g 31 (Int32.toNatClampNeg q3)), .int (l6)]) (g' := g) (w' := w) (cl := [am_in q3 6]) (by decide +kernel) rfl ⟨hg9, trivial⟩ ?_
                refine am_icmp_ne C0 (off := 7) (tgt := 115) (by decide +kernel) (fun hc10 => ?_) (fun hc10 => ?_)
                · rw [if_neg hc10] at hf
                  refine am_b1 C0 am_YYk (pc := 115) (pc2 := 116) [(.iconst 1, 0, 0, .int 1)] (L := [some (.ref 26), some (.int (p1)), some (.int (p2)), some (.int (p3)), some (.int (p4)), some (.int (p5)), some (.int (l6)), some (.int (l7 ||| ((1 : Int32) <<< (q3 &&& 31)))), some (.int (l8)), some (.int (l9)), some (.int (q3))]) (st := [.int (l6)]) (L' := [some (.ref 26), some (.int (p1)), some (.int (p2)), some (.int (p3)), some (.int (p4)), some (.int (p5)), some (.int (l6)), some (.int (l7 ||| ((1 : Int32) <<< (q3 &&& 31)))), some (.int (l8)), some (.int (l9)), some (.int (q3))]) (st' := [.int ((1 : Int32)), .int (l6)]) (g' := g) (w' := w) (cl := []) (by decide +kernel) rfl trivial ?_
                  refine am_wk [some (.ref 26), some (.int (p1)), some (.int (p2)), some (.int (p3)), some (.int (p4)), some (.int (p5)), none, some (.int (l7 ||| ((1 : Int32) <<< (q3 &&& 31)))), none, some (.int (l9)), some (.int (q3))] ⟨rfl, rfl, rfl, rfl, rfl, rfl, rfl, rfl, rfl, trivial⟩ rfl ?_
                  exact B_X8_hoursBy_116 x C0 hR w F g p1 p2 p3 p4 p5 R _ _ (fun l6 l7 l8 l9 hf => ih l6 l7 l8 l9 hf) hk129 (l7 ||| ((1 : Int32) <<< (q3 &&& 31))) (l9) (q3) (l6) ((1 : Int32)) hf
                · rw [if_pos hc10] at hf
                  refine am_b1 C0 am_YYk (pc := 111) (pc2 := 112) [(.iconst 0, 0, 0, .int 0)] (L := [some (.ref 26), some (.int (p1)), some (.int (p2)), some (.int (p3)), some (.int (p4)), some (.int (p5)), some (.int (l6)), some (.int (l7 ||| ((1 : Int32) <<< (q3 &&& 31)))), some (.int (l8)), some (.int (l9)), some (.int (q3))]) (st := [.int (l6)]) (L' := [some (.ref 26), some (.int (p1)), some (.int (p2)), some (.int (p3)), some (.int (p4)), some (.int (p5)), some (.int (l6)), some (.int (l7 ||| ((1 : Int32) <<< (q3 &&& 31)))), some (.int (l8)), some (.int (l9)), some (.int (q3))]) (st' := [.int ((0 : Int32)), .int (l6)]) (g' := g) (w' := w) (cl := []) (by decide +kernel) rfl trivial ?_
                  refine am_goto C0 (off := 4) (tgt := 116) (by decide +kernel) ?_
                  refine am_wk [some (.ref 26), some (.int (p1)), some (.int (p2)), some (.int (p3)), some (.int (p4)), some (.int (p5)), none, some (.int (l7 ||| ((1 : Int32) <<< (q3 &&& 31)))), none, some (.int (l9)), some (.int (q3))] ⟨rfl, rfl, rfl, rfl, rfl, rfl, rfl, rfl, rfl, trivial⟩ rfl ?_
                  exact B_X8_hoursBy_116 x C0 hR w F g p1 p2 p3 p4 p5 R _ _ (fun l6 l7 l8 l9 hf => ih l6 l7 l8 l9 hf) hk129 (l7 ||| ((1 : Int32) <<< (q3 &&& 31))) (l9) (q3) (l6) ((0 : Int32)) hf
              · rw [if_pos hc11] at hf
                refine am_b1 C0 am_YYk (pc := 86) (pc2 := 88) [(.bipush (-9), 0, 0, .int (-9))] (L := [some (.ref 26), some (.int (p1)), some (.int (p2)), some (.int (p3)), some (.int (p4)), some (.int (p5)), some (.int (l6)), some (.int (l7)), some (.int (l8)), some (.int (l9)), some (.int (q3))]) (st := []) (L' := [some (.ref 26), some (.int (p1)), some (.int (p2)), some (.int (p3)), some (.int (p4)), some (.int (p5)), some (.int (l6)), some (.int (l7)), some (.int (l8)), some (.int (l9)), some (.int (q3))]) (st' := [.int ((-9 : Int32))]) (g' := g) (w' := w) (cl := []) (by decide +kernel) rfl trivial ?_
                cases hf
                exact am_iret C0 (by decide +kernel)
def f_X8_hoursBy (F : Nat) (g : am_G) (p1 : Int32) (p2 : Int32) (p3 : Int32) (p4 : Int32) (p5 : Int32) : Option (Int32) :=
  f_X8_hoursBy_18 F g p1 p2 p3 p4 p5 (fun l6 l8 => f_X8_hoursBy_129 F g p1 p2 p3 p4 p5 (l6) (l8)) F ((0 : Int32)) (((1 : Int32) <<< (p1 &&& 31)) ||| ((1 : Int32) <<< (p2 &&& 31))) (p1) ((0 : Int32))
set_option maxRecDepth 20000 in
theorem M_X8_hoursBy (l : Launch) (F : Nat) (g : am_G) (w : am_J) (p1 : Int32) (p2 : Int32) (p3 : Int32) (p4 : Int32) (p5 : Int32) (R : Int32) (hf : f_X8_hoursBy F g p1 p2 p3 p4 p5 = some R) : am_Met l mi_X8_hoursBy rm_X8_hoursBy [.ref 26, .int p1, .int p2, .int p3, .int p4, .int p5] am_YY g w (some (.int R)) am_YY g w := by
  refine am_met (own := 8) [some (.ref 26), some (.int (p1)), some (.int (p2)), some (.int (p3)), some (.int (p4)), some (.int (p5)), none, none, none, none, none] (by decide) rfl rfl (by first | decide | exact Nat.le_of_ble_eq_true rfl) (fun x C0 hR hl hnm => ?_)
  unfold f_X8_hoursBy at hf
  refine am_b1 C0 am_YYk (pc := 0) (pc2 := 18) [(.iconst 0, 0, 0, .int 0), (.istore 6, 0, 0, .null), (.iconst 1, 0, 0, .int 1), (.iload_n 1, 0, 0, .null), (.ishl, 0, 0, .null), (.iconst 1, 0, 0, .int 1), (.iload_n 2, 0, 0, .null), (.ishl, 0, 0, .null), (.ior, 0, 0, .null), (.istore 7, 0, 0, .null), (.iload_n 1, 0, 0, .null), (.istore 8, 0, 0, .null), (.iconst 0, 0, 0, .int 0), (.istore 9, 0, 0, .null)] (L := [some (.ref 26), some (.int (p1)), some (.int (p2)), some (.int (p3)), some (.int (p4)), some (.int (p5)), none, none, none, none, none]) (st := []) (L' := [some (.ref 26), some (.int (p1)), some (.int (p2)), some (.int (p3)), some (.int (p4)), some (.int (p5)), some (.int ((0 : Int32))), some (.int (((1 : Int32) <<< (p1 &&& 31)) ||| ((1 : Int32) <<< (p2 &&& 31)))), some (.int (p1)), some (.int ((0 : Int32))), none]) (st' := []) (g' := g) (w' := w) (cl := []) (by decide +kernel) rfl trivial ?_
  refine B_X8_hoursBy_18 x C0 hR w F g p1 p2 p3 p4 p5 R _ ?_ F ((0 : Int32)) (((1 : Int32) <<< (p1 &&& 31)) ||| ((1 : Int32) <<< (p2 &&& 31))) (p1) ((0 : Int32)) hf
  · intro l6 l8 hf
    exact B_X8_hoursBy_129 x C0 hR w F g p1 p2 p3 p4 p5 R  (l6) (l8) hf
/-! ShutterTownModel.layWays(III)V at (26,) -/
def f_X8_layWays_90 (F : Nat) (p1 : Int32) (p2 : Int32) (p3 : Int32) (k9 : Int32 → am_G → Option (am_G)) (l4 : Int32) (g : am_G) : Option (am_G) :=
  k9 (l4 + (1 : Int32)) (g)
set_option maxRecDepth 20000 in
theorem B_X8_layWays_90 (x : am_X) (C0 : am_Cm x 8 cX8_layWays 7 none) (hR : am_R x = rm_X8_layWays) (w : am_J) (F : Nat) (p1 : Int32) (p2 : Int32) (p3 : Int32) (R : am_G) (k9 : Int32 → am_G → Option (am_G)) (hk9 : ∀ (l4 : Int32) (g : am_G), k9 l4 g = some R → am_Ev x 7 (0, 0) (am_Q x (0, 0) none am_YY R w) 9 [some (.ref 26), some (.int (p1)), some (.int (p2)), some (.int (p3)), some (.int (l4)), none, none] [] am_YY g w) (l4 : Int32) (g : am_G) (hf : f_X8_layWays_90 F p1 p2 p3 k9 l4 g = some R) : am_Ev x 7 (0, 0) (am_Q x (0, 0) none am_YY R w) 90 [some (.ref 26), some (.int (p1)), some (.int (p2)), some (.int (p3)), some (.int (l4)), none, none] [] am_YY g w := by
  unfold f_X8_layWays_90 at hf
  refine am_b1 C0 am_YYk (pc := 90) (pc2 := 93) [(.iinc 4 1, 0, 0, .int 1)] (L := [some (.ref 26), some (.int (p1)), some (.int (p2)), some (.int (p3)), some (.int (l4)), none, none]) (st := []) (L' := [some (.ref 26), some (.int (p1)), some (.int (p2)), some (.int (p3)), some (.int (l4 + (1 : Int32))), none, none]) (st' := []) (g' := g) (w' := w) (cl := []) (by decide +kernel) rfl trivial ?_
  refine am_goto C0 (off := (-84)) (tgt := 9) (by decide +kernel) ?_
  exact hk9 (l4 + (1 : Int32)) (g) hf
def f_X8_layWays_84 (F : Nat) (p1 : Int32) (p2 : Int32) (p3 : Int32) (k18 : Int32 → Int32 → am_G → Option (am_G)) (k90 : Int32 → am_G → Option (am_G)) (l4 : Int32) (l5 : Int32) (g : am_G) : Option (am_G) :=
  k18 (l4) (l5 + (1 : Int32)) (g)
set_option maxRecDepth 20000 in
theorem B_X8_layWays_84 (x : am_X) (C0 : am_Cm x 8 cX8_layWays 7 none) (hR : am_R x = rm_X8_layWays) (w : am_J) (F : Nat) (p1 : Int32) (p2 : Int32) (p3 : Int32) (R : am_G) (k18 : Int32 → Int32 → am_G → Option (am_G)) (k90 : Int32 → am_G → Option (am_G)) (hk18 : ∀ (l4 : Int32) (l5 : Int32) (g : am_G), k18 l4 l5 g = some R → am_Ev x 7 (0, 0) (am_Q x (0, 0) none am_YY R w) 18 [some (.ref 26), some (.int (p1)), some (.int (p2)), some (.int (p3)), some (.int (l4)), some (.int (l5)), none] [] am_YY g w) (hk90 : ∀ (l4 : Int32) (g : am_G), k90 l4 g = some R → am_Ev x 7 (0, 0) (am_Q x (0, 0) none am_YY R w) 90 [some (.ref 26), some (.int (p1)), some (.int (p2)), some (.int (p3)), some (.int (l4)), none, none] [] am_YY g w) (l4 : Int32) (l5 : Int32) (g : am_G) (hf : f_X8_layWays_84 F p1 p2 p3 k18 k90 l4 l5 g = some R) : am_Ev x 7 (0, 0) (am_Q x (0, 0) none am_YY R w) 84 [some (.ref 26), some (.int (p1)), some (.int (p2)), some (.int (p3)), some (.int (l4)), some (.int (l5)), none] [] am_YY g w := by
  unfold f_X8_layWays_84 at hf
  refine am_b1 C0 am_YYk (pc := 84) (pc2 := 87) [(.iinc 5 1, 0, 0, .int 1)] (L := [some (.ref 26), some (.int (p1)), some (.int (p2)), some (.int (p3)), some (.int (l4)), some (.int (l5)), none]) (st := []) (L' := [some (.ref 26), some (.int (p1)), some (.int (p2)), some (.int (p3)), some (.int (l4)), some (.int (l5 + (1 : Int32))), none]) (st' := []) (g' := g) (w' := w) (cl := []) (by decide +kernel) rfl trivial ?_
  refine am_goto C0 (off := (-69)) (tgt := 18) (by decide +kernel) ?_
  exact hk18 (l4) (l5 + (1 : Int32)) (g) hf
def f_X8_layWays_66 (F : Nat) (p1 : Int32) (p2 : Int32) (p3 : Int32) (k18 : Int32 → Int32 → am_G → Option (am_G)) (k90 : Int32 → am_G → Option (am_G)) (l4 : Int32) (l5 : Int32) (l6 : Int32) (g : am_G) : Option (am_G) :=
  f_X8_layWays_84 F p1 p2 p3 k18 k90 (l4) (l5) (am_u (am_u (am_u g 26 20 l6) 26 21 l5) 26 22 l4)
set_option maxRecDepth 20000 in
theorem B_X8_layWays_66 (x : am_X) (C0 : am_Cm x 8 cX8_layWays 7 none) (hR : am_R x = rm_X8_layWays) (w : am_J) (F : Nat) (p1 : Int32) (p2 : Int32) (p3 : Int32) (R : am_G) (k18 : Int32 → Int32 → am_G → Option (am_G)) (k90 : Int32 → am_G → Option (am_G)) (hk18 : ∀ (l4 : Int32) (l5 : Int32) (g : am_G), k18 l4 l5 g = some R → am_Ev x 7 (0, 0) (am_Q x (0, 0) none am_YY R w) 18 [some (.ref 26), some (.int (p1)), some (.int (p2)), some (.int (p3)), some (.int (l4)), some (.int (l5)), none] [] am_YY g w) (hk90 : ∀ (l4 : Int32) (g : am_G), k90 l4 g = some R → am_Ev x 7 (0, 0) (am_Q x (0, 0) none am_YY R w) 90 [some (.ref 26), some (.int (p1)), some (.int (p2)), some (.int (p3)), some (.int (l4)), none, none] [] am_YY g w) (l4 : Int32) (l5 : Int32) (l6 : Int32) (g : am_G) (hf : f_X8_layWays_66 F p1 p2 p3 k18 k90 l4 l5 l6 g = some R) : am_Ev x 7 (0, 0) (am_Q x (0, 0) none am_YY R w) 66 [some (.ref 26), some (.int (p1)), some (.int (p2)), some (.int (p3)), some (.int (l4)), some (.int (l5)), some (.int (l6))] [] am_YY g w := by
  unfold f_X8_layWays_66 at hf
  refine am_b1 C0 am_YYk (pc := 66) (pc2 := 84) [(.aload_n 0, 0, 0, .null), (.iload 6, 0, 0, .null), (.putfield 156, 8, 20, .null), (.aload_n 0, 0, 0, .null), (.iload 5, 0, 0, .null), (.putfield 163, 8, 21, .null), (.aload_n 0, 0, 0, .null), (.iload 4, 0, 0, .null), (.putfield 166, 8, 22, .null)] (L := [some (.ref 26), some (.int (p1)), some (.int (p2)), some (.int (p3)), some (.int (l4)), some (.int (l5)), some (.int (l6))]) (st := []) (L' := [some (.ref 26), some (.int (p1)), some (.int (p2)), some (.int (p3)), some (.int (l4)), some (.int (l5)), some (.int (l6))]) (st' := []) (g' := am_u (am_u (am_u g 26 20 l6) 26 21 l5) 26 22 l4) (w' := w) (cl := []) (by decide +kernel) rfl trivial ?_
  refine am_wk [some (.ref 26), some (.int (p1)), some (.int (p2)), some (.int (p3)), some (.int (l4)), some (.int (l5)), none] ⟨rfl, rfl, rfl, rfl, rfl, rfl, trivial⟩ rfl ?_
  exact B_X8_layWays_84 x C0 hR w F p1 p2 p3 R _ _ hk18 hk90 (l4) (l5) (am_u (am_u (am_u g 26 20 l6) 26 21 l5) 26 22 l4) hf
def f_X8_layWays_18 (F : Nat) (p1 : Int32) (p2 : Int32) (p3 : Int32) (k90 : Int32 → am_G → Option (am_G)) : Nat → Int32 → Int32 → am_G → Option (am_G)
  | 0, _, _, _ => none
  | n + 1, l4, l5, g =>
    (f_X8_sixes F l4).bind fun q1 =>
      if q1 ≤ l5 then
        k90 (l4) (g)
      else
        (f_X8_hoursBy F g p1 p2 l5 l4 p3).bind fun q2 =>
          if q2 = (-9 : Int32) then
            f_X8_layWays_84 F p1 p2 p3 (fun l4 l5 g => f_X8_layWays_18 F p1 p2 p3 k90 n l4 l5 g) k90 (l4) (l5) (g)
          else
            if (g 26 20) = (-9 : Int32) then
              f_X8_layWays_66 F p1 p2 p3 (fun l4 l5 g => f_X8_layWays_18 F p1 p2 p3 k90 n l4 l5 g) k90 (l4) (l5) (q2) (g)
            else
              if (g 26 20) ≤ q2 then
                f_X8_layWays_84 F p1 p2 p3 (fun l4 l5 g => f_X8_layWays_18 F p1 p2 p3 k90 n l4 l5 g) k90 (l4) (l5) (g)
              else
                f_X8_layWays_66 F p1 p2 p3 (fun l4 l5 g => f_X8_layWays_18 F p1 p2 p3 k90 n l4 l5 g) k90 (l4) (l5) (q2) (g)
set_option maxRecDepth 20000 in
theorem B_X8_layWays_18 (x : am_X) (C0 : am_Cm x 8 cX8_layWays 7 none) (hR : am_R x = rm_X8_layWays) (w : am_J) (F : Nat) (p1 : Int32) (p2 : Int32) (p3 : Int32) (R : am_G) (k90 : Int32 → am_G → Option (am_G)) (hk90 : ∀ (l4 : Int32) (g : am_G), k90 l4 g = some R → am_Ev x 7 (0, 0) (am_Q x (0, 0) none am_YY R w) 90 [some (.ref 26), some (.int (p1)), some (.int (p2)), some (.int (p3)), some (.int (l4)), none, none] [] am_YY g w) : ∀ (n : Nat) (l4 : Int32) (l5 : Int32) (g : am_G), f_X8_layWays_18 F p1 p2 p3 k90 n l4 l5 g = some R → am_Ev x 7 (0, 0) (am_Q x (0, 0) none am_YY R w) 18 [some (.ref 26), some (.int (p1)), some (.int (p2)), some (.int (p3)), some (.int (l4)), some (.int (l5)), none] [] am_YY g w := by
  intro n
  induction n with
  | zero => intro l4 l5 g hf; cases hf
  | succ n ih =>
    intro l4 l5 g hf
    rw [f_X8_layWays_18.eq_2] at hf
    refine am_b1 C0 am_YYk (pc := 18) (pc2 := 22) [(.iload 5, 0, 0, .null), (.iload 4, 0, 0, .null)] (L := [some (.ref 26), some (.int (p1)), some (.int (p2)), some (.int (p3)), some (.int (l4)), some (.int (l5)), none]) (st := []) (L' := [some (.ref 26), some (.int (p1)), some (.int (p2)), some (.int (p3)), some (.int (l4)), some (.int (l5)), none]) (st' := [.int (l4), .int (l5)]) (g' := g) (w' := w) (cl := []) (by decide +kernel) rfl trivial ?_
    obtain ⟨q1, hq1, hf⟩ := Option.bind_eq_some_iff.mp hf
    refine am_callS (mi := mi_X8_sixes) (rm := rm_X8_sixes) [.int (l4)] C0.1 cv_8_149 (M_X8_sixes _ F g w l4 _ hq1) (by rw [hR]; rfl) rfl rfl (Nat.le_of_ble_eq_true rfl) (by decide +kernel) ?_
    refine am_icmp_ge C0 (off := 65) (tgt := 90) (by decide +kernel) (fun hc6 => ?_) (fun hc6 => ?_)
    · rw [if_pos hc6] at hf
      refine am_wk [some (.ref 26), some (.int (p1)), some (.int (p2)), some (.int (p3)), some (.int (l4)), none, none] ⟨rfl, rfl, rfl, rfl, rfl, trivial⟩ rfl ?_
      exact hk90 (l4) (g) hf
    · rw [if_neg hc6] at hf
      refine am_b1 C0 am_YYk (pc := 28) (pc2 := 36) [(.aload_n 0, 0, 0, .null), (.iload_n 1, 0, 0, .null), (.iload_n 2, 0, 0, .null), (.iload 5, 0, 0, .null), (.iload 4, 0, 0, .null), (.iload_n 3, 0, 0, .null)] (L := [some (.ref 26), some (.int (p1)), some (.int (p2)), some (.int (p3)), some (.int (l4)), some (.int (l5)), none]) (st := []) (L' := [some (.ref 26), some (.int (p1)), some (.int (p2)), some (.int (p3)), some (.int (l4)), some (.int (l5)), none]) (st' := [.int (p3), .int (l4), .int (l5), .int (p2), .int (p1), .ref 26]) (g' := g) (w' := w) (cl := []) (by decide +kernel) rfl trivial ?_
      obtain ⟨q2, hq2, hf⟩ := Option.bind_eq_some_iff.mp hf
      refine am_callV (mi := mi_X8_hoursBy) (rm := rm_X8_hoursBy) [.int (p1), .int (p2), .int (l5), .int (l4), .int (p3)] C0.1 am_YYl cv_8_159 (M_X8_hoursBy _ F g w p1 p2 l5 l4 p3 _ hq2) (ci := 8) rfl (by decide) rfl (by rw [hR]; rfl) rfl rfl (Nat.le_of_ble_eq_true rfl) (by decide +kernel) ?_
      refine am_b1 C0 am_YYk (pc := 39) (pc2 := 45) [(.istore 6, 0, 0, .null), (.iload 6, 0, 0, .null), (.bipush (-9), 0, 0, .int (-9))] (L := [some (.ref 26), some (.int (p1)), some (.int (p2)), some (.int (p3)), some (.int (l4)), some (.int (l5)), none]) (st := [.int (q2)]) (L' := [some (.ref 26), some (.int (p1)), some (.int (p2)), some (.int (p3)), some (.int (l4)), some (.int (l5)), some (.int (q2))]) (st' := [.int ((-9 : Int32)), .int (q2)]) (g' := g) (w' := w) (cl := []) (by decide +kernel) rfl trivial ?_
      refine am_icmp_eq C0 (off := 39) (tgt := 84) (by decide +kernel) (fun hc5 => ?_) (fun hc5 => ?_)
      · rw [if_pos hc5] at hf
        refine am_wk [some (.ref 26), some (.int (p1)), some (.int (p2)), some (.int (p3)), some (.int (l4)), some (.int (l5)), none] ⟨rfl, rfl, rfl, rfl, rfl, rfl, trivial⟩ rfl ?_
        exact B_X8_layWays_84 x C0 hR w F p1 p2 p3 R _ _ (fun l4 l5 g hf => ih l4 l5 g hf) hk90 (l4) (l5) (g) hf
      · rw [if_neg hc5] at hf
        refine am_b1 C0 am_YYk (pc := 48) (pc2 := 54) [(.aload_n 0, 0, 0, .null), (.getfield 156, 8, 20, .null), (.bipush (-9), 0, 0, .int (-9))] (L := [some (.ref 26), some (.int (p1)), some (.int (p2)), some (.int (p3)), some (.int (l4)), some (.int (l5)), some (.int (q2))]) (st := []) (L' := [some (.ref 26), some (.int (p1)), some (.int (p2)), some (.int (p3)), some (.int (l4)), some (.int (l5)), some (.int (q2))]) (st' := [.int ((-9 : Int32)), .int (g 26 20)]) (g' := g) (w' := w) (cl := []) (by decide +kernel) rfl trivial ?_
        refine am_icmp_eq C0 (off := 12) (tgt := 66) (by decide +kernel) (fun hc4 => ?_) (fun hc4 => ?_)
        · rw [if_pos hc4] at hf
          exact B_X8_layWays_66 x C0 hR w F p1 p2 p3 R _ _ (fun l4 l5 g hf => ih l4 l5 g hf) hk90 (l4) (l5) (q2) (g) hf
        · rw [if_neg hc4] at hf
          refine am_b1 C0 am_YYk (pc := 57) (pc2 := 63) [(.iload 6, 0, 0, .null), (.aload_n 0, 0, 0, .null), (.getfield 156, 8, 20, .null)] (L := [some (.ref 26), some (.int (p1)), some (.int (p2)), some (.int (p3)), some (.int (l4)), some (.int (l5)), some (.int (q2))]) (st := []) (L' := [some (.ref 26), some (.int (p1)), some (.int (p2)), some (.int (p3)), some (.int (l4)), some (.int (l5)), some (.int (q2))]) (st' := [.int (g 26 20), .int (q2)]) (g' := g) (w' := w) (cl := []) (by decide +kernel) rfl trivial ?_
          refine am_icmp_ge C0 (off := 21) (tgt := 84) (by decide +kernel) (fun hc3 => ?_) (fun hc3 => ?_)
          · rw [if_pos hc3] at hf
            refine am_wk [some (.ref 26), some (.int (p1)), some (.int (p2)), some (.int (p3)), some (.int (l4)), some (.int (l5)), none] ⟨rfl, rfl, rfl, rfl, rfl, rfl, trivial⟩ rfl ?_
            exact B_X8_layWays_84 x C0 hR w F p1 p2 p3 R _ _ (fun l4 l5 g hf => ih l4 l5 g hf) hk90 (l4) (l5) (g) hf
          · rw [if_neg hc3] at hf
            exact B_X8_layWays_66 x C0 hR w F p1 p2 p3 R _ _ (fun l4 l5 g hf => ih l4 l5 g hf) hk90 (l4) (l5) (q2) (g) hf
def f_X8_layWays_9 (F : Nat) (p1 : Int32) (p2 : Int32) (p3 : Int32)  : Nat → Int32 → am_G → Option (am_G)
  | 0, _, _ => none
  | n + 1, l4, g =>
    if (5 : Int32) ≤ l4 then
      some (g)
    else
      f_X8_layWays_18 F p1 p2 p3 (fun l4 g => f_X8_layWays_90 F p1 p2 p3 (fun l4 g => f_X8_layWays_9 F p1 p2 p3 n l4 g) (l4) (g)) F (l4) ((0 : Int32)) (g)
set_option maxRecDepth 20000 in
theorem B_X8_layWays_9 (x : am_X) (C0 : am_Cm x 8 cX8_layWays 7 none) (hR : am_R x = rm_X8_layWays) (w : am_J) (F : Nat) (p1 : Int32) (p2 : Int32) (p3 : Int32) (R : am_G)   : ∀ (n : Nat) (l4 : Int32) (g : am_G), f_X8_layWays_9 F p1 p2 p3 n l4 g = some R → am_Ev x 7 (0, 0) (am_Q x (0, 0) none am_YY R w) 9 [some (.ref 26), some (.int (p1)), some (.int (p2)), some (.int (p3)), some (.int (l4)), none, none] [] am_YY g w := by
  intro n
  induction n with
  | zero => intro l4 g hf; cases hf
  | succ n ih =>
    intro l4 g hf
    rw [f_X8_layWays_9.eq_2] at hf
    refine am_b1 C0 am_YYk (pc := 9) (pc2 := 12) [(.iload 4, 0, 0, .null), (.iconst 5, 0, 0, .int 5)] (L := [some (.ref 26), some (.int (p1)), some (.int (p2)), some (.int (p3)), some (.int (l4)), none, none]) (st := []) (L' := [some (.ref 26), some (.int (p1)), some (.int (p2)), some (.int (p3)), some (.int (l4)), none, none]) (st' := [.int ((5 : Int32)), .int (l4)]) (g' := g) (w' := w) (cl := []) (by decide +kernel) rfl trivial ?_
    refine am_icmp_ge C0 (off := 84) (tgt := 96) (by decide +kernel) (fun hc7 => ?_) (fun hc7 => ?_)
    · rw [if_pos hc7] at hf
      cases hf
      exact am_vret C0 (by decide +kernel)
    · rw [if_neg hc7] at hf
      refine am_b1 C0 am_YYk (pc := 15) (pc2 := 18) [(.iconst 0, 0, 0, .int 0), (.istore 5, 0, 0, .null)] (L := [some (.ref 26), some (.int (p1)), some (.int (p2)), some (.int (p3)), some (.int (l4)), none, none]) (st := []) (L' := [some (.ref 26), some (.int (p1)), some (.int (p2)), some (.int (p3)), some (.int (l4)), some (.int ((0 : Int32))), none]) (st' := []) (g' := g) (w' := w) (cl := []) (by decide +kernel) rfl trivial ?_
      refine B_X8_layWays_18 x C0 hR w F p1 p2 p3 R _ ?_ F (l4) ((0 : Int32)) (g) hf
      · intro l4 g hf
        exact B_X8_layWays_90 x C0 hR w F p1 p2 p3 R _ (fun l4 g hf => ih l4 g hf) (l4) (g) hf
def f_X8_layWays (F : Nat) (g : am_G) (p1 : Int32) (p2 : Int32) (p3 : Int32) : Option (am_G) :=
  f_X8_layWays_9 F p1 p2 p3 F ((0 : Int32)) (am_u g 26 20 (-9 : Int32))
set_option maxRecDepth 20000 in
theorem M_X8_layWays (l : Launch) (F : Nat) (g : am_G) (w : am_J) (p1 : Int32) (p2 : Int32) (p3 : Int32) (R : am_G) (hf : f_X8_layWays F g p1 p2 p3 = some R) : am_Met l mi_X8_layWays rm_X8_layWays [.ref 26, .int p1, .int p2, .int p3] am_YY g w none am_YY R w := by
  refine am_met (own := 8) [some (.ref 26), some (.int (p1)), some (.int (p2)), some (.int (p3)), none, none, none] (by decide) rfl rfl (by first | decide | exact Nat.le_of_ble_eq_true rfl) (fun x C0 hR hl hnm => ?_)
  unfold f_X8_layWays at hf
  refine am_b1 C0 am_YYk (pc := 0) (pc2 := 9) [(.aload_n 0, 0, 0, .null), (.bipush (-9), 0, 0, .int (-9)), (.putfield 156, 8, 20, .null), (.iconst 0, 0, 0, .int 0), (.istore 4, 0, 0, .null)] (L := [some (.ref 26), some (.int (p1)), some (.int (p2)), some (.int (p3)), none, none, none]) (st := []) (L' := [some (.ref 26), some (.int (p1)), some (.int (p2)), some (.int (p3)), some (.int ((0 : Int32))), none, none]) (st' := []) (g' := am_u g 26 20 (-9 : Int32)) (w' := w) (cl := []) (by decide +kernel) rfl trivial ?_
  refine B_X8_layWays_9 x C0 hR w F p1 p2 p3 R   F ((0 : Int32)) (am_u g 26 20 (-9 : Int32)) hf
