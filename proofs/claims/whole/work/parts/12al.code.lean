/-! ShutterTownModel.soonest(IIZ)I at (26,) -/
def f_X8_soonest_97 (F : Nat) (p1 : Int32) (p2 : Int32) (p3 : Int32)  (l4 : Int32) (g : am_G) : Option (Int32 × am_G) :=
  some ((((10 : Int32) * l4) + p2) + (1 : Int32), g)
set_option maxRecDepth 20000 in
theorem B_X8_soonest_97 (x : am_X) (C0 : am_Cm x 8 cX8_soonest 6 (some .int)) (hR : am_R x = rm_X8_soonest) (w : am_J) (F : Nat) (p1 : Int32) (p2 : Int32) (p3 : Int32) (R : Int32 × am_G)   (l4 : Int32) (g : am_G) (hf : f_X8_soonest_97 F p1 p2 p3 l4 g = some R) : am_Ev x 6 (0, 0) (am_Q x (0, 0) (some (.int R.1)) am_YY (R.2) w) 97 [none, some (.int (p1)), some (.int (p2)), some (.int (p3)), some (.int (l4)), none] [] am_YY g w := by
  unfold f_X8_soonest_97 at hf
  refine am_b1 C0 am_YYk (pc := 97) (pc2 := 106) [(.bipush 10, 0, 0, .int 10), (.iload 4, 0, 0, .null), (.imul, 0, 0, .null), (.iload_n 2, 0, 0, .null), (.iadd, 0, 0, .null), (.iconst 1, 0, 0, .int 1), (.iadd, 0, 0, .null)] (L := [none, some (.int (p1)), some (.int (p2)), some (.int (p3)), some (.int (l4)), none]) (st := []) (L' := [none, some (.int (p1)), some (.int (p2)), some (.int (p3)), some (.int (l4)), none]) (st' := [.int ((((10 : Int32) * l4) + p2) + (1 : Int32))]) (g' := g) (w' := w) (cl := []) (by decide +kernel) rfl trivial ?_
  cases hf
  exact am_iret C0 (by decide +kernel)
def f_X8_soonest_59 (F : Nat) (p1 : Int32) (p2 : Int32) (p3 : Int32) (k97 : Int32 → am_G → Option (Int32 × am_G)) : Nat → Int32 → Int32 → am_G → Option (Int32 × am_G)
  | 0, _, _, _ => none
  | n + 1, l4, l5, g =>
    if (g 26 22) ≤ l5 then
      k97 (l4) (g)
    else
      (f_X8_between F (g 26 21) (g 26 22) l5).bind fun q1 =>
        f_X8_soonest_59 F p1 p2 p3 k97 n ((((10 : Int32) * l4) + q1) + (1 : Int32)) (l5 + (1 : Int32)) (g)
set_option maxRecDepth 20000 in
theorem B_X8_soonest_59 (x : am_X) (C0 : am_Cm x 8 cX8_soonest 6 (some .int)) (hR : am_R x = rm_X8_soonest) (w : am_J) (F : Nat) (p1 : Int32) (p2 : Int32) (p3 : Int32) (R : Int32 × am_G) (k97 : Int32 → am_G → Option (Int32 × am_G)) (hk97 : ∀ (l4 : Int32) (g : am_G), k97 l4 g = some R → am_Ev x 6 (0, 0) (am_Q x (0, 0) (some (.int R.1)) am_YY (R.2) w) 97 [none, some (.int (p1)), some (.int (p2)), some (.int (p3)), some (.int (l4)), none] [] am_YY g w) : ∀ (n : Nat) (l4 : Int32) (l5 : Int32) (g : am_G), f_X8_soonest_59 F p1 p2 p3 k97 n l4 l5 g = some R → am_Ev x 6 (0, 0) (am_Q x (0, 0) (some (.int R.1)) am_YY (R.2) w) 59 [some (.ref 26), some (.int (p1)), some (.int (p2)), some (.int (p3)), some (.int (l4)), some (.int (l5))] [] am_YY g w := by
  intro n
  induction n with
  | zero => intro l4 l5 g hf; cases hf
  | succ n ih =>
    intro l4 l5 g hf
    rw [f_X8_soonest_59.eq_2] at hf
    refine am_b1 C0 am_YYk (pc := 59) (pc2 := 65) [(.iload 5, 0, 0, .null), (.aload_n 0, 0, 0, .null), (.getfield 166, 8, 22, .null)] (L := [some (.ref 26), some (.int (p1)), some (.int (p2)), some (.int (p3)), some (.int (l4)), some (.int (l5))]) (st := []) (L' := [some (.ref 26), some (.int (p1)), some (.int (p2)), some (.int (p3)), some (.int (l4)), some (.int (l5))]) (st' := [.int (g 26 22), .int (l5)]) (g' := g) (w' := w) (cl := []) (by decide +kernel) rfl trivial ?_
    refine am_icmp_ge C0 (off := 32) (tgt := 97) (by decide +kernel) (fun hc2 => ?_) (fun hc2 => ?_)
    · rw [if_pos hc2] at hf
      refine am_wk [none, some (.int (p1)), some (.int (p2)), some (.int (p3)), some (.int (l4)), none] ⟨rfl, rfl, rfl, rfl, trivial⟩ rfl ?_
      exact hk97 (l4) (g) hf
    · rw [if_neg hc2] at hf
      refine am_b1 C0 am_YYk (pc := 68) (pc2 := 83) [(.bipush 10, 0, 0, .int 10), (.iload 4, 0, 0, .null), (.imul, 0, 0, .null), (.aload_n 0, 0, 0, .null), (.getfield 163, 8, 21, .null), (.aload_n 0, 0, 0, .null), (.getfield 166, 8, 22, .null), (.iload 5, 0, 0, .null)] (L := [some (.ref 26), some (.int (p1)), some (.int (p2)), some (.int (p3)), some (.int (l4)), some (.int (l5))]) (st := []) (L' := [some (.ref 26), some (.int (p1)), some (.int (p2)), some (.int (p3)), some (.int (l4)), some (.int (l5))]) (st' := [.int (l5), .int (g 26 22), .int (g 26 21), .int ((10 : Int32) * l4)]) (g' := g) (w' := w) (cl := []) (by decide +kernel) rfl trivial ?_
      obtain ⟨q1, hq1, hf⟩ := Option.bind_eq_some_iff.mp hf
      refine am_callS (mi := mi_X8_between) (rm := rm_X8_between) [.int (g 26 21), .int (g 26 22), .int (l5)] C0.1 cv_8_152 (M_X8_between _ F g w (g 26 21) (g 26 22) l5 _ hq1) (by rw [hR]; rfl) rfl rfl (Nat.le_of_ble_eq_true rfl) (by decide +kernel) ?_
      refine am_b1 C0 am_YYk (pc := 86) (pc2 := 94) [(.iadd, 0, 0, .null), (.iconst 1, 0, 0, .int 1), (.iadd, 0, 0, .null), (.istore 4, 0, 0, .null), (.iinc 5 1, 0, 0, .int 1)] (L := [some (.ref 26), some (.int (p1)), some (.int (p2)), some (.int (p3)), some (.int (l4)), some (.int (l5))]) (st := [.int (q1), .int ((10 : Int32) * l4)]) (L' := [some (.ref 26), some (.int (p1)), some (.int (p2)), some (.int (p3)), some (.int ((((10 : Int32) * l4) + q1) + (1 : Int32))), some (.int (l5 + (1 : Int32)))]) (st' := []) (g' := g) (w' := w) (cl := []) (by decide +kernel) rfl trivial ?_
      refine am_goto C0 (off := (-35)) (tgt := 59) (by decide +kernel) ?_
      exact ih ((((10 : Int32) * l4) + q1) + (1 : Int32)) (l5 + (1 : Int32)) (g) hf
def f_X8_soonest (F : Nat) (g : am_G) (p1 : Int32) (p2 : Int32) (p3 : Int32) : Option (Int32 × am_G) :=
  (f_X8_isWindow g p1).bind fun q3 =>
    if q3 = 0 then
      some ((-1 : Int32), g)
    else
      (f_X8_isWindow g p2).bind fun q4 =>
        if q4 = 0 then
          some ((-1 : Int32), g)
        else
          if p1 = p2 then
            some ((-2 : Int32), g)
          else
            (f_X8_layWays F g p1 p2 (0 : Int32)).bind fun q5 =>
              if p3 = 0 then
                some (q5 26 20, q5)
              else
                if (q5 26 20) = (-9 : Int32) then
                  some (q5 26 20, q5)
                else
                  f_X8_soonest_59 F p1 p2 p3 (fun l4 g => f_X8_soonest_97 F p1 p2 p3 (l4) (g)) F (p1 + (1 : Int32)) ((0 : Int32)) (q5)
set_option maxRecDepth 20000 in
theorem M_X8_soonest (l : Launch) (F : Nat) (g : am_G) (w : am_J) (p1 : Int32) (p2 : Int32) (p3 : Int32) (R : Int32 × am_G) (hf : f_X8_soonest F g p1 p2 p3 = some R) : am_Met l mi_X8_soonest rm_X8_soonest [.ref 26, .int p1, .int p2, .int p3] am_YY g w (some (.int R.1)) am_YY (R.2) w := by
  refine am_met (own := 8) [some (.ref 26), some (.int (p1)), some (.int (p2)), some (.int (p3)), none, none] (by decide) rfl rfl (by first | decide | exact Nat.le_of_ble_eq_true rfl) (fun x C0 hR hl hnm => ?_)
  unfold f_X8_soonest at hf
  refine am_b1 C0 am_YYk (pc := 0) (pc2 := 2) [(.aload_n 0, 0, 0, .null), (.iload_n 1, 0, 0, .null)] (L := [some (.ref 26), some (.int (p1)), some (.int (p2)), some (.int (p3)), none, none]) (st := []) (L' := [some (.ref 26), some (.int (p1)), some (.int (p2)), some (.int (p3)), none, none]) (st' := [.int (p1), .ref 26]) (g' := g) (w' := w) (cl := []) (by decide +kernel) rfl trivial ?_
  obtain ⟨q3, hq3, hf⟩ := Option.bind_eq_some_iff.mp hf
  refine am_callV (mi := mi_X8_isWindow) (rm := rm_X8_isWindow) [.int (p1)] C0.1 am_YYl cv_8_125 (M_X8_isWindow _ g w p1 _ hq3) (ci := 8) rfl (by decide) rfl (by rw [hR]; rfl) rfl rfl (Nat.le_of_ble_eq_true rfl) (by decide +kernel) ?_
  refine am_if_eq C0 (off := 11) (tgt := 16) (by decide +kernel) (fun hc10 => ?_) (fun hc10 => ?_)
  · rw [if_pos hc10] at hf
    refine am_b1 C0 am_YYk (pc := 16) (pc2 := 17) [(.iconst (-1), 0, 0, .int (-1))] (L := [some (.ref 26), some (.int (p1)), some (.int (p2)), some (.int (p3)), none, none]) (st := []) (L' := [some (.ref 26), some (.int (p1)), some (.int (p2)), some (.int (p3)), none, none]) (st' := [.int ((-1 : Int32))]) (g' := g) (w' := w) (cl := []) (by decide +kernel) rfl trivial ?_
    cases hf
    exact am_iret C0 (by decide +kernel)
  · rw [if_neg hc10] at hf
    refine am_b1 C0 am_YYk (pc := 8) (pc2 := 10) [(.aload_n 0, 0, 0, .null), (.iload_n 2, 0, 0, .null)] (L := [some (.ref 26), some (.int (p1)), some (.int (p2)), some (.int (p3)), none, none]) (st := []) (L' := [some (.ref 26), some (.int (p1)), some (.int (p2)), some (.int (p3)), none, none]) (st' := [.int (p2), .ref 26]) (g' := g) (w' := w) (cl := []) (by decide +kernel) rfl trivial ?_
    obtain ⟨q4, hq4, hf⟩ := Option.bind_eq_some_iff.mp hf
    refine am_callV (mi := mi_X8_isWindow) (rm := rm_X8_isWindow) [.int (p2)] C0.1 am_YYl cv_8_125 (M_X8_isWindow _ g w p2 _ hq4) (ci := 8) rfl (by decide) rfl (by rw [hR]; rfl) rfl rfl (Nat.le_of_ble_eq_true rfl) (by decide +kernel) ?_
    refine am_if_ne C0 (off := 5) (tgt := 18) (by decide +kernel) (fun hc9 => ?_) (fun hc9 => ?_)
    · rw [if_neg hc9] at hf
      refine am_b1 C0 am_YYk (pc := 18) (pc2 := 20) [(.iload_n 1, 0, 0, .null), (.iload_n 2, 0, 0, .null)] (L := [some (.ref 26), some (.int (p1)), some (.int (p2)), some (.int (p3)), none, none]) (st := []) (L' := [some (.ref 26), some (.int (p1)), some (.int (p2)), some (.int (p3)), none, none]) (st' := [.int (p2), .int (p1)]) (g' := g) (w' := w) (cl := []) (by decide +kernel) rfl trivial ?_
      refine am_icmp_ne C0 (off := 6) (tgt := 26) (by decide +kernel) (fun hc8 => ?_) (fun hc8 => ?_)
      · rw [if_neg hc8] at hf
        refine am_b1 C0 am_YYk (pc := 26) (pc2 := 30) [(.aload_n 0, 0, 0, .null), (.iload_n 1, 0, 0, .null), (.iload_n 2, 0, 0, .null), (.iconst 0, 0, 0, .int 0)] (L := [some (.ref 26), some (.int (p1)), some (.int (p2)), some (.int (p3)), none, none]) (st := []) (L' := [some (.ref 26), some (.int (p1)), some (.int (p2)), some (.int (p3)), none, none]) (st' := [.int ((0 : Int32)), .int (p2), .int (p1), .ref 26]) (g' := g) (w' := w) (cl := []) (by decide +kernel) rfl trivial ?_
        obtain ⟨q5, hq5, hf⟩ := Option.bind_eq_some_iff.mp hf
        refine am_callV (mi := mi_X8_layWays) (rm := rm_X8_layWays) [.int (p1), .int (p2), .int ((0 : Int32))] C0.1 am_YYl cv_8_169 (M_X8_layWays _ F g w p1 p2 (0 : Int32) _ hq5) (ci := 8) rfl (by decide) rfl (by rw [hR]; rfl) rfl rfl (Nat.le_of_ble_eq_true rfl) (by decide +kernel) ?_
        refine am_b1 C0 am_YYk (pc := 33) (pc2 := 34) [(.iload_n 3, 0, 0, .null)] (L := [some (.ref 26), some (.int (p1)), some (.int (p2)), some (.int (p3)), none, none]) (st := []) (L' := [some (.ref 26), some (.int (p1)), some (.int (p2)), some (.int (p3)), none, none]) (st' := [.int (p3)]) (g' := q5) (w' := w) (cl := []) (by decide +kernel) rfl trivial ?_
        refine am_if_eq C0 (off := 12) (tgt := 46) (by decide +kernel) (fun hc7 => ?_) (fun hc7 => ?_)
        · rw [if_pos hc7] at hf
          refine am_b1 C0 am_YYk (pc := 46) (pc2 := 50) [(.aload_n 0, 0, 0, .null), (.getfield 156, 8, 20, .null)] (L := [some (.ref 26), some (.int (p1)), some (.int (p2)), some (.int (p3)), none, none]) (st := []) (L' := [some (.ref 26), some (.int (p1)), some (.int (p2)), some (.int (p3)), none, none]) (st' := [.int (q5 26 20)]) (g' := q5) (w' := w) (cl := []) (by decide +kernel) rfl trivial ?_
          cases hf
          exact am_iret C0 (by decide +kernel)
        · rw [if_neg hc7] at hf
          refine am_b1 C0 am_YYk (pc := 37) (pc2 := 43) [(.aload_n 0, 0, 0, .null), (.getfield 156, 8, 20, .null), (.bipush (-9), 0, 0, .int (-9))] (L := [some (.ref 26), some (.int (p1)), some (.int (p2)), some (.int (p3)), none, none]) (st := []) (L' := [some (.ref 26), some (.int (p1)), some (.int (p2)), some (.int (p3)), none, none]) (st' := [.int ((-9 : Int32)), .int (q5 26 20)]) (g' := q5) (w' := w) (cl := []) (by decide +kernel) rfl trivial ?_
          refine am_icmp_ne C0 (off := 8) (tgt := 51) (by decide +kernel) (fun hc6 => ?_) (fun hc6 => ?_)
          · rw [if_neg hc6] at hf
            refine am_b1 C0 am_YYk (pc := 51) (pc2 := 59) [(.iload_n 1, 0, 0, .null), (.iconst 1, 0, 0, .int 1), (.iadd, 0, 0, .null), (.istore 4, 0, 0, .null), (.iconst 0, 0, 0, .int 0), (.istore 5, 0, 0, .null)] (L := [some (.ref 26), some (.int (p1)), some (.int (p2)), some (.int (p3)), none, none]) (st := []) (L' := [some (.ref 26), some (.int (p1)), some (.int (p2)), some (.int (p3)), some (.int (p1 + (1 : Int32))), some (.int ((0 : Int32)))]) (st' := []) (g' := q5) (w' := w) (cl := []) (by decide +kernel) rfl trivial ?_
            refine B_X8_soonest_59 x C0 hR w F p1 p2 p3 R _ ?_ F (p1 + (1 : Int32)) ((0 : Int32)) (q5) hf
            · intro l4 g hf
              exact B_X8_soonest_97 x C0 hR w F p1 p2 p3 R  (l4) (g) hf
          · rw [if_pos hc6] at hf
            refine am_b1 C0 am_YYk (pc := 46) (pc2 := 50) [(.aload_n 0, 0, 0, .null), (.getfield 156, 8, 20, .null)] (L := [some (.ref 26), some (.int (p1)), some (.int (p2)), some (.int (p3)), none, none]) (st := []) (L' := [some (.ref 26), some (.int (p1)), some (.int (p2)), some (.int (p3)), none, none]) (st' := [.int (q5 26 20)]) (g' := q5) (w' := w) (cl := []) (by decide +kernel) rfl trivial ?_
            cases hf
            exact am_iret C0 (by decide +kernel)
      · rw [if_pos hc8] at hf
        refine am_b1 C0 am_YYk (pc := 23) (pc2 := 25) [(.bipush (-2), 0, 0, .int (-2))] (L := [some (.ref 26), some (.int (p1)), some (.int (p2)), some (.int (p3)), none, none]) (st := []) (L' := [some (.ref 26), some (.int (p1)), some (.int (p2)), some (.int (p3)), none, none]) (st' := [.int ((-2 : Int32))]) (g' := g) (w' := w) (cl := []) (by decide +kernel) rfl trivial ?_
        cases hf
        exact am_iret C0 (by decide +kernel)
    · rw [if_pos hc9] at hf
      refine am_b1 C0 am_YYk (pc := 16) (pc2 := 17) [(.iconst (-1), 0, 0, .int (-1))] (L := [some (.ref 26), some (.int (p1)), some (.int (p2)), some (.int (p3)), none, none]) (st := []) (L' := [some (.ref 26), some (.int (p1)), some (.int (p2)), some (.int (p3)), none, none]) (st' := [.int ((-1 : Int32))]) (g' := g) (w' := w) (cl := []) (by decide +kernel) rfl trivial ?_
      cases hf
      exact am_iret C0 (by decide +kernel)
/-! ShutterTownModel.knows(II)I at (26,) -/
def f_X8_knows_80 (F : Nat) (p1 : Int32) (p2 : Int32) (k32 : Int32 → Int32 → am_G → Option (Int32 × am_G)) (l3 : Int32) (l4 : Int32) (g : am_G) : Option (Int32 × am_G) :=
  k32 (l3) (l4 + (1 : Int32)) (g)
set_option maxRecDepth 20000 in
theorem B_X8_knows_80 (x : am_X) (C0 : am_Cm x 8 cX8_knows 5 (some .int)) (hR : am_R x = rm_X8_knows) (w : am_J) (F : Nat) (p1 : Int32) (p2 : Int32) (R : Int32 × am_G) (k32 : Int32 → Int32 → am_G → Option (Int32 × am_G)) (hk32 : ∀ (l3 : Int32) (l4 : Int32) (g : am_G), k32 l3 l4 g = some R → am_Ev x 5 (0, 0) (am_Q x (0, 0) (some (.int R.1)) am_YY (R.2) w) 32 [some (.ref 26), some (.int (p1)), some (.int (p2)), some (.int (l3)), some (.int (l4))] [] am_YY g w) (l3 : Int32) (l4 : Int32) (g : am_G) (hf : f_X8_knows_80 F p1 p2 k32 l3 l4 g = some R) : am_Ev x 5 (0, 0) (am_Q x (0, 0) (some (.int R.1)) am_YY (R.2) w) 80 [some (.ref 26), some (.int (p1)), some (.int (p2)), some (.int (l3)), some (.int (l4))] [] am_YY g w := by
  unfold f_X8_knows_80 at hf
  refine am_b1 C0 am_YYk (pc := 80) (pc2 := 83) [(.iinc 4 1, 0, 0, .int 1)] (L := [some (.ref 26), some (.int (p1)), some (.int (p2)), some (.int (l3)), some (.int (l4))]) (st := []) (L' := [some (.ref 26), some (.int (p1)), some (.int (p2)), some (.int (l3)), some (.int (l4 + (1 : Int32)))]) (st' := []) (g' := g) (w' := w) (cl := []) (by decide +kernel) rfl trivial ?_
  refine am_goto C0 (off := (-51)) (tgt := 32) (by decide +kernel) ?_
  exact hk32 (l3) (l4 + (1 : Int32)) (g) hf
def f_X8_knows_78 (F : Nat) (p1 : Int32) (p2 : Int32) (k32 : Int32 → Int32 → am_G → Option (Int32 × am_G)) (l4 : Int32) (s0 : Int32) (s1 : Int32) (g : am_G) : Option (Int32 × am_G) :=
  f_X8_knows_80 F p1 p2 k32 (s0 ||| s1) (l4) (g)
set_option maxRecDepth 20000 in
theorem B_X8_knows_78 (x : am_X) (C0 : am_Cm x 8 cX8_knows 5 (some .int)) (hR : am_R x = rm_X8_knows) (w : am_J) (F : Nat) (p1 : Int32) (p2 : Int32) (R : Int32 × am_G) (k32 : Int32 → Int32 → am_G → Option (Int32 × am_G)) (hk32 : ∀ (l3 : Int32) (l4 : Int32) (g : am_G), k32 l3 l4 g = some R → am_Ev x 5 (0, 0) (am_Q x (0, 0) (some (.int R.1)) am_YY (R.2) w) 32 [some (.ref 26), some (.int (p1)), some (.int (p2)), some (.int (l3)), some (.int (l4))] [] am_YY g w) (l4 : Int32) (s0 : Int32) (s1 : Int32) (g : am_G) (hf : f_X8_knows_78 F p1 p2 k32 l4 s0 s1 g = some R) : am_Ev x 5 (0, 0) (am_Q x (0, 0) (some (.int R.1)) am_YY (R.2) w) 78 [some (.ref 26), some (.int (p1)), some (.int (p2)), none, some (.int (l4))] [.int (s1), .int (s0)] am_YY g w := by
  unfold f_X8_knows_78 at hf
  refine am_b1 C0 am_YYk (pc := 78) (pc2 := 80) [(.ior, 0, 0, .null), (.istore_n 3, 0, 0, .null)] (L := [some (.ref 26), some (.int (p1)), some (.int (p2)), none, some (.int (l4))]) (st := [.int (s1), .int (s0)]) (L' := [some (.ref 26), some (.int (p1)), some (.int (p2)), some (.int (s0 ||| s1)), some (.int (l4))]) (st' := []) (g' := g) (w' := w) (cl := []) (by decide +kernel) rfl trivial ?_
  exact B_X8_knows_80 x C0 hR w F p1 p2 R _ hk32 (s0 ||| s1) (l4) (g) hf
def f_X8_knows_32 (F : Nat) (p1 : Int32) (p2 : Int32)  : Nat → Int32 → Int32 → am_G → Option (Int32 × am_G)
  | 0, _, _, _ => none
  | n + 1, l3, l4, g =>
    if (g 26 0) ≤ l4 then
      some (l3, g)
    else
      if l4 = p1 then
        f_X8_knows_80 F p1 p2 (fun l3 l4 g => f_X8_knows_32 F p1 p2 n l3 l4 g) (l3) (l4) (g)
      else
        (f_X8_layWays F g p1 l4 (0 : Int32)).bind fun q1 =>
          (f_X8_in (Int32.toInt64 (q1 26 20)) (0 : Int64) (Int32.toInt64 p2)).bind fun q2 =>
            if q2 = 0 then
              f_X8_knows_78 F p1 p2 (fun l3 l4 g => f_X8_knows_32 F p1 p2 n l3 l4 g) (l4) (l3) ((0 : Int32)) (q1)
            else
              f_X8_knows_78 F p1 p2 (fun l3 l4 g => f_X8_knows_32 F p1 p2 n l3 l4 g) (l4) (l3) ((1 : Int32) <<< (l4 &&& 31)) (q1)
set_option maxRecDepth 20000 in
theorem B_X8_knows_32 (x : am_X) (C0 : am_Cm x 8 cX8_knows 5 (some .int)) (hR : am_R x = rm_X8_knows) (w : am_J) (F : Nat) (p1 : Int32) (p2 : Int32) (R : Int32 × am_G)   : ∀ (n : Nat) (l3 : Int32) (l4 : Int32) (g : am_G), f_X8_knows_32 F p1 p2 n l3 l4 g = some R → am_Ev x 5 (0, 0) (am_Q x (0, 0) (some (.int R.1)) am_YY (R.2) w) 32 [some (.ref 26), some (.int (p1)), some (.int (p2)), some (.int (l3)), some (.int (l4))] [] am_YY g w := by
  intro n
  induction n with
  | zero => intro l3 l4 g hf; cases hf
  | succ n ih =>
    intro l3 l4 g hf
    rw [f_X8_knows_32.eq_2] at hf
    refine am_b1 C0 am_YYk (pc := 32) (pc2 := 38) [(.iload 4, 0, 0, .null), (.aload_n 0, 0, 0, .null), (.getfield 111, 8, 0, .null)] (L := [some (.ref 26), some (.int (p1)), some (.int (p2)), some (.int (l3)), some (.int (l4))]) (st := []) (L' := [some (.ref 26), some (.int (p1)), some (.int (p2)), some (.int (l3)), some (.int (l4))]) (st' := [.int (g 26 0), .int (l4)]) (g' := g) (w' := w) (cl := []) (by decide +kernel) rfl trivial ?_
    refine am_icmp_ge C0 (off := 48) (tgt := 86) (by decide +kernel) (fun hc5 => ?_) (fun hc5 => ?_)
    · rw [if_pos hc5] at hf
      refine am_b1 C0 am_YYk (pc := 86) (pc2 := 87) [(.iload_n 3, 0, 0, .null)] (L := [some (.ref 26), some (.int (p1)), some (.int (p2)), some (.int (l3)), some (.int (l4))]) (st := []) (L' := [some (.ref 26), some (.int (p1)), some (.int (p2)), some (.int (l3)), some (.int (l4))]) (st' := [.int (l3)]) (g' := g) (w' := w) (cl := []) (by decide +kernel) rfl trivial ?_
      cases hf
      exact am_iret C0 (by decide +kernel)
    · rw [if_neg hc5] at hf
      refine am_b1 C0 am_YYk (pc := 41) (pc2 := 44) [(.iload 4, 0, 0, .null), (.iload_n 1, 0, 0, .null)] (L := [some (.ref 26), some (.int (p1)), some (.int (p2)), some (.int (l3)), some (.int (l4))]) (st := []) (L' := [some (.ref 26), some (.int (p1)), some (.int (p2)), some (.int (l3)), some (.int (l4))]) (st' := [.int (p1), .int (l4)]) (g' := g) (w' := w) (cl := []) (by decide +kernel) rfl trivial ?_
      refine am_icmp_eq C0 (off := 36) (tgt := 80) (by decide +kernel) (fun hc4 => ?_) (fun hc4 => ?_)
      · rw [if_pos hc4] at hf
        exact B_X8_knows_80 x C0 hR w F p1 p2 R _ (fun l3 l4 g hf => ih l3 l4 g hf) (l3) (l4) (g) hf
      · rw [if_neg hc4] at hf
        refine am_b1 C0 am_YYk (pc := 47) (pc2 := 52) [(.aload_n 0, 0, 0, .null), (.iload_n 1, 0, 0, .null), (.iload 4, 0, 0, .null), (.iconst 0, 0, 0, .int 0)] (L := [some (.ref 26), some (.int (p1)), some (.int (p2)), some (.int (l3)), some (.int (l4))]) (st := []) (L' := [some (.ref 26), some (.int (p1)), some (.int (p2)), some (.int (l3)), some (.int (l4))]) (st' := [.int ((0 : Int32)), .int (l4), .int (p1), .ref 26]) (g' := g) (w' := w) (cl := []) (by decide +kernel) rfl trivial ?_
        obtain ⟨q1, hq1, hf⟩ := Option.bind_eq_some_iff.mp hf
        refine am_callV (mi := mi_X8_layWays) (rm := rm_X8_layWays) [.int (p1), .int (l4), .int ((0 : Int32))] C0.1 am_YYl cv_8_169 (M_X8_layWays _ F g w p1 l4 (0 : Int32) _ hq1) (ci := 8) rfl (by decide) rfl (by rw [hR]; rfl) rfl rfl (Nat.le_of_ble_eq_true rfl) (by decide +kernel) ?_
        refine am_b1 C0 am_YYk (pc := 55) (pc2 := 64) [(.iload_n 3, 0, 0, .null), (.aload_n 0, 0, 0, .null), (.getfield 156, 8, 20, .null), (.i2l, 0, 0, .null), (.lconst 0, 0, 0, .long 0), (.iload_n 2, 0, 0, .null), (.i2l, 0, 0, .null)] (L := [some (.ref 26), some (.int (p1)), some (.int (p2)), some (.int (l3)), some (.int (l4))]) (st := []) (L' := [some (.ref 26), some (.int (p1)), some (.int (p2)), some (.int (l3)), some (.int (l4))]) (st' := [.long (Int32.toInt64 p2), .long ((0 : Int64)), .long (Int32.toInt64 (q1 26 20)), .int (l3)]) (g' := q1) (w' := w) (cl := []) (by decide +kernel) rfl trivial ?_
        obtain ⟨q2, hq2, hf⟩ := Option.bind_eq_some_iff.mp hf
        refine am_callS (mi := mi_X8_in) (rm := rm_X8_in) [.long (Int32.toInt64 (q1 26 20)), .long ((0 : Int64)), .long (Int32.toInt64 p2)] C0.1 cv_8_65 (M_X8_in _ q1 w (Int32.toInt64 (q1 26 20)) (0 : Int64) (Int32.toInt64 p2) _ hq2) (by rw [hR]; rfl) rfl rfl (Nat.le_of_ble_eq_true rfl) (by decide +kernel) ?_
        refine am_if_eq C0 (off := 10) (tgt := 77) (by decide +kernel) (fun hc3 => ?_) (fun hc3 => ?_)
        · rw [if_pos hc3] at hf
          refine am_b1 C0 am_YYk (pc := 77) (pc2 := 78) [(.iconst 0, 0, 0, .int 0)] (L := [some (.ref 26), some (.int (p1)), some (.int (p2)), some (.int (l3)), some (.int (l4))]) (st := [.int (l3)]) (L' := [some (.ref 26), some (.int (p1)), some (.int (p2)), some (.int (l3)), some (.int (l4))]) (st' := [.int ((0 : Int32)), .int (l3)]) (g' := q1) (w' := w) (cl := []) (by decide +kernel) rfl trivial ?_
          refine am_wk [some (.ref 26), some (.int (p1)), some (.int (p2)), none, some (.int (l4))] ⟨rfl, rfl, rfl, rfl, trivial⟩ rfl ?_
          exact B_X8_knows_78 x C0 hR w F p1 p2 R _ (fun l3 l4 g hf => ih l3 l4 g hf) (l4) (l3) ((0 : Int32)) (q1) hf
        · rw [if_neg hc3] at hf
          refine am_b1 C0 am_YYk (pc := 70) (pc2 := 74) [(.iconst 1, 0, 0, .int 1), (.iload 4, 0, 0, .null), (.ishl, 0, 0, .null)] (L := [some (.ref 26), some (.int (p1)), some (.int (p2)), some (.int (l3)), some (.int (l4))]) (st := [.int (l3)]) (L' := [some (.ref 26), some (.int (p1)), some (.int (p2)), some (.int (l3)), some (.int (l4))]) (st' := [.int ((1 : Int32) <<< (l4 &&& 31)), .int (l3)]) (g' := q1) (w' := w) (cl := []) (by decide +kernel) rfl trivial ?_
          refine am_goto C0 (off := 4) (tgt := 78) (by decide +kernel) ?_
          refine am_wk [some (.ref 26), some (.int (p1)), some (.int (p2)), none, some (.int (l4))] ⟨rfl, rfl, rfl, rfl, trivial⟩ rfl ?_
          exact B_X8_knows_78 x C0 hR w F p1 p2 R _ (fun l3 l4 g hf => ih l3 l4 g hf) (l4) (l3) ((1 : Int32) <<< (l4 &&& 31)) (q1) hf
def f_X8_knows (F : Nat) (g : am_G) (p1 : Int32) (p2 : Int32) : Option (Int32 × am_G) :=
  (f_X8_isWindow g p1).bind fun q6 =>
    if q6 = 0 then
      some ((-1 : Int32), g)
    else
      (f_X8_in (Int32.toInt64 p2) (0 : Int64) (9 : Int64)).bind fun q7 =>
        if q7 = 0 then
          some ((-2 : Int32), g)
        else
          f_X8_knows_32 F p1 p2 F ((1 : Int32) <<< (p1 &&& 31)) ((0 : Int32)) (g)
set_option maxRecDepth 20000 in
theorem M_X8_knows (l : Launch) (F : Nat) (g : am_G) (w : am_J) (p1 : Int32) (p2 : Int32) (R : Int32 × am_G) (hf : f_X8_knows F g p1 p2 = some R) : am_Met l mi_X8_knows rm_X8_knows [.ref 26, .int p1, .int p2] am_YY g w (some (.int R.1)) am_YY (R.2) w := by
  refine am_met (own := 8) [some (.ref 26), some (.int (p1)), some (.int (p2)), none, none] (by decide) rfl rfl (by first | decide | exact Nat.le_of_ble_eq_true rfl) (fun x C0 hR hl hnm => ?_)
  unfold f_X8_knows at hf
  refine am_b1 C0 am_YYk (pc := 0) (pc2 := 2) [(.aload_n 0, 0, 0, .null), (.iload_n 1, 0, 0, .null)] (L := [some (.ref 26), some (.int (p1)), some (.int (p2)), none, none]) (st := []) (L' := [some (.ref 26), some (.int (p1)), some (.int (p2)), none, none]) (st' := [.int (p1), .ref 26]) (g' := g) (w' := w) (cl := []) (by decide +kernel) rfl trivial ?_
  obtain ⟨q6, hq6, hf⟩ := Option.bind_eq_some_iff.mp hf
  refine am_callV (mi := mi_X8_isWindow) (rm := rm_X8_isWindow) [.int (p1)] C0.1 am_YYl cv_8_125 (M_X8_isWindow _ g w p1 _ hq6) (ci := 8) rfl (by decide) rfl (by rw [hR]; rfl) rfl rfl (Nat.le_of_ble_eq_true rfl) (by decide +kernel) ?_
  refine am_if_ne C0 (off := 5) (tgt := 10) (by decide +kernel) (fun hc9 => ?_) (fun hc9 => ?_)
  · rw [if_neg hc9] at hf
    refine am_b1 C0 am_YYk (pc := 10) (pc2 := 16) [(.iload_n 2, 0, 0, .null), (.i2l, 0, 0, .null), (.lconst 0, 0, 0, .long 0), (.ldc2_w 78, 0, 0, .long 9)] (L := [some (.ref 26), some (.int (p1)), some (.int (p2)), none, none]) (st := []) (L' := [some (.ref 26), some (.int (p1)), some (.int (p2)), none, none]) (st' := [.long ((9 : Int64)), .long ((0 : Int64)), .long (Int32.toInt64 p2)]) (g' := g) (w' := w) (cl := []) (by decide +kernel) rfl trivial ?_
    obtain ⟨q7, hq7, hf⟩ := Option.bind_eq_some_iff.mp hf
    refine am_callS (mi := mi_X8_in) (rm := rm_X8_in) [.long (Int32.toInt64 p2), .long ((0 : Int64)), .long ((9 : Int64))] C0.1 cv_8_65 (M_X8_in _ g w (Int32.toInt64 p2) (0 : Int64) (9 : Int64) _ hq7) (by rw [hR]; rfl) rfl rfl (Nat.le_of_ble_eq_true rfl) (by decide +kernel) ?_
    refine am_if_ne C0 (off := 6) (tgt := 25) (by decide +kernel) (fun hc8 => ?_) (fun hc8 => ?_)
    · rw [if_neg hc8] at hf
      refine am_b1 C0 am_YYk (pc := 25) (pc2 := 32) [(.iconst 1, 0, 0, .int 1), (.iload_n 1, 0, 0, .null), (.ishl, 0, 0, .null), (.istore_n 3, 0, 0, .null), (.iconst 0, 0, 0, .int 0), (.istore 4, 0, 0, .null)] (L := [some (.ref 26), some (.int (p1)), some (.int (p2)), none, none]) (st := []) (L' := [some (.ref 26), some (.int (p1)), some (.int (p2)), some (.int ((1 : Int32) <<< (p1 &&& 31))), some (.int ((0 : Int32)))]) (st' := []) (g' := g) (w' := w) (cl := []) (by decide +kernel) rfl trivial ?_
      refine B_X8_knows_32 x C0 hR w F p1 p2 R   F ((1 : Int32) <<< (p1 &&& 31)) ((0 : Int32)) (g) hf
    · rw [if_pos hc8] at hf
      refine am_b1 C0 am_YYk (pc := 22) (pc2 := 24) [(.bipush (-2), 0, 0, .int (-2))] (L := [some (.ref 26), some (.int (p1)), some (.int (p2)), none, none]) (st := []) (L' := [some (.ref 26), some (.int (p1)), some (.int (p2)), none, none]) (st' := [.int ((-2 : Int32))]) (g' := g) (w' := w) (cl := []) (by decide +kernel) rfl trivial ?_
      cases hf
      exact am_iret C0 (by decide +kernel)
  · rw [if_pos hc9] at hf
    refine am_b1 C0 am_YYk (pc := 8) (pc2 := 9) [(.iconst (-1), 0, 0, .int (-1))] (L := [some (.ref 26), some (.int (p1)), some (.int (p2)), none, none]) (st := []) (L' := [some (.ref 26), some (.int (p1)), some (.int (p2)), none, none]) (st' := [.int ((-1 : Int32))]) (g' := g) (w' := w) (cl := []) (by decide +kernel) rfl trivial ?_
    cases hf
    exact am_iret C0 (by decide +kernel)
/-! ShutterTownModel.ones(I)I at () -/
def f_X8_ones_4 (F : Nat) (p0 : Int32)  : Nat → Int32 → Int32 → Option (Int32)
  | 0, _, _ => none
  | n + 1, l1, l2 =>
    if (6 : Int32) ≤ l2 then
      some (l1)
    else
      f_X8_ones_4 F p0 n (l1 + ((p0 >>> (l2 &&& 31)) &&& (1 : Int32))) (l2 + (1 : Int32))
set_option maxRecDepth 20000 in
theorem B_X8_ones_4 (x : am_X) (C0 : am_Cm x 8 cX8_ones 3 (some .int)) (hR : am_R x = rm_X8_ones) (g : am_G) (w : am_J) (F : Nat) (p0 : Int32) (R : Int32)   : ∀ (n : Nat) (l1 : Int32) (l2 : Int32), f_X8_ones_4 F p0 n l1 l2 = some R → am_Ev x 3 (0, 0) (am_Q x (0, 0) (some (.int R)) am_YY g w) 4 [some (.int (p0)), some (.int (l1)), some (.int (l2))] [] am_YY g w := by
  intro n
  induction n with
  | zero => intro l1 l2 hf; cases hf
  | succ n ih =>
    intro l1 l2 hf
    rw [f_X8_ones_4.eq_2] at hf
    refine am_b1 C0 am_YYk (pc := 4) (pc2 := 7) [(.iload_n 2, 0, 0, .null), (.bipush 6, 0, 0, .int 6)] (L := [some (.int (p0)), some (.int (l1)), some (.int (l2))]) (st := []) (L' := [some (.int (p0)), some (.int (l1)), some (.int (l2))]) (st' := [.int ((6 : Int32)), .int (l2)]) (g' := g) (w' := w) (cl := []) (by decide +kernel) rfl trivial ?_
    refine am_icmp_ge C0 (off := 17) (tgt := 24) (by decide +kernel) (fun hc1 => ?_) (fun hc1 => ?_)
    · rw [if_pos hc1] at hf
      refine am_b1 C0 am_YYk (pc := 24) (pc2 := 25) [(.iload_n 1, 0, 0, .null)] (L := [some (.int (p0)), some (.int (l1)), some (.int (l2))]) (st := []) (L' := [some (.int (p0)), some (.int (l1)), some (.int (l2))]) (st' := [.int (l1)]) (g' := g) (w' := w) (cl := []) (by decide +kernel) rfl trivial ?_
      cases hf
      exact am_iret C0 (by decide +kernel)
    · rw [if_neg hc1] at hf
      refine am_b1 C0 am_YYk (pc := 10) (pc2 := 21) [(.iload_n 1, 0, 0, .null), (.iload_n 0, 0, 0, .null), (.iload_n 2, 0, 0, .null), (.ishr, 0, 0, .null), (.iconst 1, 0, 0, .int 1), (.iand, 0, 0, .null), (.iadd, 0, 0, .null), (.istore_n 1, 0, 0, .null), (.iinc 2 1, 0, 0, .int 1)] (L := [some (.int (p0)), some (.int (l1)), some (.int (l2))]) (st := []) (L' := [some (.int (p0)), some (.int (l1 + ((p0 >>> (l2 &&& 31)) &&& (1 : Int32)))), some (.int (l2 + (1 : Int32)))]) (st' := []) (g' := g) (w' := w) (cl := []) (by decide +kernel) rfl trivial ?_
      refine am_goto C0 (off := (-17)) (tgt := 4) (by decide +kernel) ?_
      exact ih (l1 + ((p0 >>> (l2 &&& 31)) &&& (1 : Int32))) (l2 + (1 : Int32)) hf
def f_X8_ones (F : Nat) (p0 : Int32) : Option (Int32) :=
  f_X8_ones_4 F p0 F ((0 : Int32)) ((0 : Int32))
set_option maxRecDepth 20000 in
theorem M_X8_ones (l : Launch) (F : Nat) (g : am_G) (w : am_J) (p0 : Int32) (R : Int32) (hf : f_X8_ones F p0 = some R) : am_Met l mi_X8_ones rm_X8_ones [.int p0] am_YY g w (some (.int R)) am_YY g w := by
  refine am_met (own := 8) [some (.int (p0)), none, none] (by decide) rfl rfl (by first | decide | exact Nat.le_of_ble_eq_true rfl) (fun x C0 hR hl hnm => ?_)
  unfold f_X8_ones at hf
  refine am_b1 C0 am_YYk (pc := 0) (pc2 := 4) [(.iconst 0, 0, 0, .int 0), (.istore_n 1, 0, 0, .null), (.iconst 0, 0, 0, .int 0), (.istore_n 2, 0, 0, .null)] (L := [some (.int (p0)), none, none]) (st := []) (L' := [some (.int (p0)), some (.int ((0 : Int32))), some (.int ((0 : Int32)))]) (st' := []) (g' := g) (w' := w) (cl := []) (by decide +kernel) rfl trivial ?_
  refine B_X8_ones_4 x C0 hR g w F p0 R   F ((0 : Int32)) ((0 : Int32)) hf
/-! ShutterTownModel.isTold(II)Z at (26,) -/
def f_X8_isTold_18 (F : Nat) (g : am_G) (p1 : Int32) (p2 : Int32)   : Option (Int32) :=
  some ((1 : Int32))
set_option maxRecDepth 20000 in
theorem B_X8_isTold_18 (x : am_X) (C0 : am_Cm x 8 cX8_isTold 3 (some .boolean)) (hR : am_R x = rm_X8_isTold) (w : am_J) (F : Nat) (g : am_G) (p1 : Int32) (p2 : Int32) (R : Int32)    (hf : f_X8_isTold_18 F g p1 p2 = some R) : am_Ev x 3 (0, 0) (am_Q x (0, 0) (some (.int R)) am_YY g w) 18 [none, some (.int (p1)), some (.int (p2))] [] am_YY g w := by
  unfold f_X8_isTold_18 at hf
  refine am_b1 C0 am_YYk (pc := 18) (pc2 := 19) [(.iconst 1, 0, 0, .int 1)] (L := [none, some (.int (p1)), some (.int (p2))]) (st := []) (L' := [none, some (.int (p1)), some (.int (p2))]) (st' := [.int ((1 : Int32))]) (g' := g) (w' := w) (cl := []) (by decide +kernel) rfl trivial ?_
  refine am_goto C0 (off := 4) (tgt := 23) (by decide +kernel) ?_
  cases hf
  exact am_zret C0 (by decide +kernel) (Or.inr rfl)
def f_X8_isTold (F : Nat) (g : am_G) (p1 : Int32) (p2 : Int32) : Option (Int32) :=
  (f_X8_has p1 p2).bind fun q1 =>
    if q1 = 0 then
      (f_X8_seen F g p2).bind fun q2 =>
        if (p1 &&& q2) = 0 then
          some ((0 : Int32))
        else
          f_X8_isTold_18 F g p1 p2
    else
      f_X8_isTold_18 F g p1 p2
set_option maxRecDepth 20000 in
theorem M_X8_isTold (l : Launch) (F : Nat) (g : am_G) (w : am_J) (p1 : Int32) (p2 : Int32) (R : Int32) (hf : f_X8_isTold F g p1 p2 = some R) : am_Met l mi_X8_isTold rm_X8_isTold [.ref 26, .int p1, .int p2] am_YY g w (some (.int R)) am_YY g w := by
  refine am_met (own := 8) [some (.ref 26), some (.int (p1)), some (.int (p2))] (by decide) rfl rfl (by first | decide | exact Nat.le_of_ble_eq_true rfl) (fun x C0 hR hl hnm => ?_)
  unfold f_X8_isTold at hf
  refine am_b1 C0 am_YYk (pc := 0) (pc2 := 2) [(.iload_n 1, 0, 0, .null), (.iload_n 2, 0, 0, .null)] (L := [some (.ref 26), some (.int (p1)), some (.int (p2))]) (st := []) (L' := [some (.ref 26), some (.int (p1)), some (.int (p2))]) (st' := [.int (p2), .int (p1)]) (g' := g) (w' := w) (cl := []) (by decide +kernel) rfl trivial ?_
  obtain ⟨q1, hq1, hf⟩ := Option.bind_eq_some_iff.mp hf
  refine am_callS (mi := mi_X8_has) (rm := rm_X8_has) [.int (p1), .int (p2)] C0.1 cv_8_80 (M_X8_has _ g w p1 p2 _ hq1) (by rw [hR]; rfl) rfl rfl (Nat.le_of_ble_eq_true rfl) (by decide +kernel) ?_
  refine am_if_ne C0 (off := 13) (tgt := 18) (by decide +kernel) (fun hc4 => ?_) (fun hc4 => ?_)
  · rw [if_neg hc4] at hf
    refine am_wk [none, some (.int (p1)), some (.int (p2))] ⟨rfl, rfl, trivial⟩ rfl ?_
    exact B_X8_isTold_18 x C0 hR w F g p1 p2 R   hf
  · rw [if_pos hc4] at hf
    refine am_b1 C0 am_YYk (pc := 8) (pc2 := 11) [(.iload_n 1, 0, 0, .null), (.aload_n 0, 0, 0, .null), (.iload_n 2, 0, 0, .null)] (L := [some (.ref 26), some (.int (p1)), some (.int (p2))]) (st := []) (L' := [some (.ref 26), some (.int (p1)), some (.int (p2))]) (st' := [.int (p2), .ref 26, .int (p1)]) (g' := g) (w' := w) (cl := []) (by decide +kernel) rfl trivial ?_
    obtain ⟨q2, hq2, hf⟩ := Option.bind_eq_some_iff.mp hf
    refine am_callV (mi := mi_X8_seen) (rm := rm_X8_seen) [.int (p2)] C0.1 am_YYl cv_8_129 (M_X8_seen _ F g w p2 _ hq2) (ci := 8) rfl (by decide) rfl (by rw [hR]; rfl) rfl rfl (Nat.le_of_ble_eq_true rfl) (by decide +kernel) ?_
    refine am_b1 C0 am_YYk (pc := 14) (pc2 := 15) [(.iand, 0, 0, .null)] (L := [some (.ref 26), some (.int (p1)), some (.int (p2))]) (st := [.int (q2), .int (p1)]) (L' := [some (.ref 26), some (.int (p1)), some (.int (p2))]) (st' := [.int (p1 &&& q2)]) (g' := g) (w' := w) (cl := []) (by decide +kernel) rfl trivial ?_
    refine am_if_eq C0 (off := 7) (tgt := 22) (by decide +kernel) (fun hc3 => ?_) (fun hc3 => ?_)
    · rw [if_pos hc3] at hf
      refine am_b1 C0 am_YYk (pc := 22) (pc2 := 23) [(.iconst 0, 0, 0, .int 0)] (L := [some (.ref 26), some (.int (p1)), some (.int (p2))]) (st := []) (L' := [some (.ref 26), some (.int (p1)), some (.int (p2))]) (st' := [.int ((0 : Int32))]) (g' := g) (w' := w) (cl := []) (by decide +kernel) rfl trivial ?_
      cases hf
      exact am_zret C0 (by decide +kernel) (Or.inl rfl)
    · rw [if_neg hc3] at hf
      refine am_wk [none, some (.int (p1)), some (.int (p2))] ⟨rfl, rfl, trivial⟩ rfl ?_
      exact B_X8_isTold_18 x C0 hR w F g p1 p2 R   hf
/-! ShutterTownModel.toTell(I)I at (26,) -/
def f_X8_toTell_116 (F : Nat) (g : am_G) (p1 : Int32) (k26 : Int32 → Int32 → Option (Int32)) (l3 : Int32) (s0 : Int32) : Option (Int32) :=
  k26 (s0) (l3 + (1 : Int32))
set_option maxRecDepth 20000 in
theorem B_X8_toTell_116 (x : am_X) (C0 : am_Cm x 8 cX8_toTell 6 (some .int)) (hR : am_R x = rm_X8_toTell) (w : am_J) (F : Nat) (g : am_G) (p1 : Int32) (R : Int32) (k26 : Int32 → Int32 → Option (Int32)) (hk26 : ∀ (l2 : Int32) (l3 : Int32), k26 l2 l3 = some R → am_Ev x 6 (0, 0) (am_Q x (0, 0) (some (.int R)) am_YY g w) 26 [some (.ref 26), some (.int (p1)), some (.int (l2)), some (.int (l3)), none, none] [] am_YY g w) (l3 : Int32) (s0 : Int32) (hf : f_X8_toTell_116 F g p1 k26 l3 s0 = some R) : am_Ev x 6 (0, 0) (am_Q x (0, 0) (some (.int R)) am_YY g w) 116 [some (.ref 26), some (.int (p1)), none, some (.int (l3)), none, none] [.int (s0)] am_YY g w := by
  unfold f_X8_toTell_116 at hf
  refine am_b1 C0 am_YYk (pc := 116) (pc2 := 120) [(.istore_n 2, 0, 0, .null), (.iinc 3 1, 0, 0, .int 1)] (L := [some (.ref 26), some (.int (p1)), none, some (.int (l3)), none, none]) (st := [.int (s0)]) (L' := [some (.ref 26), some (.int (p1)), some (.int (s0)), some (.int (l3 + (1 : Int32))), none, none]) (st' := []) (g' := g) (w' := w) (cl := []) (by decide +kernel) rfl trivial ?_
  refine am_goto C0 (off := (-94)) (tgt := 26) (by decide +kernel) ?_
  exact hk26 (s0) (l3 + (1 : Int32)) hf
def f_X8_toTell_106 (F : Nat) (g : am_G) (p1 : Int32) (k26 : Int32 → Int32 → Option (Int32)) (l2 : Int32) (l3 : Int32) (l4 : Int32) : Option (Int32) :=
  if l4 = 0 then
    f_X8_toTell_116 F g p1 k26 (l3) (l2)
  else
    f_X8_toTell_116 F g p1 k26 (l3) (l3)
set_option maxRecDepth 20000 in
theorem B_X8_toTell_106 (x : am_X) (C0 : am_Cm x 8 cX8_toTell 6 (some .int)) (hR : am_R x = rm_X8_toTell) (w : am_J) (F : Nat) (g : am_G) (p1 : Int32) (R : Int32) (k26 : Int32 → Int32 → Option (Int32)) (hk26 : ∀ (l2 : Int32) (l3 : Int32), k26 l2 l3 = some R → am_Ev x 6 (0, 0) (am_Q x (0, 0) (some (.int R)) am_YY g w) 26 [some (.ref 26), some (.int (p1)), some (.int (l2)), some (.int (l3)), none, none] [] am_YY g w) (l2 : Int32) (l3 : Int32) (l4 : Int32) (hf : f_X8_toTell_106 F g p1 k26 l2 l3 l4 = some R) : am_Ev x 6 (0, 0) (am_Q x (0, 0) (some (.int R)) am_YY g w) 106 [some (.ref 26), some (.int (p1)), some (.int (l2)), some (.int (l3)), some (.int (l4)), none] [] am_YY g w := by
  unfold f_X8_toTell_106 at hf
  refine am_b1 C0 am_YYk (pc := 106) (pc2 := 108) [(.iload 4, 0, 0, .null)] (L := [some (.ref 26), some (.int (p1)), some (.int (l2)), some (.int (l3)), some (.int (l4)), none]) (st := []) (L' := [some (.ref 26), some (.int (p1)), some (.int (l2)), some (.int (l3)), some (.int (l4)), none]) (st' := [.int (l4)]) (g' := g) (w' := w) (cl := []) (by decide +kernel) rfl trivial ?_
  refine am_if_eq C0 (off := 7) (tgt := 115) (by decide +kernel) (fun hc1 => ?_) (fun hc1 => ?_)
  · rw [if_pos hc1] at hf
    refine am_b1 C0 am_YYk (pc := 115) (pc2 := 116) [(.iload_n 2, 0, 0, .null)] (L := [some (.ref 26), some (.int (p1)), some (.int (l2)), some (.int (l3)), some (.int (l4)), none]) (st := []) (L' := [some (.ref 26), some (.int (p1)), some (.int (l2)), some (.int (l3)), some (.int (l4)), none]) (st' := [.int (l2)]) (g' := g) (w' := w) (cl := []) (by decide +kernel) rfl trivial ?_
    refine am_wk [some (.ref 26), some (.int (p1)), none, some (.int (l3)), none, none] ⟨rfl, rfl, rfl, trivial⟩ rfl ?_
    exact B_X8_toTell_116 x C0 hR w F g p1 R _ hk26 (l3) (l2) hf
  · rw [if_neg hc1] at hf
    refine am_b1 C0 am_YYk (pc := 111) (pc2 := 112) [(.iload_n 3, 0, 0, .null)] (L := [some (.ref 26), some (.int (p1)), some (.int (l2)), some (.int (l3)), some (.int (l4)), none]) (st := []) (L' := [some (.ref 26), some (.int (p1)), some (.int (l2)), some (.int (l3)), some (.int (l4)), none]) (st' := [.int (l3)]) (g' := g) (w' := w) (cl := []) (by decide +kernel) rfl trivial ?_
    refine am_goto C0 (off := 4) (tgt := 116) (by decide +kernel) ?_
    refine am_wk [some (.ref 26), some (.int (p1)), none, some (.int (l3)), none, none] ⟨rfl, rfl, rfl, trivial⟩ rfl ?_
    exact B_X8_toTell_116 x C0 hR w F g p1 R _ hk26 (l3) (l3) hf
def f_X8_toTell_98 (F : Nat) (g : am_G) (p1 : Int32) (k63 : Int32 → Int32 → Int32 → Int32 → Option (Int32)) (k106 : Int32 → Int32 → Int32 → Option (Int32)) (l2 : Int32) (l3 : Int32) (l5 : Int32) (s0 : Int32) : Option (Int32) :=
  k63 (l2) (l3) (s0) (l5 + (1 : Int32))
set_option maxRecDepth 20000 in
theorem B_X8_toTell_98 (x : am_X) (C0 : am_Cm x 8 cX8_toTell 6 (some .int)) (hR : am_R x = rm_X8_toTell) (w : am_J) (F : Nat) (g : am_G) (p1 : Int32) (R : Int32) (k63 : Int32 → Int32 → Int32 → Int32 → Option (Int32)) (k106 : Int32 → Int32 → Int32 → Option (Int32)) (hk63 : ∀ (l2 : Int32) (l3 : Int32) (l4 : Int32) (l5 : Int32), k63 l2 l3 l4 l5 = some R → am_Ev x 6 (0, 0) (am_Q x (0, 0) (some (.int R)) am_YY g w) 63 [some (.ref 26), some (.int (p1)), some (.int (l2)), some (.int (l3)), some (.int (l4)), some (.int (l5))] [] am_YY g w) (hk106 : ∀ (l2 : Int32) (l3 : Int32) (l4 : Int32), k106 l2 l3 l4 = some R → am_Ev x 6 (0, 0) (am_Q x (0, 0) (some (.int R)) am_YY g w) 106 [some (.ref 26), some (.int (p1)), some (.int (l2)), some (.int (l3)), some (.int (l4)), none] [] am_YY g w) (l2 : Int32) (l3 : Int32) (l5 : Int32) (s0 : Int32) (hf : f_X8_toTell_98 F g p1 k63 k106 l2 l3 l5 s0 = some R) : am_Ev x 6 (0, 0) (am_Q x (0, 0) (some (.int R)) am_YY g w) 98 [some (.ref 26), some (.int (p1)), some (.int (l2)), some (.int (l3)), none, some (.int (l5))] [.int (s0)] am_YY g w := by
  unfold f_X8_toTell_98 at hf
  refine am_b1 C0 am_YYk (pc := 98) (pc2 := 103) [(.istore 4, 0, 0, .null), (.iinc 5 1, 0, 0, .int 1)] (L := [some (.ref 26), some (.int (p1)), some (.int (l2)), some (.int (l3)), none, some (.int (l5))]) (st := [.int (s0)]) (L' := [some (.ref 26), some (.int (p1)), some (.int (l2)), some (.int (l3)), some (.int (s0)), some (.int (l5 + (1 : Int32)))]) (st' := []) (g' := g) (w' := w) (cl := []) (by decide +kernel) rfl trivial ?_
  refine am_goto C0 (off := (-40)) (tgt := 63) (by decide +kernel) ?_
  exact hk63 (l2) (l3) (s0) (l5 + (1 : Int32)) hf
def f_X8_toTell_97 (F : Nat) (g : am_G) (p1 : Int32) (k63 : Int32 → Int32 → Int32 → Int32 → Option (Int32)) (k106 : Int32 → Int32 → Int32 → Option (Int32)) (l2 : Int32) (l3 : Int32) (l5 : Int32) : Option (Int32) :=
  f_X8_toTell_98 F g p1 k63 k106 (l2) (l3) (l5) ((0 : Int32))
set_option maxRecDepth 20000 in
theorem B_X8_toTell_97 (x : am_X) (C0 : am_Cm x 8 cX8_toTell 6 (some .int)) (hR : am_R x = rm_X8_toTell) (w : am_J) (F : Nat) (g : am_G) (p1 : Int32) (R : Int32) (k63 : Int32 → Int32 → Int32 → Int32 → Option (Int32)) (k106 : Int32 → Int32 → Int32 → Option (Int32)) (hk63 : ∀ (l2 : Int32) (l3 : Int32) (l4 : Int32) (l5 : Int32), k63 l2 l3 l4 l5 = some R → am_Ev x 6 (0, 0) (am_Q x (0, 0) (some (.int R)) am_YY g w) 63 [some (.ref 26), some (.int (p1)), some (.int (l2)), some (.int (l3)), some (.int (l4)), some (.int (l5))] [] am_YY g w) (hk106 : ∀ (l2 : Int32) (l3 : Int32) (l4 : Int32), k106 l2 l3 l4 = some R → am_Ev x 6 (0, 0) (am_Q x (0, 0) (some (.int R)) am_YY g w) 106 [some (.ref 26), some (.int (p1)), some (.int (l2)), some (.int (l3)), some (.int (l4)), none] [] am_YY g w) (l2 : Int32) (l3 : Int32) (l5 : Int32) (hf : f_X8_toTell_97 F g p1 k63 k106 l2 l3 l5 = some R) : am_Ev x 6 (0, 0) (am_Q x (0, 0) (some (.int R)) am_YY g w) 97 [some (.ref 26), some (.int (p1)), some (.int (l2)), some (.int (l3)), none, some (.int (l5))] [] am_YY g w := by
  unfold f_X8_toTell_97 at hf
  refine am_b1 C0 am_YYk (pc := 97) (pc2 := 98) [(.iconst 0, 0, 0, .int 0)] (L := [some (.ref 26), some (.int (p1)), some (.int (l2)), some (.int (l3)), none, some (.int (l5))]) (st := []) (L' := [some (.ref 26), some (.int (p1)), some (.int (l2)), some (.int (l3)), none, some (.int (l5))]) (st' := [.int ((0 : Int32))]) (g' := g) (w' := w) (cl := []) (by decide +kernel) rfl trivial ?_
  exact B_X8_toTell_98 x C0 hR w F g p1 R _ _ hk63 hk106 (l2) (l3) (l5) ((0 : Int32)) hf
def f_X8_toTell_63 (F : Nat) (g : am_G) (p1 : Int32) (k106 : Int32 → Int32 → Int32 → Option (Int32)) : Nat → Int32 → Int32 → Int32 → Int32 → Option (Int32)
  | 0, _, _, _, _ => none
  | n + 1, l2, l3, l4, l5 =>
    if (g 26 0) ≤ l5 then
      k106 (l2) (l3) (l4)
    else
      if l4 = 0 then
        f_X8_toTell_97 F g p1 (fun l2 l3 l4 l5 => f_X8_toTell_63 F g p1 k106 n l2 l3 l4 l5) k106 (l2) (l3) (l5)
      else
        (f_X8_isTold F g l3 l5).bind fun q2 =>
          (f_X8_has p1 l5).bind fun q3 =>
            if q2 = q3 then
              f_X8_toTell_98 F g p1 (fun l2 l3 l4 l5 => f_X8_toTell_63 F g p1 k106 n l2 l3 l4 l5) k106 (l2) (l3) (l5) ((1 : Int32))
            else
              f_X8_toTell_97 F g p1 (fun l2 l3 l4 l5 => f_X8_toTell_63 F g p1 k106 n l2 l3 l4 l5) k106 (l2) (l3) (l5)
set_option maxRecDepth 20000 in
theorem B_X8_toTell_63 (x : am_X) (C0 : am_Cm x 8 cX8_toTell 6 (some .int)) (hR : am_R x = rm_X8_toTell) (w : am_J) (F : Nat) (g : am_G) (p1 : Int32) (R : Int32) (k106 : Int32 → Int32 → Int32 → Option (Int32)) (hk106 : ∀ (l2 : Int32) (l3 : Int32) (l4 : Int32), k106 l2 l3 l4 = some R → am_Ev x 6 (0, 0) (am_Q x (0, 0) (some (.int R)) am_YY g w) 106 [some (.ref 26), some (.int (p1)), some (.int (l2)), some (.int (l3)), some (.int (l4)), none] [] am_YY g w) : ∀ (n : Nat) (l2 : Int32) (l3 : Int32) (l4 : Int32) (l5 : Int32), f_X8_toTell_63 F g p1 k106 n l2 l3 l4 l5 = some R → am_Ev x 6 (0, 0) (am_Q x (0, 0) (some (.int R)) am_YY g w) 63 [some (.ref 26), some (.int (p1)), some (.int (l2)), some (.int (l3)), some (.int (l4)), some (.int (l5))] [] am_YY g w := by
  intro n
  induction n with
  | zero => intro l2 l3 l4 l5 hf; cases hf
  | succ n ih =>
    intro l2 l3 l4 l5 hf
    rw [f_X8_toTell_63.eq_2] at hf
    refine am_b1 C0 am_YYk (pc := 63) (pc2 := 69) [(.iload 5, 0, 0, .null), (.aload_n 0, 0, 0, .null), (.getfield 111, 8, 0, .null)] (L := [some (.ref 26), some (.int (p1)), some (.int (l2)), some (.int (l3)), some (.int (l4)), some (.int (l5))]) (st := []) (L' := [some (.ref 26), some (.int (p1)), some (.int (l2)), some (.int (l3)), some (.int (l4)), some (.int (l5))]) (st' := [.int (g 26 0), .int (l5)]) (g' := g) (w' := w) (cl := []) (by decide +kernel) rfl trivial ?_
    refine am_icmp_ge C0 (off := 37) (tgt := 106) (by decide +kernel) (fun hc6 => ?_) (fun hc6 => ?_)
    · rw [if_pos hc6] at hf
      refine am_wk [some (.ref 26), some (.int (p1)), some (.int (l2)), some (.int (l3)), some (.int (l4)), none] ⟨rfl, rfl, rfl, rfl, rfl, trivial⟩ rfl ?_
      exact hk106 (l2) (l3) (l4) hf
    · rw [if_neg hc6] at hf
      refine am_b1 C0 am_YYk (pc := 72) (pc2 := 74) [(.iload 4, 0, 0, .null)] (L := [some (.ref 26), some (.int (p1)), some (.int (l2)), some (.int (l3)), some (.int (l4)), some (.int (l5))]) (st := []) (L' := [some (.ref 26), some (.int (p1)), some (.int (l2)), some (.int (l3)), some (.int (l4)), some (.int (l5))]) (st' := [.int (l4)]) (g' := g) (w' := w) (cl := []) (by decide +kernel) rfl trivial ?_
      refine am_if_eq C0 (off := 23) (tgt := 97) (by decide +kernel) (fun hc5 => ?_) (fun hc5 => ?_)
      · rw [if_pos hc5] at hf
        refine am_wk [some (.ref 26), some (.int (p1)), some (.int (l2)), some (.int (l3)), none, some (.int (l5))] ⟨rfl, rfl, rfl, rfl, rfl, trivial⟩ rfl ?_
        exact B_X8_toTell_97 x C0 hR w F g p1 R _ _ (fun l2 l3 l4 l5 hf => ih l2 l3 l4 l5 hf) hk106 (l2) (l3) (l5) hf
      · rw [if_neg hc5] at hf
        refine am_b1 C0 am_YYk (pc := 77) (pc2 := 81) [(.aload_n 0, 0, 0, .null), (.iload_n 3, 0, 0, .null), (.iload 5, 0, 0, .null)] (L := [some (.ref 26), some (.int (p1)), some (.int (l2)), some (.int (l3)), some (.int (l4)), some (.int (l5))]) (st := []) (L' := [some (.ref 26), some (.int (p1)), some (.int (l2)), some (.int (l3)), some (.int (l4)), some (.int (l5))]) (st' := [.int (l5), .int (l3), .ref 26]) (g' := g) (w' := w) (cl := []) (by decide +kernel) rfl trivial ?_
        obtain ⟨q2, hq2, hf⟩ := Option.bind_eq_some_iff.mp hf
        refine am_callV (mi := mi_X8_isTold) (rm := rm_X8_isTold) [.int (l3), .int (l5)] C0.1 am_YYl cv_8_176 (M_X8_isTold _ F g w l3 l5 _ hq2) (ci := 8) rfl (by decide) rfl (by rw [hR]; rfl) rfl rfl (Nat.le_of_ble_eq_true rfl) (by decide +kernel) ?_
        refine am_b1 C0 am_YYk (pc := 84) (pc2 := 87) [(.iload_n 1, 0, 0, .null), (.iload 5, 0, 0, .null)] (L := [some (.ref 26), some (.int (p1)), some (.int (l2)), some (.int (l3)), some (.int (l4)), some (.int (l5))]) (st := [.int (q2)]) (L' := [some (.ref 26), some (.int (p1)), some (.int (l2)), some (.int (l3)), some (.int (l4)), some (.int (l5))]) (st' := [.int (l5), .int (p1), .int (q2)]) (g' := g) (w' := w) (cl := []) (by decide +kernel) rfl trivial ?_
        obtain ⟨q3, hq3, hf⟩ := Option.bind_eq_some_iff.mp hf
        refine am_callS (mi := mi_X8_has) (rm := rm_X8_has) [.int (p1), .int (l5)] C0.1 cv_8_80 (M_X8_has _ g w p1 l5 _ hq3) (by rw [hR]; rfl) rfl rfl (Nat.le_of_ble_eq_true rfl) (by decide +kernel) ?_
        refine am_icmp_ne C0 (off := 7) (tgt := 97) (by decide +kernel) (fun hc4 => ?_) (fun hc4 => ?_)
        · rw [if_neg hc4] at hf
          refine am_wk [some (.ref 26), some (.int (p1)), some (.int (l2)), some (.int (l3)), none, some (.int (l5))] ⟨rfl, rfl, rfl, rfl, rfl, trivial⟩ rfl ?_
          exact B_X8_toTell_97 x C0 hR w F g p1 R _ _ (fun l2 l3 l4 l5 hf => ih l2 l3 l4 l5 hf) hk106 (l2) (l3) (l5) hf
        · rw [if_pos hc4] at hf
          refine am_b1 C0 am_YYk (pc := 93) (pc2 := 94) [(.iconst 1, 0, 0, .int 1)] (L := [some (.ref 26), some (.int (p1)), some (.int (l2)), some (.int (l3)), some (.int (l4)), some (.int (l5))]) (st := []) (L' := [some (.ref 26), some (.int (p1)), some (.int (l2)), some (.int (l3)), some (.int (l4)), some (.int (l5))]) (st' := [.int ((1 : Int32))]) (g' := g) (w' := w) (cl := []) (by decide +kernel) rfl trivial ?_
          refine am_goto C0 (off := 4) (tgt := 98) (by decide +kernel) ?_
          refine am_wk [some (.ref 26), some (.int (p1)), some (.int (l2)), some (.int (l3)), none, some (.int (l5))] ⟨rfl, rfl, rfl, rfl, rfl, trivial⟩ rfl ?_
          exact B_X8_toTell_98 x C0 hR w F g p1 R _ _ (fun l2 l3 l4 l5 hf => ih l2 l3 l4 l5 hf) hk106 (l2) (l3) (l5) ((1 : Int32)) hf
def f_X8_toTell_58 (F : Nat) (g : am_G) (p1 : Int32) (k26 : Int32 → Int32 → Option (Int32)) (l2 : Int32) (l3 : Int32) (s0 : Int32) : Option (Int32) :=
  f_X8_toTell_63 F g p1 (fun l2 l3 l4 => f_X8_toTell_106 F g p1 k26 (l2) (l3) (l4)) F (l2) (l3) (s0) ((0 : Int32))
set_option maxRecDepth 20000 in
theorem B_X8_toTell_58 (x : am_X) (C0 : am_Cm x 8 cX8_toTell 6 (some .int)) (hR : am_R x = rm_X8_toTell) (w : am_J) (F : Nat) (g : am_G) (p1 : Int32) (R : Int32) (k26 : Int32 → Int32 → Option (Int32)) (hk26 : ∀ (l2 : Int32) (l3 : Int32), k26 l2 l3 = some R → am_Ev x 6 (0, 0) (am_Q x (0, 0) (some (.int R)) am_YY g w) 26 [some (.ref 26), some (.int (p1)), some (.int (l2)), some (.int (l3)), none, none] [] am_YY g w) (l2 : Int32) (l3 : Int32) (s0 : Int32) (hf : f_X8_toTell_58 F g p1 k26 l2 l3 s0 = some R) : am_Ev x 6 (0, 0) (am_Q x (0, 0) (some (.int R)) am_YY g w) 58 [some (.ref 26), some (.int (p1)), some (.int (l2)), some (.int (l3)), none, none] [.int (s0)] am_YY g w := by
  unfold f_X8_toTell_58 at hf
  refine am_b1 C0 am_YYk (pc := 58) (pc2 := 63) [(.istore 4, 0, 0, .null), (.iconst 0, 0, 0, .int 0), (.istore 5, 0, 0, .null)] (L := [some (.ref 26), some (.int (p1)), some (.int (l2)), some (.int (l3)), none, none]) (st := [.int (s0)]) (L' := [some (.ref 26), some (.int (p1)), some (.int (l2)), some (.int (l3)), some (.int (s0)), some (.int ((0 : Int32)))]) (st' := []) (g' := g) (w' := w) (cl := []) (by decide +kernel) rfl trivial ?_
  refine B_X8_toTell_63 x C0 hR w F g p1 R _ ?_ F (l2) (l3) (s0) ((0 : Int32)) hf
  · intro l2 l3 l4 hf
    exact B_X8_toTell_106 x C0 hR w F g p1 R _ hk26 (l2) (l3) (l4) hf
def f_X8_toTell_53 (F : Nat) (g : am_G) (p1 : Int32) (k26 : Int32 → Int32 → Option (Int32)) (l2 : Int32) (l3 : Int32) : Option (Int32) :=
  f_X8_toTell_58 F g p1 k26 (l2) (l3) ((1 : Int32))
set_option maxRecDepth 20000 in
theorem B_X8_toTell_53 (x : am_X) (C0 : am_Cm x 8 cX8_toTell 6 (some .int)) (hR : am_R x = rm_X8_toTell) (w : am_J) (F : Nat) (g : am_G) (p1 : Int32) (R : Int32) (k26 : Int32 → Int32 → Option (Int32)) (hk26 : ∀ (l2 : Int32) (l3 : Int32), k26 l2 l3 = some R → am_Ev x 6 (0, 0) (am_Q x (0, 0) (some (.int R)) am_YY g w) 26 [some (.ref 26), some (.int (p1)), some (.int (l2)), some (.int (l3)), none, none] [] am_YY g w) (l2 : Int32) (l3 : Int32) (hf : f_X8_toTell_53 F g p1 k26 l2 l3 = some R) : am_Ev x 6 (0, 0) (am_Q x (0, 0) (some (.int R)) am_YY g w) 53 [some (.ref 26), some (.int (p1)), some (.int (l2)), some (.int (l3)), none, none] [] am_YY g w := by
  unfold f_X8_toTell_53 at hf
  refine am_b1 C0 am_YYk (pc := 53) (pc2 := 54) [(.iconst 1, 0, 0, .int 1)] (L := [some (.ref 26), some (.int (p1)), some (.int (l2)), some (.int (l3)), none, none]) (st := []) (L' := [some (.ref 26), some (.int (p1)), some (.int (l2)), some (.int (l3)), none, none]) (st' := [.int ((1 : Int32))]) (g' := g) (w' := w) (cl := []) (by decide +kernel) rfl trivial ?_
  refine am_goto C0 (off := 4) (tgt := 58) (by decide +kernel) ?_
  exact B_X8_toTell_58 x C0 hR w F g p1 R _ hk26 (l2) (l3) ((1 : Int32)) hf
def f_X8_toTell_26 (F : Nat) (g : am_G) (p1 : Int32)  : Nat → Int32 → Int32 → Option (Int32)
  | 0, _, _ => none
  | n + 1, l2, l3 =>
    if ((1 : Int32) <<< ((g 26 0) &&& 31)) ≤ l3 then
      some (l2)
    else
      if l2 = (-9 : Int32) then
        f_X8_toTell_53 F g p1 (fun l2 l3 => f_X8_toTell_26 F g p1 n l2 l3) (l2) (l3)
      else
        (f_X8_ones F l3).bind fun q7 =>
          (f_X8_ones F l2).bind fun q8 =>
            if q8 ≤ q7 then
              f_X8_toTell_58 F g p1 (fun l2 l3 => f_X8_toTell_26 F g p1 n l2 l3) (l2) (l3) ((0 : Int32))
            else
              f_X8_toTell_53 F g p1 (fun l2 l3 => f_X8_toTell_26 F g p1 n l2 l3) (l2) (l3)
set_option maxRecDepth 20000 in
theorem B_X8_toTell_26 (x : am_X) (C0 : am_Cm x 8 cX8_toTell 6 (some .int)) (hR : am_R x = rm_X8_toTell) (w : am_J) (F : Nat) (g : am_G) (p1 : Int32) (R : Int32)   : ∀ (n : Nat) (l2 : Int32) (l3 : Int32), f_X8_toTell_26 F g p1 n l2 l3 = some R → am_Ev x 6 (0, 0) (am_Q x (0, 0) (some (.int R)) am_YY g w) 26 [some (.ref 26), some (.int (p1)), some (.int (l2)), some (.int (l3)), none, none] [] am_YY g w := by
  intro n
  induction n with
  | zero => intro l2 l3 hf; cases hf
  | succ n ih =>
    intro l2 l3 hf
    rw [f_X8_toTell_26.eq_2] at hf
    refine am_b1 C0 am_YYk (pc := 26) (pc2 := 33) [(.iload_n 3, 0, 0, .null), (.iconst 1, 0, 0, .int 1), (.aload_n 0, 0, 0, .null), (.getfield 111, 8, 0, .null), (.ishl, 0, 0, .null)] (L := [some (.ref 26), some (.int (p1)), some (.int (l2)), some (.int (l3)), none, none]) (st := []) (L' := [some (.ref 26), some (.int (p1)), some (.int (l2)), some (.int (l3)), none, none]) (st' := [.int ((1 : Int32) <<< ((g 26 0) &&& 31)), .int (l3)]) (g' := g) (w' := w) (cl := []) (by decide +kernel) rfl trivial ?_
    refine am_icmp_ge C0 (off := 90) (tgt := 123) (by decide +kernel) (fun hc11 => ?_) (fun hc11 => ?_)
    · rw [if_pos hc11] at hf
      refine am_b1 C0 am_YYk (pc := 123) (pc2 := 124) [(.iload_n 2, 0, 0, .null)] (L := [some (.ref 26), some (.int (p1)), some (.int (l2)), some (.int (l3)), none, none]) (st := []) (L' := [some (.ref 26), some (.int (p1)), some (.int (l2)), some (.int (l3)), none, none]) (st' := [.int (l2)]) (g' := g) (w' := w) (cl := []) (by decide +kernel) rfl trivial ?_
      cases hf
      exact am_iret C0 (by decide +kernel)
    · rw [if_neg hc11] at hf
      refine am_b1 C0 am_YYk (pc := 36) (pc2 := 39) [(.iload_n 2, 0, 0, .null), (.bipush (-9), 0, 0, .int (-9))] (L := [some (.ref 26), some (.int (p1)), some (.int (l2)), some (.int (l3)), none, none]) (st := []) (L' := [some (.ref 26), some (.int (p1)), some (.int (l2)), some (.int (l3)), none, none]) (st' := [.int ((-9 : Int32)), .int (l2)]) (g' := g) (w' := w) (cl := []) (by decide +kernel) rfl trivial ?_
      refine am_icmp_eq C0 (off := 14) (tgt := 53) (by decide +kernel) (fun hc10 => ?_) (fun hc10 => ?_)
      · rw [if_pos hc10] at hf
        exact B_X8_toTell_53 x C0 hR w F g p1 R _ (fun l2 l3 hf => ih l2 l3 hf) (l2) (l3) hf
      · rw [if_neg hc10] at hf
        refine am_b1 C0 am_YYk (pc := 42) (pc2 := 43) [(.iload_n 3, 0, 0, .null)] (L := [some (.ref 26), some (.int (p1)), some (.int (l2)), some (.int (l3)), none, none]) (st := []) (L' := [some (.ref 26), some (.int (p1)), some (.int (l2)), some (.int (l3)), none, none]) (st' := [.int (l3)]) (g' := g) (w' := w) (cl := []) (by decide +kernel) rfl trivial ?_
        obtain ⟨q7, hq7, hf⟩ := Option.bind_eq_some_iff.mp hf
        refine am_callS (mi := mi_X8_ones) (rm := rm_X8_ones) [.int (l3)] C0.1 cv_8_173 (M_X8_ones _ F g w l3 _ hq7) (by rw [hR]; rfl) rfl rfl (Nat.le_of_ble_eq_true rfl) (by decide +kernel) ?_
        refine am_b1 C0 am_YYk (pc := 46) (pc2 := 47) [(.iload_n 2, 0, 0, .null)] (L := [some (.ref 26), some (.int (p1)), some (.int (l2)), some (.int (l3)), none, none]) (st := [.int (q7)]) (L' := [some (.ref 26), some (.int (p1)), some (.int (l2)), some (.int (l3)), none, none]) (st' := [.int (l2), .int (q7)]) (g' := g) (w' := w) (cl := []) (by decide +kernel) rfl trivial ?_
        obtain ⟨q8, hq8, hf⟩ := Option.bind_eq_some_iff.mp hf
        refine am_callS (mi := mi_X8_ones) (rm := rm_X8_ones) [.int (l2)] C0.1 cv_8_173 (M_X8_ones _ F g w l2 _ hq8) (by rw [hR]; rfl) rfl rfl (Nat.le_of_ble_eq_true rfl) (by decide +kernel) ?_
        refine am_icmp_ge C0 (off := 7) (tgt := 57) (by decide +kernel) (fun hc9 => ?_) (fun hc9 => ?_)
        · rw [if_pos hc9] at hf
          refine am_b1 C0 am_YYk (pc := 57) (pc2 := 58) [(.iconst 0, 0, 0, .int 0)] (L := [some (.ref 26), some (.int (p1)), some (.int (l2)), some (.int (l3)), none, none]) (st := []) (L' := [some (.ref 26), some (.int (p1)), some (.int (l2)), some (.int (l3)), none, none]) (st' := [.int ((0 : Int32))]) (g' := g) (w' := w) (cl := []) (by decide +kernel) rfl trivial ?_
          exact B_X8_toTell_58 x C0 hR w F g p1 R _ (fun l2 l3 hf => ih l2 l3 hf) (l2) (l3) ((0 : Int32)) hf
        · rw [if_neg hc9] at hf
          exact B_X8_toTell_53 x C0 hR w F g p1 R _ (fun l2 l3 hf => ih l2 l3 hf) (l2) (l3) hf
def f_X8_toTell (F : Nat) (g : am_G) (p1 : Int32) : Option (Int32) :=
  (f_X8_in (Int32.toInt64 p1) (0 : Int64) (Int32.toInt64 (((1 : Int32) <<< ((g 26 0) &&& 31)) - (1 : Int32)))).bind fun q12 =>
    if q12 = 0 then
      some ((-2 : Int32))
    else
      f_X8_toTell_26 F g p1 F ((-9 : Int32)) ((0 : Int32))
set_option maxRecDepth 20000 in
theorem M_X8_toTell (l : Launch) (F : Nat) (g : am_G) (w : am_J) (p1 : Int32) (R : Int32) (hf : f_X8_toTell F g p1 = some R) : am_Met l mi_X8_toTell rm_X8_toTell [.ref 26, .int p1] am_YY g w (some (.int R)) am_YY g w := by
  refine am_met (own := 8) [some (.ref 26), some (.int (p1)), none, none, none, none] (by decide) rfl rfl (by first | decide | exact Nat.le_of_ble_eq_true rfl) (fun x C0 hR hl hnm => ?_)
  unfold f_X8_toTell at hf
  refine am_b1 C0 am_YYk (pc := 0) (pc2 := 12) [(.iload_n 1, 0, 0, .null), (.i2l, 0, 0, .null), (.lconst 0, 0, 0, .long 0), (.iconst 1, 0, 0, .int 1), (.aload_n 0, 0, 0, .null), (.getfield 111, 8, 0, .null), (.ishl, 0, 0, .null), (.iconst 1, 0, 0, .int 1), (.isub, 0, 0, .null), (.i2l, 0, 0, .null)] (L := [some (.ref 26), some (.int (p1)), none, none, none, none]) (st := []) (L' := [some (.ref 26), some (.int (p1)), none, none, none, none]) (st' := [.long (Int32.toInt64 (((1 : Int32) <<< ((g 26 0) &&& 31)) - (1 : Int32))), .long ((0 : Int64)), .long (Int32.toInt64 p1)]) (g' := g) (w' := w) (cl := []) (by decide +kernel) rfl trivial ?_
  obtain ⟨q12, hq12, hf⟩ := Option.bind_eq_some_iff.mp hf
  refine am_callS (mi := mi_X8_in) (rm := rm_X8_in) [.long (Int32.toInt64 p1), .long ((0 : Int64)), .long (Int32.toInt64 (((1 : Int32) <<< ((g 26 0) &&& 31)) - (1 : Int32)))] C0.1 cv_8_65 (M_X8_in _ g w (Int32.toInt64 p1) (0 : Int64) (Int32.toInt64 (((1 : Int32) <<< ((g 26 0) &&& 31)) - (1 : Int32))) _ hq12) (by rw [hR]; rfl) rfl rfl (Nat.le_of_ble_eq_true rfl) (by decide +kernel) ?_
  refine am_if_ne C0 (off := 6) (tgt := 21) (by decide +kernel) (fun hc13 => ?_) (fun hc13 => ?_)
  · rw [if_neg hc13] at hf
    refine am_b1 C0 am_YYk (pc := 21) (pc2 := 26) [(.bipush (-9), 0, 0, .int (-9)), (.istore_n 2, 0, 0, .null), (.iconst 0, 0, 0, .int 0), (.istore_n 3, 0, 0, .null)] (L := [some (.ref 26), some (.int (p1)), none, none, none, none]) (st := []) (L' := [some (.ref 26), some (.int (p1)), some (.int ((-9 : Int32))), some (.int ((0 : Int32))), none, none]) (st' := []) (g' := g) (w' := w) (cl := []) (by decide +kernel) rfl trivial ?_
    refine B_X8_toTell_26 x C0 hR w F g p1 R   F ((-9 : Int32)) ((0 : Int32)) hf
  · rw [if_pos hc13] at hf
    refine am_b1 C0 am_YYk (pc := 18) (pc2 := 20) [(.bipush (-2), 0, 0, .int (-2))] (L := [some (.ref 26), some (.int (p1)), none, none, none, none]) (st := []) (L' := [some (.ref 26), some (.int (p1)), none, none, none, none]) (st' := [.int ((-2 : Int32))]) (g' := g) (w' := w) (cl := []) (by decide +kernel) rfl trivial ?_
    cases hf
    exact am_iret C0 (by decide +kernel)
/-! ShutterTownModel.cut(II)I at (26,) -/
def f_X8_cut_115 (F : Nat) (p1 : Int32) (p2 : Int32) (k32 : Int32 → Int32 → am_G → Option (Int32 × am_G)) (l3 : Int32) (l4 : Int32) (g : am_G) : Option (Int32 × am_G) :=
  k32 (l3) (l4 + (1 : Int32)) (g)
set_option maxRecDepth 20000 in
theorem B_X8_cut_115 (x : am_X) (C0 : am_Cm x 8 cX8_cut 6 (some .int)) (hR : am_R x = rm_X8_cut) (w : am_J) (F : Nat) (p1 : Int32) (p2 : Int32) (R : Int32 × am_G) (k32 : Int32 → Int32 → am_G → Option (Int32 × am_G)) (hk32 : ∀ (l3 : Int32) (l4 : Int32) (g : am_G), k32 l3 l4 g = some R → am_Ev x 6 (0, 0) (am_Q x (0, 0) (some (.int R.1)) am_YY (R.2) w) 32 [some (.ref 26), some (.int (p1)), some (.int (p2)), some (.int (l3)), some (.int (l4)), none] [] am_YY g w) (l3 : Int32) (l4 : Int32) (g : am_G) (hf : f_X8_cut_115 F p1 p2 k32 l3 l4 g = some R) : am_Ev x 6 (0, 0) (am_Q x (0, 0) (some (.int R.1)) am_YY (R.2) w) 115 [some (.ref 26), some (.int (p1)), some (.int (p2)), some (.int (l3)), some (.int (l4)), none] [] am_YY g w := by
  unfold f_X8_cut_115 at hf
  refine am_b1 C0 am_YYk (pc := 115) (pc2 := 118) [(.iinc 4 1, 0, 0, .int 1)] (L := [some (.ref 26), some (.int (p1)), some (.int (p2)), some (.int (l3)), some (.int (l4)), none]) (st := []) (L' := [some (.ref 26), some (.int (p1)), some (.int (p2)), some (.int (l3)), some (.int (l4 + (1 : Int32))), none]) (st' := []) (g' := g) (w' := w) (cl := []) (by decide +kernel) rfl trivial ?_
  refine am_goto C0 (off := (-86)) (tgt := 32) (by decide +kernel) ?_
  exact hk32 (l3) (l4 + (1 : Int32)) (g) hf
def f_X8_cut_114 (F : Nat) (p1 : Int32) (p2 : Int32) (k32 : Int32 → Int32 → am_G → Option (Int32 × am_G)) (l4 : Int32) (s0 : Int32) (g : am_G) : Option (Int32 × am_G) :=
  f_X8_cut_115 F p1 p2 k32 (s0) (l4) (g)
set_option maxRecDepth 20000 in
theorem B_X8_cut_114 (x : am_X) (C0 : am_Cm x 8 cX8_cut 6 (some .int)) (hR : am_R x = rm_X8_cut) (w : am_J) (F : Nat) (p1 : Int32) (p2 : Int32) (R : Int32 × am_G) (k32 : Int32 → Int32 → am_G → Option (Int32 × am_G)) (hk32 : ∀ (l3 : Int32) (l4 : Int32) (g : am_G), k32 l3 l4 g = some R → am_Ev x 6 (0, 0) (am_Q x (0, 0) (some (.int R.1)) am_YY (R.2) w) 32 [some (.ref 26), some (.int (p1)), some (.int (p2)), some (.int (l3)), some (.int (l4)), none] [] am_YY g w) (l4 : Int32) (s0 : Int32) (g : am_G) (hf : f_X8_cut_114 F p1 p2 k32 l4 s0 g = some R) : am_Ev x 6 (0, 0) (am_Q x (0, 0) (some (.int R.1)) am_YY (R.2) w) 114 [some (.ref 26), some (.int (p1)), some (.int (p2)), none, some (.int (l4)), none] [.int (s0)] am_YY g w := by
  unfold f_X8_cut_114 at hf
  refine am_b1 C0 am_YYk (pc := 114) (pc2 := 115) [(.istore_n 3, 0, 0, .null)] (L := [some (.ref 26), some (.int (p1)), some (.int (p2)), none, some (.int (l4)), none]) (st := [.int (s0)]) (L' := [some (.ref 26), some (.int (p1)), some (.int (p2)), some (.int (s0)), some (.int (l4)), none]) (st' := []) (g' := g) (w' := w) (cl := []) (by decide +kernel) rfl trivial ?_
  exact B_X8_cut_115 x C0 hR w F p1 p2 R _ hk32 (s0) (l4) (g) hf
def f_X8_cut_84 (F : Nat) (p1 : Int32) (p2 : Int32) (k32 : Int32 → Int32 → am_G → Option (Int32 × am_G)) (l3 : Int32) (l4 : Int32) (s0 : Int32) (g : am_G) : Option (Int32 × am_G) :=
  if s0 = 0 then
    f_X8_cut_115 F p1 p2 k32 (l3) (l4) (g)
  else
    (f_X8_layWays F g p1 p2 l4).bind fun q1 =>
      if (q1 26 20) = (-9 : Int32) then
        f_X8_cut_114 F p1 p2 k32 (l4) (l4) (q1)
      else
        f_X8_cut_114 F p1 p2 k32 (l4) (l3) (q1)
set_option maxRecDepth 20000 in
theorem B_X8_cut_84 (x : am_X) (C0 : am_Cm x 8 cX8_cut 6 (some .int)) (hR : am_R x = rm_X8_cut) (w : am_J) (F : Nat) (p1 : Int32) (p2 : Int32) (R : Int32 × am_G) (k32 : Int32 → Int32 → am_G → Option (Int32 × am_G)) (hk32 : ∀ (l3 : Int32) (l4 : Int32) (g : am_G), k32 l3 l4 g = some R → am_Ev x 6 (0, 0) (am_Q x (0, 0) (some (.int R.1)) am_YY (R.2) w) 32 [some (.ref 26), some (.int (p1)), some (.int (p2)), some (.int (l3)), some (.int (l4)), none] [] am_YY g w) (l3 : Int32) (l4 : Int32) (s0 : Int32) (g : am_G) (hf : f_X8_cut_84 F p1 p2 k32 l3 l4 s0 g = some R) : am_Ev x 6 (0, 0) (am_Q x (0, 0) (some (.int R.1)) am_YY (R.2) w) 84 [some (.ref 26), some (.int (p1)), some (.int (p2)), some (.int (l3)), some (.int (l4)), none] [.int (s0)] am_YY g w := by
  unfold f_X8_cut_84 at hf
  refine am_b1 C0 am_YYk (pc := 84) (pc2 := 88) [(.istore 5, 0, 0, .null), (.iload 5, 0, 0, .null)] (L := [some (.ref 26), some (.int (p1)), some (.int (p2)), some (.int (l3)), some (.int (l4)), none]) (st := [.int (s0)]) (L' := [some (.ref 26), some (.int (p1)), some (.int (p2)), some (.int (l3)), some (.int (l4)), some (.int (s0))]) (st' := [.int (s0)]) (g' := g) (w' := w) (cl := []) (by decide +kernel) rfl trivial ?_
  refine am_if_eq C0 (off := 27) (tgt := 115) (by decide +kernel) (fun hc3 => ?_) (fun hc3 => ?_)
  · rw [if_pos hc3] at hf
    refine am_wk [some (.ref 26), some (.int (p1)), some (.int (p2)), some (.int (l3)), some (.int (l4)), none] ⟨rfl, rfl, rfl, rfl, rfl, trivial⟩ rfl ?_
    exact B_X8_cut_115 x C0 hR w F p1 p2 R _ hk32 (l3) (l4) (g) hf
  · rw [if_neg hc3] at hf
    refine am_b1 C0 am_YYk (pc := 91) (pc2 := 96) [(.aload_n 0, 0, 0, .null), (.iload_n 1, 0, 0, .null), (.iload_n 2, 0, 0, .null), (.iload 4, 0, 0, .null)] (L := [some (.ref 26), some (.int (p1)), some (.int (p2)), some (.int (l3)), some (.int (l4)), some (.int (s0))]) (st := []) (L' := [some (.ref 26), some (.int (p1)), some (.int (p2)), some (.int (l3)), some (.int (l4)), some (.int (s0))]) (st' := [.int (l4), .int (p2), .int (p1), .ref 26]) (g' := g) (w' := w) (cl := []) (by decide +kernel) rfl trivial ?_
    obtain ⟨q1, hq1, hf⟩ := Option.bind_eq_some_iff.mp hf
    refine am_callV (mi := mi_X8_layWays) (rm := rm_X8_layWays) [.int (p1), .int (p2), .int (l4)] C0.1 am_YYl cv_8_169 (M_X8_layWays _ F g w p1 p2 l4 _ hq1) (ci := 8) rfl (by decide) rfl (by rw [hR]; rfl) rfl rfl (Nat.le_of_ble_eq_true rfl) (by decide +kernel) ?_
    refine am_b1 C0 am_YYk (pc := 99) (pc2 := 105) [(.aload_n 0, 0, 0, .null), (.getfield 156, 8, 20, .null), (.bipush (-9), 0, 0, .int (-9))] (L := [some (.ref 26), some (.int (p1)), some (.int (p2)), some (.int (l3)), some (.int (l4)), some (.int (s0))]) (st := []) (L' := [some (.ref 26), some (.int (p1)), some (.int (p2)), some (.int (l3)), some (.int (l4)), some (.int (s0))]) (st' := [.int ((-9 : Int32)), .int (q1 26 20)]) (g' := q1) (w' := w) (cl := []) (by decide +kernel) rfl trivial ?_
    refine am_icmp_ne C0 (off := 8) (tgt := 113) (by decide +kernel) (fun hc2 => ?_) (fun hc2 => ?_)
    · rw [if_neg hc2] at hf
      refine am_b1 C0 am_YYk (pc := 113) (pc2 := 114) [(.iload_n 3, 0, 0, .null)] (L := [some (.ref 26), some (.int (p1)), some (.int (p2)), some (.int (l3)), some (.int (l4)), some (.int (s0))]) (st := []) (L' := [some (.ref 26), some (.int (p1)), some (.int (p2)), some (.int (l3)), some (.int (l4)), some (.int (s0))]) (st' := [.int (l3)]) (g' := q1) (w' := w) (cl := []) (by decide +kernel) rfl trivial ?_
      refine am_wk [some (.ref 26), some (.int (p1)), some (.int (p2)), none, some (.int (l4)), none] ⟨rfl, rfl, rfl, rfl, trivial⟩ rfl ?_
      exact B_X8_cut_114 x C0 hR w F p1 p2 R _ hk32 (l4) (l3) (q1) hf
    · rw [if_pos hc2] at hf
      refine am_b1 C0 am_YYk (pc := 108) (pc2 := 110) [(.iload 4, 0, 0, .null)] (L := [some (.ref 26), some (.int (p1)), some (.int (p2)), some (.int (l3)), some (.int (l4)), some (.int (s0))]) (st := []) (L' := [some (.ref 26), some (.int (p1)), some (.int (p2)), some (.int (l3)), some (.int (l4)), some (.int (s0))]) (st' := [.int (l4)]) (g' := q1) (w' := w) (cl := []) (by decide +kernel) rfl trivial ?_
      refine am_goto C0 (off := 4) (tgt := 114) (by decide +kernel) ?_
      refine am_wk [some (.ref 26), some (.int (p1)), some (.int (p2)), none, some (.int (l4)), none] ⟨rfl, rfl, rfl, rfl, trivial⟩ rfl ?_
      exact B_X8_cut_114 x C0 hR w F p1 p2 R _ hk32 (l4) (l4) (q1) hf
def f_X8_cut_79 (F : Nat) (p1 : Int32) (p2 : Int32) (k32 : Int32 → Int32 → am_G → Option (Int32 × am_G)) (l3 : Int32) (l4 : Int32) (g : am_G) : Option (Int32 × am_G) :=
  f_X8_cut_84 F p1 p2 k32 (l3) (l4) ((1 : Int32)) (g)
set_option maxRecDepth 20000 in
theorem B_X8_cut_79 (x : am_X) (C0 : am_Cm x 8 cX8_cut 6 (some .int)) (hR : am_R x = rm_X8_cut) (w : am_J) (F : Nat) (p1 : Int32) (p2 : Int32) (R : Int32 × am_G) (k32 : Int32 → Int32 → am_G → Option (Int32 × am_G)) (hk32 : ∀ (l3 : Int32) (l4 : Int32) (g : am_G), k32 l3 l4 g = some R → am_Ev x 6 (0, 0) (am_Q x (0, 0) (some (.int R.1)) am_YY (R.2) w) 32 [some (.ref 26), some (.int (p1)), some (.int (p2)), some (.int (l3)), some (.int (l4)), none] [] am_YY g w) (l3 : Int32) (l4 : Int32) (g : am_G) (hf : f_X8_cut_79 F p1 p2 k32 l3 l4 g = some R) : am_Ev x 6 (0, 0) (am_Q x (0, 0) (some (.int R.1)) am_YY (R.2) w) 79 [some (.ref 26), some (.int (p1)), some (.int (p2)), some (.int (l3)), some (.int (l4)), none] [] am_YY g w := by
  unfold f_X8_cut_79 at hf
  refine am_b1 C0 am_YYk (pc := 79) (pc2 := 80) [(.iconst 1, 0, 0, .int 1)] (L := [some (.ref 26), some (.int (p1)), some (.int (p2)), some (.int (l3)), some (.int (l4)), none]) (st := []) (L' := [some (.ref 26), some (.int (p1)), some (.int (p2)), some (.int (l3)), some (.int (l4)), none]) (st' := [.int ((1 : Int32))]) (g' := g) (w' := w) (cl := []) (by decide +kernel) rfl trivial ?_
  refine am_goto C0 (off := 4) (tgt := 84) (by decide +kernel) ?_
  exact B_X8_cut_84 x C0 hR w F p1 p2 R _ hk32 (l3) (l4) ((1 : Int32)) (g) hf
def f_X8_cut_83 (F : Nat) (p1 : Int32) (p2 : Int32) (k32 : Int32 → Int32 → am_G → Option (Int32 × am_G)) (l3 : Int32) (l4 : Int32) (g : am_G) : Option (Int32 × am_G) :=
  f_X8_cut_84 F p1 p2 k32 (l3) (l4) ((0 : Int32)) (g)
set_option maxRecDepth 20000 in
theorem B_X8_cut_83 (x : am_X) (C0 : am_Cm x 8 cX8_cut 6 (some .int)) (hR : am_R x = rm_X8_cut) (w : am_J) (F : Nat) (p1 : Int32) (p2 : Int32) (R : Int32 × am_G) (k32 : Int32 → Int32 → am_G → Option (Int32 × am_G)) (hk32 : ∀ (l3 : Int32) (l4 : Int32) (g : am_G), k32 l3 l4 g = some R → am_Ev x 6 (0, 0) (am_Q x (0, 0) (some (.int R.1)) am_YY (R.2) w) 32 [some (.ref 26), some (.int (p1)), some (.int (p2)), some (.int (l3)), some (.int (l4)), none] [] am_YY g w) (l3 : Int32) (l4 : Int32) (g : am_G) (hf : f_X8_cut_83 F p1 p2 k32 l3 l4 g = some R) : am_Ev x 6 (0, 0) (am_Q x (0, 0) (some (.int R.1)) am_YY (R.2) w) 83 [some (.ref 26), some (.int (p1)), some (.int (p2)), some (.int (l3)), some (.int (l4)), none] [] am_YY g w := by
  unfold f_X8_cut_83 at hf
  refine am_b1 C0 am_YYk (pc := 83) (pc2 := 84) [(.iconst 0, 0, 0, .int 0)] (L := [some (.ref 26), some (.int (p1)), some (.int (p2)), some (.int (l3)), some (.int (l4)), none]) (st := []) (L' := [some (.ref 26), some (.int (p1)), some (.int (p2)), some (.int (l3)), some (.int (l4)), none]) (st' := [.int ((0 : Int32))]) (g' := g) (w' := w) (cl := []) (by decide +kernel) rfl trivial ?_
  exact B_X8_cut_84 x C0 hR w F p1 p2 R _ hk32 (l3) (l4) ((0 : Int32)) (g) hf
def f_X8_cut_32 (F : Nat) (p1 : Int32) (p2 : Int32)  : Nat → Int32 → Int32 → am_G → Option (Int32 × am_G)
  | 0, _, _, _ => none
  | n + 1, l3, l4, g =>
    if ((1 : Int32) <<< ((g 26 0) &&& 31)) ≤ l4 then
      some (l3, g)
    else
      (f_X8_has l4 p1).bind fun q4 =>
        if q4 = 0 then
          (f_X8_has l4 p2).bind fun q5 =>
            if q5 = 0 then
              if l3 = (-9 : Int32) then
                f_X8_cut_79 F p1 p2 (fun l3 l4 g => f_X8_cut_32 F p1 p2 n l3 l4 g) (l3) (l4) (g)
              else
                (f_X8_ones F l4).bind fun q6 =>
                  (f_X8_ones F l3).bind fun q7 =>
                    if q7 ≤ q6 then
                      f_X8_cut_83 F p1 p2 (fun l3 l4 g => f_X8_cut_32 F p1 p2 n l3 l4 g) (l3) (l4) (g)
                    else
                      f_X8_cut_79 F p1 p2 (fun l3 l4 g => f_X8_cut_32 F p1 p2 n l3 l4 g) (l3) (l4) (g)
            else
              f_X8_cut_83 F p1 p2 (fun l3 l4 g => f_X8_cut_32 F p1 p2 n l3 l4 g) (l3) (l4) (g)
        else
          f_X8_cut_83 F p1 p2 (fun l3 l4 g => f_X8_cut_32 F p1 p2 n l3 l4 g) (l3) (l4) (g)
set_option maxRecDepth 20000 in
theorem B_X8_cut_32 (x : am_X) (C0 : am_Cm x 8 cX8_cut 6 (some .int)) (hR : am_R x = rm_X8_cut) (w : am_J) (F : Nat) (p1 : Int32) (p2 : Int32) (R : Int32 × am_G)   : ∀ (n : Nat) (l3 : Int32) (l4 : Int32) (g : am_G), f_X8_cut_32 F p1 p2 n l3 l4 g = some R → am_Ev x 6 (0, 0) (am_Q x (0, 0) (some (.int R.1)) am_YY (R.2) w) 32 [some (.ref 26), some (.int (p1)), some (.int (p2)), some (.int (l3)), some (.int (l4)), none] [] am_YY g w := by
  intro n
  induction n with
  | zero => intro l3 l4 g hf; cases hf
  | succ n ih =>
    intro l3 l4 g hf
    rw [f_X8_cut_32.eq_2] at hf
    refine am_b1 C0 am_YYk (pc := 32) (pc2 := 40) [(.iload 4, 0, 0, .null), (.iconst 1, 0, 0, .int 1), (.aload_n 0, 0, 0, .null), (.getfield 111, 8, 0, .null), (.ishl, 0, 0, .null)] (L := [some (.ref 26), some (.int (p1)), some (.int (p2)), some (.int (l3)), some (.int (l4)), none]) (st := []) (L' := [some (.ref 26), some (.int (p1)), some (.int (p2)), some (.int (l3)), some (.int (l4)), none]) (st' := [.int ((1 : Int32) <<< ((g 26 0) &&& 31)), .int (l4)]) (g' := g) (w' := w) (cl := []) (by decide +kernel) rfl trivial ?_
    refine am_icmp_ge C0 (off := 81) (tgt := 121) (by decide +kernel) (fun hc12 => ?_) (fun hc12 => ?_)
    · rw [if_pos hc12] at hf
      refine am_b1 C0 am_YYk (pc := 121) (pc2 := 122) [(.iload_n 3, 0, 0, .null)] (L := [some (.ref 26), some (.int (p1)), some (.int (p2)), some (.int (l3)), some (.int (l4)), none]) (st := []) (L' := [some (.ref 26), some (.int (p1)), some (.int (p2)), some (.int (l3)), some (.int (l4)), none]) (st' := [.int (l3)]) (g' := g) (w' := w) (cl := []) (by decide +kernel) rfl trivial ?_
      cases hf
      exact am_iret C0 (by decide +kernel)
    · rw [if_neg hc12] at hf
      refine am_b1 C0 am_YYk (pc := 43) (pc2 := 46) [(.iload 4, 0, 0, .null), (.iload_n 1, 0, 0, .null)] (L := [some (.ref 26), some (.int (p1)), some (.int (p2)), some (.int (l3)), some (.int (l4)), none]) (st := []) (L' := [some (.ref 26), some (.int (p1)), some (.int (p2)), some (.int (l3)), some (.int (l4)), none]) (st' := [.int (p1), .int (l4)]) (g' := g) (w' := w) (cl := []) (by decide +kernel) rfl trivial ?_
      obtain ⟨q4, hq4, hf⟩ := Option.bind_eq_some_iff.mp hf
      refine am_callS (mi := mi_X8_has) (rm := rm_X8_has) [.int (l4), .int (p1)] C0.1 cv_8_80 (M_X8_has _ g w l4 p1 _ hq4) (by rw [hR]; rfl) rfl rfl (Nat.le_of_ble_eq_true rfl) (by decide +kernel) ?_
      refine am_if_ne C0 (off := 34) (tgt := 83) (by decide +kernel) (fun hc11 => ?_) (fun hc11 => ?_)
      · rw [if_neg hc11] at hf
        exact B_X8_cut_83 x C0 hR w F p1 p2 R _ (fun l3 l4 g hf => ih l3 l4 g hf) (l3) (l4) (g) hf
      · rw [if_pos hc11] at hf
        refine am_b1 C0 am_YYk (pc := 52) (pc2 := 55) [(.iload 4, 0, 0, .null), (.iload_n 2, 0, 0, .null)] (L := [some (.ref 26), some (.int (p1)), some (.int (p2)), some (.int (l3)), some (.int (l4)), none]) (st := []) (L' := [some (.ref 26), some (.int (p1)), some (.int (p2)), some (.int (l3)), some (.int (l4)), none]) (st' := [.int (p2), .int (l4)]) (g' := g) (w' := w) (cl := []) (by decide +kernel) rfl trivial ?_
        obtain ⟨q5, hq5, hf⟩ := Option.bind_eq_some_iff.mp hf
        refine am_callS (mi := mi_X8_has) (rm := rm_X8_has) [.int (l4), .int (p2)] C0.1 cv_8_80 (M_X8_has _ g w l4 p2 _ hq5) (by rw [hR]; rfl) rfl rfl (Nat.le_of_ble_eq_true rfl) (by decide +kernel) ?_
        refine am_if_ne C0 (off := 25) (tgt := 83) (by decide +kernel) (fun hc10 => ?_) (fun hc10 => ?_)
        · rw [if_neg hc10] at hf
          exact B_X8_cut_83 x C0 hR w F p1 p2 R _ (fun l3 l4 g hf => ih l3 l4 g hf) (l3) (l4) (g) hf
        · rw [if_pos hc10] at hf
          refine am_b1 C0 am_YYk (pc := 61) (pc2 := 64) [(.iload_n 3, 0, 0, .null), (.bipush (-9), 0, 0, .int (-9))] (L := [some (.ref 26), some (.int (p1)), some (.int (p2)), some (.int (l3)), some (.int (l4)), none]) (st := []) (L' := [some (.ref 26), some (.int (p1)), some (.int (p2)), some (.int (l3)), some (.int (l4)), none]) (st' := [.int ((-9 : Int32)), .int (l3)]) (g' := g) (w' := w) (cl := []) (by decide +kernel) rfl trivial ?_
          refine am_icmp_eq C0 (off := 15) (tgt := 79) (by decide +kernel) (fun hc9 => ?_) (fun hc9 => ?_)
          · rw [if_pos hc9] at hf
            exact B_X8_cut_79 x C0 hR w F p1 p2 R _ (fun l3 l4 g hf => ih l3 l4 g hf) (l3) (l4) (g) hf
          · rw [if_neg hc9] at hf
            refine am_b1 C0 am_YYk (pc := 67) (pc2 := 69) [(.iload 4, 0, 0, .null)] (L := [some (.ref 26), some (.int (p1)), some (.int (p2)), some (.int (l3)), some (.int (l4)), none]) (st := []) (L' := [some (.ref 26), some (.int (p1)), some (.int (p2)), some (.int (l3)), some (.int (l4)), none]) (st' := [.int (l4)]) (g' := g) (w' := w) (cl := []) (by decide +kernel) rfl trivial ?_
            obtain ⟨q6, hq6, hf⟩ := Option.bind_eq_some_iff.mp hf
            refine am_callS (mi := mi_X8_ones) (rm := rm_X8_ones) [.int (l4)] C0.1 cv_8_173 (M_X8_ones _ F g w l4 _ hq6) (by rw [hR]; rfl) rfl rfl (Nat.le_of_ble_eq_true rfl) (by decide +kernel) ?_
            refine am_b1 C0 am_YYk (pc := 72) (pc2 := 73) [(.iload_n 3, 0, 0, .null)] (L := [some (.ref 26), some (.int (p1)), some (.int (p2)), some (.int (l3)), some (.int (l4)), none]) (st := [.int (q6)]) (L' := [some (.ref 26), some (.int (p1)), some (.int (p2)), some (.int (l3)), some (.int (l4)), none]) (st' := [.int (l3), .int (q6)]) (g' := g) (w' := w) (cl := []) (by decide +kernel) rfl trivial ?_
            obtain ⟨q7, hq7, hf⟩ := Option.bind_eq_some_iff.mp hf
            refine am_callS (mi := mi_X8_ones) (rm := rm_X8_ones) [.int (l3)] C0.1 cv_8_173 (M_X8_ones _ F g w l3 _ hq7) (by rw [hR]; rfl) rfl rfl (Nat.le_of_ble_eq_true rfl) (by decide +kernel) ?_
            refine am_icmp_ge C0 (off := 7) (tgt := 83) (by decide +kernel) (fun hc8 => ?_) (fun hc8 => ?_)
            · rw [if_pos hc8] at hf
              exact B_X8_cut_83 x C0 hR w F p1 p2 R _ (fun l3 l4 g hf => ih l3 l4 g hf) (l3) (l4) (g) hf
            · rw [if_neg hc8] at hf
              exact B_X8_cut_79 x C0 hR w F p1 p2 R _ (fun l3 l4 g hf => ih l3 l4 g hf) (l3) (l4) (g) hf
def f_X8_cut (F : Nat) (g : am_G) (p1 : Int32) (p2 : Int32) : Option (Int32 × am_G) :=
  (f_X8_isWindow g p1).bind fun q13 =>
    if q13 = 0 then
      some ((-1 : Int32), g)
    else
      (f_X8_isWindow g p2).bind fun q14 =>
        if q14 = 0 then
          some ((-1 : Int32), g)
        else
          if p1 = p2 then
            some ((-2 : Int32), g)
          else
            f_X8_cut_32 F p1 p2 F ((-9 : Int32)) ((0 : Int32)) (g)
set_option maxRecDepth 20000 in
theorem M_X8_cut (l : Launch) (F : Nat) (g : am_G) (w : am_J) (p1 : Int32) (p2 : Int32) (R : Int32 × am_G) (hf : f_X8_cut F g p1 p2 = some R) : am_Met l mi_X8_cut rm_X8_cut [.ref 26, .int p1, .int p2] am_YY g w (some (.int R.1)) am_YY (R.2) w := by
  refine am_met (own := 8) [some (.ref 26), some (.int (p1)), some (.int (p2)), none, none, none] (by decide) rfl rfl (by first | decide | exact Nat.le_of_ble_eq_true rfl) (fun x C0 hR hl hnm => ?_)
  unfold f_X8_cut at hf
  refine am_b1 C0 am_YYk (pc := 0) (pc2 := 2) [(.aload_n 0, 0, 0, .null), (.iload_n 1, 0, 0, .null)] (L := [some (.ref 26), some (.int (p1)), some (.int (p2)), none, none, none]) (st := []) (L' := [some (.ref 26), some (.int (p1)), some (.int (p2)), none, none, none]) (st' := [.int (p1), .ref 26]) (g' := g) (w' := w) (cl := []) (by decide +kernel) rfl trivial ?_
  obtain ⟨q13, hq13, hf⟩ := Option.bind_eq_some_iff.mp hf
  refine am_callV (mi := mi_X8_isWindow) (rm := rm_X8_isWindow) [.int (p1)] C0.1 am_YYl cv_8_125 (M_X8_isWindow _ g w p1 _ hq13) (ci := 8) rfl (by decide) rfl (by rw [hR]; rfl) rfl rfl (Nat.le_of_ble_eq_true rfl) (by decide +kernel) ?_
  refine am_if_eq C0 (off := 11) (tgt := 16) (by decide +kernel) (fun hc17 => ?_) (fun hc17 => ?_)
  · rw [if_pos hc17] at hf
    refine am_b1 C0 am_YYk (pc := 16) (pc2 := 17) [(.iconst (-1), 0, 0, .int (-1))] (L := [some (.ref 26), some (.int (p1)), some (.int (p2)), none, none, none]) (st := []) (L' := [some (.ref 26), some (.int (p1)), some (.int (p2)), none, none, none]) (st' := [.int ((-1 : Int32))]) (g' := g) (w' := w) (cl := []) (by decide +kernel) rfl trivial ?_
    cases hf
    exact am_iret C0 (by decide +kernel)
  · rw [if_neg hc17] at hf
    refine am_b1 C0 am_YYk (pc := 8) (pc2 := 10) [(.aload_n 0, 0, 0, .null), (.iload_n 2, 0, 0, .null)] (L := [some (.ref 26), some (.int (p1)), some (.int (p2)), none, none, none]) (st := []) (L' := [some (.ref 26), some (.int (p1)), some (.int (p2)), none, none, none]) (st' := [.int (p2), .ref 26]) (g' := g) (w' := w) (cl := []) (by decide +kernel) rfl trivial ?_
    obtain ⟨q14, hq14, hf⟩ := Option.bind_eq_some_iff.mp hf
    refine am_callV (mi := mi_X8_isWindow) (rm := rm_X8_isWindow) [.int (p2)] C0.1 am_YYl cv_8_125 (M_X8_isWindow _ g w p2 _ hq14) (ci := 8) rfl (by decide) rfl (by rw [hR]; rfl) rfl rfl (Nat.le_of_ble_eq_true rfl) (by decide +kernel) ?_
    refine am_if_ne C0 (off := 5) (tgt := 18) (by decide +kernel) (fun hc16 => ?_) (fun hc16 => ?_)
    · rw [if_neg hc16] at hf
      refine am_b1 C0 am_YYk (pc := 18) (pc2 := 20) [(.iload_n 1, 0, 0, .null), (.iload_n 2, 0, 0, .null)] (L := [some (.ref 26), some (.int (p1)), some (.int (p2)), none, none, none]) (st := []) (L' := [some (.ref 26), some (.int (p1)), some (.int (p2)), none, none, none]) (st' := [.int (p2), .int (p1)]) (g' := g) (w' := w) (cl := []) (by decide +kernel) rfl trivial ?_
      refine am_icmp_ne C0 (off := 6) (tgt := 26) (by decide +kernel) (fun hc15 => ?_) (fun hc15 => ?_)
      · rw [if_neg hc15] at hf
        refine am_b1 C0 am_YYk (pc := 26) (pc2 := 32) [(.bipush (-9), 0, 0, .int (-9)), (.istore_n 3, 0, 0, .null), (.iconst 0, 0, 0, .int 0), (.istore 4, 0, 0, .null)] (L := [some (.ref 26), some (.int (p1)), some (.int (p2)), none, none, none]) (st := []) (L' := [some (.ref 26), some (.int (p1)), some (.int (p2)), some (.int ((-9 : Int32))), some (.int ((0 : Int32))), none]) (st' := []) (g' := g) (w' := w) (cl := []) (by decide +kernel) rfl trivial ?_
        refine B_X8_cut_32 x C0 hR w F p1 p2 R   F ((-9 : Int32)) ((0 : Int32)) (g) hf
      · rw [if_pos hc15] at hf
        refine am_b1 C0 am_YYk (pc := 23) (pc2 := 25) [(.bipush (-2), 0, 0, .int (-2))] (L := [some (.ref 26), some (.int (p1)), some (.int (p2)), none, none, none]) (st := []) (L' := [some (.ref 26), some (.int (p1)), some (.int (p2)), none, none, none]) (st' := [.int ((-2 : Int32))]) (g' := g) (w' := w) (cl := []) (by decide +kernel) rfl trivial ?_
        cases hf
        exact am_iret C0 (by decide +kernel)
    · rw [if_pos hc16] at hf
      refine am_b1 C0 am_YYk (pc := 16) (pc2 := 17) [(.iconst (-1), 0, 0, .int (-1))] (L := [some (.ref 26), some (.int (p1)), some (.int (p2)), none, none, none]) (st := []) (L' := [some (.ref 26), some (.int (p1)), some (.int (p2)), none, none, none]) (st' := [.int ((-1 : Int32))]) (g' := g) (w' := w) (cl := []) (by decide +kernel) rfl trivial ?_
      cases hf
      exact am_iret C0 (by decide +kernel)
/-! ShutterTownModel.tenTo(I)J at () -/
def f_X8_tenTo_4 (F : Nat) (p0 : Int32)  : Nat → Int64 → Int32 → Option (Int64)
  | 0, _, _ => none
  | n + 1, l1, l3 =>
    if p0 ≤ l3 then
      some (l1)
    else
      f_X8_tenTo_4 F p0 n (l1 * (10 : Int64)) (l3 + (1 : Int32))
set_option maxRecDepth 20000 in
theorem B_X8_tenTo_4 (x : am_X) (C0 : am_Cm x 8 cX8_tenTo 4 (some .long)) (hR : am_R x = rm_X8_tenTo) (g : am_G) (w : am_J) (F : Nat) (p0 : Int32) (R : Int64)   : ∀ (n : Nat) (l1 : Int64) (l3 : Int32), f_X8_tenTo_4 F p0 n l1 l3 = some R → am_Ev x 4 (0, 0) (am_Q x (0, 0) (some (.long R)) am_YY g w) 4 [some (.int (p0)), some (.long (l1)), none, some (.int (l3))] [] am_YY g w := by
  intro n
  induction n with
  | zero => intro l1 l3 hf; cases hf
  | succ n ih =>
    intro l1 l3 hf
    rw [f_X8_tenTo_4.eq_2] at hf
    refine am_b1 C0 am_YYk (pc := 4) (pc2 := 6) [(.iload_n 3, 0, 0, .null), (.iload_n 0, 0, 0, .null)] (L := [some (.int (p0)), some (.long (l1)), none, some (.int (l3))]) (st := []) (L' := [some (.int (p0)), some (.long (l1)), none, some (.int (l3))]) (st' := [.int (p0), .int (l3)]) (g' := g) (w' := w) (cl := []) (by decide +kernel) rfl trivial ?_
    refine am_icmp_ge C0 (off := 15) (tgt := 21) (by decide +kernel) (fun hc1 => ?_) (fun hc1 => ?_)
    · rw [if_pos hc1] at hf
      refine am_b1 C0 am_YYk (pc := 21) (pc2 := 22) [(.lload_n 1, 0, 0, .null)] (L := [some (.int (p0)), some (.long (l1)), none, some (.int (l3))]) (st := []) (L' := [some (.int (p0)), some (.long (l1)), none, some (.int (l3))]) (st' := [.long (l1)]) (g' := g) (w' := w) (cl := []) (by decide +kernel) rfl trivial ?_
      cases hf
      exact am_lret C0 (by decide +kernel)
    · rw [if_neg hc1] at hf
      refine am_b1 C0 am_YYk (pc := 9) (pc2 := 18) [(.lload_n 1, 0, 0, .null), (.ldc2_w 179, 0, 0, .long 10), (.lmul, 0, 0, .null), (.lstore_n 1, 0, 0, .null), (.iinc 3 1, 0, 0, .int 1)] (L := [some (.int (p0)), some (.long (l1)), none, some (.int (l3))]) (st := []) (L' := [some (.int (p0)), some (.long (l1 * (10 : Int64))), none, some (.int (l3 + (1 : Int32)))]) (st' := []) (g' := g) (w' := w) (cl := []) (by decide +kernel) rfl trivial ?_
      refine am_goto C0 (off := (-14)) (tgt := 4) (by decide +kernel) ?_
      exact ih (l1 * (10 : Int64)) (l3 + (1 : Int32)) hf
def f_X8_tenTo (F : Nat) (p0 : Int32) : Option (Int64) :=
  f_X8_tenTo_4 F p0 F ((1 : Int64)) ((0 : Int32))
set_option maxRecDepth 20000 in
theorem M_X8_tenTo (l : Launch) (F : Nat) (g : am_G) (w : am_J) (p0 : Int32) (R : Int64) (hf : f_X8_tenTo F p0 = some R) : am_Met l mi_X8_tenTo rm_X8_tenTo [.int p0] am_YY g w (some (.long R)) am_YY g w := by
  refine am_met (own := 8) [some (.int (p0)), none, none, none] (by decide) rfl rfl (by first | decide | exact Nat.le_of_ble_eq_true rfl) (fun x C0 hR hl hnm => ?_)
  unfold f_X8_tenTo at hf
  refine am_b1 C0 am_YYk (pc := 0) (pc2 := 4) [(.lconst 1, 0, 0, .long 1), (.lstore_n 1, 0, 0, .null), (.iconst 0, 0, 0, .int 0), (.istore_n 3, 0, 0, .null)] (L := [some (.int (p0)), none, none, none]) (st := []) (L' := [some (.int (p0)), some (.long ((1 : Int64))), none, some (.int ((0 : Int32)))]) (st' := []) (g' := g) (w' := w) (cl := []) (by decide +kernel) rfl trivial ?_
  refine B_X8_tenTo_4 x C0 hR g w F p0 R   F ((1 : Int64)) ((0 : Int32)) hf
/-! ShutterTownModel.layTrial()V at (26,) -/
def f_X8_layTrial_2 (F : Nat)  : Nat → Int32 → am_G → Option (am_G)
  | 0, _, _ => none
  | n + 1, l1, g =>
    if (13 : Int32) ≤ l1 then
      some (g)
    else
      if am_in l1 26 then
        if am_in ((13 : Int32) + l1) 26 then
          f_X8_layTrial_2 F n (l1 + (1 : Int32)) (am_u g 32 (Int32.toNatClampNeg ((13 : Int32) + l1)) (g 32 (Int32.toNatClampNeg l1)))
        else none
      else none
set_option maxRecDepth 20000 in
theorem B_X8_layTrial_2 (x : am_X) (C0 : am_Cm x 8 cX8_layTrial 2 none) (hR : am_R x = rm_X8_layTrial) (w : am_J) (F : Nat) (R : am_G)   : ∀ (n : Nat) (l1 : Int32) (g : am_G), f_X8_layTrial_2 F n l1 g = some R → am_Ev x 2 (0, 0) (am_Q x (0, 0) none am_YY R w) 2 [some (.ref 26), some (.int (l1))] [] am_YY g w := by
  intro n
  induction n with
  | zero => intro l1 g hf; cases hf
  | succ n ih =>
    intro l1 g hf
    rw [f_X8_layTrial_2.eq_2] at hf
    refine am_b1 C0 am_YYk (pc := 2) (pc2 := 5) [(.iload_n 1, 0, 0, .null), (.bipush 13, 0, 0, .int 13)] (L := [some (.ref 26), some (.int (l1))]) (st := []) (L' := [some (.ref 26), some (.int (l1))]) (st' := [.int ((13 : Int32)), .int (l1)]) (g' := g) (w' := w) (cl := []) (by decide +kernel) rfl trivial ?_
    refine am_icmp_ge C0 (off := 24) (tgt := 29) (by decide +kernel) (fun hc3 => ?_) (fun hc3 => ?_)
    · rw [if_pos hc3] at hf
      cases hf
      exact am_vret C0 (by decide +kernel)
    · rw [if_neg hc3] at hf
      obtain ⟨hg1, hf⟩ := am_g hf
      obtain ⟨hg2, hf⟩ := am_g hf
      refine am_b1 C0 am_YYk (pc := 8) (pc2 := 26) [(.aload_n 0, 0, 0, .null), (.getfield 25, 8, 7, .null), (.bipush 13, 0, 0, .int 13), (.iload_n 1, 0, 0, .null), (.iadd, 0, 0, .null), (.aload_n 0, 0, 0, .null), (.getfield 25, 8, 7, .null), (.iload_n 1, 0, 0, .null), (.iaload, 0, 0, .null), (.iastore, 0, 0, .null), (.iinc 1 1, 0, 0, .int 1)] (L := [some (.ref 26), some (.int (l1))]) (st := []) (L' := [some (.ref 26), some (.int (l1 + (1 : Int32)))]) (st' := []) (g' := am_u g 32 (Int32.toNatClampNeg ((13 : Int32) + l1)) (g 32 (Int32.toNatClampNeg l1))) (w' := w) (cl := [am_in l1 26, am_in ((13 : Int32) + l1) 26]) (by decide +kernel) rfl ⟨hg1, hg2, trivial⟩ ?_
      refine am_goto C0 (off := (-24)) (tgt := 2) (by decide +kernel) ?_
      exact ih (l1 + (1 : Int32)) (am_u g 32 (Int32.toNatClampNeg ((13 : Int32) + l1)) (g 32 (Int32.toNatClampNeg l1))) hf
def f_X8_layTrial (F : Nat) (g : am_G) : Option (am_G) :=
  f_X8_layTrial_2 F F ((0 : Int32)) (g)
set_option maxRecDepth 20000 in
theorem M_X8_layTrial (l : Launch) (F : Nat) (g : am_G) (w : am_J)  (R : am_G) (hf : f_X8_layTrial F g = some R) : am_Met l mi_X8_layTrial rm_X8_layTrial [.ref 26] am_YY g w none am_YY R w := by
  refine am_met (own := 8) [some (.ref 26), none] (by decide) rfl rfl (by first | decide | exact Nat.le_of_ble_eq_true rfl) (fun x C0 hR hl hnm => ?_)
  unfold f_X8_layTrial at hf
  refine am_b1 C0 am_YYk (pc := 0) (pc2 := 2) [(.iconst 0, 0, 0, .int 0), (.istore_n 1, 0, 0, .null)] (L := [some (.ref 26), none]) (st := []) (L' := [some (.ref 26), some (.int ((0 : Int32)))]) (st' := []) (g' := g) (w' := w) (cl := []) (by decide +kernel) rfl trivial ?_
  refine B_X8_layTrial_2 x C0 hR w F R   F ((0 : Int32)) (g) hf
/-! ShutterTownModel.tryMove(II)Z at (26,) -/
def f_X8_tryMove_48 (p1 : Int32) (p2 : Int32)  (s0 : Int32) (g : am_G) : Option (Int32 × am_G) :=
  if s0 = 0 then
    if s0 = 0 ∨ s0 = 1 then
      some (s0, g)
    else none
  else
    if am_in ((13 : Int32) + p1) 26 then
      if s0 = 0 ∨ s0 = 1 then
        some (s0, am_u g 32 (Int32.toNatClampNeg ((13 : Int32) + p1)) p2)
      else none
    else none
set_option maxRecDepth 20000 in
theorem B_X8_tryMove_48 (x : am_X) (C0 : am_Cm x 8 cX8_tryMove 4 (some .boolean)) (hR : am_R x = rm_X8_tryMove) (w : am_J) (p1 : Int32) (p2 : Int32) (R : Int32 × am_G)   (s0 : Int32) (g : am_G) (hf : f_X8_tryMove_48 p1 p2 s0 g = some R) : am_Ev x 4 (0, 0) (am_Q x (0, 0) (some (.int R.1)) am_YY (R.2) w) 48 [some (.ref 26), some (.int (p1)), some (.int (p2)), none] [.int (s0)] am_YY g w := by
  unfold f_X8_tryMove_48 at hf
  refine am_b1 C0 am_YYk (pc := 48) (pc2 := 50) [(.istore_n 3, 0, 0, .null), (.iload_n 3, 0, 0, .null)] (L := [some (.ref 26), some (.int (p1)), some (.int (p2)), none]) (st := [.int (s0)]) (L' := [some (.ref 26), some (.int (p1)), some (.int (p2)), some (.int (s0))]) (st' := [.int (s0)]) (g' := g) (w' := w) (cl := []) (by decide +kernel) rfl trivial ?_
  refine am_if_eq C0 (off := 13) (tgt := 63) (by decide +kernel) (fun hc4 => ?_) (fun hc4 => ?_)
  · rw [if_pos hc4] at hf
    refine am_b1 C0 am_YYk (pc := 63) (pc2 := 64) [(.iload_n 3, 0, 0, .null)] (L := [some (.ref 26), some (.int (p1)), some (.int (p2)), some (.int (s0))]) (st := []) (L' := [some (.ref 26), some (.int (p1)), some (.int (p2)), some (.int (s0))]) (st' := [.int (s0)]) (g' := g) (w' := w) (cl := []) (by decide +kernel) rfl trivial ?_
    obtain ⟨hz1, hf⟩ := am_g hf
    cases hf
    exact am_zret C0 (by decide +kernel) hz1
  · rw [if_neg hc4] at hf
    obtain ⟨hg2, hf⟩ := am_g hf
    refine am_b1 C0 am_YYk (pc := 53) (pc2 := 64) [(.aload_n 0, 0, 0, .null), (.getfield 25, 8, 7, .null), (.bipush 13, 0, 0, .int 13), (.iload_n 1, 0, 0, .null), (.iadd, 0, 0, .null), (.iload_n 2, 0, 0, .null), (.iastore, 0, 0, .null), (.iload_n 3, 0, 0, .null)] (L := [some (.ref 26), some (.int (p1)), some (.int (p2)), some (.int (s0))]) (st := []) (L' := [some (.ref 26), some (.int (p1)), some (.int (p2)), some (.int (s0))]) (st' := [.int (s0)]) (g' := am_u g 32 (Int32.toNatClampNeg ((13 : Int32) + p1)) p2) (w' := w) (cl := [am_in ((13 : Int32) + p1) 26]) (by decide +kernel) rfl ⟨hg2, trivial⟩ ?_
    obtain ⟨hz3, hf⟩ := am_g hf
    cases hf
    exact am_zret C0 (by decide +kernel) hz3
def f_X8_tryMove_47 (p1 : Int32) (p2 : Int32)  (g : am_G) : Option (Int32 × am_G) :=
  f_X8_tryMove_48 p1 p2 ((0 : Int32)) (g)
set_option maxRecDepth 20000 in
theorem B_X8_tryMove_47 (x : am_X) (C0 : am_Cm x 8 cX8_tryMove 4 (some .boolean)) (hR : am_R x = rm_X8_tryMove) (w : am_J) (p1 : Int32) (p2 : Int32) (R : Int32 × am_G)   (g : am_G) (hf : f_X8_tryMove_47 p1 p2 g = some R) : am_Ev x 4 (0, 0) (am_Q x (0, 0) (some (.int R.1)) am_YY (R.2) w) 47 [some (.ref 26), some (.int (p1)), some (.int (p2)), none] [] am_YY g w := by
  unfold f_X8_tryMove_47 at hf
  refine am_b1 C0 am_YYk (pc := 47) (pc2 := 48) [(.iconst 0, 0, 0, .int 0)] (L := [some (.ref 26), some (.int (p1)), some (.int (p2)), none]) (st := []) (L' := [some (.ref 26), some (.int (p1)), some (.int (p2)), none]) (st' := [.int ((0 : Int32))]) (g' := g) (w' := w) (cl := []) (by decide +kernel) rfl trivial ?_
  exact B_X8_tryMove_48 x C0 hR w p1 p2 R  ((0 : Int32)) (g) hf
def f_X8_tryMove (g : am_G) (p1 : Int32) (p2 : Int32) : Option (Int32 × am_G) :=
  (f_X8_isWindow g p1).bind fun q5 =>
    if q5 = 0 then
      f_X8_tryMove_47 p1 p2 (g)
    else
      (f_X8_in (Int32.toInt64 p2) (0 : Int64) (3 : Int64)).bind fun q6 =>
        if q6 = 0 then
          f_X8_tryMove_47 p1 p2 (g)
        else
          if am_in p1 6 then
            if (g 31 (Int32.toNatClampNeg p1)) = (3 : Int32) then
              f_X8_tryMove_47 p1 p2 (g)
            else
              if am_in ((13 : Int32) + p1) 26 then
                if (g 32 (Int32.toNatClampNeg ((13 : Int32) + p1))) = p2 then
                  f_X8_tryMove_47 p1 p2 (g)
                else
                  f_X8_tryMove_48 p1 p2 ((1 : Int32)) (g)
              else none
          else none
set_option maxRecDepth 20000 in
theorem M_X8_tryMove (l : Launch) (g : am_G) (w : am_J) (p1 : Int32) (p2 : Int32) (R : Int32 × am_G) (hf : f_X8_tryMove g p1 p2 = some R) : am_Met l mi_X8_tryMove rm_X8_tryMove [.ref 26, .int p1, .int p2] am_YY g w (some (.int R.1)) am_YY (R.2) w := by
  refine am_met (own := 8) [some (.ref 26), some (.int (p1)), some (.int (p2)), none] (by decide) rfl rfl (by first | decide | exact Nat.le_of_ble_eq_true rfl) (fun x C0 hR hl hnm => ?_)
  unfold f_X8_tryMove at hf
  refine am_b1 C0 am_YYk (pc := 0) (pc2 := 2) [(.aload_n 0, 0, 0, .null), (.iload_n 1, 0, 0, .null)] (L := [some (.ref 26), some (.int (p1)), some (.int (p2)), none]) (st := []) (L' := [some (.ref 26), some (.int (p1)), some (.int (p2)), none]) (st' := [.int (p1), .ref 26]) (g' := g) (w' := w) (cl := []) (by decide +kernel) rfl trivial ?_
  obtain ⟨q5, hq5, hf⟩ := Option.bind_eq_some_iff.mp hf
  refine am_callV (mi := mi_X8_isWindow) (rm := rm_X8_isWindow) [.int (p1)] C0.1 am_YYl cv_8_125 (M_X8_isWindow _ g w p1 _ hq5) (ci := 8) rfl (by decide) rfl (by rw [hR]; rfl) rfl rfl (Nat.le_of_ble_eq_true rfl) (by decide +kernel) ?_
  refine am_if_eq C0 (off := 42) (tgt := 47) (by decide +kernel) (fun hc12 => ?_) (fun hc12 => ?_)
  · rw [if_pos hc12] at hf
    exact B_X8_tryMove_47 x C0 hR w p1 p2 R  (g) hf
  · rw [if_neg hc12] at hf
    refine am_b1 C0 am_YYk (pc := 8) (pc2 := 14) [(.iload_n 2, 0, 0, .null), (.i2l, 0, 0, .null), (.lconst 0, 0, 0, .long 0), (.ldc2_w 135, 0, 0, .long 3)] (L := [some (.ref 26), some (.int (p1)), some (.int (p2)), none]) (st := []) (L' := [some (.ref 26), some (.int (p1)), some (.int (p2)), none]) (st' := [.long ((3 : Int64)), .long ((0 : Int64)), .long (Int32.toInt64 p2)]) (g' := g) (w' := w) (cl := []) (by decide +kernel) rfl trivial ?_
    obtain ⟨q6, hq6, hf⟩ := Option.bind_eq_some_iff.mp hf
    refine am_callS (mi := mi_X8_in) (rm := rm_X8_in) [.long (Int32.toInt64 p2), .long ((0 : Int64)), .long ((3 : Int64))] C0.1 cv_8_65 (M_X8_in _ g w (Int32.toInt64 p2) (0 : Int64) (3 : Int64) _ hq6) (by rw [hR]; rfl) rfl rfl (Nat.le_of_ble_eq_true rfl) (by decide +kernel) ?_
    refine am_if_eq C0 (off := 30) (tgt := 47) (by decide +kernel) (fun hc11 => ?_) (fun hc11 => ?_)
    · rw [if_pos hc11] at hf
      exact B_X8_tryMove_47 x C0 hR w p1 p2 R  (g) hf
    · rw [if_neg hc11] at hf
      obtain ⟨hg7, hf⟩ := am_g hf
      refine am_b1 C0 am_YYk (pc := 20) (pc2 := 27) [(.aload_n 0, 0, 0, .null), (.getfield 22, 8, 6, .null), (.iload_n 1, 0, 0, .null), (.iaload, 0, 0, .null), (.iconst 3, 0, 0, .int 3)] (L := [some (.ref 26), some (.int (p1)), some (.int (p2)), none]) (st := []) (L' := [some (.ref 26), some (.int (p1)), some (.int (p2)), none]) (st' := [.int ((3 : Int32)), .int (g 31 (Int32.toNatClampNeg p1))]) (g' := g) (w' := w) (cl := [am_in p1 6]) (by decide +kernel) rfl ⟨hg7, trivial⟩ ?_
      refine am_icmp_eq C0 (off := 20) (tgt := 47) (by decide +kernel) (fun hc10 => ?_) (fun hc10 => ?_)
      · rw [if_pos hc10] at hf
        exact B_X8_tryMove_47 x C0 hR w p1 p2 R  (g) hf
      · rw [if_neg hc10] at hf
        obtain ⟨hg8, hf⟩ := am_g hf
        refine am_b1 C0 am_YYk (pc := 30) (pc2 := 40) [(.aload_n 0, 0, 0, .null), (.getfield 25, 8, 7, .null), (.bipush 13, 0, 0, .int 13), (.iload_n 1, 0, 0, .null), (.iadd, 0, 0, .null), (.iaload, 0, 0, .null), (.iload_n 2, 0, 0, .null)] (L := [some (.ref 26), some (.int (p1)), some (.int (p2)), none]) (st := []) (L' := [some (.ref 26), some (.int (p1)), some (.int (p2)), none]) (st' := [.int (p2), .int (g 32 (Int32.toNatClampNeg ((13 : Int32) + p1)))]) (g' := g) (w' := w) (cl := [am_in ((13 : Int32) + p1) 26]) (by decide +kernel) rfl ⟨hg8, trivial⟩ ?_
        refine am_icmp_eq C0 (off := 7) (tgt := 47) (by decide +kernel) (fun hc9 => ?_) (fun hc9 => ?_)
        · rw [if_pos hc9] at hf
          exact B_X8_tryMove_47 x C0 hR w p1 p2 R  (g) hf
        · rw [if_neg hc9] at hf
          refine am_b1 C0 am_YYk (pc := 43) (pc2 := 44) [(.iconst 1, 0, 0, .int 1)] (L := [some (.ref 26), some (.int (p1)), some (.int (p2)), none]) (st := []) (L' := [some (.ref 26), some (.int (p1)), some (.int (p2)), none]) (st' := [.int ((1 : Int32))]) (g' := g) (w' := w) (cl := []) (by decide +kernel) rfl trivial ?_
          refine am_goto C0 (off := 4) (tgt := 48) (by decide +kernel) ?_
          exact B_X8_tryMove_48 x C0 hR w p1 p2 R  ((1 : Int32)) (g) hf
/-! ShutterTownModel.alike(I)I at (26,) -/
def f_X8_alike_61 (F : Nat) (g : am_G) (p1 : Int32) (k4 : Int32 → Int32 → Option (Int32)) (l2 : Int32) (l3 : Int32) : Option (Int32) :=
  k4 (l2) (l3 + (1 : Int32))
set_option maxRecDepth 20000 in
theorem B_X8_alike_61 (x : am_X) (C0 : am_Cm x 8 cX8_alike 5 (some .int)) (hR : am_R x = rm_X8_alike) (w : am_J) (F : Nat) (g : am_G) (p1 : Int32) (R : Int32) (k4 : Int32 → Int32 → Option (Int32)) (hk4 : ∀ (l2 : Int32) (l3 : Int32), k4 l2 l3 = some R → am_Ev x 5 (0, 0) (am_Q x (0, 0) (some (.int R)) am_YY g w) 4 [some (.ref 26), some (.int (p1)), some (.int (l2)), some (.int (l3)), none] [] am_YY g w) (l2 : Int32) (l3 : Int32) (hf : f_X8_alike_61 F g p1 k4 l2 l3 = some R) : am_Ev x 5 (0, 0) (am_Q x (0, 0) (some (.int R)) am_YY g w) 61 [some (.ref 26), some (.int (p1)), some (.int (l2)), some (.int (l3)), none] [] am_YY g w := by
  unfold f_X8_alike_61 at hf
  refine am_b1 C0 am_YYk (pc := 61) (pc2 := 64) [(.iinc 3 1, 0, 0, .int 1)] (L := [some (.ref 26), some (.int (p1)), some (.int (l2)), some (.int (l3)), none]) (st := []) (L' := [some (.ref 26), some (.int (p1)), some (.int (l2)), some (.int (l3 + (1 : Int32))), none]) (st' := []) (g' := g) (w' := w) (cl := []) (by decide +kernel) rfl trivial ?_
  refine am_goto C0 (off := (-60)) (tgt := 4) (by decide +kernel) ?_
  exact hk4 (l2) (l3 + (1 : Int32)) hf
def f_X8_alike_53 (F : Nat) (g : am_G) (p1 : Int32) (k15 : Int32 → Int32 → Int32 → Option (Int32)) (k61 : Int32 → Int32 → Option (Int32)) (l3 : Int32) (l4 : Int32) (s0 : Int32) (s1 : Int32) : Option (Int32) :=
  k15 (s0 + s1) (l3) (l4 + (1 : Int32))
set_option maxRecDepth 20000 in
theorem B_X8_alike_53 (x : am_X) (C0 : am_Cm x 8 cX8_alike 5 (some .int)) (hR : am_R x = rm_X8_alike) (w : am_J) (F : Nat) (g : am_G) (p1 : Int32) (R : Int32) (k15 : Int32 → Int32 → Int32 → Option (Int32)) (k61 : Int32 → Int32 → Option (Int32)) (hk15 : ∀ (l2 : Int32) (l3 : Int32) (l4 : Int32), k15 l2 l3 l4 = some R → am_Ev x 5 (0, 0) (am_Q x (0, 0) (some (.int R)) am_YY g w) 15 [some (.ref 26), some (.int (p1)), some (.int (l2)), some (.int (l3)), some (.int (l4))] [] am_YY g w) (hk61 : ∀ (l2 : Int32) (l3 : Int32), k61 l2 l3 = some R → am_Ev x 5 (0, 0) (am_Q x (0, 0) (some (.int R)) am_YY g w) 61 [some (.ref 26), some (.int (p1)), some (.int (l2)), some (.int (l3)), none] [] am_YY g w) (l3 : Int32) (l4 : Int32) (s0 : Int32) (s1 : Int32) (hf : f_X8_alike_53 F g p1 k15 k61 l3 l4 s0 s1 = some R) : am_Ev x 5 (0, 0) (am_Q x (0, 0) (some (.int R)) am_YY g w) 53 [some (.ref 26), some (.int (p1)), none, some (.int (l3)), some (.int (l4))] [.int (s1), .int (s0)] am_YY g w := by
  unfold f_X8_alike_53 at hf
  refine am_b1 C0 am_YYk (pc := 53) (pc2 := 58) [(.iadd, 0, 0, .null), (.istore_n 2, 0, 0, .null), (.iinc 4 1, 0, 0, .int 1)] (L := [some (.ref 26), some (.int (p1)), none, some (.int (l3)), some (.int (l4))]) (st := [.int (s1), .int (s0)]) (L' := [some (.ref 26), some (.int (p1)), some (.int (s0 + s1)), some (.int (l3)), some (.int (l4 + (1 : Int32)))]) (st' := []) (g' := g) (w' := w) (cl := []) (by decide +kernel) rfl trivial ?_
  refine am_goto C0 (off := (-43)) (tgt := 15) (by decide +kernel) ?_
  exact hk15 (s0 + s1) (l3) (l4 + (1 : Int32)) hf
def f_X8_alike_52 (F : Nat) (g : am_G) (p1 : Int32) (k15 : Int32 → Int32 → Int32 → Option (Int32)) (k61 : Int32 → Int32 → Option (Int32)) (l3 : Int32) (l4 : Int32) (s0 : Int32) : Option (Int32) :=
  f_X8_alike_53 F g p1 k15 k61 (l3) (l4) (s0) ((0 : Int32))
set_option maxRecDepth 20000 in
theorem B_X8_alike_52 (x : am_X) (C0 : am_Cm x 8 cX8_alike 5 (some .int)) (hR : am_R x = rm_X8_alike) (w : am_J) (F : Nat) (g : am_G) (p1 : Int32) (R : Int32) (k15 : Int32 → Int32 → Int32 → Option (Int32)) (k61 : Int32 → Int32 → Option (Int32)) (hk15 : ∀ (l2 : Int32) (l3 : Int32) (l4 : Int32), k15 l2 l3 l4 = some R → am_Ev x 5 (0, 0) (am_Q x (0, 0) (some (.int R)) am_YY g w) 15 [some (.ref 26), some (.int (p1)), some (.int (l2)), some (.int (l3)), some (.int (l4))] [] am_YY g w) (hk61 : ∀ (l2 : Int32) (l3 : Int32), k61 l2 l3 = some R → am_Ev x 5 (0, 0) (am_Q x (0, 0) (some (.int R)) am_YY g w) 61 [some (.ref 26), some (.int (p1)), some (.int (l2)), some (.int (l3)), none] [] am_YY g w) (l3 : Int32) (l4 : Int32) (s0 : Int32) (hf : f_X8_alike_52 F g p1 k15 k61 l3 l4 s0 = some R) : am_Ev x 5 (0, 0) (am_Q x (0, 0) (some (.int R)) am_YY g w) 52 [some (.ref 26), some (.int (p1)), none, some (.int (l3)), some (.int (l4))] [.int (s0)] am_YY g w := by
  unfold f_X8_alike_52 at hf
  refine am_b1 C0 am_YYk (pc := 52) (pc2 := 53) [(.iconst 0, 0, 0, .int 0)] (L := [some (.ref 26), some (.int (p1)), none, some (.int (l3)), some (.int (l4))]) (st := [.int (s0)]) (L' := [some (.ref 26), some (.int (p1)), none, some (.int (l3)), some (.int (l4))]) (st' := [.int ((0 : Int32)), .int (s0)]) (g' := g) (w' := w) (cl := []) (by decide +kernel) rfl trivial ?_
  exact B_X8_alike_53 x C0 hR w F g p1 R _ _ hk15 hk61 (l3) (l4) (s0) ((0 : Int32)) hf
def f_X8_alike_15 (F : Nat) (g : am_G) (p1 : Int32) (k61 : Int32 → Int32 → Option (Int32)) : Nat → Int32 → Int32 → Int32 → Option (Int32)
  | 0, _, _, _ => none
  | n + 1, l2, l3, l4 =>
    if l3 ≤ l4 then
      k61 (l2) (l3)
    else
      (f_X8_sees g l3 l4).bind fun q1 =>
        if q1 = 0 then
          f_X8_alike_52 F g p1 (fun l2 l3 l4 => f_X8_alike_15 F g p1 k61 n l2 l3 l4) k61 (l3) (l4) (l2)
        else
          (f_X8_wordOf g p1 l3).bind fun q2 =>
            (f_X8_wordOf g p1 l4).bind fun q3 =>
              if q2 = q3 then
                f_X8_alike_53 F g p1 (fun l2 l3 l4 => f_X8_alike_15 F g p1 k61 n l2 l3 l4) k61 (l3) (l4) (l2) ((1 : Int32))
              else
                f_X8_alike_52 F g p1 (fun l2 l3 l4 => f_X8_alike_15 F g p1 k61 n l2 l3 l4) k61 (l3) (l4) (l2)
set_option maxRecDepth 20000 in
theorem B_X8_alike_15 (x : am_X) (C0 : am_Cm x 8 cX8_alike 5 (some .int)) (hR : am_R x = rm_X8_alike) (w : am_J) (F : Nat) (g : am_G) (p1 : Int32) (R : Int32) (k61 : Int32 → Int32 → Option (Int32)) (hk61 : ∀ (l2 : Int32) (l3 : Int32), k61 l2 l3 = some R → am_Ev x 5 (0, 0) (am_Q x (0, 0) (some (.int R)) am_YY g w) 61 [some (.ref 26), some (.int (p1)), some (.int (l2)), some (.int (l3)), none] [] am_YY g w) : ∀ (n : Nat) (l2 : Int32) (l3 : Int32) (l4 : Int32), f_X8_alike_15 F g p1 k61 n l2 l3 l4 = some R → am_Ev x 5 (0, 0) (am_Q x (0, 0) (some (.int R)) am_YY g w) 15 [some (.ref 26), some (.int (p1)), some (.int (l2)), some (.int (l3)), some (.int (l4))] [] am_YY g w := by
  intro n
  induction n with
  | zero => intro l2 l3 l4 hf; cases hf
  | succ n ih =>
    intro l2 l3 l4 hf
    rw [f_X8_alike_15.eq_2] at hf
    refine am_b1 C0 am_YYk (pc := 15) (pc2 := 18) [(.iload 4, 0, 0, .null), (.iload_n 3, 0, 0, .null)] (L := [some (.ref 26), some (.int (p1)), some (.int (l2)), some (.int (l3)), some (.int (l4))]) (st := []) (L' := [some (.ref 26), some (.int (p1)), some (.int (l2)), some (.int (l3)), some (.int (l4))]) (st' := [.int (l3), .int (l4)]) (g' := g) (w' := w) (cl := []) (by decide +kernel) rfl trivial ?_
    refine am_icmp_ge C0 (off := 43) (tgt := 61) (by decide +kernel) (fun hc6 => ?_) (fun hc6 => ?_)
    · rw [if_pos hc6] at hf
      refine am_wk [some (.ref 26), some (.int (p1)), some (.int (l2)), some (.int (l3)), none] ⟨rfl, rfl, rfl, rfl, trivial⟩ rfl ?_
      exact hk61 (l2) (l3) hf
    · rw [if_neg hc6] at hf
      refine am_b1 C0 am_YYk (pc := 21) (pc2 := 26) [(.iload_n 2, 0, 0, .null), (.aload_n 0, 0, 0, .null), (.iload_n 3, 0, 0, .null), (.iload 4, 0, 0, .null)] (L := [some (.ref 26), some (.int (p1)), some (.int (l2)), some (.int (l3)), some (.int (l4))]) (st := []) (L' := [some (.ref 26), some (.int (p1)), some (.int (l2)), some (.int (l3)), some (.int (l4))]) (st' := [.int (l4), .int (l3), .ref 26, .int (l2)]) (g' := g) (w' := w) (cl := []) (by decide +kernel) rfl trivial ?_
      obtain ⟨q1, hq1, hf⟩ := Option.bind_eq_some_iff.mp hf
      refine am_callV (mi := mi_X8_sees) (rm := rm_X8_sees) [.int (l3), .int (l4)] C0.1 am_YYl cv_8_119 (M_X8_sees _ g w l3 l4 _ hq1) (ci := 8) rfl (by decide) rfl (by rw [hR]; rfl) rfl rfl (Nat.le_of_ble_eq_true rfl) (by decide +kernel) ?_
      refine am_if_eq C0 (off := 23) (tgt := 52) (by decide +kernel) (fun hc5 => ?_) (fun hc5 => ?_)
      · rw [if_pos hc5] at hf
        refine am_wk [some (.ref 26), some (.int (p1)), none, some (.int (l3)), some (.int (l4))] ⟨rfl, rfl, rfl, rfl, trivial⟩ rfl ?_
        exact B_X8_alike_52 x C0 hR w F g p1 R _ _ (fun l2 l3 l4 hf => ih l2 l3 l4 hf) hk61 (l3) (l4) (l2) hf
      · rw [if_neg hc5] at hf
        refine am_b1 C0 am_YYk (pc := 32) (pc2 := 35) [(.aload_n 0, 0, 0, .null), (.iload_n 1, 0, 0, .null), (.iload_n 3, 0, 0, .null)] (L := [some (.ref 26), some (.int (p1)), some (.int (l2)), some (.int (l3)), some (.int (l4))]) (st := [.int (l2)]) (L' := [some (.ref 26), some (.int (p1)), some (.int (l2)), some (.int (l3)), some (.int (l4))]) (st' := [.int (l3), .int (p1), .ref 26, .int (l2)]) (g' := g) (w' := w) (cl := []) (by decide +kernel) rfl trivial ?_
        obtain ⟨q2, hq2, hf⟩ := Option.bind_eq_some_iff.mp hf
        refine am_callV (mi := mi_X8_wordOf) (rm := rm_X8_wordOf) [.int (p1), .int (l3)] C0.1 am_YYl cv_8_122 (M_X8_wordOf _ g w p1 l3 _ hq2) (ci := 8) rfl (by decide) rfl (by rw [hR]; rfl) rfl rfl (Nat.le_of_ble_eq_true rfl) (by decide +kernel) ?_
        refine am_b1 C0 am_YYk (pc := 38) (pc2 := 42) [(.aload_n 0, 0, 0, .null), (.iload_n 1, 0, 0, .null), (.iload 4, 0, 0, .null)] (L := [some (.ref 26), some (.int (p1)), some (.int (l2)), some (.int (l3)), some (.int (l4))]) (st := [.int (q2), .int (l2)]) (L' := [some (.ref 26), some (.int (p1)), some (.int (l2)), some (.int (l3)), some (.int (l4))]) (st' := [.int (l4), .int (p1), .ref 26, .int (q2), .int (l2)]) (g' := g) (w' := w) (cl := []) (by decide +kernel) rfl trivial ?_
        obtain ⟨q3, hq3, hf⟩ := Option.bind_eq_some_iff.mp hf
        refine am_callV (mi := mi_X8_wordOf) (rm := rm_X8_wordOf) [.int (p1), .int (l4)] C0.1 am_YYl cv_8_122 (M_X8_wordOf _ g w p1 l4 _ hq3) (ci := 8) rfl (by decide) rfl (by rw [hR]; rfl) rfl rfl (Nat.le_of_ble_eq_true rfl) (by decide +kernel) ?_
        refine am_icmp_ne C0 (off := 7) (tgt := 52) (by decide +kernel) (fun hc4 => ?_) (fun hc4 => ?_)
        · rw [if_neg hc4] at hf
          refine am_wk [some (.ref 26), some (.int (p1)), none, some (.int (l3)), some (.int (l4))] ⟨rfl, rfl, rfl, rfl, trivial⟩ rfl ?_
          exact B_X8_alike_52 x C0 hR w F g p1 R _ _ (fun l2 l3 l4 hf => ih l2 l3 l4 hf) hk61 (l3) (l4) (l2) hf
        · rw [if_pos hc4] at hf
          refine am_b1 C0 am_YYk (pc := 48) (pc2 := 49) [(.iconst 1, 0, 0, .int 1)] (L := [some (.ref 26), some (.int (p1)), some (.int (l2)), some (.int (l3)), some (.int (l4))]) (st := [.int (l2)]) (L' := [some (.ref 26), some (.int (p1)), some (.int (l2)), some (.int (l3)), some (.int (l4))]) (st' := [.int ((1 : Int32)), .int (l2)]) (g' := g) (w' := w) (cl := []) (by decide +kernel) rfl trivial ?_
          refine am_goto C0 (off := 4) (tgt := 53) (by decide +kernel) ?_
          refine am_wk [some (.ref 26), some (.int (p1)), none, some (.int (l3)), some (.int (l4))] ⟨rfl, rfl, rfl, rfl, trivial⟩ rfl ?_
          exact B_X8_alike_53 x C0 hR w F g p1 R _ _ (fun l2 l3 l4 hf => ih l2 l3 l4 hf) hk61 (l3) (l4) (l2) ((1 : Int32)) hf
def f_X8_alike_4 (F : Nat) (g : am_G) (p1 : Int32)  : Nat → Int32 → Int32 → Option (Int32)
  | 0, _, _ => none
  | n + 1, l2, l3 =>
    if (g 26 0) ≤ l3 then
      some (l2)
    else
      f_X8_alike_15 F g p1 (fun l2 l3 => f_X8_alike_61 F g p1 (fun l2 l3 => f_X8_alike_4 F g p1 n l2 l3) (l2) (l3)) F (l2) (l3) ((0 : Int32))
set_option maxRecDepth 20000 in
theorem B_X8_alike_4 (x : am_X) (C0 : am_Cm x 8 cX8_alike 5 (some .int)) (hR : am_R x = rm_X8_alike) (w : am_J) (F : Nat) (g : am_G) (p1 : Int32) (R : Int32)   : ∀ (n : Nat) (l2 : Int32) (l3 : Int32), f_X8_alike_4 F g p1 n l2 l3 = some R → am_Ev x 5 (0, 0) (am_Q x (0, 0) (some (.int R)) am_YY g w) 4 [some (.ref 26), some (.int (p1)), some (.int (l2)), some (.int (l3)), none] [] am_YY g w := by
  intro n
  induction n with
  | zero => intro l2 l3 hf; cases hf
  | succ n ih =>
    intro l2 l3 hf
    rw [f_X8_alike_4.eq_2] at hf
    refine am_b1 C0 am_YYk (pc := 4) (pc2 := 9) [(.iload_n 3, 0, 0, .null), (.aload_n 0, 0, 0, .null), (.getfield 111, 8, 0, .null)] (L := [some (.ref 26), some (.int (p1)), some (.int (l2)), some (.int (l3)), none]) (st := []) (L' := [some (.ref 26), some (.int (p1)), some (.int (l2)), some (.int (l3)), none]) (st' := [.int (g 26 0), .int (l3)]) (g' := g) (w' := w) (cl := []) (by decide +kernel) rfl trivial ?_
    refine am_icmp_ge C0 (off := 58) (tgt := 67) (by decide +kernel) (fun hc7 => ?_) (fun hc7 => ?_)
    · rw [if_pos hc7] at hf
      refine am_b1 C0 am_YYk (pc := 67) (pc2 := 68) [(.iload_n 2, 0, 0, .null)] (L := [some (.ref 26), some (.int (p1)), some (.int (l2)), some (.int (l3)), none]) (st := []) (L' := [some (.ref 26), some (.int (p1)), some (.int (l2)), some (.int (l3)), none]) (st' := [.int (l2)]) (g' := g) (w' := w) (cl := []) (by decide +kernel) rfl trivial ?_
      cases hf
      exact am_iret C0 (by decide +kernel)
    · rw [if_neg hc7] at hf
      refine am_b1 C0 am_YYk (pc := 12) (pc2 := 15) [(.iconst 0, 0, 0, .int 0), (.istore 4, 0, 0, .null)] (L := [some (.ref 26), some (.int (p1)), some (.int (l2)), some (.int (l3)), none]) (st := []) (L' := [some (.ref 26), some (.int (p1)), some (.int (l2)), some (.int (l3)), some (.int ((0 : Int32)))]) (st' := []) (g' := g) (w' := w) (cl := []) (by decide +kernel) rfl trivial ?_
      refine B_X8_alike_15 x C0 hR w F g p1 R _ ?_ F (l2) (l3) ((0 : Int32)) hf
      · intro l2 l3 hf
        exact B_X8_alike_61 x C0 hR w F g p1 R _ (fun l2 l3 hf => ih l2 l3 hf) (l2) (l3) hf
def f_X8_alike (F : Nat) (g : am_G) (p1 : Int32) : Option (Int32) :=
  f_X8_alike_4 F g p1 F ((0 : Int32)) ((0 : Int32))
set_option maxRecDepth 20000 in
theorem M_X8_alike (l : Launch) (F : Nat) (g : am_G) (w : am_J) (p1 : Int32) (R : Int32) (hf : f_X8_alike F g p1 = some R) : am_Met l mi_X8_alike rm_X8_alike [.ref 26, .int p1] am_YY g w (some (.int R)) am_YY g w := by
  refine am_met (own := 8) [some (.ref 26), some (.int (p1)), none, none, none] (by decide) rfl rfl (by first | decide | exact Nat.le_of_ble_eq_true rfl) (fun x C0 hR hl hnm => ?_)
  unfold f_X8_alike at hf
  refine am_b1 C0 am_YYk (pc := 0) (pc2 := 4) [(.iconst 0, 0, 0, .int 0), (.istore_n 2, 0, 0, .null), (.iconst 0, 0, 0, .int 0), (.istore_n 3, 0, 0, .null)] (L := [some (.ref 26), some (.int (p1)), none, none, none]) (st := []) (L' := [some (.ref 26), some (.int (p1)), some (.int ((0 : Int32))), some (.int ((0 : Int32))), none]) (st' := []) (g' := g) (w' := w) (cl := []) (by decide +kernel) rfl trivial ?_
  refine B_X8_alike_4 x C0 hR w F g p1 R   F ((0 : Int32)) ((0 : Int32)) hf
