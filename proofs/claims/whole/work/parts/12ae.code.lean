/-! ShutterTown.cut(II)I at (0,) -/
def f_X7_cut_91 (F : Nat) (g : am_G) (p1 : Int32) (p2 : Int32) (k31 : Int32 → Int32 → Int32 → am_J → Option (Int32 × am_J)) (l4 : Int32) (l5 : Int32) (l6 : Int32) (w : am_J) : Option (Int32 × am_J) :=
  k31 (l4) (l5) (l6 + (1 : Int32)) (w)
set_option maxRecDepth 20000 in
theorem B_X7_cut_91 (x : am_X) (C0 : am_Cm x 7 cX7_cut 7 (some .int)) (hR : am_R x = rm_X7_cut) (F : Nat) (g : am_G) (p1 : Int32) (p2 : Int32) (R : Int32 × am_J) (k31 : Int32 → Int32 → Int32 → am_J → Option (Int32 × am_J)) (hk31 : ∀ (l4 : Int32) (l5 : Int32) (l6 : Int32) (w : am_J), k31 l4 l5 l6 w = some R → am_Ev x 7 (0, 0) (am_Q x (0, 0) (some (.int R.1)) am_YY g (R.2)) 31 [some (.ref 0), some (.int (p1)), some (.int (p2)), none, some (.int (l4)), some (.int (l5)), some (.int (l6))] [] am_YY g w) (l4 : Int32) (l5 : Int32) (l6 : Int32) (w : am_J) (hf : f_X7_cut_91 F g p1 p2 k31 l4 l5 l6 w = some R) : am_Ev x 7 (0, 0) (am_Q x (0, 0) (some (.int R.1)) am_YY g (R.2)) 91 [some (.ref 0), some (.int (p1)), some (.int (p2)), none, some (.int (l4)), some (.int (l5)), some (.int (l6))] [] am_YY g w := by
  unfold f_X7_cut_91 at hf
  refine am_b1 C0 am_YYk (pc := 91) (pc2 := 94) [(.iinc 6 1, 0, 0, .int 1)] (L := [some (.ref 0), some (.int (p1)), some (.int (p2)), none, some (.int (l4)), some (.int (l5)), some (.int (l6))]) (st := []) (L' := [some (.ref 0), some (.int (p1)), some (.int (p2)), none, some (.int (l4)), some (.int (l5)), some (.int (l6 + (1 : Int32)))]) (st' := []) (g' := g) (w' := w) (cl := []) (by decide +kernel) rfl trivial ?_
  refine am_goto C0 (off := (-63)) (tgt := 31) (by decide +kernel) ?_
  exact hk31 (l4) (l5) (l6 + (1 : Int32)) (w) hf
def f_X7_cut_89 (F : Nat) (g : am_G) (p1 : Int32) (p2 : Int32) (k31 : Int32 → Int32 → Int32 → am_J → Option (Int32 × am_J)) (l4 : Int32) (l6 : Int32) (s0 : Int32) (w : am_J) : Option (Int32 × am_J) :=
  f_X7_cut_91 F g p1 p2 k31 (l4) (s0) (l6) (w)
set_option maxRecDepth 20000 in
theorem B_X7_cut_89 (x : am_X) (C0 : am_Cm x 7 cX7_cut 7 (some .int)) (hR : am_R x = rm_X7_cut) (F : Nat) (g : am_G) (p1 : Int32) (p2 : Int32) (R : Int32 × am_J) (k31 : Int32 → Int32 → Int32 → am_J → Option (Int32 × am_J)) (hk31 : ∀ (l4 : Int32) (l5 : Int32) (l6 : Int32) (w : am_J), k31 l4 l5 l6 w = some R → am_Ev x 7 (0, 0) (am_Q x (0, 0) (some (.int R.1)) am_YY g (R.2)) 31 [some (.ref 0), some (.int (p1)), some (.int (p2)), none, some (.int (l4)), some (.int (l5)), some (.int (l6))] [] am_YY g w) (l4 : Int32) (l6 : Int32) (s0 : Int32) (w : am_J) (hf : f_X7_cut_89 F g p1 p2 k31 l4 l6 s0 w = some R) : am_Ev x 7 (0, 0) (am_Q x (0, 0) (some (.int R.1)) am_YY g (R.2)) 89 [some (.ref 0), some (.int (p1)), some (.int (p2)), none, some (.int (l4)), none, some (.int (l6))] [.int (s0)] am_YY g w := by
  unfold f_X7_cut_89 at hf
  refine am_b1 C0 am_YYk (pc := 89) (pc2 := 91) [(.istore 5, 0, 0, .null)] (L := [some (.ref 0), some (.int (p1)), some (.int (p2)), none, some (.int (l4)), none, some (.int (l6))]) (st := [.int (s0)]) (L' := [some (.ref 0), some (.int (p1)), some (.int (p2)), none, some (.int (l4)), some (.int (s0)), some (.int (l6))]) (st' := []) (g' := g) (w' := w) (cl := []) (by decide +kernel) rfl trivial ?_
  exact B_X7_cut_91 x C0 hR F g p1 p2 R _ hk31 (l4) (s0) (l6) (w) hf
def f_X7_cut_31 (F : Nat) (g : am_G) (p1 : Int32) (p2 : Int32)  : Nat → Int32 → Int32 → Int32 → am_J → Option (Int32 × am_J)
  | 0, _, _, _, _ => none
  | n + 1, l4, l5, l6, w =>
    (f_X2_sets g).bind fun q1 =>
      if q1 ≤ l6 then
        some (l5, w)
      else
        if (l6 &&& l4) = 0 then
          (f_X7_isFewer l6 l5).bind fun q2 =>
            if q2 = 0 then
              f_X7_cut_91 F g p1 p2 (fun l4 l5 l6 w => f_X7_cut_31 F g p1 p2 n l4 l5 l6 w) (l4) (l5) (l6) (w)
            else
              (f_X6_measure F g w p1 l6).bind fun q3 =>
                (f_X6_comesTo g q3 p2).bind fun q4 =>
                  if q4 = 0 then
                    f_X7_cut_89 F g p1 p2 (fun l4 l5 l6 w => f_X7_cut_31 F g p1 p2 n l4 l5 l6 w) (l4) (l6) (l6) (q3)
                  else
                    f_X7_cut_89 F g p1 p2 (fun l4 l5 l6 w => f_X7_cut_31 F g p1 p2 n l4 l5 l6 w) (l4) (l6) (l5) (q3)
        else
          f_X7_cut_91 F g p1 p2 (fun l4 l5 l6 w => f_X7_cut_31 F g p1 p2 n l4 l5 l6 w) (l4) (l5) (l6) (w)
set_option maxRecDepth 20000 in
theorem B_X7_cut_31 (x : am_X) (C0 : am_Cm x 7 cX7_cut 7 (some .int)) (hR : am_R x = rm_X7_cut) (F : Nat) (g : am_G) (p1 : Int32) (p2 : Int32) (R : Int32 × am_J)   : ∀ (n : Nat) (l4 : Int32) (l5 : Int32) (l6 : Int32) (w : am_J), f_X7_cut_31 F g p1 p2 n l4 l5 l6 w = some R → am_Ev x 7 (0, 0) (am_Q x (0, 0) (some (.int R.1)) am_YY g (R.2)) 31 [some (.ref 0), some (.int (p1)), some (.int (p2)), none, some (.int (l4)), some (.int (l5)), some (.int (l6))] [] am_YY g w := by
  intro n
  induction n with
  | zero => intro l4 l5 l6 w hf; cases hf
  | succ n ih =>
    intro l4 l5 l6 w hf
    rw [f_X7_cut_31.eq_2] at hf
    refine am_b1 C0 am_YYk (pc := 31) (pc2 := 37) [(.iload 6, 0, 0, .null), (.aload_n 0, 0, 0, .null), (.getfield 19, 7, 1, .null)] (L := [some (.ref 0), some (.int (p1)), some (.int (p2)), none, some (.int (l4)), some (.int (l5)), some (.int (l6))]) (st := []) (L' := [some (.ref 0), some (.int (p1)), some (.int (p2)), none, some (.int (l4)), some (.int (l5)), some (.int (l6))]) (st' := [.ref 3, .int (l6)]) (g' := g) (w' := w) (cl := []) (by decide +kernel) rfl trivial ?_
    obtain ⟨q1, hq1, hf⟩ := Option.bind_eq_some_iff.mp hf
    refine am_callV (mi := mi_X2_sets) (rm := rm_X2_sets) [] C0.1 am_YYl cv_7_171 (M_X2_sets _ g w _ hq1) (ci := 2) rfl (by decide) rfl (by rw [hR]; rfl) rfl rfl (Nat.le_of_ble_eq_true rfl) (by decide +kernel) ?_
    refine am_icmp_ge C0 (off := 57) (tgt := 97) (by decide +kernel) (fun hc8 => ?_) (fun hc8 => ?_)
    · rw [if_pos hc8] at hf
      refine am_b1 C0 am_YYk (pc := 97) (pc2 := 99) [(.iload 5, 0, 0, .null)] (L := [some (.ref 0), some (.int (p1)), some (.int (p2)), none, some (.int (l4)), some (.int (l5)), some (.int (l6))]) (st := []) (L' := [some (.ref 0), some (.int (p1)), some (.int (p2)), none, some (.int (l4)), some (.int (l5)), some (.int (l6))]) (st' := [.int (l5)]) (g' := g) (w' := w) (cl := []) (by decide +kernel) rfl trivial ?_
      cases hf
      exact am_iret C0 (by decide +kernel)
    · rw [if_neg hc8] at hf
      refine am_b1 C0 am_YYk (pc := 43) (pc2 := 48) [(.iload 6, 0, 0, .null), (.iload 4, 0, 0, .null), (.iand, 0, 0, .null)] (L := [some (.ref 0), some (.int (p1)), some (.int (p2)), none, some (.int (l4)), some (.int (l5)), some (.int (l6))]) (st := []) (L' := [some (.ref 0), some (.int (p1)), some (.int (p2)), none, some (.int (l4)), some (.int (l5)), some (.int (l6))]) (st' := [.int (l6 &&& l4)]) (g' := g) (w' := w) (cl := []) (by decide +kernel) rfl trivial ?_
      refine am_if_ne C0 (off := 43) (tgt := 91) (by decide +kernel) (fun hc7 => ?_) (fun hc7 => ?_)
      · rw [if_neg hc7] at hf
        exact B_X7_cut_91 x C0 hR F g p1 p2 R _ (fun l4 l5 l6 w hf => ih l4 l5 l6 w hf) (l4) (l5) (l6) (w) hf
      · rw [if_pos hc7] at hf
        refine am_b1 C0 am_YYk (pc := 51) (pc2 := 55) [(.iload 6, 0, 0, .null), (.iload 5, 0, 0, .null)] (L := [some (.ref 0), some (.int (p1)), some (.int (p2)), none, some (.int (l4)), some (.int (l5)), some (.int (l6))]) (st := []) (L' := [some (.ref 0), some (.int (p1)), some (.int (p2)), none, some (.int (l4)), some (.int (l5)), some (.int (l6))]) (st' := [.int (l5), .int (l6)]) (g' := g) (w' := w) (cl := []) (by decide +kernel) rfl trivial ?_
        obtain ⟨q2, hq2, hf⟩ := Option.bind_eq_some_iff.mp hf
        refine am_callS (mi := mi_X7_isFewer) (rm := rm_X7_isFewer) [.int (l6), .int (l5)] C0.1 cv_7_177 (M_X7_isFewer _ g w l6 l5 _ hq2) (by rw [hR]; rfl) rfl rfl (Nat.le_of_ble_eq_true rfl) (by decide +kernel) ?_
        refine am_if_eq C0 (off := 33) (tgt := 91) (by decide +kernel) (fun hc6 => ?_) (fun hc6 => ?_)
        · rw [if_pos hc6] at hf
          exact B_X7_cut_91 x C0 hR F g p1 p2 R _ (fun l4 l5 l6 w hf => ih l4 l5 l6 w hf) (l4) (l5) (l6) (w) hf
        · rw [if_neg hc6] at hf
          refine am_b1 C0 am_YYk (pc := 61) (pc2 := 68) [(.aload_n 0, 0, 0, .null), (.getfield 52, 7, 6, .null), (.iload_n 1, 0, 0, .null), (.iload 6, 0, 0, .null)] (L := [some (.ref 0), some (.int (p1)), some (.int (p2)), none, some (.int (l4)), some (.int (l5)), some (.int (l6))]) (st := []) (L' := [some (.ref 0), some (.int (p1)), some (.int (p2)), none, some (.int (l4)), some (.int (l5)), some (.int (l6))]) (st' := [.int (l6), .int (p1), .ref 20]) (g' := g) (w' := w) (cl := []) (by decide +kernel) rfl trivial ?_
          obtain ⟨q3, hq3, hf⟩ := Option.bind_eq_some_iff.mp hf
          refine am_callV (mi := mi_X6_measure) (rm := rm_X6_measure) [.int (p1), .int (l6)] C0.1 am_YYl cv_7_159 (M_X6_measure _ F g w p1 l6 _ hq3) (ci := 6) rfl (by decide) rfl (by rw [hR]; rfl) rfl rfl (Nat.le_of_ble_eq_true rfl) (by decide +kernel) ?_
          refine am_b1 C0 am_YYk (pc := 71) (pc2 := 76) [(.aload_n 0, 0, 0, .null), (.getfield 52, 7, 6, .null), (.iload_n 2, 0, 0, .null)] (L := [some (.ref 0), some (.int (p1)), some (.int (p2)), none, some (.int (l4)), some (.int (l5)), some (.int (l6))]) (st := []) (L' := [some (.ref 0), some (.int (p1)), some (.int (p2)), none, some (.int (l4)), some (.int (l5)), some (.int (l6))]) (st' := [.int (p2), .ref 20]) (g' := g) (w' := q3) (cl := []) (by decide +kernel) rfl trivial ?_
          obtain ⟨q4, hq4, hf⟩ := Option.bind_eq_some_iff.mp hf
          refine am_callV (mi := mi_X6_comesTo) (rm := rm_X6_comesTo) [.int (p2)] C0.1 am_YYl cv_7_168 (M_X6_comesTo _ g q3 p2 _ hq4) (ci := 6) rfl (by decide) rfl (by rw [hR]; rfl) rfl rfl (Nat.le_of_ble_eq_true rfl) (by decide +kernel) ?_
          refine am_if_eq C0 (off := 8) (tgt := 87) (by decide +kernel) (fun hc5 => ?_) (fun hc5 => ?_)
          · rw [if_pos hc5] at hf
            refine am_b1 C0 am_YYk (pc := 87) (pc2 := 89) [(.iload 6, 0, 0, .null)] (L := [some (.ref 0), some (.int (p1)), some (.int (p2)), none, some (.int (l4)), some (.int (l5)), some (.int (l6))]) (st := []) (L' := [some (.ref 0), some (.int (p1)), some (.int (p2)), none, some (.int (l4)), some (.int (l5)), some (.int (l6))]) (st' := [.int (l6)]) (g' := g) (w' := q3) (cl := []) (by decide +kernel) rfl trivial ?_
            refine am_wk [some (.ref 0), some (.int (p1)), some (.int (p2)), none, some (.int (l4)), none, some (.int (l6))] ⟨rfl, rfl, rfl, rfl, rfl, trivial⟩ rfl ?_
            exact B_X7_cut_89 x C0 hR F g p1 p2 R _ (fun l4 l5 l6 w hf => ih l4 l5 l6 w hf) (l4) (l6) (l6) (q3) hf
          · rw [if_neg hc5] at hf
            refine am_b1 C0 am_YYk (pc := 82) (pc2 := 84) [(.iload 5, 0, 0, .null)] (L := [some (.ref 0), some (.int (p1)), some (.int (p2)), none, some (.int (l4)), some (.int (l5)), some (.int (l6))]) (st := []) (L' := [some (.ref 0), some (.int (p1)), some (.int (p2)), none, some (.int (l4)), some (.int (l5)), some (.int (l6))]) (st' := [.int (l5)]) (g' := g) (w' := q3) (cl := []) (by decide +kernel) rfl trivial ?_
            refine am_goto C0 (off := 5) (tgt := 89) (by decide +kernel) ?_
            refine am_wk [some (.ref 0), some (.int (p1)), some (.int (p2)), none, some (.int (l4)), none, some (.int (l6))] ⟨rfl, rfl, rfl, rfl, rfl, trivial⟩ rfl ?_
            exact B_X7_cut_89 x C0 hR F g p1 p2 R _ (fun l4 l5 l6 w hf => ih l4 l5 l6 w hf) (l4) (l6) (l5) (q3) hf
def f_X7_cut (F : Nat) (g : am_G) (w : am_J) (p1 : Int32) (p2 : Int32) : Option (Int32 × am_J) :=
  (f_X7_refusalOfTwo g p1 p2).bind fun q9 =>
    if q9 = (-9 : Int32) then
      f_X7_cut_31 F g p1 p2 F (((1 : Int32) <<< (p1 &&& 31)) ||| ((1 : Int32) <<< (p2 &&& 31))) ((-9 : Int32)) ((0 : Int32)) (w)
    else
      some (q9, w)
set_option maxRecDepth 20000 in
theorem M_X7_cut (l : Launch) (F : Nat) (g : am_G) (w : am_J) (p1 : Int32) (p2 : Int32) (R : Int32 × am_J) (hf : f_X7_cut F g w p1 p2 = some R) : am_Met l mi_X7_cut rm_X7_cut [.ref 0, .int p1, .int p2] am_YY g w (some (.int R.1)) am_YY g (R.2) := by
  refine am_met (own := 7) [some (.ref 0), some (.int (p1)), some (.int (p2)), none, none, none, none] (by decide) rfl rfl (by first | decide | exact Nat.le_of_ble_eq_true rfl) (fun x C0 hR hl hnm => ?_)
  unfold f_X7_cut at hf
  refine am_b1 C0 am_YYk (pc := 0) (pc2 := 3) [(.aload_n 0, 0, 0, .null), (.iload_n 1, 0, 0, .null), (.iload_n 2, 0, 0, .null)] (L := [some (.ref 0), some (.int (p1)), some (.int (p2)), none, none, none, none]) (st := []) (L' := [some (.ref 0), some (.int (p1)), some (.int (p2)), none, none, none, none]) (st' := [.int (p2), .int (p1), .ref 0]) (g' := g) (w' := w) (cl := []) (by decide +kernel) rfl trivial ?_
  obtain ⟨q9, hq9, hf⟩ := Option.bind_eq_some_iff.mp hf
  refine am_callV (mi := mi_X7_refusalOfTwo) (rm := rm_X7_refusalOfTwo) [.int (p1), .int (p2)] C0.1 am_YYl cv_7_155 (M_X7_refusalOfTwo _ g w p1 p2 _ hq9) (ci := 7) rfl (by decide) rfl (by rw [hR]; rfl) rfl rfl (Nat.le_of_ble_eq_true rfl) (by decide +kernel) ?_
  refine am_b1 C0 am_YYk (pc := 6) (pc2 := 10) [(.istore_n 3, 0, 0, .null), (.iload_n 3, 0, 0, .null), (.bipush (-9), 0, 0, .int (-9))] (L := [some (.ref 0), some (.int (p1)), some (.int (p2)), none, none, none, none]) (st := [.int (q9)]) (L' := [some (.ref 0), some (.int (p1)), some (.int (p2)), some (.int (q9)), none, none, none]) (st' := [.int ((-9 : Int32)), .int (q9)]) (g' := g) (w' := w) (cl := []) (by decide +kernel) rfl trivial ?_
  refine am_icmp_eq C0 (off := 5) (tgt := 15) (by decide +kernel) (fun hc10 => ?_) (fun hc10 => ?_)
  · rw [if_pos hc10] at hf
    refine am_b1 C0 am_YYk (pc := 15) (pc2 := 31) [(.iconst 1, 0, 0, .int 1), (.iload_n 1, 0, 0, .null), (.ishl, 0, 0, .null), (.iconst 1, 0, 0, .int 1), (.iload_n 2, 0, 0, .null), (.ishl, 0, 0, .null), (.ior, 0, 0, .null), (.istore 4, 0, 0, .null), (.bipush (-9), 0, 0, .int (-9)), (.istore 5, 0, 0, .null), (.iconst 0, 0, 0, .int 0), (.istore 6, 0, 0, .null)] (L := [some (.ref 0), some (.int (p1)), some (.int (p2)), some (.int (q9)), none, none, none]) (st := []) (L' := [some (.ref 0), some (.int (p1)), some (.int (p2)), some (.int (q9)), some (.int (((1 : Int32) <<< (p1 &&& 31)) ||| ((1 : Int32) <<< (p2 &&& 31)))), some (.int ((-9 : Int32))), some (.int ((0 : Int32)))]) (st' := []) (g' := g) (w' := w) (cl := []) (by decide +kernel) rfl trivial ?_
    refine am_wk [some (.ref 0), some (.int (p1)), some (.int (p2)), none, some (.int (((1 : Int32) <<< (p1 &&& 31)) ||| ((1 : Int32) <<< (p2 &&& 31)))), some (.int ((-9 : Int32))), some (.int ((0 : Int32)))] ⟨rfl, rfl, rfl, rfl, rfl, rfl, trivial⟩ rfl ?_
    refine B_X7_cut_31 x C0 hR F g p1 p2 R   F (((1 : Int32) <<< (p1 &&& 31)) ||| ((1 : Int32) <<< (p2 &&& 31))) ((-9 : Int32)) ((0 : Int32)) (w) hf
  · rw [if_neg hc10] at hf
    refine am_b1 C0 am_YYk (pc := 13) (pc2 := 14) [(.iload_n 3, 0, 0, .null)] (L := [some (.ref 0), some (.int (p1)), some (.int (p2)), some (.int (q9)), none, none, none]) (st := []) (L' := [some (.ref 0), some (.int (p1)), some (.int (p2)), some (.int (q9)), none, none, none]) (st' := [.int (q9)]) (g' := g) (w' := w) (cl := []) (by decide +kernel) rfl trivial ?_
    cases hf
    exact am_iret C0 (by decide +kernel)
/-! ShutterTown.withoutLast(JI)J at () -/
def f_X7_withoutLast_5 (F : Nat) (p0 : Int64) (p2 : Int32)  : Nat → Int64 → Int32 → Option (Int64)
  | 0, _, _ => none
  | n + 1, l3, l5 =>
    if p2 ≤ l5 then
      some (l3)
    else
      f_X7_withoutLast_5 F p0 p2 n (l3 / (100 : Int64)) (l5 + (1 : Int32))
set_option maxRecDepth 20000 in
theorem B_X7_withoutLast_5 (x : am_X) (C0 : am_Cm x 7 cX7_withoutLast 6 (some .long)) (hR : am_R x = rm_X7_withoutLast) (g : am_G) (w : am_J) (F : Nat) (p0 : Int64) (p2 : Int32) (R : Int64)   : ∀ (n : Nat) (l3 : Int64) (l5 : Int32), f_X7_withoutLast_5 F p0 p2 n l3 l5 = some R → am_Ev x 6 (0, 0) (am_Q x (0, 0) (some (.long R)) am_YY g w) 5 [some (.long (p0)), none, some (.int (p2)), some (.long (l3)), none, some (.int (l5))] [] am_YY g w := by
  intro n
  induction n with
  | zero => intro l3 l5 hf; cases hf
  | succ n ih =>
    intro l3 l5 hf
    rw [f_X7_withoutLast_5.eq_2] at hf
    refine am_b1 C0 am_YYk (pc := 5) (pc2 := 8) [(.iload 5, 0, 0, .null), (.iload_n 2, 0, 0, .null)] (L := [some (.long (p0)), none, some (.int (p2)), some (.long (l3)), none, some (.int (l5))]) (st := []) (L' := [some (.long (p0)), none, some (.int (p2)), some (.long (l3)), none, some (.int (l5))]) (st' := [.int (p2), .int (l5)]) (g' := g) (w' := w) (cl := []) (by decide +kernel) rfl trivial ?_
    refine am_icmp_ge C0 (off := 15) (tgt := 23) (by decide +kernel) (fun hc1 => ?_) (fun hc1 => ?_)
    · rw [if_pos hc1] at hf
      refine am_b1 C0 am_YYk (pc := 23) (pc2 := 24) [(.lload_n 3, 0, 0, .null)] (L := [some (.long (p0)), none, some (.int (p2)), some (.long (l3)), none, some (.int (l5))]) (st := []) (L' := [some (.long (p0)), none, some (.int (p2)), some (.long (l3)), none, some (.int (l5))]) (st' := [.long (l3)]) (g' := g) (w' := w) (cl := []) (by decide +kernel) rfl trivial ?_
      cases hf
      exact am_lret C0 (by decide +kernel)
    · rw [if_neg hc1] at hf
      refine am_b1 C0 am_YYk (pc := 11) (pc2 := 20) [(.lload_n 3, 0, 0, .null), (.ldc2_w 187, 0, 0, .long 100), (.ldiv, 0, 0, .null), (.lstore_n 3, 0, 0, .null), (.iinc 5 1, 0, 0, .int 1)] (L := [some (.long (p0)), none, some (.int (p2)), some (.long (l3)), none, some (.int (l5))]) (st := []) (L' := [some (.long (p0)), none, some (.int (p2)), some (.long (l3 / (100 : Int64))), none, some (.int (l5 + (1 : Int32)))]) (st' := []) (g' := g) (w' := w) (cl := [¬ (100 : Int64) = 0]) (by decide +kernel) rfl ⟨by decide, trivial⟩ ?_
      refine am_goto C0 (off := (-15)) (tgt := 5) (by decide +kernel) ?_
      exact ih (l3 / (100 : Int64)) (l5 + (1 : Int32)) hf
def f_X7_withoutLast (F : Nat) (p0 : Int64) (p2 : Int32) : Option (Int64) :=
  f_X7_withoutLast_5 F p0 p2 F (p0) ((0 : Int32))
set_option maxRecDepth 20000 in
theorem M_X7_withoutLast (l : Launch) (F : Nat) (g : am_G) (w : am_J) (p0 : Int64) (p2 : Int32) (R : Int64) (hf : f_X7_withoutLast F p0 p2 = some R) : am_Met l mi_X7_withoutLast rm_X7_withoutLast [.long p0, .int p2] am_YY g w (some (.long R)) am_YY g w := by
  refine am_met (own := 7) [some (.long (p0)), none, some (.int (p2)), none, none, none] (by decide) rfl rfl (by first | decide | exact Nat.le_of_ble_eq_true rfl) (fun x C0 hR hl hnm => ?_)
  unfold f_X7_withoutLast at hf
  refine am_b1 C0 am_YYk (pc := 0) (pc2 := 5) [(.lload_n 0, 0, 0, .null), (.lstore_n 3, 0, 0, .null), (.iconst 0, 0, 0, .int 0), (.istore 5, 0, 0, .null)] (L := [some (.long (p0)), none, some (.int (p2)), none, none, none]) (st := []) (L' := [some (.long (p0)), none, some (.int (p2)), some (.long (p0)), none, some (.int ((0 : Int32)))]) (st' := []) (g' := g) (w' := w) (cl := []) (by decide +kernel) rfl trivial ?_
  refine B_X7_withoutLast_5 x C0 hR g w F p0 p2 R   F (p0) ((0 : Int32)) hf
/-! ShutterTown$Shutters.copy(LShutterTown$Shutters;)V at (13, 10) -/
def f_X4_copy (g : am_G) : Option (am_G) :=
  some (am_u (am_cp (am_cp g 11 14 (Int32.toNatClampNeg (0 : Int32)) (Int32.toNatClampNeg (0 : Int32)) (Int32.toNatClampNeg (6 : Int32))) 12 15 (Int32.toNatClampNeg (0 : Int32)) (Int32.toNatClampNeg (0 : Int32)) (Int32.toNatClampNeg (6 : Int32))) 13 3 ((am_cp (am_cp g 11 14 (Int32.toNatClampNeg (0 : Int32)) (Int32.toNatClampNeg (0 : Int32)) (Int32.toNatClampNeg (6 : Int32))) 12 15 (Int32.toNatClampNeg (0 : Int32)) (Int32.toNatClampNeg (0 : Int32)) (Int32.toNatClampNeg (6 : Int32))) 10 3))
set_option maxRecDepth 20000 in
theorem M_X4_copy (l : Launch) (g : am_G) (w : am_J)  (R : am_G) (hf : f_X4_copy g = some R) : am_Met l mi_X4_copy rm_X4_copy [.ref 13, .ref 10] am_YY g w none am_YY R w := by
  refine am_met (own := 4) [some (.ref 13), some (.ref 10)] (by decide) rfl rfl (by first | decide | exact Nat.le_of_ble_eq_true rfl) (fun x C0 hR hl hnm => ?_)
  unfold f_X4_copy at hf
  refine am_b1 C0 am_YYk (pc := 0) (pc2 := 12) [(.aload_n 1, 0, 0, .null), (.getfield 9, 4, 1, .null), (.iconst 0, 0, 0, .int 0), (.aload_n 0, 0, 0, .null), (.getfield 9, 4, 1, .null), (.iconst 0, 0, 0, .int 0), (.bipush 6, 0, 0, .int 6)] (L := [some (.ref 13), some (.ref 10)]) (st := []) (L' := [some (.ref 13), some (.ref 10)]) (st' := [.int ((6 : Int32)), .int ((0 : Int32)), .ref 14, .int ((0 : Int32)), .ref 11]) (g' := g) (w' := w) (cl := []) (by decide +kernel) rfl trivial ?_
  refine am_copy C0.1 am_YYl rfl rfl am_acw_4 (by decide) (by rw [hR]; decide) (Nat.le_of_ble_eq_true rfl) (by decide +kernel) ?_
  refine am_b1 C0 am_YYk (pc := 15) (pc2 := 27) [(.aload_n 1, 0, 0, .null), (.getfield 15, 4, 2, .null), (.iconst 0, 0, 0, .int 0), (.aload_n 0, 0, 0, .null), (.getfield 15, 4, 2, .null), (.iconst 0, 0, 0, .int 0), (.bipush 6, 0, 0, .int 6)] (L := [some (.ref 13), some (.ref 10)]) (st := []) (L' := [some (.ref 13), some (.ref 10)]) (st' := [.int ((6 : Int32)), .int ((0 : Int32)), .ref 15, .int ((0 : Int32)), .ref 12]) (g' := am_cp g 11 14 (Int32.toNatClampNeg (0 : Int32)) (Int32.toNatClampNeg (0 : Int32)) (Int32.toNatClampNeg (6 : Int32))) (w' := w) (cl := []) (by decide +kernel) rfl trivial ?_
  refine am_copy C0.1 am_YYl rfl rfl am_acw_4 (by decide) (by rw [hR]; decide) (Nat.le_of_ble_eq_true rfl) (by decide +kernel) ?_
  refine am_b1 C0 am_YYk (pc := 30) (pc2 := 38) [(.aload_n 0, 0, 0, .null), (.aload_n 1, 0, 0, .null), (.getfield 40, 4, 3, .null), (.putfield 40, 4, 3, .null)] (L := [some (.ref 13), some (.ref 10)]) (st := []) (L' := [some (.ref 13), some (.ref 10)]) (st' := []) (g' := am_u (am_cp (am_cp g 11 14 (Int32.toNatClampNeg (0 : Int32)) (Int32.toNatClampNeg (0 : Int32)) (Int32.toNatClampNeg (6 : Int32))) 12 15 (Int32.toNatClampNeg (0 : Int32)) (Int32.toNatClampNeg (0 : Int32)) (Int32.toNatClampNeg (6 : Int32))) 13 3 ((am_cp (am_cp g 11 14 (Int32.toNatClampNeg (0 : Int32)) (Int32.toNatClampNeg (0 : Int32)) (Int32.toNatClampNeg (6 : Int32))) 12 15 (Int32.toNatClampNeg (0 : Int32)) (Int32.toNatClampNeg (0 : Int32)) (Int32.toNatClampNeg (6 : Int32))) 10 3)) (w' := w) (cl := []) (by decide +kernel) rfl trivial ?_
  cases hf
  exact am_vret C0 (by decide +kernel)
/-! ShutterTown$Shutters.blow()I at (13,) -/
def f_X4_blow_13_43 (F : Nat) (k11 : Int32 → Int32 → am_G → Option (Int32 × am_G)) (l1 : Int32) (l2 : Int32) (s1 : Int32) (s2 : Int32) (s3 : Int32) (g : am_G) : Option (Int32 × am_G) :=
  if am_in s1 6 then
    k11 (l1) (l2 + (1 : Int32)) (am_u g 14 (Int32.toNatClampNeg s1) (s2 ^^^ s3))
  else none
set_option maxRecDepth 20000 in
theorem B_X4_blow_13_43 (x : am_X) (C0 : am_Cm x 4 cX4_blow 3 (some .int)) (hR : am_R x = rm_X4_blow) (w : am_J) (F : Nat) (R : Int32 × am_G) (k11 : Int32 → Int32 → am_G → Option (Int32 × am_G)) (hk11 : ∀ (l1 : Int32) (l2 : Int32) (g : am_G), k11 l1 l2 g = some R → am_Ev x 3 (0, 0) (am_Q x (0, 0) (some (.int R.1)) am_YY (R.2) w) 11 [some (.ref 13), some (.int (l1)), some (.int (l2))] [] am_YY g w) (l1 : Int32) (l2 : Int32) (s1 : Int32) (s2 : Int32) (s3 : Int32) (g : am_G) (hf : f_X4_blow_13_43 F k11 l1 l2 s1 s2 s3 g = some R) : am_Ev x 3 (0, 0) (am_Q x (0, 0) (some (.int R.1)) am_YY (R.2) w) 43 [some (.ref 13), some (.int (l1)), some (.int (l2))] [.int (s3), .int (s2), .int (s1), .ref 14] am_YY g w := by
  unfold f_X4_blow_13_43 at hf
  obtain ⟨hg1, hf⟩ := am_g hf
  refine am_b1 C0 am_YYk (pc := 43) (pc2 := 48) [(.ixor, 0, 0, .null), (.iastore, 0, 0, .null), (.iinc 2 1, 0, 0, .int 1)] (L := [some (.ref 13), some (.int (l1)), some (.int (l2))]) (st := [.int (s3), .int (s2), .int (s1), .ref 14]) (L' := [some (.ref 13), some (.int (l1)), some (.int (l2 + (1 : Int32)))]) (st' := []) (g' := am_u g 14 (Int32.toNatClampNeg s1) (s2 ^^^ s3)) (w' := w) (cl := [am_in s1 6]) (by decide +kernel) rfl ⟨hg1, trivial⟩ ?_
  refine am_goto C0 (off := (-37)) (tgt := 11) (by decide +kernel) ?_
  exact hk11 (l1) (l2 + (1 : Int32)) (am_u g 14 (Int32.toNatClampNeg s1) (s2 ^^^ s3)) hf
def f_X4_blow_13_11 (F : Nat)  : Nat → Int32 → Int32 → am_G → Option (Int32 × am_G)
  | 0, _, _, _ => none
  | n + 1, l1, l2, g =>
    (f_X2_windows g).bind fun q2 =>
      if q2 ≤ l2 then
        some (l1, g)
      else
        if am_in l2 6 then
          if ((l1 >>> (l2 &&& 31)) &&& (1 : Int32)) = (1 : Int32) then
            f_X4_blow_13_43 F (fun l1 l2 g => f_X4_blow_13_11 F n l1 l2 g) (l1) (l2) (l2) (g 14 (Int32.toNatClampNeg l2)) ((1 : Int32)) (g)
          else
            f_X4_blow_13_43 F (fun l1 l2 g => f_X4_blow_13_11 F n l1 l2 g) (l1) (l2) (l2) (g 14 (Int32.toNatClampNeg l2)) ((0 : Int32)) (g)
        else none
set_option maxRecDepth 20000 in
theorem B_X4_blow_13_11 (x : am_X) (C0 : am_Cm x 4 cX4_blow 3 (some .int)) (hR : am_R x = rm_X4_blow) (w : am_J) (F : Nat) (R : Int32 × am_G)   : ∀ (n : Nat) (l1 : Int32) (l2 : Int32) (g : am_G), f_X4_blow_13_11 F n l1 l2 g = some R → am_Ev x 3 (0, 0) (am_Q x (0, 0) (some (.int R.1)) am_YY (R.2) w) 11 [some (.ref 13), some (.int (l1)), some (.int (l2))] [] am_YY g w := by
  intro n
  induction n with
  | zero => intro l1 l2 g hf; cases hf
  | succ n ih =>
    intro l1 l2 g hf
    rw [f_X4_blow_13_11.eq_2] at hf
    refine am_b1 C0 am_YYk (pc := 11) (pc2 := 16) [(.iload_n 2, 0, 0, .null), (.aload_n 0, 0, 0, .null), (.getfield 18, 4, 0, .null)] (L := [some (.ref 13), some (.int (l1)), some (.int (l2))]) (st := []) (L' := [some (.ref 13), some (.int (l1)), some (.int (l2))]) (st' := [.ref 3, .int (l2)]) (g' := g) (w' := w) (cl := []) (by decide +kernel) rfl trivial ?_
    obtain ⟨q2, hq2, hf⟩ := Option.bind_eq_some_iff.mp hf
    refine am_callV (mi := mi_X2_windows) (rm := rm_X2_windows) [] C0.1 am_YYl cv_4_22 (M_X2_windows _ g w _ hq2) (ci := 2) rfl (by decide) rfl (by rw [hR]; rfl) rfl rfl (Nat.le_of_ble_eq_true rfl) (by decide +kernel) ?_
    refine am_icmp_ge C0 (off := 32) (tgt := 51) (by decide +kernel) (fun hc5 => ?_) (fun hc5 => ?_)
    · rw [if_pos hc5] at hf
      refine am_b1 C0 am_YYk (pc := 51) (pc2 := 52) [(.iload_n 1, 0, 0, .null)] (L := [some (.ref 13), some (.int (l1)), some (.int (l2))]) (st := []) (L' := [some (.ref 13), some (.int (l1)), some (.int (l2))]) (st' := [.int (l1)]) (g' := g) (w' := w) (cl := []) (by decide +kernel) rfl trivial ?_
      cases hf
      exact am_iret C0 (by decide +kernel)
    · rw [if_neg hc5] at hf
      obtain ⟨hg3, hf⟩ := am_g hf
      refine am_b1 C0 am_YYk (pc := 22) (pc2 := 35) [(.aload_n 0, 0, 0, .null), (.getfield 9, 4, 1, .null), (.iload_n 2, 0, 0, .null), (.dup2, 0, 0, .null), (.iaload, 0, 0, .null), (.iload_n 1, 0, 0, .null), (.iload_n 2, 0, 0, .null), (.ishr, 0, 0, .null), (.iconst 1, 0, 0, .int 1), (.iand, 0, 0, .null), (.iconst 1, 0, 0, .int 1)] (L := [some (.ref 13), some (.int (l1)), some (.int (l2))]) (st := []) (L' := [some (.ref 13), some (.int (l1)), some (.int (l2))]) (st' := [.int ((1 : Int32)), .int ((l1 >>> (l2 &&& 31)) &&& (1 : Int32)), .int (g 14 (Int32.toNatClampNeg l2)), .int (l2), .ref 14]) (g' := g) (w' := w) (cl := [am_in l2 6]) (by decide +kernel) rfl ⟨hg3, trivial⟩ ?_
      refine am_icmp_ne C0 (off := 7) (tgt := 42) (by decide +kernel) (fun hc4 => ?_) (fun hc4 => ?_)
      · rw [if_neg hc4] at hf
        refine am_b1 C0 am_YYk (pc := 42) (pc2 := 43) [(.iconst 0, 0, 0, .int 0)] (L := [some (.ref 13), some (.int (l1)), some (.int (l2))]) (st := [.int (g 14 (Int32.toNatClampNeg l2)), .int (l2), .ref 14]) (L' := [some (.ref 13), some (.int (l1)), some (.int (l2))]) (st' := [.int ((0 : Int32)), .int (g 14 (Int32.toNatClampNeg l2)), .int (l2), .ref 14]) (g' := g) (w' := w) (cl := []) (by decide +kernel) rfl trivial ?_
        exact B_X4_blow_13_43 x C0 hR w F R _ (fun l1 l2 g hf => ih l1 l2 g hf) (l1) (l2) (l2) (g 14 (Int32.toNatClampNeg l2)) ((0 : Int32)) (g) hf
      · rw [if_pos hc4] at hf
        refine am_b1 C0 am_YYk (pc := 38) (pc2 := 39) [(.iconst 1, 0, 0, .int 1)] (L := [some (.ref 13), some (.int (l1)), some (.int (l2))]) (st := [.int (g 14 (Int32.toNatClampNeg l2)), .int (l2), .ref 14]) (L' := [some (.ref 13), some (.int (l1)), some (.int (l2))]) (st' := [.int ((1 : Int32)), .int (g 14 (Int32.toNatClampNeg l2)), .int (l2), .ref 14]) (g' := g) (w' := w) (cl := []) (by decide +kernel) rfl trivial ?_
        refine am_goto C0 (off := 4) (tgt := 43) (by decide +kernel) ?_
        exact B_X4_blow_13_43 x C0 hR w F R _ (fun l1 l2 g hf => ih l1 l2 g hf) (l1) (l2) (l2) (g 14 (Int32.toNatClampNeg l2)) ((1 : Int32)) (g) hf
def f_X4_blow_13 (F : Nat) (g : am_G) : Option (Int32 × am_G) :=
  (f_X2_ofKind F g (2 : Int32)).bind fun q6 =>
    f_X4_blow_13_11 F F (q6) ((0 : Int32)) (g)
set_option maxRecDepth 20000 in
theorem M_X4_blow_13 (l : Launch) (F : Nat) (g : am_G) (w : am_J)  (R : Int32 × am_G) (hf : f_X4_blow_13 F g = some R) : am_Met l mi_X4_blow rm_X4_blow [.ref 13] am_YY g w (some (.int R.1)) am_YY (R.2) w := by
  refine am_met (own := 4) [some (.ref 13), none, none] (by decide) rfl rfl (by first | decide | exact Nat.le_of_ble_eq_true rfl) (fun x C0 hR hl hnm => ?_)
  unfold f_X4_blow_13 at hf
  refine am_b1 C0 am_YYk (pc := 0) (pc2 := 5) [(.aload_n 0, 0, 0, .null), (.getfield 18, 4, 0, .null), (.iconst 2, 0, 0, .int 2)] (L := [some (.ref 13), none, none]) (st := []) (L' := [some (.ref 13), none, none]) (st' := [.int ((2 : Int32)), .ref 3]) (g' := g) (w' := w) (cl := []) (by decide +kernel) rfl trivial ?_
  obtain ⟨q6, hq6, hf⟩ := Option.bind_eq_some_iff.mp hf
  refine am_callV (mi := mi_X2_ofKind) (rm := rm_X2_ofKind) [.int ((2 : Int32))] C0.1 am_YYl cv_4_60 (M_X2_ofKind _ F g w (2 : Int32) _ hq6) (ci := 2) rfl (by decide) rfl (by rw [hR]; rfl) rfl rfl (Nat.le_of_ble_eq_true rfl) (by decide +kernel) ?_
  refine am_b1 C0 am_YYk (pc := 8) (pc2 := 11) [(.istore_n 1, 0, 0, .null), (.iconst 0, 0, 0, .int 0), (.istore_n 2, 0, 0, .null)] (L := [some (.ref 13), none, none]) (st := [.int (q6)]) (L' := [some (.ref 13), some (.int (q6)), some (.int ((0 : Int32)))]) (st' := []) (g' := g) (w' := w) (cl := []) (by decide +kernel) rfl trivial ?_
  refine B_X4_blow_13_11 x C0 hR w F R   F (q6) ((0 : Int32)) (g) hf
/-! ShutterTown$Shutters.state(I)I at (13,) -/
def f_X4_state_13 (g : am_G) (p1 : Int32) : Option (Int32) :=
  (f_X2_has g p1).bind fun q1 =>
    if q1 = 0 then
      some ((-9 : Int32))
    else
      if am_in p1 6 then
        some (g 14 (Int32.toNatClampNeg p1))
      else none
set_option maxRecDepth 20000 in
theorem M_X4_state_13 (l : Launch) (g : am_G) (w : am_J) (p1 : Int32) (R : Int32) (hf : f_X4_state_13 g p1 = some R) : am_Met l mi_X4_state rm_X4_state [.ref 13, .int p1] am_YY g w (some (.int R)) am_YY g w := by
  refine am_met (own := 4) [some (.ref 13), some (.int (p1))] (by decide) rfl rfl (by first | decide | exact Nat.le_of_ble_eq_true rfl) (fun x C0 hR hl hnm => ?_)
  unfold f_X4_state_13 at hf
  refine am_b1 C0 am_YYk (pc := 0) (pc2 := 5) [(.aload_n 0, 0, 0, .null), (.getfield 18, 4, 0, .null), (.iload_n 1, 0, 0, .null)] (L := [some (.ref 13), some (.int (p1))]) (st := []) (L' := [some (.ref 13), some (.int (p1))]) (st' := [.int (p1), .ref 3]) (g' := g) (w' := w) (cl := []) (by decide +kernel) rfl trivial ?_
  obtain ⟨q1, hq1, hf⟩ := Option.bind_eq_some_iff.mp hf
  refine am_callV (mi := mi_X2_has) (rm := rm_X2_has) [.int (p1)] C0.1 am_YYl cv_4_44 (M_X2_has _ g w p1 _ hq1) (ci := 2) rfl (by decide) rfl (by rw [hR]; rfl) rfl rfl (Nat.le_of_ble_eq_true rfl) (by decide +kernel) ?_
  refine am_if_eq C0 (off := 12) (tgt := 20) (by decide +kernel) (fun hc3 => ?_) (fun hc3 => ?_)
  · rw [if_pos hc3] at hf
    refine am_b1 C0 am_YYk (pc := 20) (pc2 := 22) [(.bipush (-9), 0, 0, .int (-9))] (L := [some (.ref 13), some (.int (p1))]) (st := []) (L' := [some (.ref 13), some (.int (p1))]) (st' := [.int ((-9 : Int32))]) (g' := g) (w' := w) (cl := []) (by decide +kernel) rfl trivial ?_
    cases hf
    exact am_iret C0 (by decide +kernel)
  · rw [if_neg hc3] at hf
    obtain ⟨hg2, hf⟩ := am_g hf
    refine am_b1 C0 am_YYk (pc := 11) (pc2 := 17) [(.aload_n 0, 0, 0, .null), (.getfield 9, 4, 1, .null), (.iload_n 1, 0, 0, .null), (.iaload, 0, 0, .null)] (L := [some (.ref 13), some (.int (p1))]) (st := []) (L' := [some (.ref 13), some (.int (p1))]) (st' := [.int (g 14 (Int32.toNatClampNeg p1))]) (g' := g) (w' := w) (cl := [am_in p1 6]) (by decide +kernel) rfl ⟨hg2, trivial⟩ ?_
    refine am_goto C0 (off := 5) (tgt := 22) (by decide +kernel) ?_
    cases hf
    exact am_iret C0 (by decide +kernel)
/-! ShutterTown$Shutters.word(I)I at (13,) -/
def f_X4_word_13 (g : am_G) (p1 : Int32) : Option (Int32) :=
  (f_X4_state_13 g p1).bind fun q1 =>
    (f_X2_wordOf g q1).bind fun q2 =>
      some (q2)
set_option maxRecDepth 20000 in
theorem M_X4_word_13 (l : Launch) (g : am_G) (w : am_J) (p1 : Int32) (R : Int32) (hf : f_X4_word_13 g p1 = some R) : am_Met l mi_X4_word rm_X4_word [.ref 13, .int p1] am_YY g w (some (.int R)) am_YY g w := by
  refine am_met (own := 4) [some (.ref 13), some (.int (p1))] (by decide) rfl rfl (by first | decide | exact Nat.le_of_ble_eq_true rfl) (fun x C0 hR hl hnm => ?_)
  unfold f_X4_word_13 at hf
  refine am_b1 C0 am_YYk (pc := 0) (pc2 := 6) [(.aload_n 0, 0, 0, .null), (.getfield 18, 4, 0, .null), (.aload_n 0, 0, 0, .null), (.iload_n 1, 0, 0, .null)] (L := [some (.ref 13), some (.int (p1))]) (st := []) (L' := [some (.ref 13), some (.int (p1))]) (st' := [.int (p1), .ref 13, .ref 3]) (g' := g) (w' := w) (cl := []) (by decide +kernel) rfl trivial ?_
  obtain ⟨q1, hq1, hf⟩ := Option.bind_eq_some_iff.mp hf
  refine am_callV (mi := mi_X4_state) (rm := rm_X4_state) [.int (p1)] C0.1 am_YYl cv_4_48 (M_X4_state_13 _ g w p1 _ hq1) (ci := 4) rfl (by decide) rfl (by rw [hR]; rfl) rfl rfl (Nat.le_of_ble_eq_true rfl) (by decide +kernel) ?_
  obtain ⟨q2, hq2, hf⟩ := Option.bind_eq_some_iff.mp hf
  refine am_callV (mi := mi_X2_wordOf) (rm := rm_X2_wordOf) [.int (q1)] C0.1 am_YYl cv_4_51 (M_X2_wordOf _ g w q1 _ hq2) (ci := 2) rfl (by decide) rfl (by rw [hR]; rfl) rfl rfl (Nat.le_of_ble_eq_true rfl) (by decide +kernel) ?_
  cases hf
  exact am_iret C0 (by decide +kernel)
/-! ShutterTown$Shutters.shift(II)V at (13,) -/
def f_X4_shift_13 (g : am_G) (p1 : Int32) (p2 : Int32) : Option (am_G) :=
  (f_X2_has g p1).bind fun q1 =>
    if q1 = 0 then
      some (g)
    else
      (f_X7_isState p2).bind fun q2 =>
        if q2 = 0 then
          some (g)
        else
          if am_in p1 6 then
            some (am_u g 14 (Int32.toNatClampNeg p1) p2)
          else none
set_option maxRecDepth 20000 in
theorem M_X4_shift_13 (l : Launch) (g : am_G) (w : am_J) (p1 : Int32) (p2 : Int32) (R : am_G) (hf : f_X4_shift_13 g p1 p2 = some R) : am_Met l mi_X4_shift rm_X4_shift [.ref 13, .int p1, .int p2] am_YY g w none am_YY R w := by
  refine am_met (own := 4) [some (.ref 13), some (.int (p1)), some (.int (p2))] (by decide) rfl rfl (by first | decide | exact Nat.le_of_ble_eq_true rfl) (fun x C0 hR hl hnm => ?_)
  unfold f_X4_shift_13 at hf
  refine am_b1 C0 am_YYk (pc := 0) (pc2 := 5) [(.aload_n 0, 0, 0, .null), (.getfield 18, 4, 0, .null), (.iload_n 1, 0, 0, .null)] (L := [some (.ref 13), some (.int (p1)), some (.int (p2))]) (st := []) (L' := [some (.ref 13), some (.int (p1)), some (.int (p2))]) (st' := [.int (p1), .ref 3]) (g' := g) (w' := w) (cl := []) (by decide +kernel) rfl trivial ?_
  obtain ⟨q1, hq1, hf⟩ := Option.bind_eq_some_iff.mp hf
  refine am_callV (mi := mi_X2_has) (rm := rm_X2_has) [.int (p1)] C0.1 am_YYl cv_4_44 (M_X2_has _ g w p1 _ hq1) (ci := 2) rfl (by decide) rfl (by rw [hR]; rfl) rfl rfl (Nat.le_of_ble_eq_true rfl) (by decide +kernel) ?_
  refine am_if_eq C0 (off := 17) (tgt := 25) (by decide +kernel) (fun hc5 => ?_) (fun hc5 => ?_)
  · rw [if_pos hc5] at hf
    cases hf
    exact am_vret C0 (by decide +kernel)
  · rw [if_neg hc5] at hf
    refine am_b1 C0 am_YYk (pc := 11) (pc2 := 12) [(.iload_n 2, 0, 0, .null)] (L := [some (.ref 13), some (.int (p1)), some (.int (p2))]) (st := []) (L' := [some (.ref 13), some (.int (p1)), some (.int (p2))]) (st' := [.int (p2)]) (g' := g) (w' := w) (cl := []) (by decide +kernel) rfl trivial ?_
    obtain ⟨q2, hq2, hf⟩ := Option.bind_eq_some_iff.mp hf
    refine am_callSN (mi := mi_X7_isState) (rm := rm_X7_isState) [.int (p2)] C0.1 cv_4_54 (M_X7_isState _ g w p2 _ hq2) (by rw [hR]; rfl) rfl rfl (Nat.le_of_ble_eq_true rfl) (by decide +kernel) ?_
    refine am_if_eq C0 (off := 10) (tgt := 25) (by decide +kernel) (fun hc4 => ?_) (fun hc4 => ?_)
    · rw [if_pos hc4] at hf
      cases hf
      exact am_vret C0 (by decide +kernel)
    · rw [if_neg hc4] at hf
      obtain ⟨hg3, hf⟩ := am_g hf
      refine am_b1 C0 am_YYk (pc := 18) (pc2 := 25) [(.aload_n 0, 0, 0, .null), (.getfield 9, 4, 1, .null), (.iload_n 1, 0, 0, .null), (.iload_n 2, 0, 0, .null), (.iastore, 0, 0, .null)] (L := [some (.ref 13), some (.int (p1)), some (.int (p2))]) (st := []) (L' := [some (.ref 13), some (.int (p1)), some (.int (p2))]) (st' := []) (g' := am_u g 14 (Int32.toNatClampNeg p1) p2) (w' := w) (cl := [am_in p1 6]) (by decide +kernel) rfl ⟨hg3, trivial⟩ ?_
      cases hf
      exact am_vret C0 (by decide +kernel)
/-! ShutterTown$Shutters.strike()I at (13,) -/
def f_X4_strike_13_82 (F : Nat)  (l1 : Int32) (g : am_G) : Option (Int32 × am_G) :=
  some (l1, am_u g 13 3 ((g 13 3) + (1 : Int32)))
set_option maxRecDepth 20000 in
theorem B_X4_strike_13_82 (x : am_X) (C0 : am_Cm x 4 cX4_strike 3 (some .int)) (hR : am_R x = rm_X4_strike) (w : am_J) (F : Nat) (R : Int32 × am_G)   (l1 : Int32) (g : am_G) (hf : f_X4_strike_13_82 F l1 g = some R) : am_Ev x 3 (0, 0) (am_Q x (0, 0) (some (.int R.1)) am_YY (R.2) w) 82 [some (.ref 13), some (.int (l1)), none] [] am_YY g w := by
  unfold f_X4_strike_13_82 at hf
  refine am_b1 C0 am_YYk (pc := 82) (pc2 := 93) [(.aload_n 0, 0, 0, .null), (.dup, 0, 0, .null), (.getfield 40, 4, 3, .null), (.iconst 1, 0, 0, .int 1), (.iadd, 0, 0, .null), (.putfield 40, 4, 3, .null), (.iload_n 1, 0, 0, .null)] (L := [some (.ref 13), some (.int (l1)), none]) (st := []) (L' := [some (.ref 13), some (.int (l1)), none]) (st' := [.int (l1)]) (g' := am_u g 13 3 ((g 13 3) + (1 : Int32))) (w' := w) (cl := []) (by decide +kernel) rfl trivial ?_
  cases hf
  exact am_iret C0 (by decide +kernel)
def f_X4_strike_13_76 (F : Nat) (k4 : Int32 → Int32 → am_G → Option (Int32 × am_G)) (k82 : Int32 → am_G → Option (Int32 × am_G)) (l1 : Int32) (l2 : Int32) (g : am_G) : Option (Int32 × am_G) :=
  k4 (l1) (l2 + (1 : Int32)) (g)
set_option maxRecDepth 20000 in
theorem B_X4_strike_13_76 (x : am_X) (C0 : am_Cm x 4 cX4_strike 3 (some .int)) (hR : am_R x = rm_X4_strike) (w : am_J) (F : Nat) (R : Int32 × am_G) (k4 : Int32 → Int32 → am_G → Option (Int32 × am_G)) (k82 : Int32 → am_G → Option (Int32 × am_G)) (hk4 : ∀ (l1 : Int32) (l2 : Int32) (g : am_G), k4 l1 l2 g = some R → am_Ev x 3 (0, 0) (am_Q x (0, 0) (some (.int R.1)) am_YY (R.2) w) 4 [some (.ref 13), some (.int (l1)), some (.int (l2))] [] am_YY g w) (hk82 : ∀ (l1 : Int32) (g : am_G), k82 l1 g = some R → am_Ev x 3 (0, 0) (am_Q x (0, 0) (some (.int R.1)) am_YY (R.2) w) 82 [some (.ref 13), some (.int (l1)), none] [] am_YY g w) (l1 : Int32) (l2 : Int32) (g : am_G) (hf : f_X4_strike_13_76 F k4 k82 l1 l2 g = some R) : am_Ev x 3 (0, 0) (am_Q x (0, 0) (some (.int R.1)) am_YY (R.2) w) 76 [some (.ref 13), some (.int (l1)), some (.int (l2))] [] am_YY g w := by
  unfold f_X4_strike_13_76 at hf
  refine am_b1 C0 am_YYk (pc := 76) (pc2 := 79) [(.iinc 2 1, 0, 0, .int 1)] (L := [some (.ref 13), some (.int (l1)), some (.int (l2))]) (st := []) (L' := [some (.ref 13), some (.int (l1)), some (.int (l2 + (1 : Int32)))]) (st' := []) (g' := g) (w' := w) (cl := []) (by decide +kernel) rfl trivial ?_
  refine am_goto C0 (off := (-75)) (tgt := 4) (by decide +kernel) ?_
  exact hk4 (l1) (l2 + (1 : Int32)) (g) hf
def f_X4_strike_13_48 (F : Nat) (k4 : Int32 → Int32 → am_G → Option (Int32 × am_G)) (k82 : Int32 → am_G → Option (Int32 × am_G)) (l2 : Int32) (s0 : Int32) (s1 : Int32) (g : am_G) : Option (Int32 × am_G) :=
  if am_in l2 6 then
    (f_X2_leastStateFor F g (g 15 (Int32.toNatClampNeg l2))).bind fun q2 =>
      (f_X4_shift_13 g l2 q2).bind fun q3 =>
        if am_in l2 6 then
          f_X4_strike_13_76 F k4 k82 (s0 ||| s1) (l2) (am_u q3 15 (Int32.toNatClampNeg l2) (-9 : Int32))
        else none
  else none
set_option maxRecDepth 20000 in
theorem B_X4_strike_13_48 (x : am_X) (C0 : am_Cm x 4 cX4_strike 3 (some .int)) (hR : am_R x = rm_X4_strike) (w : am_J) (F : Nat) (R : Int32 × am_G) (k4 : Int32 → Int32 → am_G → Option (Int32 × am_G)) (k82 : Int32 → am_G → Option (Int32 × am_G)) (hk4 : ∀ (l1 : Int32) (l2 : Int32) (g : am_G), k4 l1 l2 g = some R → am_Ev x 3 (0, 0) (am_Q x (0, 0) (some (.int R.1)) am_YY (R.2) w) 4 [some (.ref 13), some (.int (l1)), some (.int (l2))] [] am_YY g w) (hk82 : ∀ (l1 : Int32) (g : am_G), k82 l1 g = some R → am_Ev x 3 (0, 0) (am_Q x (0, 0) (some (.int R.1)) am_YY (R.2) w) 82 [some (.ref 13), some (.int (l1)), none] [] am_YY g w) (l2 : Int32) (s0 : Int32) (s1 : Int32) (g : am_G) (hf : f_X4_strike_13_48 F k4 k82 l2 s0 s1 g = some R) : am_Ev x 3 (0, 0) (am_Q x (0, 0) (some (.int R.1)) am_YY (R.2) w) 48 [some (.ref 13), none, some (.int (l2))] [.int (s1), .int (s0)] am_YY g w := by
  unfold f_X4_strike_13_48 at hf
  obtain ⟨hg1, hf⟩ := am_g hf
  refine am_b1 C0 am_YYk (pc := 48) (pc2 := 62) [(.ior, 0, 0, .null), (.istore_n 1, 0, 0, .null), (.aload_n 0, 0, 0, .null), (.iload_n 2, 0, 0, .null), (.aload_n 0, 0, 0, .null), (.getfield 18, 4, 0, .null), (.aload_n 0, 0, 0, .null), (.getfield 15, 4, 2, .null), (.iload_n 2, 0, 0, .null), (.iaload, 0, 0, .null)] (L := [some (.ref 13), none, some (.int (l2))]) (st := [.int (s1), .int (s0)]) (L' := [some (.ref 13), some (.int (s0 ||| s1)), some (.int (l2))]) (st' := [.int (g 15 (Int32.toNatClampNeg l2)), .ref 3, .int (l2), .ref 13]) (g' := g) (w' := w) (cl := [am_in l2 6]) (by decide +kernel) rfl ⟨hg1, trivial⟩ ?_
  obtain ⟨q2, hq2, hf⟩ := Option.bind_eq_some_iff.mp hf
  refine am_callV (mi := mi_X2_leastStateFor) (rm := rm_X2_leastStateFor) [.int (g 15 (Int32.toNatClampNeg l2))] C0.1 am_YYl cv_4_63 (M_X2_leastStateFor _ F g w (g 15 (Int32.toNatClampNeg l2)) _ hq2) (ci := 2) rfl (by decide) rfl (by rw [hR]; rfl) rfl rfl (Nat.le_of_ble_eq_true rfl) (by decide +kernel) ?_
  obtain ⟨q3, hq3, hf⟩ := Option.bind_eq_some_iff.mp hf
  refine am_callV (mi := mi_X4_shift) (rm := rm_X4_shift) [.int (l2), .int (q2)] C0.1 am_YYl cv_4_66 (M_X4_shift_13 _ g w l2 q2 _ hq3) (ci := 4) rfl (by decide) rfl (by rw [hR]; rfl) rfl rfl (Nat.le_of_ble_eq_true rfl) (by decide +kernel) ?_
  obtain ⟨hg4, hf⟩ := am_g hf
  refine am_b1 C0 am_YYk (pc := 68) (pc2 := 76) [(.aload_n 0, 0, 0, .null), (.getfield 15, 4, 2, .null), (.iload_n 2, 0, 0, .null), (.bipush (-9), 0, 0, .int (-9)), (.iastore, 0, 0, .null)] (L := [some (.ref 13), some (.int (s0 ||| s1)), some (.int (l2))]) (st := []) (L' := [some (.ref 13), some (.int (s0 ||| s1)), some (.int (l2))]) (st' := []) (g' := am_u q3 15 (Int32.toNatClampNeg l2) (-9 : Int32)) (w' := w) (cl := [am_in l2 6]) (by decide +kernel) rfl ⟨hg4, trivial⟩ ?_
  exact B_X4_strike_13_76 x C0 hR w F R _ _ hk4 hk82 (s0 ||| s1) (l2) (am_u q3 15 (Int32.toNatClampNeg l2) (-9 : Int32)) hf
def f_X4_strike_13_4 (F : Nat) (k82 : Int32 → am_G → Option (Int32 × am_G)) : Nat → Int32 → Int32 → am_G → Option (Int32 × am_G)
  | 0, _, _, _ => none
  | n + 1, l1, l2, g =>
    (f_X2_windows g).bind fun q5 =>
      if q5 ≤ l2 then
        k82 (l1) (g)
      else
        if am_in l2 6 then
          if (g 15 (Int32.toNatClampNeg l2)) = (-9 : Int32) then
            f_X4_strike_13_76 F (fun l1 l2 g => f_X4_strike_13_4 F k82 n l1 l2 g) k82 (l1) (l2) (g)
          else
            (f_X4_word_13 g l2).bind fun q7 =>
              if am_in l2 6 then
                if q7 = (g 15 (Int32.toNatClampNeg l2)) then
                  f_X4_strike_13_48 F (fun l1 l2 g => f_X4_strike_13_4 F k82 n l1 l2 g) k82 (l2) (l1) ((0 : Int32)) (g)
                else
                  f_X4_strike_13_48 F (fun l1 l2 g => f_X4_strike_13_4 F k82 n l1 l2 g) k82 (l2) (l1) ((1 : Int32) <<< (l2 &&& 31)) (g)
              else none
        else none
set_option maxRecDepth 20000 in
theorem B_X4_strike_13_4 (x : am_X) (C0 : am_Cm x 4 cX4_strike 3 (some .int)) (hR : am_R x = rm_X4_strike) (w : am_J) (F : Nat) (R : Int32 × am_G) (k82 : Int32 → am_G → Option (Int32 × am_G)) (hk82 : ∀ (l1 : Int32) (g : am_G), k82 l1 g = some R → am_Ev x 3 (0, 0) (am_Q x (0, 0) (some (.int R.1)) am_YY (R.2) w) 82 [some (.ref 13), some (.int (l1)), none] [] am_YY g w) : ∀ (n : Nat) (l1 : Int32) (l2 : Int32) (g : am_G), f_X4_strike_13_4 F k82 n l1 l2 g = some R → am_Ev x 3 (0, 0) (am_Q x (0, 0) (some (.int R.1)) am_YY (R.2) w) 4 [some (.ref 13), some (.int (l1)), some (.int (l2))] [] am_YY g w := by
  intro n
  induction n with
  | zero => intro l1 l2 g hf; cases hf
  | succ n ih =>
    intro l1 l2 g hf
    rw [f_X4_strike_13_4.eq_2] at hf
    refine am_b1 C0 am_YYk (pc := 4) (pc2 := 9) [(.iload_n 2, 0, 0, .null), (.aload_n 0, 0, 0, .null), (.getfield 18, 4, 0, .null)] (L := [some (.ref 13), some (.int (l1)), some (.int (l2))]) (st := []) (L' := [some (.ref 13), some (.int (l1)), some (.int (l2))]) (st' := [.ref 3, .int (l2)]) (g' := g) (w' := w) (cl := []) (by decide +kernel) rfl trivial ?_
    obtain ⟨q5, hq5, hf⟩ := Option.bind_eq_some_iff.mp hf
    refine am_callV (mi := mi_X2_windows) (rm := rm_X2_windows) [] C0.1 am_YYl cv_4_22 (M_X2_windows _ g w _ hq5) (ci := 2) rfl (by decide) rfl (by rw [hR]; rfl) rfl rfl (Nat.le_of_ble_eq_true rfl) (by decide +kernel) ?_
    refine am_icmp_ge C0 (off := 70) (tgt := 82) (by decide +kernel) (fun hc11 => ?_) (fun hc11 => ?_)
    · rw [if_pos hc11] at hf
      refine am_wk [some (.ref 13), some (.int (l1)), none] ⟨rfl, rfl, trivial⟩ rfl ?_
      exact hk82 (l1) (g) hf
    · rw [if_neg hc11] at hf
      obtain ⟨hg6, hf⟩ := am_g hf
      refine am_b1 C0 am_YYk (pc := 15) (pc2 := 23) [(.aload_n 0, 0, 0, .null), (.getfield 15, 4, 2, .null), (.iload_n 2, 0, 0, .null), (.iaload, 0, 0, .null), (.bipush (-9), 0, 0, .int (-9))] (L := [some (.ref 13), some (.int (l1)), some (.int (l2))]) (st := []) (L' := [some (.ref 13), some (.int (l1)), some (.int (l2))]) (st' := [.int ((-9 : Int32)), .int (g 15 (Int32.toNatClampNeg l2))]) (g' := g) (w' := w) (cl := [am_in l2 6]) (by decide +kernel) rfl ⟨hg6, trivial⟩ ?_
      refine am_icmp_eq C0 (off := 53) (tgt := 76) (by decide +kernel) (fun hc10 => ?_) (fun hc10 => ?_)
      · rw [if_pos hc10] at hf
        exact B_X4_strike_13_76 x C0 hR w F R _ _ (fun l1 l2 g hf => ih l1 l2 g hf) hk82 (l1) (l2) (g) hf
      · rw [if_neg hc10] at hf
        refine am_b1 C0 am_YYk (pc := 26) (pc2 := 29) [(.iload_n 1, 0, 0, .null), (.aload_n 0, 0, 0, .null), (.iload_n 2, 0, 0, .null)] (L := [some (.ref 13), some (.int (l1)), some (.int (l2))]) (st := []) (L' := [some (.ref 13), some (.int (l1)), some (.int (l2))]) (st' := [.int (l2), .ref 13, .int (l1)]) (g' := g) (w' := w) (cl := []) (by decide +kernel) rfl trivial ?_
        obtain ⟨q7, hq7, hf⟩ := Option.bind_eq_some_iff.mp hf
        refine am_callV (mi := mi_X4_word) (rm := rm_X4_word) [.int (l2)] C0.1 am_YYl cv_4_70 (M_X4_word_13 _ g w l2 _ hq7) (ci := 4) rfl (by decide) rfl (by rw [hR]; rfl) rfl rfl (Nat.le_of_ble_eq_true rfl) (by decide +kernel) ?_
        obtain ⟨hg8, hf⟩ := am_g hf
        refine am_b1 C0 am_YYk (pc := 32) (pc2 := 38) [(.aload_n 0, 0, 0, .null), (.getfield 15, 4, 2, .null), (.iload_n 2, 0, 0, .null), (.iaload, 0, 0, .null)] (L := [some (.ref 13), some (.int (l1)), some (.int (l2))]) (st := [.int (q7), .int (l1)]) (L' := [some (.ref 13), some (.int (l1)), some (.int (l2))]) (st' := [.int (g 15 (Int32.toNatClampNeg l2)), .int (q7), .int (l1)]) (g' := g) (w' := w) (cl := [am_in l2 6]) (by decide +kernel) rfl ⟨hg8, trivial⟩ ?_
        refine am_icmp_eq C0 (off := 9) (tgt := 47) (by decide +kernel) (fun hc9 => ?_) (fun hc9 => ?_)
        · rw [if_pos hc9] at hf
          refine am_b1 C0 am_YYk (pc := 47) (pc2 := 48) [(.iconst 0, 0, 0, .int 0)] (L := [some (.ref 13), some (.int (l1)), some (.int (l2))]) (st := [.int (l1)]) (L' := [some (.ref 13), some (.int (l1)), some (.int (l2))]) (st' := [.int ((0 : Int32)), .int (l1)]) (g' := g) (w' := w) (cl := []) (by decide +kernel) rfl trivial ?_
          refine am_wk [some (.ref 13), none, some (.int (l2))] ⟨rfl, rfl, trivial⟩ rfl ?_
          exact B_X4_strike_13_48 x C0 hR w F R _ _ (fun l1 l2 g hf => ih l1 l2 g hf) hk82 (l2) (l1) ((0 : Int32)) (g) hf
        · rw [if_neg hc9] at hf
          refine am_b1 C0 am_YYk (pc := 41) (pc2 := 44) [(.iconst 1, 0, 0, .int 1), (.iload_n 2, 0, 0, .null), (.ishl, 0, 0, .null)] (L := [some (.ref 13), some (.int (l1)), some (.int (l2))]) (st := [.int (l1)]) (L' := [some (.ref 13), some (.int (l1)), some (.int (l2))]) (st' := [.int ((1 : Int32) <<< (l2 &&& 31)), .int (l1)]) (g' := g) (w' := w) (cl := []) (by decide +kernel) rfl trivial ?_
          refine am_goto C0 (off := 4) (tgt := 48) (by decide +kernel) ?_
          refine am_wk [some (.ref 13), none, some (.int (l2))] ⟨rfl, rfl, trivial⟩ rfl ?_
          exact B_X4_strike_13_48 x C0 hR w F R _ _ (fun l1 l2 g hf => ih l1 l2 g hf) hk82 (l2) (l1) ((1 : Int32) <<< (l2 &&& 31)) (g) hf
def f_X4_strike_13 (F : Nat) (g : am_G) : Option (Int32 × am_G) :=
  f_X4_strike_13_4 F (fun l1 g => f_X4_strike_13_82 F (l1) (g)) F ((0 : Int32)) ((0 : Int32)) (g)
set_option maxRecDepth 20000 in
theorem M_X4_strike_13 (l : Launch) (F : Nat) (g : am_G) (w : am_J)  (R : Int32 × am_G) (hf : f_X4_strike_13 F g = some R) : am_Met l mi_X4_strike rm_X4_strike [.ref 13] am_YY g w (some (.int R.1)) am_YY (R.2) w := by
  refine am_met (own := 4) [some (.ref 13), none, none] (by decide) rfl rfl (by first | decide | exact Nat.le_of_ble_eq_true rfl) (fun x C0 hR hl hnm => ?_)
  unfold f_X4_strike_13 at hf
  refine am_b1 C0 am_YYk (pc := 0) (pc2 := 4) [(.iconst 0, 0, 0, .int 0), (.istore_n 1, 0, 0, .null), (.iconst 0, 0, 0, .int 0), (.istore_n 2, 0, 0, .null)] (L := [some (.ref 13), none, none]) (st := []) (L' := [some (.ref 13), some (.int ((0 : Int32))), some (.int ((0 : Int32)))]) (st' := []) (g' := g) (w' := w) (cl := []) (by decide +kernel) rfl trivial ?_
  refine B_X4_strike_13_4 x C0 hR w F R _ ?_ F ((0 : Int32)) ((0 : Int32)) (g) hf
  · intro l1 g hf
    exact B_X4_strike_13_82 x C0 hR w F R  (l1) (g) hf
/-! ShutterTown$Shutters.canShift(II)Z at (13,) -/
def f_X4_canShift_13 (g : am_G) (p1 : Int32) (p2 : Int32) : Option (Int32) :=
  (f_X2_has g p1).bind fun q1 =>
    if q1 = 0 then
      some ((0 : Int32))
    else
      (f_X7_isState p2).bind fun q2 =>
        if q2 = 0 then
          some ((0 : Int32))
        else
          (f_X2_kind g p1).bind fun q3 =>
            if q3 = (3 : Int32) then
              some ((0 : Int32))
            else
              if am_in p1 6 then
                if (g 14 (Int32.toNatClampNeg p1)) = p2 then
                  some ((0 : Int32))
                else
                  some ((1 : Int32))
              else none
set_option maxRecDepth 20000 in
theorem M_X4_canShift_13 (l : Launch) (g : am_G) (w : am_J) (p1 : Int32) (p2 : Int32) (R : Int32) (hf : f_X4_canShift_13 g p1 p2 = some R) : am_Met l mi_X4_canShift rm_X4_canShift [.ref 13, .int p1, .int p2] am_YY g w (some (.int R)) am_YY g w := by
  refine am_met (own := 4) [some (.ref 13), some (.int (p1)), some (.int (p2))] (by decide) rfl rfl (by first | decide | exact Nat.le_of_ble_eq_true rfl) (fun x C0 hR hl hnm => ?_)
  unfold f_X4_canShift_13 at hf
  refine am_b1 C0 am_YYk (pc := 0) (pc2 := 5) [(.aload_n 0, 0, 0, .null), (.getfield 18, 4, 0, .null), (.iload_n 1, 0, 0, .null)] (L := [some (.ref 13), some (.int (p1)), some (.int (p2))]) (st := []) (L' := [some (.ref 13), some (.int (p1)), some (.int (p2))]) (st' := [.int (p1), .ref 3]) (g' := g) (w' := w) (cl := []) (by decide +kernel) rfl trivial ?_
  obtain ⟨q1, hq1, hf⟩ := Option.bind_eq_some_iff.mp hf
  refine am_callV (mi := mi_X2_has) (rm := rm_X2_has) [.int (p1)] C0.1 am_YYl cv_4_44 (M_X2_has _ g w p1 _ hq1) (ci := 2) rfl (by decide) rfl (by rw [hR]; rfl) rfl rfl (Nat.le_of_ble_eq_true rfl) (by decide +kernel) ?_
  refine am_if_eq C0 (off := 36) (tgt := 44) (by decide +kernel) (fun hc8 => ?_) (fun hc8 => ?_)
  · rw [if_pos hc8] at hf
    refine am_b1 C0 am_YYk (pc := 44) (pc2 := 45) [(.iconst 0, 0, 0, .int 0)] (L := [some (.ref 13), some (.int (p1)), some (.int (p2))]) (st := []) (L' := [some (.ref 13), some (.int (p1)), some (.int (p2))]) (st' := [.int ((0 : Int32))]) (g' := g) (w' := w) (cl := []) (by decide +kernel) rfl trivial ?_
    cases hf
    exact am_zret C0 (by decide +kernel) (Or.inl rfl)
  · rw [if_neg hc8] at hf
    refine am_b1 C0 am_YYk (pc := 11) (pc2 := 12) [(.iload_n 2, 0, 0, .null)] (L := [some (.ref 13), some (.int (p1)), some (.int (p2))]) (st := []) (L' := [some (.ref 13), some (.int (p1)), some (.int (p2))]) (st' := [.int (p2)]) (g' := g) (w' := w) (cl := []) (by decide +kernel) rfl trivial ?_
    obtain ⟨q2, hq2, hf⟩ := Option.bind_eq_some_iff.mp hf
    refine am_callSN (mi := mi_X7_isState) (rm := rm_X7_isState) [.int (p2)] C0.1 cv_4_54 (M_X7_isState _ g w p2 _ hq2) (by rw [hR]; rfl) rfl rfl (Nat.le_of_ble_eq_true rfl) (by decide +kernel) ?_
    refine am_if_eq C0 (off := 29) (tgt := 44) (by decide +kernel) (fun hc7 => ?_) (fun hc7 => ?_)
    · rw [if_pos hc7] at hf
      refine am_b1 C0 am_YYk (pc := 44) (pc2 := 45) [(.iconst 0, 0, 0, .int 0)] (L := [some (.ref 13), some (.int (p1)), some (.int (p2))]) (st := []) (L' := [some (.ref 13), some (.int (p1)), some (.int (p2))]) (st' := [.int ((0 : Int32))]) (g' := g) (w' := w) (cl := []) (by decide +kernel) rfl trivial ?_
      cases hf
      exact am_zret C0 (by decide +kernel) (Or.inl rfl)
    · rw [if_neg hc7] at hf
      refine am_b1 C0 am_YYk (pc := 18) (pc2 := 23) [(.aload_n 0, 0, 0, .null), (.getfield 18, 4, 0, .null), (.iload_n 1, 0, 0, .null)] (L := [some (.ref 13), some (.int (p1)), some (.int (p2))]) (st := []) (L' := [some (.ref 13), some (.int (p1)), some (.int (p2))]) (st' := [.int (p1), .ref 3]) (g' := g) (w' := w) (cl := []) (by decide +kernel) rfl trivial ?_
      obtain ⟨q3, hq3, hf⟩ := Option.bind_eq_some_iff.mp hf
      refine am_callV (mi := mi_X2_kind) (rm := rm_X2_kind) [.int (p1)] C0.1 am_YYl cv_4_57 (M_X2_kind _ g w p1 _ hq3) (ci := 2) rfl (by decide) rfl (by rw [hR]; rfl) rfl rfl (Nat.le_of_ble_eq_true rfl) (by decide +kernel) ?_
      refine am_b1 C0 am_YYk (pc := 26) (pc2 := 27) [(.iconst 3, 0, 0, .int 3)] (L := [some (.ref 13), some (.int (p1)), some (.int (p2))]) (st := [.int (q3)]) (L' := [some (.ref 13), some (.int (p1)), some (.int (p2))]) (st' := [.int ((3 : Int32)), .int (q3)]) (g' := g) (w' := w) (cl := []) (by decide +kernel) rfl trivial ?_
      refine am_icmp_eq C0 (off := 17) (tgt := 44) (by decide +kernel) (fun hc6 => ?_) (fun hc6 => ?_)
      · rw [if_pos hc6] at hf
        refine am_b1 C0 am_YYk (pc := 44) (pc2 := 45) [(.iconst 0, 0, 0, .int 0)] (L := [some (.ref 13), some (.int (p1)), some (.int (p2))]) (st := []) (L' := [some (.ref 13), some (.int (p1)), some (.int (p2))]) (st' := [.int ((0 : Int32))]) (g' := g) (w' := w) (cl := []) (by decide +kernel) rfl trivial ?_
        cases hf
        exact am_zret C0 (by decide +kernel) (Or.inl rfl)
      · rw [if_neg hc6] at hf
        obtain ⟨hg4, hf⟩ := am_g hf
        refine am_b1 C0 am_YYk (pc := 30) (pc2 := 37) [(.aload_n 0, 0, 0, .null), (.getfield 9, 4, 1, .null), (.iload_n 1, 0, 0, .null), (.iaload, 0, 0, .null), (.iload_n 2, 0, 0, .null)] (L := [some (.ref 13), some (.int (p1)), some (.int (p2))]) (st := []) (L' := [some (.ref 13), some (.int (p1)), some (.int (p2))]) (st' := [.int (p2), .int (g 14 (Int32.toNatClampNeg p1))]) (g' := g) (w' := w) (cl := [am_in p1 6]) (by decide +kernel) rfl ⟨hg4, trivial⟩ ?_
        refine am_icmp_eq C0 (off := 7) (tgt := 44) (by decide +kernel) (fun hc5 => ?_) (fun hc5 => ?_)
        · rw [if_pos hc5] at hf
          refine am_b1 C0 am_YYk (pc := 44) (pc2 := 45) [(.iconst 0, 0, 0, .int 0)] (L := [some (.ref 13), some (.int (p1)), some (.int (p2))]) (st := []) (L' := [some (.ref 13), some (.int (p1)), some (.int (p2))]) (st' := [.int ((0 : Int32))]) (g' := g) (w' := w) (cl := []) (by decide +kernel) rfl trivial ?_
          cases hf
          exact am_zret C0 (by decide +kernel) (Or.inl rfl)
        · rw [if_neg hc5] at hf
          refine am_b1 C0 am_YYk (pc := 40) (pc2 := 41) [(.iconst 1, 0, 0, .int 1)] (L := [some (.ref 13), some (.int (p1)), some (.int (p2))]) (st := []) (L' := [some (.ref 13), some (.int (p1)), some (.int (p2))]) (st' := [.int ((1 : Int32))]) (g' := g) (w' := w) (cl := []) (by decide +kernel) rfl trivial ?_
          refine am_goto C0 (off := 4) (tgt := 45) (by decide +kernel) ?_
          cases hf
          exact am_zret C0 (by decide +kernel) (Or.inr rfl)
/-! ShutterTown.happens(II)Z at (0,) -/
def f_X7_happens_41 (F : Nat) (p1 : Int32) (p2 : Int32)  (g : am_G) : Option (Int32 × am_G) :=
  (f_X4_canShift_13 g p1 p2).bind fun q1 =>
    if q1 = 0 then
      some ((0 : Int32), g)
    else
      (f_X4_shift_13 g p1 p2).bind fun q2 =>
        some ((1 : Int32), q2)
set_option maxRecDepth 20000 in
theorem B_X7_happens_41 (x : am_X) (C0 : am_Cm x 7 cX7_happens 3 (some .boolean)) (hR : am_R x = rm_X7_happens) (w : am_J) (F : Nat) (p1 : Int32) (p2 : Int32) (R : Int32 × am_G)   (g : am_G) (hf : f_X7_happens_41 F p1 p2 g = some R) : am_Ev x 3 (0, 0) (am_Q x (0, 0) (some (.int R.1)) am_YY (R.2) w) 41 [some (.ref 0), some (.int (p1)), some (.int (p2))] [] am_YY g w := by
  unfold f_X7_happens_41 at hf
  refine am_b1 C0 am_YYk (pc := 41) (pc2 := 47) [(.aload_n 0, 0, 0, .null), (.getfield 32, 7, 3, .null), (.iload_n 1, 0, 0, .null), (.iload_n 2, 0, 0, .null)] (L := [some (.ref 0), some (.int (p1)), some (.int (p2))]) (st := []) (L' := [some (.ref 0), some (.int (p1)), some (.int (p2))]) (st' := [.int (p2), .int (p1), .ref 13]) (g' := g) (w' := w) (cl := []) (by decide +kernel) rfl trivial ?_
  obtain ⟨q1, hq1, hf⟩ := Option.bind_eq_some_iff.mp hf
  refine am_callV (mi := mi_X4_canShift) (rm := rm_X4_canShift) [.int (p1), .int (p2)] C0.1 am_YYl cv_7_127 (M_X4_canShift_13 _ g w p1 p2 _ hq1) (ci := 4) rfl (by decide) rfl (by rw [hR]; rfl) rfl rfl (Nat.le_of_ble_eq_true rfl) (by decide +kernel) ?_
  refine am_if_ne C0 (off := 5) (tgt := 55) (by decide +kernel) (fun hc3 => ?_) (fun hc3 => ?_)
  · rw [if_neg hc3] at hf
    refine am_b1 C0 am_YYk (pc := 55) (pc2 := 61) [(.aload_n 0, 0, 0, .null), (.getfield 32, 7, 3, .null), (.iload_n 1, 0, 0, .null), (.iload_n 2, 0, 0, .null)] (L := [some (.ref 0), some (.int (p1)), some (.int (p2))]) (st := []) (L' := [some (.ref 0), some (.int (p1)), some (.int (p2))]) (st' := [.int (p2), .int (p1), .ref 13]) (g' := g) (w' := w) (cl := []) (by decide +kernel) rfl trivial ?_
    obtain ⟨q2, hq2, hf⟩ := Option.bind_eq_some_iff.mp hf
    refine am_callV (mi := mi_X4_shift) (rm := rm_X4_shift) [.int (p1), .int (p2)] C0.1 am_YYl cv_7_135 (M_X4_shift_13 _ g w p1 p2 _ hq2) (ci := 4) rfl (by decide) rfl (by rw [hR]; rfl) rfl rfl (Nat.le_of_ble_eq_true rfl) (by decide +kernel) ?_
    refine am_b1 C0 am_YYk (pc := 64) (pc2 := 65) [(.iconst 1, 0, 0, .int 1)] (L := [some (.ref 0), some (.int (p1)), some (.int (p2))]) (st := []) (L' := [some (.ref 0), some (.int (p1)), some (.int (p2))]) (st' := [.int ((1 : Int32))]) (g' := q2) (w' := w) (cl := []) (by decide +kernel) rfl trivial ?_
    cases hf
    exact am_zret C0 (by decide +kernel) (Or.inr rfl)
  · rw [if_pos hc3] at hf
    refine am_b1 C0 am_YYk (pc := 53) (pc2 := 54) [(.iconst 0, 0, 0, .int 0)] (L := [some (.ref 0), some (.int (p1)), some (.int (p2))]) (st := []) (L' := [some (.ref 0), some (.int (p1)), some (.int (p2))]) (st' := [.int ((0 : Int32))]) (g' := g) (w' := w) (cl := []) (by decide +kernel) rfl trivial ?_
    cases hf
    exact am_zret C0 (by decide +kernel) (Or.inl rfl)
def f_X7_happens_20 (F : Nat) (p1 : Int32) (p2 : Int32)  (g : am_G) : Option (Int32 × am_G) :=
  if p1 = (9 : Int32) then
    if p2 = (1 : Int32) then
      (f_X4_strike_13 F g).bind fun q4 =>
        some ((1 : Int32), q4.2)
    else
      f_X7_happens_41 F p1 p2 (g)
  else
    f_X7_happens_41 F p1 p2 (g)
set_option maxRecDepth 20000 in
theorem B_X7_happens_20 (x : am_X) (C0 : am_Cm x 7 cX7_happens 3 (some .boolean)) (hR : am_R x = rm_X7_happens) (w : am_J) (F : Nat) (p1 : Int32) (p2 : Int32) (R : Int32 × am_G)   (g : am_G) (hf : f_X7_happens_20 F p1 p2 g = some R) : am_Ev x 3 (0, 0) (am_Q x (0, 0) (some (.int R.1)) am_YY (R.2) w) 20 [some (.ref 0), some (.int (p1)), some (.int (p2))] [] am_YY g w := by
  unfold f_X7_happens_20 at hf
  refine am_b1 C0 am_YYk (pc := 20) (pc2 := 23) [(.iload_n 1, 0, 0, .null), (.bipush 9, 0, 0, .int 9)] (L := [some (.ref 0), some (.int (p1)), some (.int (p2))]) (st := []) (L' := [some (.ref 0), some (.int (p1)), some (.int (p2))]) (st' := [.int ((9 : Int32)), .int (p1)]) (g' := g) (w' := w) (cl := []) (by decide +kernel) rfl trivial ?_
  refine am_icmp_ne C0 (off := 18) (tgt := 41) (by decide +kernel) (fun hc6 => ?_) (fun hc6 => ?_)
  · rw [if_neg hc6] at hf
    exact B_X7_happens_41 x C0 hR w F p1 p2 R  (g) hf
  · rw [if_pos hc6] at hf
    refine am_b1 C0 am_YYk (pc := 26) (pc2 := 28) [(.iload_n 2, 0, 0, .null), (.iconst 1, 0, 0, .int 1)] (L := [some (.ref 0), some (.int (p1)), some (.int (p2))]) (st := []) (L' := [some (.ref 0), some (.int (p1)), some (.int (p2))]) (st' := [.int ((1 : Int32)), .int (p2)]) (g' := g) (w' := w) (cl := []) (by decide +kernel) rfl trivial ?_
    refine am_icmp_ne C0 (off := 13) (tgt := 41) (by decide +kernel) (fun hc5 => ?_) (fun hc5 => ?_)
    · rw [if_neg hc5] at hf
      exact B_X7_happens_41 x C0 hR w F p1 p2 R  (g) hf
    · rw [if_pos hc5] at hf
      refine am_b1 C0 am_YYk (pc := 31) (pc2 := 35) [(.aload_n 0, 0, 0, .null), (.getfield 32, 7, 3, .null)] (L := [some (.ref 0), some (.int (p1)), some (.int (p2))]) (st := []) (L' := [some (.ref 0), some (.int (p1)), some (.int (p2))]) (st' := [.ref 13]) (g' := g) (w' := w) (cl := []) (by decide +kernel) rfl trivial ?_
      obtain ⟨q4, hq4, hf⟩ := Option.bind_eq_some_iff.mp hf
      refine am_callV (mi := mi_X4_strike) (rm := rm_X4_strike) [] C0.1 am_YYl cv_7_148 (M_X4_strike_13 _ F g w _ hq4) (ci := 4) rfl (by decide) rfl (by rw [hR]; rfl) rfl rfl (Nat.le_of_ble_eq_true rfl) (by decide +kernel) ?_
      refine am_b1 C0 am_YYk (pc := 38) (pc2 := 40) [(.pop, 0, 0, .null), (.iconst 1, 0, 0, .int 1)] (L := [some (.ref 0), some (.int (p1)), some (.int (p2))]) (st := [.int (q4.1)]) (L' := [some (.ref 0), some (.int (p1)), some (.int (p2))]) (st' := [.int ((1 : Int32))]) (g' := q4.2) (w' := w) (cl := []) (by decide +kernel) rfl trivial ?_
      cases hf
      exact am_zret C0 (by decide +kernel) (Or.inr rfl)
def f_X7_happens (F : Nat) (g : am_G) (p1 : Int32) (p2 : Int32) : Option (Int32 × am_G) :=
  if p1 = (9 : Int32) then
    if p2 = 0 then
      (f_X4_blow_13 F g).bind fun q7 =>
        some ((1 : Int32), q7.2)
    else
      f_X7_happens_20 F p1 p2 (g)
  else
    f_X7_happens_20 F p1 p2 (g)
set_option maxRecDepth 20000 in
theorem M_X7_happens (l : Launch) (F : Nat) (g : am_G) (w : am_J) (p1 : Int32) (p2 : Int32) (R : Int32 × am_G) (hf : f_X7_happens F g p1 p2 = some R) : am_Met l mi_X7_happens rm_X7_happens [.ref 0, .int p1, .int p2] am_YY g w (some (.int R.1)) am_YY (R.2) w := by
  refine am_met (own := 7) [some (.ref 0), some (.int (p1)), some (.int (p2))] (by decide) rfl rfl (by first | decide | exact Nat.le_of_ble_eq_true rfl) (fun x C0 hR hl hnm => ?_)
  unfold f_X7_happens at hf
  refine am_b1 C0 am_YYk (pc := 0) (pc2 := 3) [(.iload_n 1, 0, 0, .null), (.bipush 9, 0, 0, .int 9)] (L := [some (.ref 0), some (.int (p1)), some (.int (p2))]) (st := []) (L' := [some (.ref 0), some (.int (p1)), some (.int (p2))]) (st' := [.int ((9 : Int32)), .int (p1)]) (g' := g) (w' := w) (cl := []) (by decide +kernel) rfl trivial ?_
  refine am_icmp_ne C0 (off := 17) (tgt := 20) (by decide +kernel) (fun hc9 => ?_) (fun hc9 => ?_)
  · rw [if_neg hc9] at hf
    exact B_X7_happens_20 x C0 hR w F p1 p2 R  (g) hf
  · rw [if_pos hc9] at hf
    refine am_b1 C0 am_YYk (pc := 6) (pc2 := 7) [(.iload_n 2, 0, 0, .null)] (L := [some (.ref 0), some (.int (p1)), some (.int (p2))]) (st := []) (L' := [some (.ref 0), some (.int (p1)), some (.int (p2))]) (st' := [.int (p2)]) (g' := g) (w' := w) (cl := []) (by decide +kernel) rfl trivial ?_
    refine am_if_ne C0 (off := 13) (tgt := 20) (by decide +kernel) (fun hc8 => ?_) (fun hc8 => ?_)
    · rw [if_neg hc8] at hf
      exact B_X7_happens_20 x C0 hR w F p1 p2 R  (g) hf
    · rw [if_pos hc8] at hf
      refine am_b1 C0 am_YYk (pc := 10) (pc2 := 14) [(.aload_n 0, 0, 0, .null), (.getfield 32, 7, 3, .null)] (L := [some (.ref 0), some (.int (p1)), some (.int (p2))]) (st := []) (L' := [some (.ref 0), some (.int (p1)), some (.int (p2))]) (st' := [.ref 13]) (g' := g) (w' := w) (cl := []) (by decide +kernel) rfl trivial ?_
      obtain ⟨q7, hq7, hf⟩ := Option.bind_eq_some_iff.mp hf
      refine am_callV (mi := mi_X4_blow) (rm := rm_X4_blow) [] C0.1 am_YYl cv_7_139 (M_X4_blow_13 _ F g w _ hq7) (ci := 4) rfl (by decide) rfl (by rw [hR]; rfl) rfl rfl (Nat.le_of_ble_eq_true rfl) (by decide +kernel) ?_
      refine am_b1 C0 am_YYk (pc := 17) (pc2 := 19) [(.pop, 0, 0, .null), (.iconst 1, 0, 0, .int 1)] (L := [some (.ref 0), some (.int (p1)), some (.int (p2))]) (st := [.int (q7.1)]) (L' := [some (.ref 0), some (.int (p1)), some (.int (p2))]) (st' := [.int ((1 : Int32))]) (g' := q7.2) (w' := w) (cl := []) (by decide +kernel) rfl trivial ?_
      cases hf
      exact am_zret C0 (by decide +kernel) (Or.inr rfl)
/-! ShutterTown$Shutters.pairsAlike()I at (13,) -/
def f_X4_pairsAlike_13_69 (F : Nat) (g : am_G) (k4 : Int32 → Int32 → Option (Int32)) (l1 : Int32) (l2 : Int32) : Option (Int32) :=
  k4 (l1) (l2 + (1 : Int32))
set_option maxRecDepth 20000 in
theorem B_X4_pairsAlike_13_69 (x : am_X) (C0 : am_Cm x 4 cX4_pairsAlike 4 (some .int)) (hR : am_R x = rm_X4_pairsAlike) (w : am_J) (F : Nat) (g : am_G) (R : Int32) (k4 : Int32 → Int32 → Option (Int32)) (hk4 : ∀ (l1 : Int32) (l2 : Int32), k4 l1 l2 = some R → am_Ev x 4 (0, 0) (am_Q x (0, 0) (some (.int R)) am_YY g w) 4 [some (.ref 13), some (.int (l1)), some (.int (l2)), none] [] am_YY g w) (l1 : Int32) (l2 : Int32) (hf : f_X4_pairsAlike_13_69 F g k4 l1 l2 = some R) : am_Ev x 4 (0, 0) (am_Q x (0, 0) (some (.int R)) am_YY g w) 69 [some (.ref 13), some (.int (l1)), some (.int (l2)), none] [] am_YY g w := by
  unfold f_X4_pairsAlike_13_69 at hf
  refine am_b1 C0 am_YYk (pc := 69) (pc2 := 72) [(.iinc 2 1, 0, 0, .int 1)] (L := [some (.ref 13), some (.int (l1)), some (.int (l2)), none]) (st := []) (L' := [some (.ref 13), some (.int (l1)), some (.int (l2 + (1 : Int32))), none]) (st' := []) (g' := g) (w' := w) (cl := []) (by decide +kernel) rfl trivial ?_
  refine am_goto C0 (off := (-68)) (tgt := 4) (by decide +kernel) ?_
  exact hk4 (l1) (l2 + (1 : Int32)) hf
def f_X4_pairsAlike_13_61 (F : Nat) (g : am_G) (k19 : Int32 → Int32 → Int32 → Option (Int32)) (k69 : Int32 → Int32 → Option (Int32)) (l2 : Int32) (l3 : Int32) (s0 : Int32) (s1 : Int32) : Option (Int32) :=
  k19 (s0 + s1) (l2) (l3 + (1 : Int32))
set_option maxRecDepth 20000 in
theorem B_X4_pairsAlike_13_61 (x : am_X) (C0 : am_Cm x 4 cX4_pairsAlike 4 (some .int)) (hR : am_R x = rm_X4_pairsAlike) (w : am_J) (F : Nat) (g : am_G) (R : Int32) (k19 : Int32 → Int32 → Int32 → Option (Int32)) (k69 : Int32 → Int32 → Option (Int32)) (hk19 : ∀ (l1 : Int32) (l2 : Int32) (l3 : Int32), k19 l1 l2 l3 = some R → am_Ev x 4 (0, 0) (am_Q x (0, 0) (some (.int R)) am_YY g w) 19 [some (.ref 13), some (.int (l1)), some (.int (l2)), some (.int (l3))] [] am_YY g w) (hk69 : ∀ (l1 : Int32) (l2 : Int32), k69 l1 l2 = some R → am_Ev x 4 (0, 0) (am_Q x (0, 0) (some (.int R)) am_YY g w) 69 [some (.ref 13), some (.int (l1)), some (.int (l2)), none] [] am_YY g w) (l2 : Int32) (l3 : Int32) (s0 : Int32) (s1 : Int32) (hf : f_X4_pairsAlike_13_61 F g k19 k69 l2 l3 s0 s1 = some R) : am_Ev x 4 (0, 0) (am_Q x (0, 0) (some (.int R)) am_YY g w) 61 [some (.ref 13), none, some (.int (l2)), some (.int (l3))] [.int (s1), .int (s0)] am_YY g w := by
  unfold f_X4_pairsAlike_13_61 at hf
  refine am_b1 C0 am_YYk (pc := 61) (pc2 := 66) [(.iadd, 0, 0, .null), (.istore_n 1, 0, 0, .null), (.iinc 3 1, 0, 0, .int 1)] (L := [some (.ref 13), none, some (.int (l2)), some (.int (l3))]) (st := [.int (s1), .int (s0)]) (L' := [some (.ref 13), some (.int (s0 + s1)), some (.int (l2)), some (.int (l3 + (1 : Int32)))]) (st' := []) (g' := g) (w' := w) (cl := []) (by decide +kernel) rfl trivial ?_
  refine am_goto C0 (off := (-47)) (tgt := 19) (by decide +kernel) ?_
  exact hk19 (s0 + s1) (l2) (l3 + (1 : Int32)) hf
def f_X4_pairsAlike_13_60 (F : Nat) (g : am_G) (k19 : Int32 → Int32 → Int32 → Option (Int32)) (k69 : Int32 → Int32 → Option (Int32)) (l2 : Int32) (l3 : Int32) (s0 : Int32) : Option (Int32) :=
  f_X4_pairsAlike_13_61 F g k19 k69 (l2) (l3) (s0) ((0 : Int32))
set_option maxRecDepth 20000 in
theorem B_X4_pairsAlike_13_60 (x : am_X) (C0 : am_Cm x 4 cX4_pairsAlike 4 (some .int)) (hR : am_R x = rm_X4_pairsAlike) (w : am_J) (F : Nat) (g : am_G) (R : Int32) (k19 : Int32 → Int32 → Int32 → Option (Int32)) (k69 : Int32 → Int32 → Option (Int32)) (hk19 : ∀ (l1 : Int32) (l2 : Int32) (l3 : Int32), k19 l1 l2 l3 = some R → am_Ev x 4 (0, 0) (am_Q x (0, 0) (some (.int R)) am_YY g w) 19 [some (.ref 13), some (.int (l1)), some (.int (l2)), some (.int (l3))] [] am_YY g w) (hk69 : ∀ (l1 : Int32) (l2 : Int32), k69 l1 l2 = some R → am_Ev x 4 (0, 0) (am_Q x (0, 0) (some (.int R)) am_YY g w) 69 [some (.ref 13), some (.int (l1)), some (.int (l2)), none] [] am_YY g w) (l2 : Int32) (l3 : Int32) (s0 : Int32) (hf : f_X4_pairsAlike_13_60 F g k19 k69 l2 l3 s0 = some R) : am_Ev x 4 (0, 0) (am_Q x (0, 0) (some (.int R)) am_YY g w) 60 [some (.ref 13), none, some (.int (l2)), some (.int (l3))] [.int (s0)] am_YY g w := by
  unfold f_X4_pairsAlike_13_60 at hf
  refine am_b1 C0 am_YYk (pc := 60) (pc2 := 61) [(.iconst 0, 0, 0, .int 0)] (L := [some (.ref 13), none, some (.int (l2)), some (.int (l3))]) (st := [.int (s0)]) (L' := [some (.ref 13), none, some (.int (l2)), some (.int (l3))]) (st' := [.int ((0 : Int32)), .int (s0)]) (g' := g) (w' := w) (cl := []) (by decide +kernel) rfl trivial ?_
  exact B_X4_pairsAlike_13_61 x C0 hR w F g R _ _ hk19 hk69 (l2) (l3) (s0) ((0 : Int32)) hf
def f_X4_pairsAlike_13_19 (F : Nat) (g : am_G) (k69 : Int32 → Int32 → Option (Int32)) : Nat → Int32 → Int32 → Int32 → Option (Int32)
  | 0, _, _, _ => none
  | n + 1, l1, l2, l3 =>
    (f_X2_windows g).bind fun q1 =>
      if q1 ≤ l3 then
        k69 (l1) (l2)
      else
        (f_X2_areFacing g l2 l3).bind fun q2 =>
          if q2 = 0 then
            f_X4_pairsAlike_13_60 F g (fun l1 l2 l3 => f_X4_pairsAlike_13_19 F g k69 n l1 l2 l3) k69 (l2) (l3) (l1)
          else
            (f_X4_word_13 g l2).bind fun q3 =>
              (f_X4_word_13 g l3).bind fun q4 =>
                if q3 = q4 then
                  f_X4_pairsAlike_13_61 F g (fun l1 l2 l3 => f_X4_pairsAlike_13_19 F g k69 n l1 l2 l3) k69 (l2) (l3) (l1) ((1 : Int32))
                else
                  f_X4_pairsAlike_13_60 F g (fun l1 l2 l3 => f_X4_pairsAlike_13_19 F g k69 n l1 l2 l3) k69 (l2) (l3) (l1)
set_option maxRecDepth 20000 in
theorem B_X4_pairsAlike_13_19 (x : am_X) (C0 : am_Cm x 4 cX4_pairsAlike 4 (some .int)) (hR : am_R x = rm_X4_pairsAlike) (w : am_J) (F : Nat) (g : am_G) (R : Int32) (k69 : Int32 → Int32 → Option (Int32)) (hk69 : ∀ (l1 : Int32) (l2 : Int32), k69 l1 l2 = some R → am_Ev x 4 (0, 0) (am_Q x (0, 0) (some (.int R)) am_YY g w) 69 [some (.ref 13), some (.int (l1)), some (.int (l2)), none] [] am_YY g w) : ∀ (n : Nat) (l1 : Int32) (l2 : Int32) (l3 : Int32), f_X4_pairsAlike_13_19 F g k69 n l1 l2 l3 = some R → am_Ev x 4 (0, 0) (am_Q x (0, 0) (some (.int R)) am_YY g w) 19 [some (.ref 13), some (.int (l1)), some (.int (l2)), some (.int (l3))] [] am_YY g w := by
  intro n
  induction n with
  | zero => intro l1 l2 l3 hf; cases hf
  | succ n ih =>
    intro l1 l2 l3 hf
    rw [f_X4_pairsAlike_13_19.eq_2] at hf
    refine am_b1 C0 am_YYk (pc := 19) (pc2 := 24) [(.iload_n 3, 0, 0, .null), (.aload_n 0, 0, 0, .null), (.getfield 18, 4, 0, .null)] (L := [some (.ref 13), some (.int (l1)), some (.int (l2)), some (.int (l3))]) (st := []) (L' := [some (.ref 13), some (.int (l1)), some (.int (l2)), some (.int (l3))]) (st' := [.ref 3, .int (l3)]) (g' := g) (w' := w) (cl := []) (by decide +kernel) rfl trivial ?_
    obtain ⟨q1, hq1, hf⟩ := Option.bind_eq_some_iff.mp hf
    refine am_callV (mi := mi_X2_windows) (rm := rm_X2_windows) [] C0.1 am_YYl cv_4_22 (M_X2_windows _ g w _ hq1) (ci := 2) rfl (by decide) rfl (by rw [hR]; rfl) rfl rfl (Nat.le_of_ble_eq_true rfl) (by decide +kernel) ?_
    refine am_icmp_ge C0 (off := 42) (tgt := 69) (by decide +kernel) (fun hc7 => ?_) (fun hc7 => ?_)
    · rw [if_pos hc7] at hf
      refine am_wk [some (.ref 13), some (.int (l1)), some (.int (l2)), none] ⟨rfl, rfl, rfl, trivial⟩ rfl ?_
      exact hk69 (l1) (l2) hf
    · rw [if_neg hc7] at hf
      refine am_b1 C0 am_YYk (pc := 30) (pc2 := 37) [(.iload_n 1, 0, 0, .null), (.aload_n 0, 0, 0, .null), (.getfield 18, 4, 0, .null), (.iload_n 2, 0, 0, .null), (.iload_n 3, 0, 0, .null)] (L := [some (.ref 13), some (.int (l1)), some (.int (l2)), some (.int (l3))]) (st := []) (L' := [some (.ref 13), some (.int (l1)), some (.int (l2)), some (.int (l3))]) (st' := [.int (l3), .int (l2), .ref 3, .int (l1)]) (g' := g) (w' := w) (cl := []) (by decide +kernel) rfl trivial ?_
      obtain ⟨q2, hq2, hf⟩ := Option.bind_eq_some_iff.mp hf
      refine am_callV (mi := mi_X2_areFacing) (rm := rm_X2_areFacing) [.int (l2), .int (l3)] C0.1 am_YYl cv_4_73 (M_X2_areFacing _ g w l2 l3 _ hq2) (ci := 2) rfl (by decide) rfl (by rw [hR]; rfl) rfl rfl (Nat.le_of_ble_eq_true rfl) (by decide +kernel) ?_
      refine am_if_eq C0 (off := 20) (tgt := 60) (by decide +kernel) (fun hc6 => ?_) (fun hc6 => ?_)
      · rw [if_pos hc6] at hf
        refine am_wk [some (.ref 13), none, some (.int (l2)), some (.int (l3))] ⟨rfl, rfl, rfl, trivial⟩ rfl ?_
        exact B_X4_pairsAlike_13_60 x C0 hR w F g R _ _ (fun l1 l2 l3 hf => ih l1 l2 l3 hf) hk69 (l2) (l3) (l1) hf
      · rw [if_neg hc6] at hf
        refine am_b1 C0 am_YYk (pc := 43) (pc2 := 45) [(.aload_n 0, 0, 0, .null), (.iload_n 2, 0, 0, .null)] (L := [some (.ref 13), some (.int (l1)), some (.int (l2)), some (.int (l3))]) (st := [.int (l1)]) (L' := [some (.ref 13), some (.int (l1)), some (.int (l2)), some (.int (l3))]) (st' := [.int (l2), .ref 13, .int (l1)]) (g' := g) (w' := w) (cl := []) (by decide +kernel) rfl trivial ?_
        obtain ⟨q3, hq3, hf⟩ := Option.bind_eq_some_iff.mp hf
        refine am_callV (mi := mi_X4_word) (rm := rm_X4_word) [.int (l2)] C0.1 am_YYl cv_4_70 (M_X4_word_13 _ g w l2 _ hq3) (ci := 4) rfl (by decide) rfl (by rw [hR]; rfl) rfl rfl (Nat.le_of_ble_eq_true rfl) (by decide +kernel) ?_
        refine am_b1 C0 am_YYk (pc := 48) (pc2 := 50) [(.aload_n 0, 0, 0, .null), (.iload_n 3, 0, 0, .null)] (L := [some (.ref 13), some (.int (l1)), some (.int (l2)), some (.int (l3))]) (st := [.int (q3), .int (l1)]) (L' := [some (.ref 13), some (.int (l1)), some (.int (l2)), some (.int (l3))]) (st' := [.int (l3), .ref 13, .int (q3), .int (l1)]) (g' := g) (w' := w) (cl := []) (by decide +kernel) rfl trivial ?_
        obtain ⟨q4, hq4, hf⟩ := Option.bind_eq_some_iff.mp hf
        refine am_callV (mi := mi_X4_word) (rm := rm_X4_word) [.int (l3)] C0.1 am_YYl cv_4_70 (M_X4_word_13 _ g w l3 _ hq4) (ci := 4) rfl (by decide) rfl (by rw [hR]; rfl) rfl rfl (Nat.le_of_ble_eq_true rfl) (by decide +kernel) ?_
        refine am_icmp_ne C0 (off := 7) (tgt := 60) (by decide +kernel) (fun hc5 => ?_) (fun hc5 => ?_)
        · rw [if_neg hc5] at hf
          refine am_wk [some (.ref 13), none, some (.int (l2)), some (.int (l3))] ⟨rfl, rfl, rfl, trivial⟩ rfl ?_
          exact B_X4_pairsAlike_13_60 x C0 hR w F g R _ _ (fun l1 l2 l3 hf => ih l1 l2 l3 hf) hk69 (l2) (l3) (l1) hf
        · rw [if_pos hc5] at hf
          refine am_b1 C0 am_YYk (pc := 56) (pc2 := 57) [(.iconst 1, 0, 0, .int 1)] (L := [some (.ref 13), some (.int (l1)), some (.int (l2)), some (.int (l3))]) (st := [.int (l1)]) (L' := [some (.ref 13), some (.int (l1)), some (.int (l2)), some (.int (l3))]) (st' := [.int ((1 : Int32)), .int (l1)]) (g' := g) (w' := w) (cl := []) (by decide +kernel) rfl trivial ?_
          refine am_goto C0 (off := 4) (tgt := 61) (by decide +kernel) ?_
          refine am_wk [some (.ref 13), none, some (.int (l2)), some (.int (l3))] ⟨rfl, rfl, rfl, trivial⟩ rfl ?_
          exact B_X4_pairsAlike_13_61 x C0 hR w F g R _ _ (fun l1 l2 l3 hf => ih l1 l2 l3 hf) hk69 (l2) (l3) (l1) ((1 : Int32)) hf
def f_X4_pairsAlike_13_4 (F : Nat) (g : am_G)  : Nat → Int32 → Int32 → Option (Int32)
  | 0, _, _ => none
  | n + 1, l1, l2 =>
    (f_X2_windows g).bind fun q8 =>
      if q8 ≤ l2 then
        some (l1)
      else
        f_X4_pairsAlike_13_19 F g (fun l1 l2 => f_X4_pairsAlike_13_69 F g (fun l1 l2 => f_X4_pairsAlike_13_4 F g n l1 l2) (l1) (l2)) F (l1) (l2) (l2 + (1 : Int32))
set_option maxRecDepth 20000 in
theorem B_X4_pairsAlike_13_4 (x : am_X) (C0 : am_Cm x 4 cX4_pairsAlike 4 (some .int)) (hR : am_R x = rm_X4_pairsAlike) (w : am_J) (F : Nat) (g : am_G) (R : Int32)   : ∀ (n : Nat) (l1 : Int32) (l2 : Int32), f_X4_pairsAlike_13_4 F g n l1 l2 = some R → am_Ev x 4 (0, 0) (am_Q x (0, 0) (some (.int R)) am_YY g w) 4 [some (.ref 13), some (.int (l1)), some (.int (l2)), none] [] am_YY g w := by
  intro n
  induction n with
  | zero => intro l1 l2 hf; cases hf
  | succ n ih =>
    intro l1 l2 hf
    rw [f_X4_pairsAlike_13_4.eq_2] at hf
    refine am_b1 C0 am_YYk (pc := 4) (pc2 := 9) [(.iload_n 2, 0, 0, .null), (.aload_n 0, 0, 0, .null), (.getfield 18, 4, 0, .null)] (L := [some (.ref 13), some (.int (l1)), some (.int (l2)), none]) (st := []) (L' := [some (.ref 13), some (.int (l1)), some (.int (l2)), none]) (st' := [.ref 3, .int (l2)]) (g' := g) (w' := w) (cl := []) (by decide +kernel) rfl trivial ?_
    obtain ⟨q8, hq8, hf⟩ := Option.bind_eq_some_iff.mp hf
    refine am_callV (mi := mi_X2_windows) (rm := rm_X2_windows) [] C0.1 am_YYl cv_4_22 (M_X2_windows _ g w _ hq8) (ci := 2) rfl (by decide) rfl (by rw [hR]; rfl) rfl rfl (Nat.le_of_ble_eq_true rfl) (by decide +kernel) ?_
    refine am_icmp_ge C0 (off := 63) (tgt := 75) (by decide +kernel) (fun hc9 => ?_) (fun hc9 => ?_)
    · rw [if_pos hc9] at hf
      refine am_b1 C0 am_YYk (pc := 75) (pc2 := 76) [(.iload_n 1, 0, 0, .null)] (L := [some (.ref 13), some (.int (l1)), some (.int (l2)), none]) (st := []) (L' := [some (.ref 13), some (.int (l1)), some (.int (l2)), none]) (st' := [.int (l1)]) (g' := g) (w' := w) (cl := []) (by decide +kernel) rfl trivial ?_
      cases hf
      exact am_iret C0 (by decide +kernel)
    · rw [if_neg hc9] at hf
      refine am_b1 C0 am_YYk (pc := 15) (pc2 := 19) [(.iload_n 2, 0, 0, .null), (.iconst 1, 0, 0, .int 1), (.iadd, 0, 0, .null), (.istore_n 3, 0, 0, .null)] (L := [some (.ref 13), some (.int (l1)), some (.int (l2)), none]) (st := []) (L' := [some (.ref 13), some (.int (l1)), some (.int (l2)), some (.int (l2 + (1 : Int32)))]) (st' := []) (g' := g) (w' := w) (cl := []) (by decide +kernel) rfl trivial ?_
      refine B_X4_pairsAlike_13_19 x C0 hR w F g R _ ?_ F (l1) (l2) (l2 + (1 : Int32)) hf
      · intro l1 l2 hf
        exact B_X4_pairsAlike_13_69 x C0 hR w F g R _ (fun l1 l2 hf => ih l1 l2 hf) (l1) (l2) hf
def f_X4_pairsAlike_13 (F : Nat) (g : am_G) : Option (Int32) :=
  f_X4_pairsAlike_13_4 F g F ((0 : Int32)) ((0 : Int32))
set_option maxRecDepth 20000 in
theorem M_X4_pairsAlike_13 (l : Launch) (F : Nat) (g : am_G) (w : am_J)  (R : Int32) (hf : f_X4_pairsAlike_13 F g = some R) : am_Met l mi_X4_pairsAlike rm_X4_pairsAlike [.ref 13] am_YY g w (some (.int R)) am_YY g w := by
  refine am_met (own := 4) [some (.ref 13), none, none, none] (by decide) rfl rfl (by first | decide | exact Nat.le_of_ble_eq_true rfl) (fun x C0 hR hl hnm => ?_)
  unfold f_X4_pairsAlike_13 at hf
  refine am_b1 C0 am_YYk (pc := 0) (pc2 := 4) [(.iconst 0, 0, 0, .int 0), (.istore_n 1, 0, 0, .null), (.iconst 0, 0, 0, .int 0), (.istore_n 2, 0, 0, .null)] (L := [some (.ref 13), none, none, none]) (st := []) (L' := [some (.ref 13), some (.int ((0 : Int32))), some (.int ((0 : Int32))), none]) (st' := []) (g' := g) (w' := w) (cl := []) (by decide +kernel) rfl trivial ?_
  refine B_X4_pairsAlike_13_4 x C0 hR w F g R   F ((0 : Int32)) ((0 : Int32)) hf
/-! ShutterTown.judge(IJ)I at (0,) -/
def f_X7_judge_43 (F : Nat) (p1 : Int32) (p2 : Int64)  : Nat → Int32 → am_G → Option (Int32 × am_G)
  | 0, _, _ => none
  | n + 1, l4, g =>
    if p1 ≤ l4 then
      some ((-9 : Int32), g)
    else
      (f_X7_withoutLast F p2 ((p1 - (1 : Int32)) - l4)).bind fun q1 =>
        (f_X7_happens F g ((Int64.toInt32 (q1 - q1 / (100 : Int64) * (100 : Int64))) / (10 : Int32)) ((Int64.toInt32 (q1 - q1 / (100 : Int64) * (100 : Int64))) - (Int64.toInt32 (q1 - q1 / (100 : Int64) * (100 : Int64))) / (10 : Int32) * (10 : Int32))).bind fun q2 =>
          if q2.1 = 0 then
            some (l4, q2.2)
          else
            (f_X4_pairsAlike_13 F q2.2).bind fun q3 =>
              if q3 ≤ 0 then
                f_X7_judge_43 F p1 p2 n (l4 + (1 : Int32)) (q2.2)
              else
                some (l4, q2.2)
set_option maxRecDepth 20000 in
theorem B_X7_judge_43 (x : am_X) (C0 : am_Cm x 7 cX7_judge 6 (some .int)) (hR : am_R x = rm_X7_judge) (w : am_J) (F : Nat) (p1 : Int32) (p2 : Int64) (R : Int32 × am_G)   : ∀ (n : Nat) (l4 : Int32) (g : am_G), f_X7_judge_43 F p1 p2 n l4 g = some R → am_Ev x 6 (0, 0) (am_Q x (0, 0) (some (.int R.1)) am_YY (R.2) w) 43 [some (.ref 0), some (.int (p1)), some (.long (p2)), none, some (.int (l4)), none] [] am_YY g w := by
  intro n
  induction n with
  | zero => intro l4 g hf; cases hf
  | succ n ih =>
    intro l4 g hf
    rw [f_X7_judge_43.eq_2] at hf
    refine am_b1 C0 am_YYk (pc := 43) (pc2 := 46) [(.iload 4, 0, 0, .null), (.iload_n 1, 0, 0, .null)] (L := [some (.ref 0), some (.int (p1)), some (.long (p2)), none, some (.int (l4)), none]) (st := []) (L' := [some (.ref 0), some (.int (p1)), some (.long (p2)), none, some (.int (l4)), none]) (st' := [.int (p1), .int (l4)]) (g' := g) (w' := w) (cl := []) (by decide +kernel) rfl trivial ?_
    refine am_icmp_ge C0 (off := 56) (tgt := 102) (by decide +kernel) (fun hc6 => ?_) (fun hc6 => ?_)
    · rw [if_pos hc6] at hf
      refine am_b1 C0 am_YYk (pc := 102) (pc2 := 104) [(.bipush (-9), 0, 0, .int (-9))] (L := [some (.ref 0), some (.int (p1)), some (.long (p2)), none, some (.int (l4)), none]) (st := []) (L' := [some (.ref 0), some (.int (p1)), some (.long (p2)), none, some (.int (l4)), none]) (st' := [.int ((-9 : Int32))]) (g' := g) (w' := w) (cl := []) (by decide +kernel) rfl trivial ?_
      cases hf
      exact am_iret C0 (by decide +kernel)
    · rw [if_neg hc6] at hf
      refine am_b1 C0 am_YYk (pc := 49) (pc2 := 56) [(.lload_n 2, 0, 0, .null), (.iload_n 1, 0, 0, .null), (.iconst 1, 0, 0, .int 1), (.isub, 0, 0, .null), (.iload 4, 0, 0, .null), (.isub, 0, 0, .null)] (L := [some (.ref 0), some (.int (p1)), some (.long (p2)), none, some (.int (l4)), none]) (st := []) (L' := [some (.ref 0), some (.int (p1)), some (.long (p2)), none, some (.int (l4)), none]) (st' := [.int ((p1 - (1 : Int32)) - l4), .long (p2)]) (g' := g) (w' := w) (cl := []) (by decide +kernel) rfl trivial ?_
      obtain ⟨q1, hq1, hf⟩ := Option.bind_eq_some_iff.mp hf
      refine am_callS (mi := mi_X7_withoutLast) (rm := rm_X7_withoutLast) [.long (p2), .int ((p1 - (1 : Int32)) - l4)] C0.1 cv_7_180 (M_X7_withoutLast _ F g w p2 ((p1 - (1 : Int32)) - l4) _ hq1) (by rw [hR]; rfl) rfl rfl (Nat.le_of_ble_eq_true rfl) (by decide +kernel) ?_
      refine am_b1 C0 am_YYk (pc := 59) (pc2 := 77) [(.ldc2_w 187, 0, 0, .long 100), (.lrem, 0, 0, .null), (.l2i, 0, 0, .null), (.istore 5, 0, 0, .null), (.aload_n 0, 0, 0, .null), (.iload 5, 0, 0, .null), (.bipush 10, 0, 0, .int 10), (.idiv, 0, 0, .null), (.iload 5, 0, 0, .null), (.bipush 10, 0, 0, .int 10), (.irem, 0, 0, .null)] (L := [some (.ref 0), some (.int (p1)), some (.long (p2)), none, some (.int (l4)), none]) (st := [.long (q1)]) (L' := [some (.ref 0), some (.int (p1)), some (.long (p2)), none, some (.int (l4)), some (.int (Int64.toInt32 (q1 - q1 / (100 : Int64) * (100 : Int64))))]) (st' := [.int ((Int64.toInt32 (q1 - q1 / (100 : Int64) * (100 : Int64))) - (Int64.toInt32 (q1 - q1 / (100 : Int64) * (100 : Int64))) / (10 : Int32) * (10 : Int32)), .int ((Int64.toInt32 (q1 - q1 / (100 : Int64) * (100 : Int64))) / (10 : Int32)), .ref 0]) (g' := g) (w' := w) (cl := [¬ (100 : Int64) = 0, ¬ (10 : Int32) = 0, ¬ (10 : Int32) = 0]) (by decide +kernel) rfl ⟨by decide, by decide, by decide, trivial⟩ ?_
      obtain ⟨q2, hq2, hf⟩ := Option.bind_eq_some_iff.mp hf
      refine am_callV (mi := mi_X7_happens) (rm := rm_X7_happens) [.int ((Int64.toInt32 (q1 - q1 / (100 : Int64) * (100 : Int64))) / (10 : Int32)), .int ((Int64.toInt32 (q1 - q1 / (100 : Int64) * (100 : Int64))) - (Int64.toInt32 (q1 - q1 / (100 : Int64) * (100 : Int64))) / (10 : Int32) * (10 : Int32))] C0.1 am_YYl cv_7_189 (M_X7_happens _ F g w ((Int64.toInt32 (q1 - q1 / (100 : Int64) * (100 : Int64))) / (10 : Int32)) ((Int64.toInt32 (q1 - q1 / (100 : Int64) * (100 : Int64))) - (Int64.toInt32 (q1 - q1 / (100 : Int64) * (100 : Int64))) / (10 : Int32) * (10 : Int32)) _ hq2) (ci := 7) rfl (by decide) rfl (by rw [hR]; rfl) rfl rfl (Nat.le_of_ble_eq_true rfl) (by decide +kernel) ?_
      refine am_if_eq C0 (off := 13) (tgt := 93) (by decide +kernel) (fun hc5 => ?_) (fun hc5 => ?_)
      · rw [if_pos hc5] at hf
        refine am_b1 C0 am_YYk (pc := 93) (pc2 := 95) [(.iload 4, 0, 0, .null)] (L := [some (.ref 0), some (.int (p1)), some (.long (p2)), none, some (.int (l4)), some (.int (Int64.toInt32 (q1 - q1 / (100 : Int64) * (100 : Int64))))]) (st := []) (L' := [some (.ref 0), some (.int (p1)), some (.long (p2)), none, some (.int (l4)), some (.int (Int64.toInt32 (q1 - q1 / (100 : Int64) * (100 : Int64))))]) (st' := [.int (l4)]) (g' := q2.2) (w' := w) (cl := []) (by decide +kernel) rfl trivial ?_
        cases hf
        exact am_iret C0 (by decide +kernel)
      · rw [if_neg hc5] at hf
        refine am_b1 C0 am_YYk (pc := 83) (pc2 := 87) [(.aload_n 0, 0, 0, .null), (.getfield 32, 7, 3, .null)] (L := [some (.ref 0), some (.int (p1)), some (.long (p2)), none, some (.int (l4)), some (.int (Int64.toInt32 (q1 - q1 / (100 : Int64) * (100 : Int64))))]) (st := []) (L' := [some (.ref 0), some (.int (p1)), some (.long (p2)), none, some (.int (l4)), some (.int (Int64.toInt32 (q1 - q1 / (100 : Int64) * (100 : Int64))))]) (st' := [.ref 13]) (g' := q2.2) (w' := w) (cl := []) (by decide +kernel) rfl trivial ?_
        obtain ⟨q3, hq3, hf⟩ := Option.bind_eq_some_iff.mp hf
        refine am_callV (mi := mi_X4_pairsAlike) (rm := rm_X4_pairsAlike) [] C0.1 am_YYl cv_7_192 (M_X4_pairsAlike_13 _ F q2.2 w _ hq3) (ci := 4) rfl (by decide) rfl (by rw [hR]; rfl) rfl rfl (Nat.le_of_ble_eq_true rfl) (by decide +kernel) ?_
        refine am_if_le C0 (off := 6) (tgt := 96) (by decide +kernel) (fun hc4 => ?_) (fun hc4 => ?_)
        · rw [if_pos hc4] at hf
          refine am_b1 C0 am_YYk (pc := 96) (pc2 := 99) [(.iinc 4 1, 0, 0, .int 1)] (L := [some (.ref 0), some (.int (p1)), some (.long (p2)), none, some (.int (l4)), some (.int (Int64.toInt32 (q1 - q1 / (100 : Int64) * (100 : Int64))))]) (st := []) (L' := [some (.ref 0), some (.int (p1)), some (.long (p2)), none, some (.int (l4 + (1 : Int32))), some (.int (Int64.toInt32 (q1 - q1 / (100 : Int64) * (100 : Int64))))]) (st' := []) (g' := q2.2) (w' := w) (cl := []) (by decide +kernel) rfl trivial ?_
          refine am_goto C0 (off := (-56)) (tgt := 43) (by decide +kernel) ?_
          refine am_wk [some (.ref 0), some (.int (p1)), some (.long (p2)), none, some (.int (l4 + (1 : Int32))), none] ⟨rfl, rfl, rfl, rfl, trivial⟩ rfl ?_
          exact ih (l4 + (1 : Int32)) (q2.2) hf
        · rw [if_neg hc4] at hf
          refine am_b1 C0 am_YYk (pc := 93) (pc2 := 95) [(.iload 4, 0, 0, .null)] (L := [some (.ref 0), some (.int (p1)), some (.long (p2)), none, some (.int (l4)), some (.int (Int64.toInt32 (q1 - q1 / (100 : Int64) * (100 : Int64))))]) (st := []) (L' := [some (.ref 0), some (.int (p1)), some (.long (p2)), none, some (.int (l4)), some (.int (Int64.toInt32 (q1 - q1 / (100 : Int64) * (100 : Int64))))]) (st' := [.int (l4)]) (g' := q2.2) (w' := w) (cl := []) (by decide +kernel) rfl trivial ?_
          cases hf
          exact am_iret C0 (by decide +kernel)
def f_X7_judge (F : Nat) (g : am_G) (p1 : Int32) (p2 : Int64) : Option (Int32 × am_G) :=
  if p1 < (1 : Int32) then
    some ((-2 : Int32), g)
  else
    if (5 : Int32) < p1 then
      some ((-2 : Int32), g)
    else
      if (lg_cmp p2 (0 : Int64)) < 0 then
        some ((-2 : Int32), g)
      else
        (f_X7_withoutLast F p2 p1).bind fun q7 =>
          if (lg_cmp q7 (0 : Int64)) ≤ 0 then
            (f_X4_copy g).bind fun q8 =>
              f_X7_judge_43 F p1 p2 F ((0 : Int32)) (q8)
          else
            some ((-2 : Int32), g)
set_option maxRecDepth 20000 in
theorem M_X7_judge (l : Launch) (F : Nat) (g : am_G) (w : am_J) (p1 : Int32) (p2 : Int64) (R : Int32 × am_G) (hf : f_X7_judge F g p1 p2 = some R) : am_Met l mi_X7_judge rm_X7_judge [.ref 0, .int p1, .long p2] am_YY g w (some (.int R.1)) am_YY (R.2) w := by
  refine am_met (own := 7) [some (.ref 0), some (.int (p1)), some (.long (p2)), none, none, none] (by decide) rfl rfl (by first | decide | exact Nat.le_of_ble_eq_true rfl) (fun x C0 hR hl hnm => ?_)
  unfold f_X7_judge at hf
  refine am_b1 C0 am_YYk (pc := 0) (pc2 := 2) [(.iload_n 1, 0, 0, .null), (.iconst 1, 0, 0, .int 1)] (L := [some (.ref 0), some (.int (p1)), some (.long (p2)), none, none, none]) (st := []) (L' := [some (.ref 0), some (.int (p1)), some (.long (p2)), none, none, none]) (st' := [.int ((1 : Int32)), .int (p1)]) (g' := g) (w' := w) (cl := []) (by decide +kernel) rfl trivial ?_
  refine am_icmp_lt C0 (off := 24) (tgt := 26) (by decide +kernel) (fun hc12 => ?_) (fun hc12 => ?_)
  · rw [if_pos hc12] at hf
    refine am_b1 C0 am_YYk (pc := 26) (pc2 := 28) [(.bipush (-2), 0, 0, .int (-2))] (L := [some (.ref 0), some (.int (p1)), some (.long (p2)), none, none, none]) (st := []) (L' := [some (.ref 0), some (.int (p1)), some (.long (p2)), none, none, none]) (st' := [.int ((-2 : Int32))]) (g' := g) (w' := w) (cl := []) (by decide +kernel) rfl trivial ?_
    cases hf
    exact am_iret C0 (by decide +kernel)
  · rw [if_neg hc12] at hf
    refine am_b1 C0 am_YYk (pc := 5) (pc2 := 7) [(.iload_n 1, 0, 0, .null), (.iconst 5, 0, 0, .int 5)] (L := [some (.ref 0), some (.int (p1)), some (.long (p2)), none, none, none]) (st := []) (L' := [some (.ref 0), some (.int (p1)), some (.long (p2)), none, none, none]) (st' := [.int ((5 : Int32)), .int (p1)]) (g' := g) (w' := w) (cl := []) (by decide +kernel) rfl trivial ?_
    refine am_icmp_gt C0 (off := 19) (tgt := 26) (by decide +kernel) (fun hc11 => ?_) (fun hc11 => ?_)
    · rw [if_pos hc11] at hf
      refine am_b1 C0 am_YYk (pc := 26) (pc2 := 28) [(.bipush (-2), 0, 0, .int (-2))] (L := [some (.ref 0), some (.int (p1)), some (.long (p2)), none, none, none]) (st := []) (L' := [some (.ref 0), some (.int (p1)), some (.long (p2)), none, none, none]) (st' := [.int ((-2 : Int32))]) (g' := g) (w' := w) (cl := []) (by decide +kernel) rfl trivial ?_
      cases hf
      exact am_iret C0 (by decide +kernel)
    · rw [if_neg hc11] at hf
      refine am_b1 C0 am_YYk (pc := 10) (pc2 := 13) [(.lload_n 2, 0, 0, .null), (.lconst 0, 0, 0, .long 0), (.lcmp, 0, 0, .null)] (L := [some (.ref 0), some (.int (p1)), some (.long (p2)), none, none, none]) (st := []) (L' := [some (.ref 0), some (.int (p1)), some (.long (p2)), none, none, none]) (st' := [.int (lg_cmp p2 (0 : Int64))]) (g' := g) (w' := w) (cl := []) (by decide +kernel) rfl trivial ?_
      refine am_if_lt C0 (off := 13) (tgt := 26) (by decide +kernel) (fun hc10 => ?_) (fun hc10 => ?_)
      · rw [if_pos hc10] at hf
        refine am_b1 C0 am_YYk (pc := 26) (pc2 := 28) [(.bipush (-2), 0, 0, .int (-2))] (L := [some (.ref 0), some (.int (p1)), some (.long (p2)), none, none, none]) (st := []) (L' := [some (.ref 0), some (.int (p1)), some (.long (p2)), none, none, none]) (st' := [.int ((-2 : Int32))]) (g' := g) (w' := w) (cl := []) (by decide +kernel) rfl trivial ?_
        cases hf
        exact am_iret C0 (by decide +kernel)
      · rw [if_neg hc10] at hf
        refine am_b1 C0 am_YYk (pc := 16) (pc2 := 18) [(.lload_n 2, 0, 0, .null), (.iload_n 1, 0, 0, .null)] (L := [some (.ref 0), some (.int (p1)), some (.long (p2)), none, none, none]) (st := []) (L' := [some (.ref 0), some (.int (p1)), some (.long (p2)), none, none, none]) (st' := [.int (p1), .long (p2)]) (g' := g) (w' := w) (cl := []) (by decide +kernel) rfl trivial ?_
        obtain ⟨q7, hq7, hf⟩ := Option.bind_eq_some_iff.mp hf
        refine am_callS (mi := mi_X7_withoutLast) (rm := rm_X7_withoutLast) [.long (p2), .int (p1)] C0.1 cv_7_180 (M_X7_withoutLast _ F g w p2 p1 _ hq7) (by rw [hR]; rfl) rfl rfl (Nat.le_of_ble_eq_true rfl) (by decide +kernel) ?_
        refine am_b1 C0 am_YYk (pc := 21) (pc2 := 23) [(.lconst 0, 0, 0, .long 0), (.lcmp, 0, 0, .null)] (L := [some (.ref 0), some (.int (p1)), some (.long (p2)), none, none, none]) (st := [.long (q7)]) (L' := [some (.ref 0), some (.int (p1)), some (.long (p2)), none, none, none]) (st' := [.int (lg_cmp q7 (0 : Int64))]) (g' := g) (w' := w) (cl := []) (by decide +kernel) rfl trivial ?_
        refine am_if_le C0 (off := 6) (tgt := 29) (by decide +kernel) (fun hc9 => ?_) (fun hc9 => ?_)
        · rw [if_pos hc9] at hf
          refine am_b1 C0 am_YYk (pc := 29) (pc2 := 37) [(.aload_n 0, 0, 0, .null), (.getfield 32, 7, 3, .null), (.aload_n 0, 0, 0, .null), (.getfield 28, 7, 2, .null)] (L := [some (.ref 0), some (.int (p1)), some (.long (p2)), none, none, none]) (st := []) (L' := [some (.ref 0), some (.int (p1)), some (.long (p2)), none, none, none]) (st' := [.ref 10, .ref 13]) (g' := g) (w' := w) (cl := []) (by decide +kernel) rfl trivial ?_
          obtain ⟨q8, hq8, hf⟩ := Option.bind_eq_some_iff.mp hf
          refine am_callV (mi := mi_X4_copy) (rm := rm_X4_copy) [.ref 10] C0.1 am_YYl cv_7_184 (M_X4_copy _ g w _ hq8) (ci := 4) rfl (by decide) rfl (by rw [hR]; rfl) rfl rfl (Nat.le_of_ble_eq_true rfl) (by decide +kernel) ?_
          refine am_b1 C0 am_YYk (pc := 40) (pc2 := 43) [(.iconst 0, 0, 0, .int 0), (.istore 4, 0, 0, .null)] (L := [some (.ref 0), some (.int (p1)), some (.long (p2)), none, none, none]) (st := []) (L' := [some (.ref 0), some (.int (p1)), some (.long (p2)), none, some (.int ((0 : Int32))), none]) (st' := []) (g' := q8) (w' := w) (cl := []) (by decide +kernel) rfl trivial ?_
          refine B_X7_judge_43 x C0 hR w F p1 p2 R   F ((0 : Int32)) (q8) hf
        · rw [if_neg hc9] at hf
          refine am_b1 C0 am_YYk (pc := 26) (pc2 := 28) [(.bipush (-2), 0, 0, .int (-2))] (L := [some (.ref 0), some (.int (p1)), some (.long (p2)), none, none, none]) (st := []) (L' := [some (.ref 0), some (.int (p1)), some (.long (p2)), none, none, none]) (st' := [.int ((-2 : Int32))]) (g' := g) (w' := w) (cl := []) (by decide +kernel) rfl trivial ?_
          cases hf
          exact am_iret C0 (by decide +kernel)
/-! ShutterTown.isWord(I)Z at () -/
def f_X7_isWord (p0 : Int32) : Option (Int32) :=
  if p0 < 0 then
    some ((0 : Int32))
  else
    if (4 : Int32) ≤ p0 then
      some ((0 : Int32))
    else
      some ((1 : Int32))
set_option maxRecDepth 20000 in
theorem M_X7_isWord (l : Launch) (g : am_G) (w : am_J) (p0 : Int32) (R : Int32) (hf : f_X7_isWord p0 = some R) : am_Met l mi_X7_isWord rm_X7_isWord [.int p0] am_YY g w (some (.int R)) am_YY g w := by
  refine am_met (own := 7) [some (.int (p0))] (by decide) rfl rfl (by first | decide | exact Nat.le_of_ble_eq_true rfl) (fun x C0 hR hl hnm => ?_)
  unfold f_X7_isWord at hf
  refine am_b1 C0 am_YYk (pc := 0) (pc2 := 1) [(.iload_n 0, 0, 0, .null)] (L := [some (.int (p0))]) (st := []) (L' := [some (.int (p0))]) (st' := [.int (p0)]) (g' := g) (w' := w) (cl := []) (by decide +kernel) rfl trivial ?_
  refine am_if_lt C0 (off := 12) (tgt := 13) (by decide +kernel) (fun hc2 => ?_) (fun hc2 => ?_)
  · rw [if_pos hc2] at hf
    refine am_b1 C0 am_YYk (pc := 13) (pc2 := 14) [(.iconst 0, 0, 0, .int 0)] (L := [some (.int (p0))]) (st := []) (L' := [some (.int (p0))]) (st' := [.int ((0 : Int32))]) (g' := g) (w' := w) (cl := []) (by decide +kernel) rfl trivial ?_
    cases hf
    exact am_zret C0 (by decide +kernel) (Or.inl rfl)
  · rw [if_neg hc2] at hf
    refine am_b1 C0 am_YYk (pc := 4) (pc2 := 6) [(.iload_n 0, 0, 0, .null), (.iconst 4, 0, 0, .int 4)] (L := [some (.int (p0))]) (st := []) (L' := [some (.int (p0))]) (st' := [.int ((4 : Int32)), .int (p0)]) (g' := g) (w' := w) (cl := []) (by decide +kernel) rfl trivial ?_
    refine am_icmp_ge C0 (off := 7) (tgt := 13) (by decide +kernel) (fun hc1 => ?_) (fun hc1 => ?_)
    · rw [if_pos hc1] at hf
      refine am_b1 C0 am_YYk (pc := 13) (pc2 := 14) [(.iconst 0, 0, 0, .int 0)] (L := [some (.int (p0))]) (st := []) (L' := [some (.int (p0))]) (st' := [.int ((0 : Int32))]) (g' := g) (w' := w) (cl := []) (by decide +kernel) rfl trivial ?_
      cases hf
      exact am_zret C0 (by decide +kernel) (Or.inl rfl)
    · rw [if_neg hc1] at hf
      refine am_b1 C0 am_YYk (pc := 9) (pc2 := 10) [(.iconst 1, 0, 0, .int 1)] (L := [some (.int (p0))]) (st := []) (L' := [some (.int (p0))]) (st' := [.int ((1 : Int32))]) (g' := g) (w' := w) (cl := []) (by decide +kernel) rfl trivial ?_
      refine am_goto C0 (off := 4) (tgt := 14) (by decide +kernel) ?_
      cases hf
      exact am_zret C0 (by decide +kernel) (Or.inr rfl)
