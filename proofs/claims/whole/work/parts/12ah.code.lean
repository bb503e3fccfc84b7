/-! ShutterTown.afternoons(I)I at (0,) -/
def f_X7_afternoons_104 (F : Nat) (p1 : Int32)  (g : am_G) (w : am_J) : Option (Int32 × am_G × am_J) :=
  (f_X4_pairsAlike_13 F g).bind fun q1 =>
    some (q1, g, w)
set_option maxRecDepth 20000 in
theorem B_X7_afternoons_104 (x : am_X) (C0 : am_Cm x 7 cX7_afternoons 4 (some .int)) (hR : am_R x = rm_X7_afternoons) (F : Nat) (p1 : Int32) (R : Int32 × am_G × am_J)   (g : am_G) (w : am_J) (hf : f_X7_afternoons_104 F p1 g w = some R) : am_Ev x 4 (0, 0) (am_Q x (0, 0) (some (.int R.1)) am_YY (R.2.1) (R.2.2)) 104 [some (.ref 0), some (.int (p1)), none, none] [] am_YY g w := by
  unfold f_X7_afternoons_104 at hf
  refine am_b1 C0 am_YYk (pc := 104) (pc2 := 108) [(.aload_n 0, 0, 0, .null), (.getfield 32, 7, 3, .null)] (L := [some (.ref 0), some (.int (p1)), none, none]) (st := []) (L' := [some (.ref 0), some (.int (p1)), none, none]) (st' := [.ref 13]) (g' := g) (w' := w) (cl := []) (by decide +kernel) rfl trivial ?_
  obtain ⟨q1, hq1, hf⟩ := Option.bind_eq_some_iff.mp hf
  refine am_callV (mi := mi_X4_pairsAlike) (rm := rm_X4_pairsAlike) [] C0.1 am_YYl cv_7_192 (M_X4_pairsAlike_13 _ F g w _ hq1) (ci := 4) rfl (by decide) rfl (by rw [hR]; rfl) rfl rfl (Nat.le_of_ble_eq_true rfl) (by decide +kernel) ?_
  cases hf
  exact am_iret C0 (by decide +kernel)
def f_X7_afternoons_90 (F : Nat) (p1 : Int32) (k27 : Int32 → am_G → am_J → Option (Int32 × am_G × am_J)) (k104 : am_G → am_J → Option (Int32 × am_G × am_J)) (l2 : Int32) (g : am_G) (w : am_J) : Option (Int32 × am_G × am_J) :=
  (f_X4_blow_13 F g).bind fun q2 =>
    k27 (l2 + (1 : Int32)) (q2.2) (w)
set_option maxRecDepth 20000 in
theorem B_X7_afternoons_90 (x : am_X) (C0 : am_Cm x 7 cX7_afternoons 4 (some .int)) (hR : am_R x = rm_X7_afternoons) (F : Nat) (p1 : Int32) (R : Int32 × am_G × am_J) (k27 : Int32 → am_G → am_J → Option (Int32 × am_G × am_J)) (k104 : am_G → am_J → Option (Int32 × am_G × am_J)) (hk27 : ∀ (l2 : Int32) (g : am_G) (w : am_J), k27 l2 g w = some R → am_Ev x 4 (0, 0) (am_Q x (0, 0) (some (.int R.1)) am_YY (R.2.1) (R.2.2)) 27 [some (.ref 0), some (.int (p1)), some (.int (l2)), none] [] am_YY g w) (hk104 : ∀ (g : am_G) (w : am_J), k104 g w = some R → am_Ev x 4 (0, 0) (am_Q x (0, 0) (some (.int R.1)) am_YY (R.2.1) (R.2.2)) 104 [some (.ref 0), some (.int (p1)), none, none] [] am_YY g w) (l2 : Int32) (g : am_G) (w : am_J) (hf : f_X7_afternoons_90 F p1 k27 k104 l2 g w = some R) : am_Ev x 4 (0, 0) (am_Q x (0, 0) (some (.int R.1)) am_YY (R.2.1) (R.2.2)) 90 [some (.ref 0), some (.int (p1)), some (.int (l2)), none] [] am_YY g w := by
  unfold f_X7_afternoons_90 at hf
  refine am_b1 C0 am_YYk (pc := 90) (pc2 := 94) [(.aload_n 0, 0, 0, .null), (.getfield 32, 7, 3, .null)] (L := [some (.ref 0), some (.int (p1)), some (.int (l2)), none]) (st := []) (L' := [some (.ref 0), some (.int (p1)), some (.int (l2)), none]) (st' := [.ref 13]) (g' := g) (w' := w) (cl := []) (by decide +kernel) rfl trivial ?_
  obtain ⟨q2, hq2, hf⟩ := Option.bind_eq_some_iff.mp hf
  refine am_callV (mi := mi_X4_blow) (rm := rm_X4_blow) [] C0.1 am_YYl cv_7_139 (M_X4_blow_13 _ F g w _ hq2) (ci := 4) rfl (by decide) rfl (by rw [hR]; rfl) rfl rfl (Nat.le_of_ble_eq_true rfl) (by decide +kernel) ?_
  refine am_b1 C0 am_YYk (pc := 97) (pc2 := 101) [(.pop, 0, 0, .null), (.iinc 2 1, 0, 0, .int 1)] (L := [some (.ref 0), some (.int (p1)), some (.int (l2)), none]) (st := [.int (q2.1)]) (L' := [some (.ref 0), some (.int (p1)), some (.int (l2 + (1 : Int32))), none]) (st' := []) (g' := q2.2) (w' := w) (cl := []) (by decide +kernel) rfl trivial ?_
  refine am_goto C0 (off := (-74)) (tgt := 27) (by decide +kernel) ?_
  exact hk27 (l2 + (1 : Int32)) (q2.2) (w) hf
def f_X7_afternoons_61 (F : Nat) (p1 : Int32) (k27 : Int32 → am_G → am_J → Option (Int32 × am_G × am_J)) (k104 : am_G → am_J → Option (Int32 × am_G × am_J)) (l2 : Int32) (l3 : Int32) (g : am_G) (w : am_J) : Option (Int32 × am_G × am_J) :=
  (f_X4_canShift_13 g (l3 / (4 : Int32)) (l3 - l3 / (4 : Int32) * (4 : Int32))).bind fun q3 =>
    if q3 = 0 then
      f_X7_afternoons_90 F p1 k27 k104 (l2) (g) (w)
    else
      (f_X4_shift_13 g (l3 / (4 : Int32)) (l3 - l3 / (4 : Int32) * (4 : Int32))).bind fun q4 =>
        f_X7_afternoons_90 F p1 k27 k104 (l2) (q4) (w)
set_option maxRecDepth 20000 in
theorem B_X7_afternoons_61 (x : am_X) (C0 : am_Cm x 7 cX7_afternoons 4 (some .int)) (hR : am_R x = rm_X7_afternoons) (F : Nat) (p1 : Int32) (R : Int32 × am_G × am_J) (k27 : Int32 → am_G → am_J → Option (Int32 × am_G × am_J)) (k104 : am_G → am_J → Option (Int32 × am_G × am_J)) (hk27 : ∀ (l2 : Int32) (g : am_G) (w : am_J), k27 l2 g w = some R → am_Ev x 4 (0, 0) (am_Q x (0, 0) (some (.int R.1)) am_YY (R.2.1) (R.2.2)) 27 [some (.ref 0), some (.int (p1)), some (.int (l2)), none] [] am_YY g w) (hk104 : ∀ (g : am_G) (w : am_J), k104 g w = some R → am_Ev x 4 (0, 0) (am_Q x (0, 0) (some (.int R.1)) am_YY (R.2.1) (R.2.2)) 104 [some (.ref 0), some (.int (p1)), none, none] [] am_YY g w) (l2 : Int32) (l3 : Int32) (g : am_G) (w : am_J) (hf : f_X7_afternoons_61 F p1 k27 k104 l2 l3 g w = some R) : am_Ev x 4 (0, 0) (am_Q x (0, 0) (some (.int R.1)) am_YY (R.2.1) (R.2.2)) 61 [some (.ref 0), some (.int (p1)), some (.int (l2)), some (.int (l3))] [] am_YY g w := by
  unfold f_X7_afternoons_61 at hf
  refine am_b1 C0 am_YYk (pc := 61) (pc2 := 71) [(.aload_n 0, 0, 0, .null), (.getfield 32, 7, 3, .null), (.iload_n 3, 0, 0, .null), (.iconst 4, 0, 0, .int 4), (.idiv, 0, 0, .null), (.iload_n 3, 0, 0, .null), (.iconst 4, 0, 0, .int 4), (.irem, 0, 0, .null)] (L := [some (.ref 0), some (.int (p1)), some (.int (l2)), some (.int (l3))]) (st := []) (L' := [some (.ref 0), some (.int (p1)), some (.int (l2)), some (.int (l3))]) (st' := [.int (l3 - l3 / (4 : Int32) * (4 : Int32)), .int (l3 / (4 : Int32)), .ref 13]) (g' := g) (w' := w) (cl := [¬ (4 : Int32) = 0, ¬ (4 : Int32) = 0]) (by decide +kernel) rfl ⟨by decide, by decide, trivial⟩ ?_
  obtain ⟨q3, hq3, hf⟩ := Option.bind_eq_some_iff.mp hf
  refine am_callV (mi := mi_X4_canShift) (rm := rm_X4_canShift) [.int (l3 / (4 : Int32)), .int (l3 - l3 / (4 : Int32) * (4 : Int32))] C0.1 am_YYl cv_7_127 (M_X4_canShift_13 _ g w (l3 / (4 : Int32)) (l3 - l3 / (4 : Int32) * (4 : Int32)) _ hq3) (ci := 4) rfl (by decide) rfl (by rw [hR]; rfl) rfl rfl (Nat.le_of_ble_eq_true rfl) (by decide +kernel) ?_
  refine am_if_eq C0 (off := 16) (tgt := 90) (by decide +kernel) (fun hc5 => ?_) (fun hc5 => ?_)
  · rw [if_pos hc5] at hf
    refine am_wk [some (.ref 0), some (.int (p1)), some (.int (l2)), none] ⟨rfl, rfl, rfl, trivial⟩ rfl ?_
    exact B_X7_afternoons_90 x C0 hR F p1 R _ _ hk27 hk104 (l2) (g) (w) hf
  · rw [if_neg hc5] at hf
    refine am_b1 C0 am_YYk (pc := 77) (pc2 := 87) [(.aload_n 0, 0, 0, .null), (.getfield 32, 7, 3, .null), (.iload_n 3, 0, 0, .null), (.iconst 4, 0, 0, .int 4), (.idiv, 0, 0, .null), (.iload_n 3, 0, 0, .null), (.iconst 4, 0, 0, .int 4), (.irem, 0, 0, .null)] (L := [some (.ref 0), some (.int (p1)), some (.int (l2)), some (.int (l3))]) (st := []) (L' := [some (.ref 0), some (.int (p1)), some (.int (l2)), some (.int (l3))]) (st' := [.int (l3 - l3 / (4 : Int32) * (4 : Int32)), .int (l3 / (4 : Int32)), .ref 13]) (g' := g) (w' := w) (cl := [¬ (4 : Int32) = 0, ¬ (4 : Int32) = 0]) (by decide +kernel) rfl ⟨by decide, by decide, trivial⟩ ?_
    obtain ⟨q4, hq4, hf⟩ := Option.bind_eq_some_iff.mp hf
    refine am_callV (mi := mi_X4_shift) (rm := rm_X4_shift) [.int (l3 / (4 : Int32)), .int (l3 - l3 / (4 : Int32) * (4 : Int32))] C0.1 am_YYl cv_7_135 (M_X4_shift_13 _ g w (l3 / (4 : Int32)) (l3 - l3 / (4 : Int32) * (4 : Int32)) _ hq4) (ci := 4) rfl (by decide) rfl (by rw [hR]; rfl) rfl rfl (Nat.le_of_ble_eq_true rfl) (by decide +kernel) ?_
    refine am_wk [some (.ref 0), some (.int (p1)), some (.int (l2)), none] ⟨rfl, rfl, rfl, trivial⟩ rfl ?_
    exact B_X7_afternoons_90 x C0 hR F p1 R _ _ hk27 hk104 (l2) (q4) (w) hf
def f_X7_afternoons_27 (F : Nat) (p1 : Int32) (k104 : am_G → am_J → Option (Int32 × am_G × am_J)) : Nat → Int32 → am_G → am_J → Option (Int32 × am_G × am_J)
  | 0, _, _, _ => none
  | n + 1, l2, g, w =>
    if p1 ≤ l2 then
      k104 (g) (w)
    else
      f_X7_afternoons_61 F p1 (fun l2 g w => f_X7_afternoons_27 F p1 k104 n l2 g w) k104 (l2) (Int64.toInt32 ((am_lushr ((am_ul w 0 10 (((w 0 10) * (6364136223846793005 : Int64)) + (1442695040888963407 : Int64))) 0 10) (33 : Int32)) - (am_lushr ((am_ul w 0 10 (((w 0 10) * (6364136223846793005 : Int64)) + (1442695040888963407 : Int64))) 0 10) (33 : Int32)) / (32 : Int64) * (32 : Int64))) (g) (am_ul w 0 10 (((w 0 10) * (6364136223846793005 : Int64)) + (1442695040888963407 : Int64)))
set_option maxRecDepth 20000 in
theorem B_X7_afternoons_27 (x : am_X) (C0 : am_Cm x 7 cX7_afternoons 4 (some .int)) (hR : am_R x = rm_X7_afternoons) (F : Nat) (p1 : Int32) (R : Int32 × am_G × am_J) (k104 : am_G → am_J → Option (Int32 × am_G × am_J)) (hk104 : ∀ (g : am_G) (w : am_J), k104 g w = some R → am_Ev x 4 (0, 0) (am_Q x (0, 0) (some (.int R.1)) am_YY (R.2.1) (R.2.2)) 104 [some (.ref 0), some (.int (p1)), none, none] [] am_YY g w) : ∀ (n : Nat) (l2 : Int32) (g : am_G) (w : am_J), f_X7_afternoons_27 F p1 k104 n l2 g w = some R → am_Ev x 4 (0, 0) (am_Q x (0, 0) (some (.int R.1)) am_YY (R.2.1) (R.2.2)) 27 [some (.ref 0), some (.int (p1)), some (.int (l2)), none] [] am_YY g w := by
  intro n
  induction n with
  | zero => intro l2 g w hf; cases hf
  | succ n ih =>
    intro l2 g w hf
    rw [f_X7_afternoons_27.eq_2] at hf
    refine am_b1 C0 am_YYk (pc := 27) (pc2 := 29) [(.iload_n 2, 0, 0, .null), (.iload_n 1, 0, 0, .null)] (L := [some (.ref 0), some (.int (p1)), some (.int (l2)), none]) (st := []) (L' := [some (.ref 0), some (.int (p1)), some (.int (l2)), none]) (st' := [.int (p1), .int (l2)]) (g' := g) (w' := w) (cl := []) (by decide +kernel) rfl trivial ?_
    refine am_icmp_ge C0 (off := 75) (tgt := 104) (by decide +kernel) (fun hc6 => ?_) (fun hc6 => ?_)
    · rw [if_pos hc6] at hf
      refine am_wk [some (.ref 0), some (.int (p1)), none, none] ⟨rfl, rfl, trivial⟩ rfl ?_
      exact hk104 (g) (w) hf
    · rw [if_neg hc6] at hf
      refine am_b1 C0 am_YYk (pc := 32) (pc2 := 61) [(.aload_n 0, 0, 0, .null), (.aload_n 0, 0, 0, .null), (.getfield 233, 7, 10, .null), (.ldc2_w 237, 0, 0, .long 6364136223846793005), (.lmul, 0, 0, .null), (.ldc2_w 239, 0, 0, .long 1442695040888963407), (.ladd, 0, 0, .null), (.putfield 233, 7, 10, .null), (.aload_n 0, 0, 0, .null), (.getfield 233, 7, 10, .null), (.bipush 33, 0, 0, .int 33), (.lushr, 0, 0, .null), (.ldc2_w 241, 0, 0, .long 32), (.lrem, 0, 0, .null), (.l2i, 0, 0, .null), (.istore_n 3, 0, 0, .null)] (L := [some (.ref 0), some (.int (p1)), some (.int (l2)), none]) (st := []) (L' := [some (.ref 0), some (.int (p1)), some (.int (l2)), some (.int (Int64.toInt32 ((am_lushr ((am_ul w 0 10 (((w 0 10) * (6364136223846793005 : Int64)) + (1442695040888963407 : Int64))) 0 10) (33 : Int32)) - (am_lushr ((am_ul w 0 10 (((w 0 10) * (6364136223846793005 : Int64)) + (1442695040888963407 : Int64))) 0 10) (33 : Int32)) / (32 : Int64) * (32 : Int64))))]) (st' := []) (g' := g) (w' := am_ul w 0 10 (((w 0 10) * (6364136223846793005 : Int64)) + (1442695040888963407 : Int64))) (cl := [¬ (32 : Int64) = 0]) (by decide +kernel) rfl ⟨by decide, trivial⟩ ?_
      exact B_X7_afternoons_61 x C0 hR F p1 R _ _ (fun l2 g w hf => ih l2 g w hf) hk104 (l2) (Int64.toInt32 ((am_lushr ((am_ul w 0 10 (((w 0 10) * (6364136223846793005 : Int64)) + (1442695040888963407 : Int64))) 0 10) (33 : Int32)) - (am_lushr ((am_ul w 0 10 (((w 0 10) * (6364136223846793005 : Int64)) + (1442695040888963407 : Int64))) 0 10) (33 : Int32)) / (32 : Int64) * (32 : Int64))) (g) (am_ul w 0 10 (((w 0 10) * (6364136223846793005 : Int64)) + (1442695040888963407 : Int64))) hf
def f_X7_afternoons (F : Nat) (g : am_G) (w : am_J) (p1 : Int32) : Option (Int32 × am_G × am_J) :=
  if p1 < (1 : Int32) then
    some ((-2 : Int32), g, w)
  else
    if p1 ≤ (30 : Int32) then
      (f_X4_copy g).bind fun q7 =>
        f_X7_afternoons_27 F p1 (fun g w => f_X7_afternoons_104 F p1 (g) (w)) F ((0 : Int32)) (q7) (w)
    else
      some ((-2 : Int32), g, w)
set_option maxRecDepth 20000 in
theorem M_X7_afternoons (l : Launch) (F : Nat) (g : am_G) (w : am_J) (p1 : Int32) (R : Int32 × am_G × am_J) (hf : f_X7_afternoons F g w p1 = some R) : am_Met l mi_X7_afternoons rm_X7_afternoons [.ref 0, .int p1] am_YY g w (some (.int R.1)) am_YY (R.2.1) (R.2.2) := by
  refine am_met (own := 7) [some (.ref 0), some (.int (p1)), none, none] (by decide) rfl rfl (by first | decide | exact Nat.le_of_ble_eq_true rfl) (fun x C0 hR hl hnm => ?_)
  unfold f_X7_afternoons at hf
  refine am_b1 C0 am_YYk (pc := 0) (pc2 := 2) [(.iload_n 1, 0, 0, .null), (.iconst 1, 0, 0, .int 1)] (L := [some (.ref 0), some (.int (p1)), none, none]) (st := []) (L' := [some (.ref 0), some (.int (p1)), none, none]) (st' := [.int ((1 : Int32)), .int (p1)]) (g' := g) (w' := w) (cl := []) (by decide +kernel) rfl trivial ?_
  refine am_icmp_lt C0 (off := 9) (tgt := 11) (by decide +kernel) (fun hc9 => ?_) (fun hc9 => ?_)
  · rw [if_pos hc9] at hf
    refine am_b1 C0 am_YYk (pc := 11) (pc2 := 13) [(.bipush (-2), 0, 0, .int (-2))] (L := [some (.ref 0), some (.int (p1)), none, none]) (st := []) (L' := [some (.ref 0), some (.int (p1)), none, none]) (st' := [.int ((-2 : Int32))]) (g' := g) (w' := w) (cl := []) (by decide +kernel) rfl trivial ?_
    cases hf
    exact am_iret C0 (by decide +kernel)
  · rw [if_neg hc9] at hf
    refine am_b1 C0 am_YYk (pc := 5) (pc2 := 8) [(.iload_n 1, 0, 0, .null), (.bipush 30, 0, 0, .int 30)] (L := [some (.ref 0), some (.int (p1)), none, none]) (st := []) (L' := [some (.ref 0), some (.int (p1)), none, none]) (st' := [.int ((30 : Int32)), .int (p1)]) (g' := g) (w' := w) (cl := []) (by decide +kernel) rfl trivial ?_
    refine am_icmp_le C0 (off := 6) (tgt := 14) (by decide +kernel) (fun hc8 => ?_) (fun hc8 => ?_)
    · rw [if_pos hc8] at hf
      refine am_b1 C0 am_YYk (pc := 14) (pc2 := 22) [(.aload_n 0, 0, 0, .null), (.getfield 32, 7, 3, .null), (.aload_n 0, 0, 0, .null), (.getfield 28, 7, 2, .null)] (L := [some (.ref 0), some (.int (p1)), none, none]) (st := []) (L' := [some (.ref 0), some (.int (p1)), none, none]) (st' := [.ref 10, .ref 13]) (g' := g) (w' := w) (cl := []) (by decide +kernel) rfl trivial ?_
      obtain ⟨q7, hq7, hf⟩ := Option.bind_eq_some_iff.mp hf
      refine am_callV (mi := mi_X4_copy) (rm := rm_X4_copy) [.ref 10] C0.1 am_YYl cv_7_184 (M_X4_copy _ g w _ hq7) (ci := 4) rfl (by decide) rfl (by rw [hR]; rfl) rfl rfl (Nat.le_of_ble_eq_true rfl) (by decide +kernel) ?_
      refine am_b1 C0 am_YYk (pc := 25) (pc2 := 27) [(.iconst 0, 0, 0, .int 0), (.istore_n 2, 0, 0, .null)] (L := [some (.ref 0), some (.int (p1)), none, none]) (st := []) (L' := [some (.ref 0), some (.int (p1)), some (.int ((0 : Int32))), none]) (st' := []) (g' := q7) (w' := w) (cl := []) (by decide +kernel) rfl trivial ?_
      refine B_X7_afternoons_27 x C0 hR F p1 R _ ?_ F ((0 : Int32)) (q7) (w) hf
      · intro g w hf
        exact B_X7_afternoons_104 x C0 hR F p1 R  (g) (w) hf
    · rw [if_neg hc8] at hf
      refine am_b1 C0 am_YYk (pc := 11) (pc2 := 13) [(.bipush (-2), 0, 0, .int (-2))] (L := [some (.ref 0), some (.int (p1)), none, none]) (st := []) (L' := [some (.ref 0), some (.int (p1)), none, none]) (st' := [.int ((-2 : Int32))]) (g' := g) (w' := w) (cl := []) (by decide +kernel) rfl trivial ?_
      cases hf
      exact am_iret C0 (by decide +kernel)
/-! ShutterTown$Slots.has(I)Z at (18,) -/
def f_X5_has (p1 : Int32) : Option (Int32) :=
  if p1 < 0 then
    some ((0 : Int32))
  else
    if (2 : Int32) ≤ p1 then
      some ((0 : Int32))
    else
      some ((1 : Int32))
set_option maxRecDepth 20000 in
theorem M_X5_has (l : Launch) (g : am_G) (w : am_J) (p1 : Int32) (R : Int32) (hf : f_X5_has p1 = some R) : am_Met l mi_X5_has rm_X5_has [.ref 18, .int p1] am_YY g w (some (.int R)) am_YY g w := by
  refine am_met (own := 5) [some (.ref 18), some (.int (p1))] (by decide) rfl rfl (by first | decide | exact Nat.le_of_ble_eq_true rfl) (fun x C0 hR hl hnm => ?_)
  unfold f_X5_has at hf
  refine am_b1 C0 am_YYk (pc := 0) (pc2 := 1) [(.iload_n 1, 0, 0, .null)] (L := [some (.ref 18), some (.int (p1))]) (st := []) (L' := [some (.ref 18), some (.int (p1))]) (st' := [.int (p1)]) (g' := g) (w' := w) (cl := []) (by decide +kernel) rfl trivial ?_
  refine am_if_lt C0 (off := 12) (tgt := 13) (by decide +kernel) (fun hc2 => ?_) (fun hc2 => ?_)
  · rw [if_pos hc2] at hf
    refine am_b1 C0 am_YYk (pc := 13) (pc2 := 14) [(.iconst 0, 0, 0, .int 0)] (L := [some (.ref 18), some (.int (p1))]) (st := []) (L' := [some (.ref 18), some (.int (p1))]) (st' := [.int ((0 : Int32))]) (g' := g) (w' := w) (cl := []) (by decide +kernel) rfl trivial ?_
    cases hf
    exact am_zret C0 (by decide +kernel) (Or.inl rfl)
  · rw [if_neg hc2] at hf
    refine am_b1 C0 am_YYk (pc := 4) (pc2 := 6) [(.iload_n 1, 0, 0, .null), (.iconst 2, 0, 0, .int 2)] (L := [some (.ref 18), some (.int (p1))]) (st := []) (L' := [some (.ref 18), some (.int (p1))]) (st' := [.int ((2 : Int32)), .int (p1)]) (g' := g) (w' := w) (cl := []) (by decide +kernel) rfl trivial ?_
    refine am_icmp_ge C0 (off := 7) (tgt := 13) (by decide +kernel) (fun hc1 => ?_) (fun hc1 => ?_)
    · rw [if_pos hc1] at hf
      refine am_b1 C0 am_YYk (pc := 13) (pc2 := 14) [(.iconst 0, 0, 0, .int 0)] (L := [some (.ref 18), some (.int (p1))]) (st := []) (L' := [some (.ref 18), some (.int (p1))]) (st' := [.int ((0 : Int32))]) (g' := g) (w' := w) (cl := []) (by decide +kernel) rfl trivial ?_
      cases hf
      exact am_zret C0 (by decide +kernel) (Or.inl rfl)
    · rw [if_neg hc1] at hf
      refine am_b1 C0 am_YYk (pc := 9) (pc2 := 10) [(.iconst 1, 0, 0, .int 1)] (L := [some (.ref 18), some (.int (p1))]) (st := []) (L' := [some (.ref 18), some (.int (p1))]) (st' := [.int ((1 : Int32))]) (g' := g) (w' := w) (cl := []) (by decide +kernel) rfl trivial ?_
      refine am_goto C0 (off := 4) (tgt := 14) (by decide +kernel) ?_
      cases hf
      exact am_zret C0 (by decide +kernel) (Or.inr rfl)
/-! ShutterTown$Shutters.store([II)V at (10, 19) -/
def f_X4_store_10_19 (g : am_G) (p2 : Int32) : Option (am_G) :=
  if p2 < 0 then
    some (g)
  else
    if p2 ≤ ((Int32.ofNat 26) - (13 : Int32)) then
      if (¬ (0 : Int32) < 0 ∧ ¬ p2 < 0) ∧ ¬ (6 : Int32) < 0 ∧ Int32.toNatClampNeg (0 : Int32) + Int32.toNatClampNeg (6 : Int32) ≤ 6 ∧ Int32.toNatClampNeg p2 + Int32.toNatClampNeg (6 : Int32) ≤ 26 then
        if (¬ (0 : Int32) < 0 ∧ ¬ (p2 + (6 : Int32)) < 0) ∧ ¬ (6 : Int32) < 0 ∧ Int32.toNatClampNeg (0 : Int32) + Int32.toNatClampNeg (6 : Int32) ≤ 6 ∧ Int32.toNatClampNeg (p2 + (6 : Int32)) + Int32.toNatClampNeg (6 : Int32) ≤ 26 then
          if am_in ((p2 + (13 : Int32)) - (1 : Int32)) 26 then
            some (am_u (am_cp (am_cp g 11 19 (Int32.toNatClampNeg (0 : Int32)) (Int32.toNatClampNeg p2) (Int32.toNatClampNeg (6 : Int32))) 12 19 (Int32.toNatClampNeg (0 : Int32)) (Int32.toNatClampNeg (p2 + (6 : Int32))) (Int32.toNatClampNeg (6 : Int32))) 19 (Int32.toNatClampNeg ((p2 + (13 : Int32)) - (1 : Int32))) ((am_cp (am_cp g 11 19 (Int32.toNatClampNeg (0 : Int32)) (Int32.toNatClampNeg p2) (Int32.toNatClampNeg (6 : Int32))) 12 19 (Int32.toNatClampNeg (0 : Int32)) (Int32.toNatClampNeg (p2 + (6 : Int32))) (Int32.toNatClampNeg (6 : Int32))) 10 3))
          else none
        else none
      else none
    else
      some (g)
set_option maxRecDepth 20000 in
theorem M_X4_store_10_19 (l : Launch) (g : am_G) (w : am_J) (p2 : Int32) (R : am_G) (hf : f_X4_store_10_19 g p2 = some R) : am_Met l mi_X4_store rm_X4_store [.ref 10, .ref 19, .int p2] am_YY g w none am_YY R w := by
  refine am_met (own := 4) [some (.ref 10), some (.ref 19), some (.int (p2))] (by decide) rfl rfl (by first | decide | exact Nat.le_of_ble_eq_true rfl) (fun x C0 hR hl hnm => ?_)
  unfold f_X4_store_10_19 at hf
  refine am_b1 C0 am_YYk (pc := 0) (pc2 := 1) [(.iload_n 2, 0, 0, .null)] (L := [some (.ref 10), some (.ref 19), some (.int (p2))]) (st := []) (L' := [some (.ref 10), some (.ref 19), some (.int (p2))]) (st' := [.int (p2)]) (g' := g) (w' := w) (cl := []) (by decide +kernel) rfl trivial ?_
  refine am_if_lt C0 (off := 12) (tgt := 13) (by decide +kernel) (fun hc5 => ?_) (fun hc5 => ?_)
  · rw [if_pos hc5] at hf
    cases hf
    exact am_vret C0 (by decide +kernel)
  · rw [if_neg hc5] at hf
    refine am_b1 C0 am_YYk (pc := 4) (pc2 := 10) [(.iload_n 2, 0, 0, .null), (.aload_n 1, 0, 0, .null), (.arraylength, 0, 0, .null), (.bipush 13, 0, 0, .int 13), (.isub, 0, 0, .null)] (L := [some (.ref 10), some (.ref 19), some (.int (p2))]) (st := []) (L' := [some (.ref 10), some (.ref 19), some (.int (p2))]) (st' := [.int ((Int32.ofNat 26) - (13 : Int32)), .int (p2)]) (g' := g) (w' := w) (cl := []) (by decide +kernel) rfl trivial ?_
    refine am_icmp_le C0 (off := 4) (tgt := 14) (by decide +kernel) (fun hc4 => ?_) (fun hc4 => ?_)
    · rw [if_pos hc4] at hf
      refine am_b1 C0 am_YYk (pc := 14) (pc2 := 23) [(.aload_n 0, 0, 0, .null), (.getfield 9, 4, 1, .null), (.iconst 0, 0, 0, .int 0), (.aload_n 1, 0, 0, .null), (.iload_n 2, 0, 0, .null), (.bipush 6, 0, 0, .int 6)] (L := [some (.ref 10), some (.ref 19), some (.int (p2))]) (st := []) (L' := [some (.ref 10), some (.ref 19), some (.int (p2))]) (st' := [.int ((6 : Int32)), .int (p2), .ref 19, .int ((0 : Int32)), .ref 11]) (g' := g) (w' := w) (cl := []) (by decide +kernel) rfl trivial ?_
      obtain ⟨hg1, hf⟩ := am_g hf
      refine am_copy C0.1 am_YYl rfl rfl am_acw_4 hg1 (by rw [hR]; decide) (Nat.le_of_ble_eq_true rfl) (by decide +kernel) ?_
      refine am_b1 C0 am_YYk (pc := 26) (pc2 := 38) [(.aload_n 0, 0, 0, .null), (.getfield 15, 4, 2, .null), (.iconst 0, 0, 0, .int 0), (.aload_n 1, 0, 0, .null), (.iload_n 2, 0, 0, .null), (.bipush 6, 0, 0, .int 6), (.iadd, 0, 0, .null), (.bipush 6, 0, 0, .int 6)] (L := [some (.ref 10), some (.ref 19), some (.int (p2))]) (st := []) (L' := [some (.ref 10), some (.ref 19), some (.int (p2))]) (st' := [.int ((6 : Int32)), .int (p2 + (6 : Int32)), .ref 19, .int ((0 : Int32)), .ref 12]) (g' := am_cp g 11 19 (Int32.toNatClampNeg (0 : Int32)) (Int32.toNatClampNeg p2) (Int32.toNatClampNeg (6 : Int32))) (w' := w) (cl := []) (by decide +kernel) rfl trivial ?_
      obtain ⟨hg2, hf⟩ := am_g hf
      refine am_copy C0.1 am_YYl rfl rfl am_acw_4 hg2 (by rw [hR]; decide) (Nat.le_of_ble_eq_true rfl) (by decide +kernel) ?_
      obtain ⟨hg3, hf⟩ := am_g hf
      refine am_b1 C0 am_YYk (pc := 41) (pc2 := 53) [(.aload_n 1, 0, 0, .null), (.iload_n 2, 0, 0, .null), (.bipush 13, 0, 0, .int 13), (.iadd, 0, 0, .null), (.iconst 1, 0, 0, .int 1), (.isub, 0, 0, .null), (.aload_n 0, 0, 0, .null), (.getfield 40, 4, 3, .null), (.iastore, 0, 0, .null)] (L := [some (.ref 10), some (.ref 19), some (.int (p2))]) (st := []) (L' := [some (.ref 10), some (.ref 19), some (.int (p2))]) (st' := []) (g' := am_u (am_cp (am_cp g 11 19 (Int32.toNatClampNeg (0 : Int32)) (Int32.toNatClampNeg p2) (Int32.toNatClampNeg (6 : Int32))) 12 19 (Int32.toNatClampNeg (0 : Int32)) (Int32.toNatClampNeg (p2 + (6 : Int32))) (Int32.toNatClampNeg (6 : Int32))) 19 (Int32.toNatClampNeg ((p2 + (13 : Int32)) - (1 : Int32))) ((am_cp (am_cp g 11 19 (Int32.toNatClampNeg (0 : Int32)) (Int32.toNatClampNeg p2) (Int32.toNatClampNeg (6 : Int32))) 12 19 (Int32.toNatClampNeg (0 : Int32)) (Int32.toNatClampNeg (p2 + (6 : Int32))) (Int32.toNatClampNeg (6 : Int32))) 10 3)) (w' := w) (cl := [am_in ((p2 + (13 : Int32)) - (1 : Int32)) 26]) (by decide +kernel) rfl ⟨hg3, trivial⟩ ?_
      cases hf
      exact am_vret C0 (by decide +kernel)
    · rw [if_neg hc4] at hf
      cases hf
      exact am_vret C0 (by decide +kernel)
/-! ShutterTown$Slots.put(ILShutterTown$Shutters;)V at (18, 10) -/
def f_X5_put (g : am_G) (p1 : Int32) : Option (am_G) :=
  (f_X5_has p1).bind fun q1 =>
    if q1 = 0 then
      some (g)
    else
      (f_X4_store_10_19 g (p1 * (13 : Int32))).bind fun q2 =>
        some (am_u q2 18 1 ((q2 18 1) ||| ((1 : Int32) <<< (p1 &&& 31))))
set_option maxRecDepth 20000 in
theorem M_X5_put (l : Launch) (g : am_G) (w : am_J) (p1 : Int32) (R : am_G) (hf : f_X5_put g p1 = some R) : am_Met l mi_X5_put rm_X5_put [.ref 18, .int p1, .ref 10] am_YY g w none am_YY R w := by
  refine am_met (own := 5) [some (.ref 18), some (.int (p1)), some (.ref 10)] (by decide) rfl rfl (by first | decide | exact Nat.le_of_ble_eq_true rfl) (fun x C0 hR hl hnm => ?_)
  unfold f_X5_put at hf
  refine am_b1 C0 am_YYk (pc := 0) (pc2 := 2) [(.aload_n 0, 0, 0, .null), (.iload_n 1, 0, 0, .null)] (L := [some (.ref 18), some (.int (p1)), some (.ref 10)]) (st := []) (L' := [some (.ref 18), some (.int (p1)), some (.ref 10)]) (st' := [.int (p1), .ref 18]) (g' := g) (w' := w) (cl := []) (by decide +kernel) rfl trivial ?_
  obtain ⟨q1, hq1, hf⟩ := Option.bind_eq_some_iff.mp hf
  refine am_callV (mi := mi_X5_has) (rm := rm_X5_has) [.int (p1)] C0.1 am_YYl cv_5_15 (M_X5_has _ g w p1 _ hq1) (ci := 5) rfl (by decide) rfl (by rw [hR]; rfl) rfl rfl (Nat.le_of_ble_eq_true rfl) (by decide +kernel) ?_
  refine am_if_eq C0 (off := 27) (tgt := 32) (by decide +kernel) (fun hc3 => ?_) (fun hc3 => ?_)
  · rw [if_pos hc3] at hf
    cases hf
    exact am_vret C0 (by decide +kernel)
  · rw [if_neg hc3] at hf
    refine am_b1 C0 am_YYk (pc := 8) (pc2 := 17) [(.aload_n 2, 0, 0, .null), (.aload_n 0, 0, 0, .null), (.getfield 9, 5, 0, .null), (.iload_n 1, 0, 0, .null), (.bipush 13, 0, 0, .int 13), (.imul, 0, 0, .null)] (L := [some (.ref 18), some (.int (p1)), some (.ref 10)]) (st := []) (L' := [some (.ref 18), some (.int (p1)), some (.ref 10)]) (st' := [.int (p1 * (13 : Int32)), .ref 19, .ref 10]) (g' := g) (w' := w) (cl := []) (by decide +kernel) rfl trivial ?_
    obtain ⟨q2, hq2, hf⟩ := Option.bind_eq_some_iff.mp hf
    refine am_callV (mi := mi_X4_store) (rm := rm_X4_store) [.ref 19, .int (p1 * (13 : Int32))] C0.1 am_YYl cv_5_23 (M_X4_store_10_19 _ g w (p1 * (13 : Int32)) _ hq2) (ci := 4) rfl (by decide) rfl (by rw [hR]; rfl) rfl rfl (Nat.le_of_ble_eq_true rfl) (by decide +kernel) ?_
    refine am_b1 C0 am_YYk (pc := 20) (pc2 := 32) [(.aload_n 0, 0, 0, .null), (.dup, 0, 0, .null), (.getfield 19, 5, 1, .null), (.iconst 1, 0, 0, .int 1), (.iload_n 1, 0, 0, .null), (.ishl, 0, 0, .null), (.ior, 0, 0, .null), (.putfield 19, 5, 1, .null)] (L := [some (.ref 18), some (.int (p1)), some (.ref 10)]) (st := []) (L' := [some (.ref 18), some (.int (p1)), some (.ref 10)]) (st' := []) (g' := am_u q2 18 1 ((q2 18 1) ||| ((1 : Int32) <<< (p1 &&& 31)))) (w' := w) (cl := []) (by decide +kernel) rfl trivial ?_
    cases hf
    exact am_vret C0 (by decide +kernel)
/-! ShutterTown$Shutters.theHour()I at (10,) -/
def f_X4_theHour (g : am_G) : Option (Int32) :=
  some (g 10 3)
set_option maxRecDepth 20000 in
theorem M_X4_theHour (l : Launch) (g : am_G) (w : am_J)  (R : Int32) (hf : f_X4_theHour g = some R) : am_Met l mi_X4_theHour rm_X4_theHour [.ref 10] am_YY g w (some (.int R)) am_YY g w := by
  refine am_met (own := 4) [some (.ref 10)] (by decide) rfl rfl (by first | decide | exact Nat.le_of_ble_eq_true rfl) (fun x C0 hR hl hnm => ?_)
  unfold f_X4_theHour at hf
  refine am_b1 C0 am_YYk (pc := 0) (pc2 := 4) [(.aload_n 0, 0, 0, .null), (.getfield 40, 4, 3, .null)] (L := [some (.ref 10)]) (st := []) (L' := [some (.ref 10)]) (st' := [.int (g 10 3)]) (g' := g) (w' := w) (cl := []) (by decide +kernel) rfl trivial ?_
  cases hf
  exact am_iret C0 (by decide +kernel)
/-! ShutterTown.keep(I)I at (0,) -/
def f_X7_keep (g : am_G) (p1 : Int32) : Option (Int32 × am_G) :=
  (f_X5_has p1).bind fun q1 =>
    if q1 = 0 then
      some ((-1 : Int32), g)
    else
      (f_X5_put g p1).bind fun q2 =>
        (f_X4_theHour q2).bind fun q3 =>
          some (q3, q2)
set_option maxRecDepth 20000 in
theorem M_X7_keep (l : Launch) (g : am_G) (w : am_J) (p1 : Int32) (R : Int32 × am_G) (hf : f_X7_keep g p1 = some R) : am_Met l mi_X7_keep rm_X7_keep [.ref 0, .int p1] am_YY g w (some (.int R.1)) am_YY (R.2) w := by
  refine am_met (own := 7) [some (.ref 0), some (.int (p1))] (by decide) rfl rfl (by first | decide | exact Nat.le_of_ble_eq_true rfl) (fun x C0 hR hl hnm => ?_)
  unfold f_X7_keep at hf
  refine am_b1 C0 am_YYk (pc := 0) (pc2 := 5) [(.aload_n 0, 0, 0, .null), (.getfield 45, 7, 5, .null), (.iload_n 1, 0, 0, .null)] (L := [some (.ref 0), some (.int (p1))]) (st := []) (L' := [some (.ref 0), some (.int (p1))]) (st' := [.int (p1), .ref 18]) (g' := g) (w' := w) (cl := []) (by decide +kernel) rfl trivial ?_
  obtain ⟨q1, hq1, hf⟩ := Option.bind_eq_some_iff.mp hf
  refine am_callV (mi := mi_X5_has) (rm := rm_X5_has) [.int (p1)] C0.1 am_YYl cv_7_243 (M_X5_has _ g w p1 _ hq1) (ci := 5) rfl (by decide) rfl (by rw [hR]; rfl) rfl rfl (Nat.le_of_ble_eq_true rfl) (by decide +kernel) ?_
  refine am_if_ne C0 (off := 5) (tgt := 13) (by decide +kernel) (fun hc4 => ?_) (fun hc4 => ?_)
  · rw [if_neg hc4] at hf
    refine am_b1 C0 am_YYk (pc := 13) (pc2 := 22) [(.aload_n 0, 0, 0, .null), (.getfield 45, 7, 5, .null), (.iload_n 1, 0, 0, .null), (.aload_n 0, 0, 0, .null), (.getfield 28, 7, 2, .null)] (L := [some (.ref 0), some (.int (p1))]) (st := []) (L' := [some (.ref 0), some (.int (p1))]) (st' := [.ref 10, .int (p1), .ref 18]) (g' := g) (w' := w) (cl := []) (by decide +kernel) rfl trivial ?_
    obtain ⟨q2, hq2, hf⟩ := Option.bind_eq_some_iff.mp hf
    refine am_callV (mi := mi_X5_put) (rm := rm_X5_put) [.int (p1), .ref 10] C0.1 am_YYl cv_7_244 (M_X5_put _ g w p1 _ hq2) (ci := 5) rfl (by decide) rfl (by rw [hR]; rfl) rfl rfl (Nat.le_of_ble_eq_true rfl) (by decide +kernel) ?_
    refine am_b1 C0 am_YYk (pc := 25) (pc2 := 29) [(.aload_n 0, 0, 0, .null), (.getfield 28, 7, 2, .null)] (L := [some (.ref 0), some (.int (p1))]) (st := []) (L' := [some (.ref 0), some (.int (p1))]) (st' := [.ref 10]) (g' := q2) (w' := w) (cl := []) (by decide +kernel) rfl trivial ?_
    obtain ⟨q3, hq3, hf⟩ := Option.bind_eq_some_iff.mp hf
    refine am_callV (mi := mi_X4_theHour) (rm := rm_X4_theHour) [] C0.1 am_YYl cv_7_248 (M_X4_theHour _ q2 w _ hq3) (ci := 4) rfl (by decide) rfl (by rw [hR]; rfl) rfl rfl (Nat.le_of_ble_eq_true rfl) (by decide +kernel) ?_
    cases hf
    exact am_iret C0 (by decide +kernel)
  · rw [if_pos hc4] at hf
    refine am_b1 C0 am_YYk (pc := 11) (pc2 := 12) [(.iconst (-1), 0, 0, .int (-1))] (L := [some (.ref 0), some (.int (p1))]) (st := []) (L' := [some (.ref 0), some (.int (p1))]) (st' := [.int ((-1 : Int32))]) (g' := g) (w' := w) (cl := []) (by decide +kernel) rfl trivial ?_
    cases hf
    exact am_iret C0 (by decide +kernel)
/-! ShutterTown$Slots.isKept(I)Z at (18,) -/
def f_X5_isKept (g : am_G) (p1 : Int32) : Option (Int32) :=
  (f_X5_has p1).bind fun q1 =>
    if q1 = 0 then
      some ((0 : Int32))
    else
      if (((g 18 1) >>> (p1 &&& 31)) &&& (1 : Int32)) = (1 : Int32) then
        some ((1 : Int32))
      else
        some ((0 : Int32))
set_option maxRecDepth 20000 in
theorem M_X5_isKept (l : Launch) (g : am_G) (w : am_J) (p1 : Int32) (R : Int32) (hf : f_X5_isKept g p1 = some R) : am_Met l mi_X5_isKept rm_X5_isKept [.ref 18, .int p1] am_YY g w (some (.int R)) am_YY g w := by
  refine am_met (own := 5) [some (.ref 18), some (.int (p1))] (by decide) rfl rfl (by first | decide | exact Nat.le_of_ble_eq_true rfl) (fun x C0 hR hl hnm => ?_)
  unfold f_X5_isKept at hf
  refine am_b1 C0 am_YYk (pc := 0) (pc2 := 2) [(.aload_n 0, 0, 0, .null), (.iload_n 1, 0, 0, .null)] (L := [some (.ref 18), some (.int (p1))]) (st := []) (L' := [some (.ref 18), some (.int (p1))]) (st' := [.int (p1), .ref 18]) (g' := g) (w' := w) (cl := []) (by decide +kernel) rfl trivial ?_
  obtain ⟨q1, hq1, hf⟩ := Option.bind_eq_some_iff.mp hf
  refine am_callV (mi := mi_X5_has) (rm := rm_X5_has) [.int (p1)] C0.1 am_YYl cv_5_15 (M_X5_has _ g w p1 _ hq1) (ci := 5) rfl (by decide) rfl (by rw [hR]; rfl) rfl rfl (Nat.le_of_ble_eq_true rfl) (by decide +kernel) ?_
  refine am_if_eq C0 (off := 19) (tgt := 24) (by decide +kernel) (fun hc3 => ?_) (fun hc3 => ?_)
  · rw [if_pos hc3] at hf
    refine am_b1 C0 am_YYk (pc := 24) (pc2 := 25) [(.iconst 0, 0, 0, .int 0)] (L := [some (.ref 18), some (.int (p1))]) (st := []) (L' := [some (.ref 18), some (.int (p1))]) (st' := [.int ((0 : Int32))]) (g' := g) (w' := w) (cl := []) (by decide +kernel) rfl trivial ?_
    cases hf
    exact am_zret C0 (by decide +kernel) (Or.inl rfl)
  · rw [if_neg hc3] at hf
    refine am_b1 C0 am_YYk (pc := 8) (pc2 := 17) [(.aload_n 0, 0, 0, .null), (.getfield 19, 5, 1, .null), (.iload_n 1, 0, 0, .null), (.ishr, 0, 0, .null), (.iconst 1, 0, 0, .int 1), (.iand, 0, 0, .null), (.iconst 1, 0, 0, .int 1)] (L := [some (.ref 18), some (.int (p1))]) (st := []) (L' := [some (.ref 18), some (.int (p1))]) (st' := [.int ((1 : Int32)), .int (((g 18 1) >>> (p1 &&& 31)) &&& (1 : Int32))]) (g' := g) (w' := w) (cl := []) (by decide +kernel) rfl trivial ?_
    refine am_icmp_ne C0 (off := 7) (tgt := 24) (by decide +kernel) (fun hc2 => ?_) (fun hc2 => ?_)
    · rw [if_neg hc2] at hf
      refine am_b1 C0 am_YYk (pc := 24) (pc2 := 25) [(.iconst 0, 0, 0, .int 0)] (L := [some (.ref 18), some (.int (p1))]) (st := []) (L' := [some (.ref 18), some (.int (p1))]) (st' := [.int ((0 : Int32))]) (g' := g) (w' := w) (cl := []) (by decide +kernel) rfl trivial ?_
      cases hf
      exact am_zret C0 (by decide +kernel) (Or.inl rfl)
    · rw [if_pos hc2] at hf
      refine am_b1 C0 am_YYk (pc := 20) (pc2 := 21) [(.iconst 1, 0, 0, .int 1)] (L := [some (.ref 18), some (.int (p1))]) (st := []) (L' := [some (.ref 18), some (.int (p1))]) (st' := [.int ((1 : Int32))]) (g' := g) (w' := w) (cl := []) (by decide +kernel) rfl trivial ?_
      refine am_goto C0 (off := 4) (tgt := 25) (by decide +kernel) ?_
      cases hf
      exact am_zret C0 (by decide +kernel) (Or.inr rfl)
/-! ShutterTown$Shutters.restore([II)V at (10, 19) -/
def f_X4_restore_10_19 (g : am_G) (p2 : Int32) : Option (am_G) :=
  if p2 < 0 then
    some (g)
  else
    if p2 ≤ ((Int32.ofNat 26) - (13 : Int32)) then
      if (¬ p2 < 0 ∧ ¬ (0 : Int32) < 0) ∧ ¬ (6 : Int32) < 0 ∧ Int32.toNatClampNeg p2 + Int32.toNatClampNeg (6 : Int32) ≤ 26 ∧ Int32.toNatClampNeg (0 : Int32) + Int32.toNatClampNeg (6 : Int32) ≤ 6 then
        if (¬ (p2 + (6 : Int32)) < 0 ∧ ¬ (0 : Int32) < 0) ∧ ¬ (6 : Int32) < 0 ∧ Int32.toNatClampNeg (p2 + (6 : Int32)) + Int32.toNatClampNeg (6 : Int32) ≤ 26 ∧ Int32.toNatClampNeg (0 : Int32) + Int32.toNatClampNeg (6 : Int32) ≤ 6 then
          if am_in ((p2 + (13 : Int32)) - (1 : Int32)) 26 then
            some (am_u (am_cp (am_cp g 19 11 (Int32.toNatClampNeg p2) (Int32.toNatClampNeg (0 : Int32)) (Int32.toNatClampNeg (6 : Int32))) 19 12 (Int32.toNatClampNeg (p2 + (6 : Int32))) (Int32.toNatClampNeg (0 : Int32)) (Int32.toNatClampNeg (6 : Int32))) 10 3 ((am_cp (am_cp g 19 11 (Int32.toNatClampNeg p2) (Int32.toNatClampNeg (0 : Int32)) (Int32.toNatClampNeg (6 : Int32))) 19 12 (Int32.toNatClampNeg (p2 + (6 : Int32))) (Int32.toNatClampNeg (0 : Int32)) (Int32.toNatClampNeg (6 : Int32))) 19 (Int32.toNatClampNeg ((p2 + (13 : Int32)) - (1 : Int32)))))
          else none
        else none
      else none
    else
      some (g)
set_option maxRecDepth 20000 in
theorem M_X4_restore_10_19 (l : Launch) (g : am_G) (w : am_J) (p2 : Int32) (R : am_G) (hf : f_X4_restore_10_19 g p2 = some R) : am_Met l mi_X4_restore rm_X4_restore [.ref 10, .ref 19, .int p2] am_YY g w none am_YY R w := by
  refine am_met (own := 4) [some (.ref 10), some (.ref 19), some (.int (p2))] (by decide) rfl rfl (by first | decide | exact Nat.le_of_ble_eq_true rfl) (fun x C0 hR hl hnm => ?_)
  unfold f_X4_restore_10_19 at hf
  refine am_b1 C0 am_YYk (pc := 0) (pc2 := 1) [(.iload_n 2, 0, 0, .null)] (L := [some (.ref 10), some (.ref 19), some (.int (p2))]) (st := []) (L' := [some (.ref 10), some (.ref 19), some (.int (p2))]) (st' := [.int (p2)]) (g' := g) (w' := w) (cl := []) (by decide +kernel) rfl trivial ?_
  refine am_if_lt C0 (off := 12) (tgt := 13) (by decide +kernel) (fun hc5 => ?_) (fun hc5 => ?_)
  · rw [if_pos hc5] at hf
    cases hf
    exact am_vret C0 (by decide +kernel)
  · rw [if_neg hc5] at hf
    refine am_b1 C0 am_YYk (pc := 4) (pc2 := 10) [(.iload_n 2, 0, 0, .null), (.aload_n 1, 0, 0, .null), (.arraylength, 0, 0, .null), (.bipush 13, 0, 0, .int 13), (.isub, 0, 0, .null)] (L := [some (.ref 10), some (.ref 19), some (.int (p2))]) (st := []) (L' := [some (.ref 10), some (.ref 19), some (.int (p2))]) (st' := [.int ((Int32.ofNat 26) - (13 : Int32)), .int (p2)]) (g' := g) (w' := w) (cl := []) (by decide +kernel) rfl trivial ?_
    refine am_icmp_le C0 (off := 4) (tgt := 14) (by decide +kernel) (fun hc4 => ?_) (fun hc4 => ?_)
    · rw [if_pos hc4] at hf
      refine am_b1 C0 am_YYk (pc := 14) (pc2 := 23) [(.aload_n 1, 0, 0, .null), (.iload_n 2, 0, 0, .null), (.aload_n 0, 0, 0, .null), (.getfield 9, 4, 1, .null), (.iconst 0, 0, 0, .int 0), (.bipush 6, 0, 0, .int 6)] (L := [some (.ref 10), some (.ref 19), some (.int (p2))]) (st := []) (L' := [some (.ref 10), some (.ref 19), some (.int (p2))]) (st' := [.int ((6 : Int32)), .int ((0 : Int32)), .ref 11, .int (p2), .ref 19]) (g' := g) (w' := w) (cl := []) (by decide +kernel) rfl trivial ?_
      obtain ⟨hg1, hf⟩ := am_g hf
      refine am_copy C0.1 am_YYl rfl rfl am_acw_4 hg1 (by rw [hR]; decide) (Nat.le_of_ble_eq_true rfl) (by decide +kernel) ?_
      refine am_b1 C0 am_YYk (pc := 26) (pc2 := 38) [(.aload_n 1, 0, 0, .null), (.iload_n 2, 0, 0, .null), (.bipush 6, 0, 0, .int 6), (.iadd, 0, 0, .null), (.aload_n 0, 0, 0, .null), (.getfield 15, 4, 2, .null), (.iconst 0, 0, 0, .int 0), (.bipush 6, 0, 0, .int 6)] (L := [some (.ref 10), some (.ref 19), some (.int (p2))]) (st := []) (L' := [some (.ref 10), some (.ref 19), some (.int (p2))]) (st' := [.int ((6 : Int32)), .int ((0 : Int32)), .ref 12, .int (p2 + (6 : Int32)), .ref 19]) (g' := am_cp g 19 11 (Int32.toNatClampNeg p2) (Int32.toNatClampNeg (0 : Int32)) (Int32.toNatClampNeg (6 : Int32))) (w' := w) (cl := []) (by decide +kernel) rfl trivial ?_
      obtain ⟨hg2, hf⟩ := am_g hf
      refine am_copy C0.1 am_YYl rfl rfl am_acw_4 hg2 (by rw [hR]; decide) (Nat.le_of_ble_eq_true rfl) (by decide +kernel) ?_
      obtain ⟨hg3, hf⟩ := am_g hf
      refine am_b1 C0 am_YYk (pc := 41) (pc2 := 53) [(.aload_n 0, 0, 0, .null), (.aload_n 1, 0, 0, .null), (.iload_n 2, 0, 0, .null), (.bipush 13, 0, 0, .int 13), (.iadd, 0, 0, .null), (.iconst 1, 0, 0, .int 1), (.isub, 0, 0, .null), (.iaload, 0, 0, .null), (.putfield 40, 4, 3, .null)] (L := [some (.ref 10), some (.ref 19), some (.int (p2))]) (st := []) (L' := [some (.ref 10), some (.ref 19), some (.int (p2))]) (st' := []) (g' := am_u (am_cp (am_cp g 19 11 (Int32.toNatClampNeg p2) (Int32.toNatClampNeg (0 : Int32)) (Int32.toNatClampNeg (6 : Int32))) 19 12 (Int32.toNatClampNeg (p2 + (6 : Int32))) (Int32.toNatClampNeg (0 : Int32)) (Int32.toNatClampNeg (6 : Int32))) 10 3 ((am_cp (am_cp g 19 11 (Int32.toNatClampNeg p2) (Int32.toNatClampNeg (0 : Int32)) (Int32.toNatClampNeg (6 : Int32))) 19 12 (Int32.toNatClampNeg (p2 + (6 : Int32))) (Int32.toNatClampNeg (0 : Int32)) (Int32.toNatClampNeg (6 : Int32))) 19 (Int32.toNatClampNeg ((p2 + (13 : Int32)) - (1 : Int32))))) (w' := w) (cl := [am_in ((p2 + (13 : Int32)) - (1 : Int32)) 26]) (by decide +kernel) rfl ⟨hg3, trivial⟩ ?_
      cases hf
      exact am_vret C0 (by decide +kernel)
    · rw [if_neg hc4] at hf
      cases hf
      exact am_vret C0 (by decide +kernel)
/-! ShutterTown$Slots.giveBack(ILShutterTown$Shutters;)V at (18, 10) -/
def f_X5_giveBack (g : am_G) (p1 : Int32) : Option (am_G) :=
  (f_X5_isKept g p1).bind fun q1 =>
    if q1 = 0 then
      some (g)
    else
      (f_X4_restore_10_19 g (p1 * (13 : Int32))).bind fun q2 =>
        some (q2)
set_option maxRecDepth 20000 in
theorem M_X5_giveBack (l : Launch) (g : am_G) (w : am_J) (p1 : Int32) (R : am_G) (hf : f_X5_giveBack g p1 = some R) : am_Met l mi_X5_giveBack rm_X5_giveBack [.ref 18, .int p1, .ref 10] am_YY g w none am_YY R w := by
  refine am_met (own := 5) [some (.ref 18), some (.int (p1)), some (.ref 10)] (by decide) rfl rfl (by first | decide | exact Nat.le_of_ble_eq_true rfl) (fun x C0 hR hl hnm => ?_)
  unfold f_X5_giveBack at hf
  refine am_b1 C0 am_YYk (pc := 0) (pc2 := 2) [(.aload_n 0, 0, 0, .null), (.iload_n 1, 0, 0, .null)] (L := [some (.ref 18), some (.int (p1)), some (.ref 10)]) (st := []) (L' := [some (.ref 18), some (.int (p1)), some (.ref 10)]) (st' := [.int (p1), .ref 18]) (g' := g) (w' := w) (cl := []) (by decide +kernel) rfl trivial ?_
  obtain ⟨q1, hq1, hf⟩ := Option.bind_eq_some_iff.mp hf
  refine am_callV (mi := mi_X5_isKept) (rm := rm_X5_isKept) [.int (p1)] C0.1 am_YYl cv_5_29 (M_X5_isKept _ g w p1 _ hq1) (ci := 5) rfl (by decide) rfl (by rw [hR]; rfl) rfl rfl (Nat.le_of_ble_eq_true rfl) (by decide +kernel) ?_
  refine am_if_eq C0 (off := 15) (tgt := 20) (by decide +kernel) (fun hc3 => ?_) (fun hc3 => ?_)
  · rw [if_pos hc3] at hf
    cases hf
    exact am_vret C0 (by decide +kernel)
  · rw [if_neg hc3] at hf
    refine am_b1 C0 am_YYk (pc := 8) (pc2 := 17) [(.aload_n 2, 0, 0, .null), (.aload_n 0, 0, 0, .null), (.getfield 9, 5, 0, .null), (.iload_n 1, 0, 0, .null), (.bipush 13, 0, 0, .int 13), (.imul, 0, 0, .null)] (L := [some (.ref 18), some (.int (p1)), some (.ref 10)]) (st := []) (L' := [some (.ref 18), some (.int (p1)), some (.ref 10)]) (st' := [.int (p1 * (13 : Int32)), .ref 19, .ref 10]) (g' := g) (w' := w) (cl := []) (by decide +kernel) rfl trivial ?_
    obtain ⟨q2, hq2, hf⟩ := Option.bind_eq_some_iff.mp hf
    refine am_callV (mi := mi_X4_restore) (rm := rm_X4_restore) [.ref 19, .int (p1 * (13 : Int32))] C0.1 am_YYl cv_5_32 (M_X4_restore_10_19 _ g w (p1 * (13 : Int32)) _ hq2) (ci := 4) rfl (by decide) rfl (by rw [hR]; rfl) rfl rfl (Nat.le_of_ble_eq_true rfl) (by decide +kernel) ?_
    cases hf
    exact am_vret C0 (by decide +kernel)
/-! ShutterTown.again(I)I at (0,) -/
def f_X7_again (g : am_G) (p1 : Int32) : Option (Int32 × am_G) :=
  (f_X5_has p1).bind fun q1 =>
    if q1 = 0 then
      some ((-1 : Int32), g)
    else
      (f_X5_isKept g p1).bind fun q2 =>
        if q2 = 0 then
          some ((-3 : Int32), g)
        else
          (f_X5_giveBack g p1).bind fun q3 =>
            (f_X0_clear q3).bind fun q4 =>
              (f_X4_theHour q4).bind fun q5 =>
                some (q5, q4)
set_option maxRecDepth 20000 in
theorem M_X7_again (l : Launch) (g : am_G) (w : am_J) (p1 : Int32) (R : Int32 × am_G) (hf : f_X7_again g p1 = some R) : am_Met l mi_X7_again rm_X7_again [.ref 0, .int p1] am_YY g w (some (.int R.1)) am_YY (R.2) w := by
  refine am_met (own := 7) [some (.ref 0), some (.int (p1))] (by decide) rfl rfl (by first | decide | exact Nat.le_of_ble_eq_true rfl) (fun x C0 hR hl hnm => ?_)
  unfold f_X7_again at hf
  refine am_b1 C0 am_YYk (pc := 0) (pc2 := 5) [(.aload_n 0, 0, 0, .null), (.getfield 45, 7, 5, .null), (.iload_n 1, 0, 0, .null)] (L := [some (.ref 0), some (.int (p1))]) (st := []) (L' := [some (.ref 0), some (.int (p1))]) (st' := [.int (p1), .ref 18]) (g' := g) (w' := w) (cl := []) (by decide +kernel) rfl trivial ?_
  obtain ⟨q1, hq1, hf⟩ := Option.bind_eq_some_iff.mp hf
  refine am_callV (mi := mi_X5_has) (rm := rm_X5_has) [.int (p1)] C0.1 am_YYl cv_7_243 (M_X5_has _ g w p1 _ hq1) (ci := 5) rfl (by decide) rfl (by rw [hR]; rfl) rfl rfl (Nat.le_of_ble_eq_true rfl) (by decide +kernel) ?_
  refine am_if_ne C0 (off := 5) (tgt := 13) (by decide +kernel) (fun hc7 => ?_) (fun hc7 => ?_)
  · rw [if_neg hc7] at hf
    refine am_b1 C0 am_YYk (pc := 13) (pc2 := 18) [(.aload_n 0, 0, 0, .null), (.getfield 45, 7, 5, .null), (.iload_n 1, 0, 0, .null)] (L := [some (.ref 0), some (.int (p1))]) (st := []) (L' := [some (.ref 0), some (.int (p1))]) (st' := [.int (p1), .ref 18]) (g' := g) (w' := w) (cl := []) (by decide +kernel) rfl trivial ?_
    obtain ⟨q2, hq2, hf⟩ := Option.bind_eq_some_iff.mp hf
    refine am_callV (mi := mi_X5_isKept) (rm := rm_X5_isKept) [.int (p1)] C0.1 am_YYl cv_7_251 (M_X5_isKept _ g w p1 _ hq2) (ci := 5) rfl (by decide) rfl (by rw [hR]; rfl) rfl rfl (Nat.le_of_ble_eq_true rfl) (by decide +kernel) ?_
    refine am_if_ne C0 (off := 6) (tgt := 27) (by decide +kernel) (fun hc6 => ?_) (fun hc6 => ?_)
    · rw [if_neg hc6] at hf
      refine am_b1 C0 am_YYk (pc := 27) (pc2 := 36) [(.aload_n 0, 0, 0, .null), (.getfield 45, 7, 5, .null), (.iload_n 1, 0, 0, .null), (.aload_n 0, 0, 0, .null), (.getfield 28, 7, 2, .null)] (L := [some (.ref 0), some (.int (p1))]) (st := []) (L' := [some (.ref 0), some (.int (p1))]) (st' := [.ref 10, .int (p1), .ref 18]) (g' := g) (w' := w) (cl := []) (by decide +kernel) rfl trivial ?_
      obtain ⟨q3, hq3, hf⟩ := Option.bind_eq_some_iff.mp hf
      refine am_callV (mi := mi_X5_giveBack) (rm := rm_X5_giveBack) [.int (p1), .ref 10] C0.1 am_YYl cv_7_254 (M_X5_giveBack _ g w p1 _ hq3) (ci := 5) rfl (by decide) rfl (by rw [hR]; rfl) rfl rfl (Nat.le_of_ble_eq_true rfl) (by decide +kernel) ?_
      refine am_b1 C0 am_YYk (pc := 39) (pc2 := 43) [(.aload_n 0, 0, 0, .null), (.getfield 38, 7, 4, .null)] (L := [some (.ref 0), some (.int (p1))]) (st := []) (L' := [some (.ref 0), some (.int (p1))]) (st' := [.ref 16]) (g' := q3) (w' := w) (cl := []) (by decide +kernel) rfl trivial ?_
      obtain ⟨q4, hq4, hf⟩ := Option.bind_eq_some_iff.mp hf
      refine am_callV (mi := mi_X0_clear) (rm := rm_X0_clear) [] C0.1 am_YYl cv_7_91 (M_X0_clear _ q3 w _ hq4) (ci := 0) rfl (by decide) rfl (by rw [hR]; rfl) rfl rfl (Nat.le_of_ble_eq_true rfl) (by decide +kernel) ?_
      refine am_b1 C0 am_YYk (pc := 46) (pc2 := 50) [(.aload_n 0, 0, 0, .null), (.getfield 28, 7, 2, .null)] (L := [some (.ref 0), some (.int (p1))]) (st := []) (L' := [some (.ref 0), some (.int (p1))]) (st' := [.ref 10]) (g' := q4) (w' := w) (cl := []) (by decide +kernel) rfl trivial ?_
      obtain ⟨q5, hq5, hf⟩ := Option.bind_eq_some_iff.mp hf
      refine am_callV (mi := mi_X4_theHour) (rm := rm_X4_theHour) [] C0.1 am_YYl cv_7_248 (M_X4_theHour _ q4 w _ hq5) (ci := 4) rfl (by decide) rfl (by rw [hR]; rfl) rfl rfl (Nat.le_of_ble_eq_true rfl) (by decide +kernel) ?_
      cases hf
      exact am_iret C0 (by decide +kernel)
    · rw [if_pos hc6] at hf
      refine am_b1 C0 am_YYk (pc := 24) (pc2 := 26) [(.bipush (-3), 0, 0, .int (-3))] (L := [some (.ref 0), some (.int (p1))]) (st := []) (L' := [some (.ref 0), some (.int (p1))]) (st' := [.int ((-3 : Int32))]) (g' := g) (w' := w) (cl := []) (by decide +kernel) rfl trivial ?_
      cases hf
      exact am_iret C0 (by decide +kernel)
  · rw [if_pos hc7] at hf
    refine am_b1 C0 am_YYk (pc := 11) (pc2 := 12) [(.iconst (-1), 0, 0, .int (-1))] (L := [some (.ref 0), some (.int (p1))]) (st := []) (L' := [some (.ref 0), some (.int (p1))]) (st' := [.int ((-1 : Int32))]) (g' := g) (w' := w) (cl := []) (by decide +kernel) rfl trivial ?_
    cases hf
    exact am_iret C0 (by decide +kernel)
/-! ShutterTown$Houses.sight()I at (3,) -/
def f_X2_sight (g : am_G) : Option (Int32) :=
  some (g 3 6)
set_option maxRecDepth 20000 in
theorem M_X2_sight (l : Launch) (g : am_G) (w : am_J)  (R : Int32) (hf : f_X2_sight g = some R) : am_Met l mi_X2_sight rm_X2_sight [.ref 3] am_YY g w (some (.int R)) am_YY g w := by
  refine am_met (own := 2) [some (.ref 3)] (by decide) rfl rfl (by first | decide | exact Nat.le_of_ble_eq_true rfl) (fun x C0 hR hl hnm => ?_)
  unfold f_X2_sight at hf
  refine am_b1 C0 am_YYk (pc := 0) (pc2 := 4) [(.aload_n 0, 0, 0, .null), (.getfield 30, 2, 6, .null)] (L := [some (.ref 3)]) (st := []) (L' := [some (.ref 3)]) (st' := [.int (g 3 6)]) (g' := g) (w' := w) (cl := []) (by decide +kernel) rfl trivial ?_
  cases hf
  exact am_iret C0 (by decide +kernel)
/-! ShutterTown$Houses.wordsAsFigures()I at (3,) -/
def f_X2_wordsAsFigures_4 (F : Nat) (g : am_G)  : Nat → Int32 → Int32 → Option (Int32)
  | 0, _, _ => none
  | n + 1, l1, l2 =>
    if (4 : Int32) ≤ l2 then
      some (l1)
    else
      if am_in l2 4 then
        f_X2_wordsAsFigures_4 F g n (((10 : Int32) * l1) + (g 4 (Int32.toNatClampNeg l2))) (l2 + (1 : Int32))
      else none
set_option maxRecDepth 20000 in
theorem B_X2_wordsAsFigures_4 (x : am_X) (C0 : am_Cm x 2 cX2_wordsAsFigures 3 (some .int)) (hR : am_R x = rm_X2_wordsAsFigures) (w : am_J) (F : Nat) (g : am_G) (R : Int32)   : ∀ (n : Nat) (l1 : Int32) (l2 : Int32), f_X2_wordsAsFigures_4 F g n l1 l2 = some R → am_Ev x 3 (0, 0) (am_Q x (0, 0) (some (.int R)) am_YY g w) 4 [some (.ref 3), some (.int (l1)), some (.int (l2))] [] am_YY g w := by
  intro n
  induction n with
  | zero => intro l1 l2 hf; cases hf
  | succ n ih =>
    intro l1 l2 hf
    rw [f_X2_wordsAsFigures_4.eq_2] at hf
    refine am_b1 C0 am_YYk (pc := 4) (pc2 := 6) [(.iload_n 2, 0, 0, .null), (.iconst 4, 0, 0, .int 4)] (L := [some (.ref 3), some (.int (l1)), some (.int (l2))]) (st := []) (L' := [some (.ref 3), some (.int (l1)), some (.int (l2))]) (st' := [.int ((4 : Int32)), .int (l2)]) (g' := g) (w' := w) (cl := []) (by decide +kernel) rfl trivial ?_
    refine am_icmp_ge C0 (off := 21) (tgt := 27) (by decide +kernel) (fun hc2 => ?_) (fun hc2 => ?_)
    · rw [if_pos hc2] at hf
      refine am_b1 C0 am_YYk (pc := 27) (pc2 := 28) [(.iload_n 1, 0, 0, .null)] (L := [some (.ref 3), some (.int (l1)), some (.int (l2))]) (st := []) (L' := [some (.ref 3), some (.int (l1)), some (.int (l2))]) (st' := [.int (l1)]) (g' := g) (w' := w) (cl := []) (by decide +kernel) rfl trivial ?_
      cases hf
      exact am_iret C0 (by decide +kernel)
    · rw [if_neg hc2] at hf
      obtain ⟨hg1, hf⟩ := am_g hf
      refine am_b1 C0 am_YYk (pc := 9) (pc2 := 24) [(.bipush 10, 0, 0, .int 10), (.iload_n 1, 0, 0, .null), (.imul, 0, 0, .null), (.aload_n 0, 0, 0, .null), (.getfield 9, 2, 0, .null), (.iload_n 2, 0, 0, .null), (.iaload, 0, 0, .null), (.iadd, 0, 0, .null), (.istore_n 1, 0, 0, .null), (.iinc 2 1, 0, 0, .int 1)] (L := [some (.ref 3), some (.int (l1)), some (.int (l2))]) (st := []) (L' := [some (.ref 3), some (.int (((10 : Int32) * l1) + (g 4 (Int32.toNatClampNeg l2)))), some (.int (l2 + (1 : Int32)))]) (st' := []) (g' := g) (w' := w) (cl := [am_in l2 4]) (by decide +kernel) rfl ⟨hg1, trivial⟩ ?_
      refine am_goto C0 (off := (-20)) (tgt := 4) (by decide +kernel) ?_
      exact ih (((10 : Int32) * l1) + (g 4 (Int32.toNatClampNeg l2))) (l2 + (1 : Int32)) hf
def f_X2_wordsAsFigures (F : Nat) (g : am_G) : Option (Int32) :=
  f_X2_wordsAsFigures_4 F g F ((0 : Int32)) ((0 : Int32))
set_option maxRecDepth 20000 in
theorem M_X2_wordsAsFigures (l : Launch) (F : Nat) (g : am_G) (w : am_J)  (R : Int32) (hf : f_X2_wordsAsFigures F g = some R) : am_Met l mi_X2_wordsAsFigures rm_X2_wordsAsFigures [.ref 3] am_YY g w (some (.int R)) am_YY g w := by
  refine am_met (own := 2) [some (.ref 3), none, none] (by decide) rfl rfl (by first | decide | exact Nat.le_of_ble_eq_true rfl) (fun x C0 hR hl hnm => ?_)
  unfold f_X2_wordsAsFigures at hf
  refine am_b1 C0 am_YYk (pc := 0) (pc2 := 4) [(.iconst 0, 0, 0, .int 0), (.istore_n 1, 0, 0, .null), (.iconst 0, 0, 0, .int 0), (.istore_n 2, 0, 0, .null)] (L := [some (.ref 3), none, none]) (st := []) (L' := [some (.ref 3), some (.int ((0 : Int32))), some (.int ((0 : Int32)))]) (st' := []) (g' := g) (w' := w) (cl := []) (by decide +kernel) rfl trivial ?_
  refine B_X2_wordsAsFigures_4 x C0 hR w F g R   F ((0 : Int32)) ((0 : Int32)) hf
/-! ShutterTown$Shutters.dueCount()I at (10,) -/
def f_X4_dueCount_32 (F : Nat) (g : am_G) (k4 : Int32 → Int32 → Option (Int32)) (l2 : Int32) (s0 : Int32) (s1 : Int32) : Option (Int32) :=
  k4 (s0 + s1) (l2 + (1 : Int32))
set_option maxRecDepth 20000 in
theorem B_X4_dueCount_32 (x : am_X) (C0 : am_Cm x 4 cX4_dueCount 3 (some .int)) (hR : am_R x = rm_X4_dueCount) (w : am_J) (F : Nat) (g : am_G) (R : Int32) (k4 : Int32 → Int32 → Option (Int32)) (hk4 : ∀ (l1 : Int32) (l2 : Int32), k4 l1 l2 = some R → am_Ev x 3 (0, 0) (am_Q x (0, 0) (some (.int R)) am_YY g w) 4 [some (.ref 10), some (.int (l1)), some (.int (l2))] [] am_YY g w) (l2 : Int32) (s0 : Int32) (s1 : Int32) (hf : f_X4_dueCount_32 F g k4 l2 s0 s1 = some R) : am_Ev x 3 (0, 0) (am_Q x (0, 0) (some (.int R)) am_YY g w) 32 [some (.ref 10), none, some (.int (l2))] [.int (s1), .int (s0)] am_YY g w := by
  unfold f_X4_dueCount_32 at hf
  refine am_b1 C0 am_YYk (pc := 32) (pc2 := 37) [(.iadd, 0, 0, .null), (.istore_n 1, 0, 0, .null), (.iinc 2 1, 0, 0, .int 1)] (L := [some (.ref 10), none, some (.int (l2))]) (st := [.int (s1), .int (s0)]) (L' := [some (.ref 10), some (.int (s0 + s1)), some (.int (l2 + (1 : Int32)))]) (st' := []) (g' := g) (w' := w) (cl := []) (by decide +kernel) rfl trivial ?_
  refine am_goto C0 (off := (-33)) (tgt := 4) (by decide +kernel) ?_
  exact hk4 (s0 + s1) (l2 + (1 : Int32)) hf
def f_X4_dueCount_4 (F : Nat) (g : am_G)  : Nat → Int32 → Int32 → Option (Int32)
  | 0, _, _ => none
  | n + 1, l1, l2 =>
    (f_X2_windows g).bind fun q1 =>
      if q1 ≤ l2 then
        some (l1)
      else
        if am_in l2 6 then
          if (g 12 (Int32.toNatClampNeg l2)) = (-9 : Int32) then
            f_X4_dueCount_32 F g (fun l1 l2 => f_X4_dueCount_4 F g n l1 l2) (l2) (l1) ((0 : Int32))
          else
            f_X4_dueCount_32 F g (fun l1 l2 => f_X4_dueCount_4 F g n l1 l2) (l2) (l1) ((1 : Int32))
        else none
set_option maxRecDepth 20000 in
theorem B_X4_dueCount_4 (x : am_X) (C0 : am_Cm x 4 cX4_dueCount 3 (some .int)) (hR : am_R x = rm_X4_dueCount) (w : am_J) (F : Nat) (g : am_G) (R : Int32)   : ∀ (n : Nat) (l1 : Int32) (l2 : Int32), f_X4_dueCount_4 F g n l1 l2 = some R → am_Ev x 3 (0, 0) (am_Q x (0, 0) (some (.int R)) am_YY g w) 4 [some (.ref 10), some (.int (l1)), some (.int (l2))] [] am_YY g w := by
  intro n
  induction n with
  | zero => intro l1 l2 hf; cases hf
  | succ n ih =>
    intro l1 l2 hf
    rw [f_X4_dueCount_4.eq_2] at hf
    refine am_b1 C0 am_YYk (pc := 4) (pc2 := 9) [(.iload_n 2, 0, 0, .null), (.aload_n 0, 0, 0, .null), (.getfield 18, 4, 0, .null)] (L := [some (.ref 10), some (.int (l1)), some (.int (l2))]) (st := []) (L' := [some (.ref 10), some (.int (l1)), some (.int (l2))]) (st' := [.ref 3, .int (l2)]) (g' := g) (w' := w) (cl := []) (by decide +kernel) rfl trivial ?_
    obtain ⟨q1, hq1, hf⟩ := Option.bind_eq_some_iff.mp hf
    refine am_callV (mi := mi_X2_windows) (rm := rm_X2_windows) [] C0.1 am_YYl cv_4_22 (M_X2_windows _ g w _ hq1) (ci := 2) rfl (by decide) rfl (by rw [hR]; rfl) rfl rfl (Nat.le_of_ble_eq_true rfl) (by decide +kernel) ?_
    refine am_icmp_ge C0 (off := 28) (tgt := 40) (by decide +kernel) (fun hc4 => ?_) (fun hc4 => ?_)
    · rw [if_pos hc4] at hf
      refine am_b1 C0 am_YYk (pc := 40) (pc2 := 41) [(.iload_n 1, 0, 0, .null)] (L := [some (.ref 10), some (.int (l1)), some (.int (l2))]) (st := []) (L' := [some (.ref 10), some (.int (l1)), some (.int (l2))]) (st' := [.int (l1)]) (g' := g) (w' := w) (cl := []) (by decide +kernel) rfl trivial ?_
      cases hf
      exact am_iret C0 (by decide +kernel)
    · rw [if_neg hc4] at hf
      obtain ⟨hg2, hf⟩ := am_g hf
      refine am_b1 C0 am_YYk (pc := 15) (pc2 := 24) [(.iload_n 1, 0, 0, .null), (.aload_n 0, 0, 0, .null), (.getfield 15, 4, 2, .null), (.iload_n 2, 0, 0, .null), (.iaload, 0, 0, .null), (.bipush (-9), 0, 0, .int (-9))] (L := [some (.ref 10), some (.int (l1)), some (.int (l2))]) (st := []) (L' := [some (.ref 10), some (.int (l1)), some (.int (l2))]) (st' := [.int ((-9 : Int32)), .int (g 12 (Int32.toNatClampNeg l2)), .int (l1)]) (g' := g) (w' := w) (cl := [am_in l2 6]) (by decide +kernel) rfl ⟨hg2, trivial⟩ ?_
      refine am_icmp_eq C0 (off := 7) (tgt := 31) (by decide +kernel) (fun hc3 => ?_) (fun hc3 => ?_)
      · rw [if_pos hc3] at hf
        refine am_b1 C0 am_YYk (pc := 31) (pc2 := 32) [(.iconst 0, 0, 0, .int 0)] (L := [some (.ref 10), some (.int (l1)), some (.int (l2))]) (st := [.int (l1)]) (L' := [some (.ref 10), some (.int (l1)), some (.int (l2))]) (st' := [.int ((0 : Int32)), .int (l1)]) (g' := g) (w' := w) (cl := []) (by decide +kernel) rfl trivial ?_
        refine am_wk [some (.ref 10), none, some (.int (l2))] ⟨rfl, rfl, trivial⟩ rfl ?_
        exact B_X4_dueCount_32 x C0 hR w F g R _ (fun l1 l2 hf => ih l1 l2 hf) (l2) (l1) ((0 : Int32)) hf
      · rw [if_neg hc3] at hf
        refine am_b1 C0 am_YYk (pc := 27) (pc2 := 28) [(.iconst 1, 0, 0, .int 1)] (L := [some (.ref 10), some (.int (l1)), some (.int (l2))]) (st := [.int (l1)]) (L' := [some (.ref 10), some (.int (l1)), some (.int (l2))]) (st' := [.int ((1 : Int32)), .int (l1)]) (g' := g) (w' := w) (cl := []) (by decide +kernel) rfl trivial ?_
        refine am_goto C0 (off := 4) (tgt := 32) (by decide +kernel) ?_
        refine am_wk [some (.ref 10), none, some (.int (l2))] ⟨rfl, rfl, trivial⟩ rfl ?_
        exact B_X4_dueCount_32 x C0 hR w F g R _ (fun l1 l2 hf => ih l1 l2 hf) (l2) (l1) ((1 : Int32)) hf
def f_X4_dueCount (F : Nat) (g : am_G) : Option (Int32) :=
  f_X4_dueCount_4 F g F ((0 : Int32)) ((0 : Int32))
set_option maxRecDepth 20000 in
theorem M_X4_dueCount (l : Launch) (F : Nat) (g : am_G) (w : am_J)  (R : Int32) (hf : f_X4_dueCount F g = some R) : am_Met l mi_X4_dueCount rm_X4_dueCount [.ref 10] am_YY g w (some (.int R)) am_YY g w := by
  refine am_met (own := 4) [some (.ref 10), none, none] (by decide) rfl rfl (by first | decide | exact Nat.le_of_ble_eq_true rfl) (fun x C0 hR hl hnm => ?_)
  unfold f_X4_dueCount at hf
  refine am_b1 C0 am_YYk (pc := 0) (pc2 := 4) [(.iconst 0, 0, 0, .int 0), (.istore_n 1, 0, 0, .null), (.iconst 0, 0, 0, .int 0), (.istore_n 2, 0, 0, .null)] (L := [some (.ref 10), none, none]) (st := []) (L' := [some (.ref 10), some (.int ((0 : Int32))), some (.int ((0 : Int32)))]) (st' := []) (g' := g) (w' := w) (cl := []) (by decide +kernel) rfl trivial ?_
  refine B_X4_dueCount_4 x C0 hR w F g R   F ((0 : Int32)) ((0 : Int32)) hf
/-! ShutterTown$Shutters.pairsAlike()I at (10,) -/
def f_X4_pairsAlike_10_69 (F : Nat) (g : am_G) (k4 : Int32 → Int32 → Option (Int32)) (l1 : Int32) (l2 : Int32) : Option (Int32) :=
  k4 (l1) (l2 + (1 : Int32))
set_option maxRecDepth 20000 in
theorem B_X4_pairsAlike_10_69 (x : am_X) (C0 : am_Cm x 4 cX4_pairsAlike 4 (some .int)) (hR : am_R x = rm_X4_pairsAlike) (w : am_J) (F : Nat) (g : am_G) (R : Int32) (k4 : Int32 → Int32 → Option (Int32)) (hk4 : ∀ (l1 : Int32) (l2 : Int32), k4 l1 l2 = some R → am_Ev x 4 (0, 0) (am_Q x (0, 0) (some (.int R)) am_YY g w) 4 [some (.ref 10), some (.int (l1)), some (.int (l2)), none] [] am_YY g w) (l1 : Int32) (l2 : Int32) (hf : f_X4_pairsAlike_10_69 F g k4 l1 l2 = some R) : am_Ev x 4 (0, 0) (am_Q x (0, 0) (some (.int R)) am_YY g w) 69 [some (.ref 10), some (.int (l1)), some (.int (l2)), none] [] am_YY g w := by
  unfold f_X4_pairsAlike_10_69 at hf
  refine am_b1 C0 am_YYk (pc := 69) (pc2 := 72) [(.iinc 2 1, 0, 0, .int 1)] (L := [some (.ref 10), some (.int (l1)), some (.int (l2)), none]) (st := []) (L' := [some (.ref 10), some (.int (l1)), some (.int (l2 + (1 : Int32))), none]) (st' := []) (g' := g) (w' := w) (cl := []) (by decide +kernel) rfl trivial ?_
  refine am_goto C0 (off := (-68)) (tgt := 4) (by decide +kernel) ?_
  exact hk4 (l1) (l2 + (1 : Int32)) hf
def f_X4_pairsAlike_10_61 (F : Nat) (g : am_G) (k19 : Int32 → Int32 → Int32 → Option (Int32)) (k69 : Int32 → Int32 → Option (Int32)) (l2 : Int32) (l3 : Int32) (s0 : Int32) (s1 : Int32) : Option (Int32) :=
  k19 (s0 + s1) (l2) (l3 + (1 : Int32))
set_option maxRecDepth 20000 in
theorem B_X4_pairsAlike_10_61 (x : am_X) (C0 : am_Cm x 4 cX4_pairsAlike 4 (some .int)) (hR : am_R x = rm_X4_pairsAlike) (w : am_J) (F : Nat) (g : am_G) (R : Int32) (k19 : Int32 → Int32 → Int32 → Option (Int32)) (k69 : Int32 → Int32 → Option (Int32)) (hk19 : ∀ (l1 : Int32) (l2 : Int32) (l3 : Int32), k19 l1 l2 l3 = some R → am_Ev x 4 (0, 0) (am_Q x (0, 0) (some (.int R)) am_YY g w) 19 [some (.ref 10), some (.int (l1)), some (.int (l2)), some (.int (l3))] [] am_YY g w) (hk69 : ∀ (l1 : Int32) (l2 : Int32), k69 l1 l2 = some R → am_Ev x 4 (0, 0) (am_Q x (0, 0) (some (.int R)) am_YY g w) 69 [some (.ref 10), some (.int (l1)), some (.int (l2)), none] [] am_YY g w) (l2 : Int32) (l3 : Int32) (s0 : Int32) (s1 : Int32) (hf : f_X4_pairsAlike_10_61 F g k19 k69 l2 l3 s0 s1 = some R) : am_Ev x 4 (0, 0) (am_Q x (0, 0) (some (.int R)) am_YY g w) 61 [some (.ref 10), none, some (.int (l2)), some (.int (l3))] [.int (s1), .int (s0)] am_YY g w := by
  unfold f_X4_pairsAlike_10_61 at hf
  refine am_b1 C0 am_YYk (pc := 61) (pc2 := 66) [(.iadd, 0, 0, .null), (.istore_n 1, 0, 0, .null), (.iinc 3 1, 0, 0, .int 1)] (L := [some (.ref 10), none, some (.int (l2)), some (.int (l3))]) (st := [.int (s1), .int (s0)]) (L' := [some (.ref 10), some (.int (s0 + s1)), some (.int (l2)), some (.int (l3 + (1 : Int32)))]) (st' := []) (g' := g) (w' := w) (cl := []) (by decide +kernel) rfl trivial ?_
  refine am_goto C0 (off := (-47)) (tgt := 19) (by decide +kernel) ?_
  exact hk19 (s0 + s1) (l2) (l3 + (1 : Int32)) hf
def f_X4_pairsAlike_10_60 (F : Nat) (g : am_G) (k19 : Int32 → Int32 → Int32 → Option (Int32)) (k69 : Int32 → Int32 → Option (Int32)) (l2 : Int32) (l3 : Int32) (s0 : Int32) : Option (Int32) :=
  f_X4_pairsAlike_10_61 F g k19 k69 (l2) (l3) (s0) ((0 : Int32))
set_option maxRecDepth 20000 in
theorem B_X4_pairsAlike_10_60 (x : am_X) (C0 : am_Cm x 4 cX4_pairsAlike 4 (some .int)) (hR : am_R x = rm_X4_pairsAlike) (w : am_J) (F : Nat) (g : am_G) (R : Int32) (k19 : Int32 → Int32 → Int32 → Option (Int32)) (k69 : Int32 → Int32 → Option (Int32)) (hk19 : ∀ (l1 : Int32) (l2 : Int32) (l3 : Int32), k19 l1 l2 l3 = some R → am_Ev x 4 (0, 0) (am_Q x (0, 0) (some (.int R)) am_YY g w) 19 [some (.ref 10), some (.int (l1)), some (.int (l2)), some (.int (l3))] [] am_YY g w) (hk69 : ∀ (l1 : Int32) (l2 : Int32), k69 l1 l2 = some R → am_Ev x 4 (0, 0) (am_Q x (0, 0) (some (.int R)) am_YY g w) 69 [some (.ref 10), some (.int (l1)), some (.int (l2)), none] [] am_YY g w) (l2 : Int32) (l3 : Int32) (s0 : Int32) (hf : f_X4_pairsAlike_10_60 F g k19 k69 l2 l3 s0 = some R) : am_Ev x 4 (0, 0) (am_Q x (0, 0) (some (.int R)) am_YY g w) 60 [some (.ref 10), none, some (.int (l2)), some (.int (l3))] [.int (s0)] am_YY g w := by
  unfold f_X4_pairsAlike_10_60 at hf
  refine am_b1 C0 am_YYk (pc := 60) (pc2 := 61) [(.iconst 0, 0, 0, .int 0)] (L := [some (.ref 10), none, some (.int (l2)), some (.int (l3))]) (st := [.int (s0)]) (L' := [some (.ref 10), none, some (.int (l2)), some (.int (l3))]) (st' := [.int ((0 : Int32)), .int (s0)]) (g' := g) (w' := w) (cl := []) (by decide +kernel) rfl trivial ?_
  exact B_X4_pairsAlike_10_61 x C0 hR w F g R _ _ hk19 hk69 (l2) (l3) (s0) ((0 : Int32)) hf
def f_X4_pairsAlike_10_19 (F : Nat) (g : am_G) (k69 : Int32 → Int32 → Option (Int32)) : Nat → Int32 → Int32 → Int32 → Option (Int32)
  | 0, _, _, _ => none
  | n + 1, l1, l2, l3 =>
    (f_X2_windows g).bind fun q1 =>
      if q1 ≤ l3 then
        k69 (l1) (l2)
      else
        (f_X2_areFacing g l2 l3).bind fun q2 =>
          if q2 = 0 then
            f_X4_pairsAlike_10_60 F g (fun l1 l2 l3 => f_X4_pairsAlike_10_19 F g k69 n l1 l2 l3) k69 (l2) (l3) (l1)
          else
            (f_X4_word_10 g l2).bind fun q3 =>
              (f_X4_word_10 g l3).bind fun q4 =>
                if q3 = q4 then
                  f_X4_pairsAlike_10_61 F g (fun l1 l2 l3 => f_X4_pairsAlike_10_19 F g k69 n l1 l2 l3) k69 (l2) (l3) (l1) ((1 : Int32))
                else
                  f_X4_pairsAlike_10_60 F g (fun l1 l2 l3 => f_X4_pairsAlike_10_19 F g k69 n l1 l2 l3) k69 (l2) (l3) (l1)
set_option maxRecDepth 20000 in
theorem B_X4_pairsAlike_10_19 (x : am_X) (C0 : am_Cm x 4 cX4_pairsAlike 4 (some .int)) (hR : am_R x = rm_X4_pairsAlike) (w : am_J) (F : Nat) (g : am_G) (R : Int32) (k69 : Int32 → Int32 → Option (Int32)) (hk69 : ∀ (l1 : Int32) (l2 : Int32), k69 l1 l2 = some R → am_Ev x 4 (0, 0) (am_Q x (0, 0) (some (.int R)) am_YY g w) 69 [some (.ref 10), some (.int (l1)), some (.int (l2)), none] [] am_YY g w) : ∀ (n : Nat) (l1 : Int32) (l2 : Int32) (l3 : Int32), f_X4_pairsAlike_10_19 F g k69 n l1 l2 l3 = some R → am_Ev x 4 (0, 0) (am_Q x (0, 0) (some (.int R)) am_YY g w) 19 [some (.ref 10), some (.int (l1)), some (.int (l2)), some (.int (l3))] [] am_YY g w := by
  intro n
  induction n with
  | zero => intro l1 l2 l3 hf; cases hf
  | succ n ih =>
    intro l1 l2 l3 hf
    rw [f_X4_pairsAlike_10_19.eq_2] at hf
    refine am_b1 C0 am_YYk (pc := 19) (pc2 := 24) [(.iload_n 3, 0, 0, .null), (.aload_n 0, 0, 0, .null), (.getfield 18, 4, 0, .null)] (L := [some (.ref 10), some (.int (l1)), some (.int (l2)), some (.int (l3))]) (st := []) (L' := [some (.ref 10), some (.int (l1)), some (.int (l2)), some (.int (l3))]) (st' := [.ref 3, .int (l3)]) (g' := g) (w' := w) (cl := []) (by decide +kernel) rfl trivial ?_
    obtain ⟨q1, hq1, hf⟩ := Option.bind_eq_some_iff.mp hf
    refine am_callV (mi := mi_X2_windows) (rm := rm_X2_windows) [] C0.1 am_YYl cv_4_22 (M_X2_windows _ g w _ hq1) (ci := 2) rfl (by decide) rfl (by rw [hR]; rfl) rfl rfl (Nat.le_of_ble_eq_true rfl) (by decide +kernel) ?_
    refine am_icmp_ge C0 (off := 42) (tgt := 69) (by decide +kernel) (fun hc7 => ?_) (fun hc7 => ?_)
    · rw [if_pos hc7] at hf
      refine am_wk [some (.ref 10), some (.int (l1)), some (.int (l2)), none] ⟨rfl, rfl, rfl, trivial⟩ rfl ?_
      exact hk69 (l1) (l2) hf
    · rw [if_neg hc7] at hf
      refine am_b1 C0 am_YYk (pc := 30) (pc2 := 37) [(.iload_n 1, 0, 0, .null), (.aload_n 0, 0, 0, .null), (.getfield 18, 4, 0, .null), (.iload_n 2, 0, 0, .null), (.iload_n 3, 0, 0, .null)] (L := [some (.ref 10), some (.int (l1)), some (.int (l2)), some (.int (l3))]) (st := []) (L' := [some (.ref 10), some (.int (l1)), some (.int (l2)), some (.int (l3))]) (st' := [.int (l3), .int (l2), .ref 3, .int (l1)]) (g' := g) (w' := w) (cl := []) (by decide +kernel) rfl trivial ?_
      obtain ⟨q2, hq2, hf⟩ := Option.bind_eq_some_iff.mp hf
      refine am_callV (mi := mi_X2_areFacing) (rm := rm_X2_areFacing) [.int (l2), .int (l3)] C0.1 am_YYl cv_4_73 (M_X2_areFacing _ g w l2 l3 _ hq2) (ci := 2) rfl (by decide) rfl (by rw [hR]; rfl) rfl rfl (Nat.le_of_ble_eq_true rfl) (by decide +kernel) ?_
      refine am_if_eq C0 (off := 20) (tgt := 60) (by decide +kernel) (fun hc6 => ?_) (fun hc6 => ?_)
      · rw [if_pos hc6] at hf
        refine am_wk [some (.ref 10), none, some (.int (l2)), some (.int (l3))] ⟨rfl, rfl, rfl, trivial⟩ rfl ?_
        exact B_X4_pairsAlike_10_60 x C0 hR w F g R _ _ (fun l1 l2 l3 hf => ih l1 l2 l3 hf) hk69 (l2) (l3) (l1) hf
      · rw [if_neg hc6] at hf
        refine am_b1 C0 am_YYk (pc := 43) (pc2 := 45) [(.aload_n 0, 0, 0, .null), (.iload_n 2, 0, 0, .null)] (L := [some (.ref 10), some (.int (l1)), some (.int (l2)), some (.int (l3))]) (st := [.int (l1)]) (L' := [some (.ref 10), some (.int (l1)), some (.int (l2)), some (.int (l3))]) (st' := [.int (l2), .ref 10, .int (l1)]) (g' := g) (w' := w) (cl := []) (by decide +kernel) rfl trivial ?_
        obtain ⟨q3, hq3, hf⟩ := Option.bind_eq_some_iff.mp hf
        refine am_callV (mi := mi_X4_word) (rm := rm_X4_word) [.int (l2)] C0.1 am_YYl cv_4_70 (M_X4_word_10 _ g w l2 _ hq3) (ci := 4) rfl (by decide) rfl (by rw [hR]; rfl) rfl rfl (Nat.le_of_ble_eq_true rfl) (by decide +kernel) ?_
        refine am_b1 C0 am_YYk (pc := 48) (pc2 := 50) [(.aload_n 0, 0, 0, .null), (.iload_n 3, 0, 0, .null)] (L := [some (.ref 10), some (.int (l1)), some (.int (l2)), some (.int (l3))]) (st := [.int (q3), .int (l1)]) (L' := [some (.ref 10), some (.int (l1)), some (.int (l2)), some (.int (l3))]) (st' := [.int (l3), .ref 10, .int (q3), .int (l1)]) (g' := g) (w' := w) (cl := []) (by decide +kernel) rfl trivial ?_
        obtain ⟨q4, hq4, hf⟩ := Option.bind_eq_some_iff.mp hf
        refine am_callV (mi := mi_X4_word) (rm := rm_X4_word) [.int (l3)] C0.1 am_YYl cv_4_70 (M_X4_word_10 _ g w l3 _ hq4) (ci := 4) rfl (by decide) rfl (by rw [hR]; rfl) rfl rfl (Nat.le_of_ble_eq_true rfl) (by decide +kernel) ?_
        refine am_icmp_ne C0 (off := 7) (tgt := 60) (by decide +kernel) (fun hc5 => ?_) (fun hc5 => ?_)
        · rw [if_neg hc5] at hf
          refine am_wk [some (.ref 10), none, some (.int (l2)), some (.int (l3))] ⟨rfl, rfl, rfl, trivial⟩ rfl ?_
          exact B_X4_pairsAlike_10_60 x C0 hR w F g R _ _ (fun l1 l2 l3 hf => ih l1 l2 l3 hf) hk69 (l2) (l3) (l1) hf
        · rw [if_pos hc5] at hf
          refine am_b1 C0 am_YYk (pc := 56) (pc2 := 57) [(.iconst 1, 0, 0, .int 1)] (L := [some (.ref 10), some (.int (l1)), some (.int (l2)), some (.int (l3))]) (st := [.int (l1)]) (L' := [some (.ref 10), some (.int (l1)), some (.int (l2)), some (.int (l3))]) (st' := [.int ((1 : Int32)), .int (l1)]) (g' := g) (w' := w) (cl := []) (by decide +kernel) rfl trivial ?_
          refine am_goto C0 (off := 4) (tgt := 61) (by decide +kernel) ?_
          refine am_wk [some (.ref 10), none, some (.int (l2)), some (.int (l3))] ⟨rfl, rfl, rfl, trivial⟩ rfl ?_
          exact B_X4_pairsAlike_10_61 x C0 hR w F g R _ _ (fun l1 l2 l3 hf => ih l1 l2 l3 hf) hk69 (l2) (l3) (l1) ((1 : Int32)) hf
def f_X4_pairsAlike_10_4 (F : Nat) (g : am_G)  : Nat → Int32 → Int32 → Option (Int32)
  | 0, _, _ => none
  | n + 1, l1, l2 =>
    (f_X2_windows g).bind fun q8 =>
      if q8 ≤ l2 then
        some (l1)
      else
        f_X4_pairsAlike_10_19 F g (fun l1 l2 => f_X4_pairsAlike_10_69 F g (fun l1 l2 => f_X4_pairsAlike_10_4 F g n l1 l2) (l1) (l2)) F (l1) (l2) (l2 + (1 : Int32))
set_option maxRecDepth 20000 in
theorem B_X4_pairsAlike_10_4 (x : am_X) (C0 : am_Cm x 4 cX4_pairsAlike 4 (some .int)) (hR : am_R x = rm_X4_pairsAlike) (w : am_J) (F : Nat) (g : am_G) (R : Int32)   : ∀ (n : Nat) (l1 : Int32) (l2 : Int32), f_X4_pairsAlike_10_4 F g n l1 l2 = some R → am_Ev x 4 (0, 0) (am_Q x (0, 0) (some (.int R)) am_YY g w) 4 [some (.ref 10), some (.int (l1)), some (.int (l2)), none] [] am_YY g w := by
  intro n
  induction n with
  | zero => intro l1 l2 hf; cases hf
  | succ n ih =>
    intro l1 l2 hf
    rw [f_X4_pairsAlike_10_4.eq_2] at hf
    refine am_b1 C0 am_YYk (pc := 4) (pc2 := 9) [(.iload_n 2, 0, 0, .null), (.aload_n 0, 0, 0, .null), (.getfield 18, 4, 0, .null)] (L := [some (.ref 10), some (.int (l1)), some (.int (l2)), none]) (st := []) (L' := [some (.ref 10), some (.int (l1)), some (.int (l2)), none]) (st' := [.ref 3, .int (l2)]) (g' := g) (w' := w) (cl := []) (by decide +kernel) rfl trivial ?_
    obtain ⟨q8, hq8, hf⟩ := Option.bind_eq_some_iff.mp hf
    refine am_callV (mi := mi_X2_windows) (rm := rm_X2_windows) [] C0.1 am_YYl cv_4_22 (M_X2_windows _ g w _ hq8) (ci := 2) rfl (by decide) rfl (by rw [hR]; rfl) rfl rfl (Nat.le_of_ble_eq_true rfl) (by decide +kernel) ?_
    refine am_icmp_ge C0 (off := 63) (tgt := 75) (by decide +kernel) (fun hc9 => ?_) (fun hc9 => ?_)
    · rw [if_pos hc9] at hf
      refine am_b1 C0 am_YYk (pc := 75) (pc2 := 76) [(.iload_n 1, 0, 0, .null)] (L := [some (.ref 10), some (.int (l1)), some (.int (l2)), none]) (st := []) (L' := [some (.ref 10), some (.int (l1)), some (.int (l2)), none]) (st' := [.int (l1)]) (g' := g) (w' := w) (cl := []) (by decide +kernel) rfl trivial ?_
      cases hf
      exact am_iret C0 (by decide +kernel)
    · rw [if_neg hc9] at hf
      refine am_b1 C0 am_YYk (pc := 15) (pc2 := 19) [(.iload_n 2, 0, 0, .null), (.iconst 1, 0, 0, .int 1), (.iadd, 0, 0, .null), (.istore_n 3, 0, 0, .null)] (L := [some (.ref 10), some (.int (l1)), some (.int (l2)), none]) (st := []) (L' := [some (.ref 10), some (.int (l1)), some (.int (l2)), some (.int (l2 + (1 : Int32)))]) (st' := []) (g' := g) (w' := w) (cl := []) (by decide +kernel) rfl trivial ?_
      refine B_X4_pairsAlike_10_19 x C0 hR w F g R _ ?_ F (l1) (l2) (l2 + (1 : Int32)) hf
      · intro l1 l2 hf
        exact B_X4_pairsAlike_10_69 x C0 hR w F g R _ (fun l1 l2 hf => ih l1 l2 hf) (l1) (l2) hf
def f_X4_pairsAlike_10 (F : Nat) (g : am_G) : Option (Int32) :=
  f_X4_pairsAlike_10_4 F g F ((0 : Int32)) ((0 : Int32))
set_option maxRecDepth 20000 in
theorem M_X4_pairsAlike_10 (l : Launch) (F : Nat) (g : am_G) (w : am_J)  (R : Int32) (hf : f_X4_pairsAlike_10 F g = some R) : am_Met l mi_X4_pairsAlike rm_X4_pairsAlike [.ref 10] am_YY g w (some (.int R)) am_YY g w := by
  refine am_met (own := 4) [some (.ref 10), none, none, none] (by decide) rfl rfl (by first | decide | exact Nat.le_of_ble_eq_true rfl) (fun x C0 hR hl hnm => ?_)
  unfold f_X4_pairsAlike_10 at hf
  refine am_b1 C0 am_YYk (pc := 0) (pc2 := 4) [(.iconst 0, 0, 0, .int 0), (.istore_n 1, 0, 0, .null), (.iconst 0, 0, 0, .int 0), (.istore_n 2, 0, 0, .null)] (L := [some (.ref 10), none, none, none]) (st := []) (L' := [some (.ref 10), some (.int ((0 : Int32))), some (.int ((0 : Int32))), none]) (st' := []) (g' := g) (w' := w) (cl := []) (by decide +kernel) rfl trivial ?_
  refine B_X4_pairsAlike_10_4 x C0 hR w F g R   F ((0 : Int32)) ((0 : Int32)) hf
/-! ShutterTown.count(I)I at (0,) -/
def f_X7_count (F : Nat) (g : am_G) (p1 : Int32) : Option (Int32) :=
  if p1 = (0 : Int32) then
    (f_X3_size g).bind fun q1 =>
      some (q1)
  else
  if p1 = (1 : Int32) then
    (f_X2_windows g).bind fun q2 =>
      some (q2)
  else
  if p1 = (2 : Int32) then
    (f_X2_sight g).bind fun q3 =>
      some (q3)
  else
  if p1 = (3 : Int32) then
    (f_X4_theHour g).bind fun q4 =>
      some (q4)
  else
  if p1 = (4 : Int32) then
    (f_X2_wordsAsFigures F g).bind fun q5 =>
      some (q5)
  else
  if p1 = (5 : Int32) then
    (f_X4_dueCount F g).bind fun q6 =>
      some (q6)
  else
  if p1 = (6 : Int32) then
    (f_X0_size g).bind fun q7 =>
      some (q7)
  else
  if p1 = (7 : Int32) then
    (f_X1_size g).bind fun q8 =>
      some (q8)
  else
  if p1 = (8 : Int32) then
    (f_X4_pairsAlike_10 F g).bind fun q9 =>
      some (q9)
  else
  some ((-2 : Int32))
set_option maxRecDepth 20000 in
theorem M_X7_count (l : Launch) (F : Nat) (g : am_G) (w : am_J) (p1 : Int32) (R : Int32) (hf : f_X7_count F g p1 = some R) : am_Met l mi_X7_count rm_X7_count [.ref 0, .int p1] am_YY g w (some (.int R)) am_YY g w := by
  refine am_met (own := 7) [some (.ref 0), some (.int (p1))] (by decide) rfl rfl (by first | decide | exact Nat.le_of_ble_eq_true rfl) (fun x C0 hR hl hnm => ?_)
  unfold f_X7_count at hf
  refine am_b1 C0 am_YYk (pc := 0) (pc2 := 1) [(.iload_n 1, 0, 0, .null)] (L := [some (.ref 0), some (.int (p1))]) (st := []) (L' := [some (.ref 0), some (.int (p1))]) (st' := [.int (p1)]) (g' := g) (w' := w) (cl := []) (by decide +kernel) rfl trivial ?_
  by_cases hs10 : p1 = (0 : Int32)
  · rw [if_pos hs10] at hf
    refine am_swIn C0 (n := 51) (dflt := 123) (lo := 0) (hi := 8) (offs := #[51, 59, 67, 75, 83, 91, 99, 107, 115]) (by decide +kernel) (off := 51) (tgt := 52) (by rw [hs10]; decide) (by rw [hs10]; decide) (by rw [hs10]; rfl) (by decide) ?_
    refine am_b1 C0 am_YYk (pc := 52) (pc2 := 56) [(.aload_n 0, 0, 0, .null), (.getfield 12, 7, 0, .null)] (L := [some (.ref 0), some (.int (p1))]) (st := []) (L' := [some (.ref 0), some (.int (p1))]) (st' := [.ref 1]) (g' := g) (w' := w) (cl := []) (by decide +kernel) rfl trivial ?_
    obtain ⟨q1, hq1, hf⟩ := Option.bind_eq_some_iff.mp hf
    refine am_callV (mi := mi_X3_size) (rm := rm_X3_size) [] C0.1 am_YYl cv_7_74 (M_X3_size _ g w _ hq1) (ci := 3) rfl (by decide) rfl (by rw [hR]; rfl) rfl rfl (Nat.le_of_ble_eq_true rfl) (by decide +kernel) ?_
    cases hf
    exact am_iret C0 (by decide +kernel)
  rw [if_neg hs10] at hf
  by_cases hs11 : p1 = (1 : Int32)
  · rw [if_pos hs11] at hf
    refine am_swIn C0 (n := 51) (dflt := 123) (lo := 0) (hi := 8) (offs := #[51, 59, 67, 75, 83, 91, 99, 107, 115]) (by decide +kernel) (off := 59) (tgt := 60) (by rw [hs11]; decide) (by rw [hs11]; decide) (by rw [hs11]; rfl) (by decide) ?_
    refine am_b1 C0 am_YYk (pc := 60) (pc2 := 64) [(.aload_n 0, 0, 0, .null), (.getfield 19, 7, 1, .null)] (L := [some (.ref 0), some (.int (p1))]) (st := []) (L' := [some (.ref 0), some (.int (p1))]) (st' := [.ref 3]) (g' := g) (w' := w) (cl := []) (by decide +kernel) rfl trivial ?_
    obtain ⟨q2, hq2, hf⟩ := Option.bind_eq_some_iff.mp hf
    refine am_callV (mi := mi_X2_windows) (rm := rm_X2_windows) [] C0.1 am_YYl cv_7_93 (M_X2_windows _ g w _ hq2) (ci := 2) rfl (by decide) rfl (by rw [hR]; rfl) rfl rfl (Nat.le_of_ble_eq_true rfl) (by decide +kernel) ?_
    cases hf
    exact am_iret C0 (by decide +kernel)
  rw [if_neg hs11] at hf
  by_cases hs12 : p1 = (2 : Int32)
  · rw [if_pos hs12] at hf
    refine am_swIn C0 (n := 51) (dflt := 123) (lo := 0) (hi := 8) (offs := #[51, 59, 67, 75, 83, 91, 99, 107, 115]) (by decide +kernel) (off := 67) (tgt := 68) (by rw [hs12]; decide) (by rw [hs12]; decide) (by rw [hs12]; rfl) (by decide) ?_
    refine am_b1 C0 am_YYk (pc := 68) (pc2 := 72) [(.aload_n 0, 0, 0, .null), (.getfield 19, 7, 1, .null)] (L := [some (.ref 0), some (.int (p1))]) (st := []) (L' := [some (.ref 0), some (.int (p1))]) (st' := [.ref 3]) (g' := g) (w' := w) (cl := []) (by decide +kernel) rfl trivial ?_
    obtain ⟨q3, hq3, hf⟩ := Option.bind_eq_some_iff.mp hf
    refine am_callV (mi := mi_X2_sight) (rm := rm_X2_sight) [] C0.1 am_YYl cv_7_256 (M_X2_sight _ g w _ hq3) (ci := 2) rfl (by decide) rfl (by rw [hR]; rfl) rfl rfl (Nat.le_of_ble_eq_true rfl) (by decide +kernel) ?_
    cases hf
    exact am_iret C0 (by decide +kernel)
  rw [if_neg hs12] at hf
  by_cases hs13 : p1 = (3 : Int32)
  · rw [if_pos hs13] at hf
    refine am_swIn C0 (n := 51) (dflt := 123) (lo := 0) (hi := 8) (offs := #[51, 59, 67, 75, 83, 91, 99, 107, 115]) (by decide +kernel) (off := 75) (tgt := 76) (by rw [hs13]; decide) (by rw [hs13]; decide) (by rw [hs13]; rfl) (by decide) ?_
    refine am_b1 C0 am_YYk (pc := 76) (pc2 := 80) [(.aload_n 0, 0, 0, .null), (.getfield 28, 7, 2, .null)] (L := [some (.ref 0), some (.int (p1))]) (st := []) (L' := [some (.ref 0), some (.int (p1))]) (st' := [.ref 10]) (g' := g) (w' := w) (cl := []) (by decide +kernel) rfl trivial ?_
    obtain ⟨q4, hq4, hf⟩ := Option.bind_eq_some_iff.mp hf
    refine am_callV (mi := mi_X4_theHour) (rm := rm_X4_theHour) [] C0.1 am_YYl cv_7_248 (M_X4_theHour _ g w _ hq4) (ci := 4) rfl (by decide) rfl (by rw [hR]; rfl) rfl rfl (Nat.le_of_ble_eq_true rfl) (by decide +kernel) ?_
    cases hf
    exact am_iret C0 (by decide +kernel)
  rw [if_neg hs13] at hf
  by_cases hs14 : p1 = (4 : Int32)
  · rw [if_pos hs14] at hf
    refine am_swIn C0 (n := 51) (dflt := 123) (lo := 0) (hi := 8) (offs := #[51, 59, 67, 75, 83, 91, 99, 107, 115]) (by decide +kernel) (off := 83) (tgt := 84) (by rw [hs14]; decide) (by rw [hs14]; decide) (by rw [hs14]; rfl) (by decide) ?_
    refine am_b1 C0 am_YYk (pc := 84) (pc2 := 88) [(.aload_n 0, 0, 0, .null), (.getfield 19, 7, 1, .null)] (L := [some (.ref 0), some (.int (p1))]) (st := []) (L' := [some (.ref 0), some (.int (p1))]) (st' := [.ref 3]) (g' := g) (w' := w) (cl := []) (by decide +kernel) rfl trivial ?_
    obtain ⟨q5, hq5, hf⟩ := Option.bind_eq_some_iff.mp hf
    refine am_callV (mi := mi_X2_wordsAsFigures) (rm := rm_X2_wordsAsFigures) [] C0.1 am_YYl cv_7_259 (M_X2_wordsAsFigures _ F g w _ hq5) (ci := 2) rfl (by decide) rfl (by rw [hR]; rfl) rfl rfl (Nat.le_of_ble_eq_true rfl) (by decide +kernel) ?_
    cases hf
    exact am_iret C0 (by decide +kernel)
  rw [if_neg hs14] at hf
  by_cases hs15 : p1 = (5 : Int32)
  · rw [if_pos hs15] at hf
    refine am_swIn C0 (n := 51) (dflt := 123) (lo := 0) (hi := 8) (offs := #[51, 59, 67, 75, 83, 91, 99, 107, 115]) (by decide +kernel) (off := 91) (tgt := 92) (by rw [hs15]; decide) (by rw [hs15]; decide) (by rw [hs15]; rfl) (by decide) ?_
    refine am_b1 C0 am_YYk (pc := 92) (pc2 := 96) [(.aload_n 0, 0, 0, .null), (.getfield 28, 7, 2, .null)] (L := [some (.ref 0), some (.int (p1))]) (st := []) (L' := [some (.ref 0), some (.int (p1))]) (st' := [.ref 10]) (g' := g) (w' := w) (cl := []) (by decide +kernel) rfl trivial ?_
    obtain ⟨q6, hq6, hf⟩ := Option.bind_eq_some_iff.mp hf
    refine am_callV (mi := mi_X4_dueCount) (rm := rm_X4_dueCount) [] C0.1 am_YYl cv_7_262 (M_X4_dueCount _ F g w _ hq6) (ci := 4) rfl (by decide) rfl (by rw [hR]; rfl) rfl rfl (Nat.le_of_ble_eq_true rfl) (by decide +kernel) ?_
    cases hf
    exact am_iret C0 (by decide +kernel)
  rw [if_neg hs15] at hf
  by_cases hs16 : p1 = (6 : Int32)
  · rw [if_pos hs16] at hf
    refine am_swIn C0 (n := 51) (dflt := 123) (lo := 0) (hi := 8) (offs := #[51, 59, 67, 75, 83, 91, 99, 107, 115]) (by decide +kernel) (off := 99) (tgt := 100) (by rw [hs16]; decide) (by rw [hs16]; decide) (by rw [hs16]; rfl) (by decide) ?_
    refine am_b1 C0 am_YYk (pc := 100) (pc2 := 104) [(.aload_n 0, 0, 0, .null), (.getfield 38, 7, 4, .null)] (L := [some (.ref 0), some (.int (p1))]) (st := []) (L' := [some (.ref 0), some (.int (p1))]) (st' := [.ref 16]) (g' := g) (w' := w) (cl := []) (by decide +kernel) rfl trivial ?_
    obtain ⟨q7, hq7, hf⟩ := Option.bind_eq_some_iff.mp hf
    refine am_callV (mi := mi_X0_size) (rm := rm_X0_size) [] C0.1 am_YYl cv_7_151 (M_X0_size _ g w _ hq7) (ci := 0) rfl (by decide) rfl (by rw [hR]; rfl) rfl rfl (Nat.le_of_ble_eq_true rfl) (by decide +kernel) ?_
    cases hf
    exact am_iret C0 (by decide +kernel)
  rw [if_neg hs16] at hf
  by_cases hs17 : p1 = (7 : Int32)
  · rw [if_pos hs17] at hf
    refine am_swIn C0 (n := 51) (dflt := 123) (lo := 0) (hi := 8) (offs := #[51, 59, 67, 75, 83, 91, 99, 107, 115]) (by decide +kernel) (off := 107) (tgt := 108) (by rw [hs17]; decide) (by rw [hs17]; decide) (by rw [hs17]; rfl) (by decide) ?_
    refine am_b1 C0 am_YYk (pc := 108) (pc2 := 112) [(.aload_n 0, 0, 0, .null), (.getfield 59, 7, 7, .null)] (L := [some (.ref 0), some (.int (p1))]) (st := []) (L' := [some (.ref 0), some (.int (p1))]) (st' := [.ref 22]) (g' := g) (w' := w) (cl := []) (by decide +kernel) rfl trivial ?_
    obtain ⟨q8, hq8, hf⟩ := Option.bind_eq_some_iff.mp hf
    refine am_callV (mi := mi_X1_size) (rm := rm_X1_size) [] C0.1 am_YYl cv_7_201 (M_X1_size _ g w _ hq8) (ci := 1) rfl (by decide) rfl (by rw [hR]; rfl) rfl rfl (Nat.le_of_ble_eq_true rfl) (by decide +kernel) ?_
    cases hf
    exact am_iret C0 (by decide +kernel)
  rw [if_neg hs17] at hf
  by_cases hs18 : p1 = (8 : Int32)
  · rw [if_pos hs18] at hf
    refine am_swIn C0 (n := 51) (dflt := 123) (lo := 0) (hi := 8) (offs := #[51, 59, 67, 75, 83, 91, 99, 107, 115]) (by decide +kernel) (off := 115) (tgt := 116) (by rw [hs18]; decide) (by rw [hs18]; decide) (by rw [hs18]; rfl) (by decide) ?_
    refine am_b1 C0 am_YYk (pc := 116) (pc2 := 120) [(.aload_n 0, 0, 0, .null), (.getfield 28, 7, 2, .null)] (L := [some (.ref 0), some (.int (p1))]) (st := []) (L' := [some (.ref 0), some (.int (p1))]) (st' := [.ref 10]) (g' := g) (w' := w) (cl := []) (by decide +kernel) rfl trivial ?_
    obtain ⟨q9, hq9, hf⟩ := Option.bind_eq_some_iff.mp hf
    refine am_callV (mi := mi_X4_pairsAlike) (rm := rm_X4_pairsAlike) [] C0.1 am_YYl cv_7_192 (M_X4_pairsAlike_10 _ F g w _ hq9) (ci := 4) rfl (by decide) rfl (by rw [hR]; rfl) rfl rfl (Nat.le_of_ble_eq_true rfl) (by decide +kernel) ?_
    cases hf
    exact am_iret C0 (by decide +kernel)
  rw [if_neg hs18] at hf
  refine am_swOut C0 (n := 51) (dflt := 123) (lo := 0) (hi := 8) (offs := #[51, 59, 67, 75, 83, 91, 99, 107, 115]) (by decide +kernel) (tgt := 124) (am_sw8 hs10 hs11 hs12 hs13 hs14 hs15 hs16 hs17 hs18) (by decide) ?_
  refine am_b1 C0 am_YYk (pc := 124) (pc2 := 126) [(.bipush (-2), 0, 0, .int (-2))] (L := [some (.ref 0), some (.int (p1))]) (st := []) (L' := [some (.ref 0), some (.int (p1))]) (st' := [.int ((-2 : Int32))]) (g' := g) (w' := w) (cl := []) (by decide +kernel) rfl trivial ?_
  cases hf
  exact am_iret C0 (by decide +kernel)
/-! ShutterTownModel.in(JJJ)Z at () -/
def f_X8_in (p0 : Int64) (p2 : Int64) (p4 : Int64) : Option (Int32) :=
  if (lg_cmp p0 p2) < 0 then
    some ((0 : Int32))
  else
    if 0 < (lg_cmp p0 p4) then
      some ((0 : Int32))
    else
      some ((1 : Int32))
set_option maxRecDepth 20000 in
theorem M_X8_in (l : Launch) (g : am_G) (w : am_J) (p0 : Int64) (p2 : Int64) (p4 : Int64) (R : Int32) (hf : f_X8_in p0 p2 p4 = some R) : am_Met l mi_X8_in rm_X8_in [.long p0, .long p2, .long p4] am_YY g w (some (.int R)) am_YY g w := by
  refine am_met (own := 8) [some (.long (p0)), none, some (.long (p2)), none, some (.long (p4)), none] (by decide) rfl rfl (by first | decide | exact Nat.le_of_ble_eq_true rfl) (fun x C0 hR hl hnm => ?_)
  unfold f_X8_in at hf
  refine am_b1 C0 am_YYk (pc := 0) (pc2 := 3) [(.lload_n 0, 0, 0, .null), (.lload_n 2, 0, 0, .null), (.lcmp, 0, 0, .null)] (L := [some (.long (p0)), none, some (.long (p2)), none, some (.long (p4)), none]) (st := []) (L' := [some (.long (p0)), none, some (.long (p2)), none, some (.long (p4)), none]) (st' := [.int (lg_cmp p0 p2)]) (g' := g) (w' := w) (cl := []) (by decide +kernel) rfl trivial ?_
  refine am_if_lt C0 (off := 14) (tgt := 17) (by decide +kernel) (fun hc2 => ?_) (fun hc2 => ?_)
  · rw [if_pos hc2] at hf
    refine am_b1 C0 am_YYk (pc := 17) (pc2 := 18) [(.iconst 0, 0, 0, .int 0)] (L := [some (.long (p0)), none, some (.long (p2)), none, some (.long (p4)), none]) (st := []) (L' := [some (.long (p0)), none, some (.long (p2)), none, some (.long (p4)), none]) (st' := [.int ((0 : Int32))]) (g' := g) (w' := w) (cl := []) (by decide +kernel) rfl trivial ?_
    cases hf
    exact am_zret C0 (by decide +kernel) (Or.inl rfl)
  · rw [if_neg hc2] at hf
    refine am_b1 C0 am_YYk (pc := 6) (pc2 := 10) [(.lload_n 0, 0, 0, .null), (.lload 4, 0, 0, .null), (.lcmp, 0, 0, .null)] (L := [some (.long (p0)), none, some (.long (p2)), none, some (.long (p4)), none]) (st := []) (L' := [some (.long (p0)), none, some (.long (p2)), none, some (.long (p4)), none]) (st' := [.int (lg_cmp p0 p4)]) (g' := g) (w' := w) (cl := []) (by decide +kernel) rfl trivial ?_
    refine am_if_gt C0 (off := 7) (tgt := 17) (by decide +kernel) (fun hc1 => ?_) (fun hc1 => ?_)
    · rw [if_pos hc1] at hf
      refine am_b1 C0 am_YYk (pc := 17) (pc2 := 18) [(.iconst 0, 0, 0, .int 0)] (L := [some (.long (p0)), none, some (.long (p2)), none, some (.long (p4)), none]) (st := []) (L' := [some (.long (p0)), none, some (.long (p2)), none, some (.long (p4)), none]) (st' := [.int ((0 : Int32))]) (g' := g) (w' := w) (cl := []) (by decide +kernel) rfl trivial ?_
      cases hf
      exact am_zret C0 (by decide +kernel) (Or.inl rfl)
    · rw [if_neg hc1] at hf
      refine am_b1 C0 am_YYk (pc := 13) (pc2 := 14) [(.iconst 1, 0, 0, .int 1)] (L := [some (.long (p0)), none, some (.long (p2)), none, some (.long (p4)), none]) (st := []) (L' := [some (.long (p0)), none, some (.long (p2)), none, some (.long (p4)), none]) (st' := [.int ((1 : Int32))]) (g' := g) (w' := w) (cl := []) (by decide +kernel) rfl trivial ?_
      refine am_goto C0 (off := 4) (tgt := 18) (by decide +kernel) ?_
      cases hf
      exact am_zret C0 (by decide +kernel) (Or.inr rfl)
