def f_L_law_1009 (F : Nat) (xs : Nat → Int32) (Ls : Nat) (k18 : Int32 → am_G → am_J → Option (Int32)) (l3 : Int32) (g : am_G) (w : am_J) : Option (Int32) :=
  k18 (l3 + (5 : Int32)) (g) (w)
set_option maxHeartbeats 4000000 in
set_option maxRecDepth 20000 in
theorem B_L_law_1009 (x : am_X) (C0 : am_Cm x 13 code 4 (some .boolean)) (hR : am_R x = room_1) (Q : State → Prop) (hret : ∀ L g w, am_Ev x 4 (43, 780) Q 1016 L [.int 1] am_YY g w) (F : Nat) (xs : Nat → Int32) (Ls : Nat) (hX : am_Sx x Ls xs) (R : Int32) (hR1 : R = 1) (k18 : Int32 → am_G → am_J → Option (Int32)) (hk18 : ∀ (l3 : Int32) (g : am_G) (w : am_J), k18 l3 g w = some R → am_Ev x 4 (43, 780) Q 18 [some (.ref 98), some (.ref 0), some (.ref 26), some (.int (l3))] [] am_YY g w) (l3 : Int32) (g : am_G) (w : am_J) (hf : f_L_law_1009 F xs Ls k18 l3 g w = some R) : am_Ev x 4 (43, 780) Q 1009 [some (.ref 98), some (.ref 0), some (.ref 26), some (.int (l3))] [] am_YY g w := by
  unfold f_L_law_1009 at hf
  refine am_b1 C0 am_YYk (pc := 1009) (pc2 := 1012) [(.iinc 3 5, 0, 0, .int 5)] (L := [some (.ref 98), some (.ref 0), some (.ref 26), some (.int (l3))]) (st := []) (L' := [some (.ref 98), some (.ref 0), some (.ref 26), some (.int (l3 + (5 : Int32)))]) (st' := []) (g' := g) (w' := w) (cl := []) (by decide +kernel) rfl trivial ?_
  refine am_goto C0 (off := (-994)) (tgt := 18) (by decide +kernel) ?_
  exact hk18 (l3 + (5 : Int32)) (g) (w) hf
def f_L_law_411 (F : Nat) (xs : Nat → Int32) (Ls : Nat) (k18 : Int32 → am_G → am_J → Option (Int32)) (l3 : Int32) (s0 : Int32) (s2 : Int32) (s3 : Int32) (s4 : Int32) (g : am_G) (w : am_J) : Option (Int32) :=
  (f_X8_soonest F g s2 s3 s4).bind fun q1 =>
    if s0 = q1.1 then
      f_L_law_1009 F xs Ls k18 (l3) (q1.2) (w)
    else
      some (0 : Int32)
set_option maxHeartbeats 4000000 in
set_option maxRecDepth 20000 in
theorem B_L_law_411 (x : am_X) (C0 : am_Cm x 13 code 4 (some .boolean)) (hR : am_R x = room_1) (Q : State → Prop) (hret : ∀ L g w, am_Ev x 4 (43, 780) Q 1016 L [.int 1] am_YY g w) (F : Nat) (xs : Nat → Int32) (Ls : Nat) (hX : am_Sx x Ls xs) (R : Int32) (hR1 : R = 1) (k18 : Int32 → am_G → am_J → Option (Int32)) (hk18 : ∀ (l3 : Int32) (g : am_G) (w : am_J), k18 l3 g w = some R → am_Ev x 4 (43, 780) Q 18 [some (.ref 98), some (.ref 0), some (.ref 26), some (.int (l3))] [] am_YY g w) (l3 : Int32) (s0 : Int32) (s2 : Int32) (s3 : Int32) (s4 : Int32) (g : am_G) (w : am_J) (hf : f_L_law_411 F xs Ls k18 l3 s0 s2 s3 s4 g w = some R) : am_Ev x 4 (43, 780) Q 411 [some (.ref 98), some (.ref 0), some (.ref 26), some (.int (l3))] [.int (s4), .int (s3), .int (s2), .ref 26, .int (s0)] am_YY g w := by
  unfold f_L_law_411 at hf
  obtain ⟨q1, hq1, hf⟩ := Option.bind_eq_some_iff.mp hf
  refine am_callV (mi := mi_X8_soonest) (rm := rm_X8_soonest) [.int (s2), .int (s3), .int (s4)] C0.1 am_YYl cv_13_60 (M_X8_soonest _ F g w s2 s3 s4 _ hq1) (ci := 8) rfl (by decide) rfl (by rw [hR]; rfl) rfl rfl (Nat.le_of_ble_eq_true rfl) (by decide +kernel) ?_
  refine am_icmp_eq C0 (off := 595) (tgt := 1009) (by decide +kernel) (fun hc2 => ?_) (fun hc2 => ?_)
  · rw [if_pos hc2] at hf
    exact B_L_law_1009 x C0 hR Q hret F xs Ls hX R hR1 _ hk18 (l3) (q1.2) (w) hf
  · rw [if_neg hc2] at hf
    refine am_b1 C0 am_YYk (pc := 417) (pc2 := 418) [(.iconst 0, 0, 0, .int 0)] (L := [some (.ref 98), some (.ref 0), some (.ref 26), some (.int (l3))]) (st := []) (L' := [some (.ref 98), some (.ref 0), some (.ref 26), some (.int (l3))]) (st' := [.int ((0 : Int32))]) (g' := q1.2) (w' := w) (cl := []) (by decide +kernel) rfl trivial ?_
    cases hf
    exact absurd hR1 (by decide)
def f_L_law_384 (F : Nat) (xs : Nat → Int32) (Ls : Nat) (k18 : Int32 → am_G → am_J → Option (Int32)) (l3 : Int32) (s1 : Int32) (s2 : Int32) (s3 : Int32) (g : am_G) (w : am_J) : Option (Int32) :=
  (f_X7_soonest F g w s1 s2 s3).bind fun q3 =>
    if am_in (l3 + (1 : Int32)) Ls then
      if am_in (l3 + (2 : Int32)) Ls then
        if am_in (l3 + (3 : Int32)) Ls then
          if (xs (Int32.toNatClampNeg (l3 + (3 : Int32)))) = 0 then
            f_L_law_411 F xs Ls k18 (l3) (q3.1) (xs (Int32.toNatClampNeg (l3 + (1 : Int32)))) (xs (Int32.toNatClampNeg (l3 + (2 : Int32)))) ((0 : Int32)) (g) (q3.2)
          else
            f_L_law_411 F xs Ls k18 (l3) (q3.1) (xs (Int32.toNatClampNeg (l3 + (1 : Int32)))) (xs (Int32.toNatClampNeg (l3 + (2 : Int32)))) ((1 : Int32)) (g) (q3.2)
        else none
      else none
    else none
set_option maxHeartbeats 4000000 in
set_option maxRecDepth 20000 in
theorem B_L_law_384 (x : am_X) (C0 : am_Cm x 13 code 4 (some .boolean)) (hR : am_R x = room_1) (Q : State → Prop) (hret : ∀ L g w, am_Ev x 4 (43, 780) Q 1016 L [.int 1] am_YY g w) (F : Nat) (xs : Nat → Int32) (Ls : Nat) (hX : am_Sx x Ls xs) (R : Int32) (hR1 : R = 1) (k18 : Int32 → am_G → am_J → Option (Int32)) (hk18 : ∀ (l3 : Int32) (g : am_G) (w : am_J), k18 l3 g w = some R → am_Ev x 4 (43, 780) Q 18 [some (.ref 98), some (.ref 0), some (.ref 26), some (.int (l3))] [] am_YY g w) (l3 : Int32) (s1 : Int32) (s2 : Int32) (s3 : Int32) (g : am_G) (w : am_J) (hf : f_L_law_384 F xs Ls k18 l3 s1 s2 s3 g w = some R) : am_Ev x 4 (43, 780) Q 384 [some (.ref 98), some (.ref 0), some (.ref 26), some (.int (l3))] [.int (s3), .int (s2), .int (s1), .ref 0] am_YY g w := by
  unfold f_L_law_384 at hf
  obtain ⟨q3, hq3, hf⟩ := Option.bind_eq_some_iff.mp hf
  refine am_callV (mi := mi_X7_soonest) (rm := rm_X7_soonest) [.int (s1), .int (s2), .int (s3)] C0.1 am_YYl cv_13_56 (M_X7_soonest _ F g w s1 s2 s3 _ hq3) (ci := 7) rfl (by decide) rfl (by rw [hR]; rfl) rfl rfl (Nat.le_of_ble_eq_true rfl) (by decide +kernel) ?_
  refine am_b1 C0 am_YYk (pc := 387) (pc2 := 392) [(.aload_n 2, 0, 0, .null), (.aload_n 0, 0, 0, .null), (.iload_n 3, 0, 0, .null), (.iconst 1, 0, 0, .int 1), (.iadd, 0, 0, .null)] (L := [some (.ref 98), some (.ref 0), some (.ref 26), some (.int (l3))]) (st := [.int (q3.1)]) (L' := [some (.ref 98), some (.ref 0), some (.ref 26), some (.int (l3))]) (st' := [.int (l3 + (1 : Int32)), .ref 98, .ref 26, .int (q3.1)]) (g' := g) (w' := q3.2) (cl := []) (by decide +kernel) rfl trivial ?_
  obtain ⟨hg4, hf⟩ := am_g hf
  refine am_sld C0.1 hX hg4 (by decide +kernel) ?_
  refine am_b1 C0 am_YYk (pc := 393) (pc2 := 397) [(.aload_n 0, 0, 0, .null), (.iload_n 3, 0, 0, .null), (.iconst 2, 0, 0, .int 2), (.iadd, 0, 0, .null)] (L := [some (.ref 98), some (.ref 0), some (.ref 26), some (.int (l3))]) (st := [.int (xs (Int32.toNatClampNeg (l3 + (1 : Int32)))), .ref 26, .int (q3.1)]) (L' := [some (.ref 98), some (.ref 0), some (.ref 26), some (.int (l3))]) (st' := [.int (l3 + (2 : Int32)), .ref 98, .int (xs (Int32.toNatClampNeg (l3 + (1 : Int32)))), .ref 26, .int (q3.1)]) (g' := g) (w' := q3.2) (cl := []) (by decide +kernel) rfl trivial ?_
  obtain ⟨hg5, hf⟩ := am_g hf
  refine am_sld C0.1 hX hg5 (by decide +kernel) ?_
  refine am_b1 C0 am_YYk (pc := 398) (pc2 := 402) [(.aload_n 0, 0, 0, .null), (.iload_n 3, 0, 0, .null), (.iconst 3, 0, 0, .int 3), (.iadd, 0, 0, .null)] (L := [some (.ref 98), some (.ref 0), some (.ref 26), some (.int (l3))]) (st := [.int (xs (Int32.toNatClampNeg (l3 + (2 : Int32)))), .int (xs (Int32.toNatClampNeg (l3 + (1 : Int32)))), .ref 26, .int (q3.1)]) (L' := [some (.ref 98), some (.ref 0), some (.ref 26), some (.int (l3))]) (st' := [.int (l3 + (3 : Int32)), .ref 98, .int (xs (Int32.toNatClampNeg (l3 + (2 : Int32)))), .int (xs (Int32.toNatClampNeg (l3 + (1 : Int32)))), .ref 26, .int (q3.1)]) (g' := g) (w' := q3.2) (cl := []) (by decide +kernel) rfl trivial ?_
  obtain ⟨hg6, hf⟩ := am_g hf
  refine am_sld C0.1 hX hg6 (by decide +kernel) ?_
  refine am_if_eq C0 (off := 7) (tgt := 410) (by decide +kernel) (fun hc7 => ?_) (fun hc7 => ?_)
  · rw [if_pos hc7] at hf
    refine am_b1 C0 am_YYk (pc := 410) (pc2 := 411) [(.iconst 0, 0, 0, .int 0)] (L := [some (.ref 98), some (.ref 0), some (.ref 26), some (.int (l3))]) (st := [.int (xs (Int32.toNatClampNeg (l3 + (2 : Int32)))), .int (xs (Int32.toNatClampNeg (l3 + (1 : Int32)))), .ref 26, .int (q3.1)]) (L' := [some (.ref 98), some (.ref 0), some (.ref 26), some (.int (l3))]) (st' := [.int ((0 : Int32)), .int (xs (Int32.toNatClampNeg (l3 + (2 : Int32)))), .int (xs (Int32.toNatClampNeg (l3 + (1 : Int32)))), .ref 26, .int (q3.1)]) (g' := g) (w' := q3.2) (cl := []) (by decide +kernel) rfl trivial ?_
    exact B_L_law_411 x C0 hR Q hret F xs Ls hX R hR1 _ hk18 (l3) (q3.1) (xs (Int32.toNatClampNeg (l3 + (1 : Int32)))) (xs (Int32.toNatClampNeg (l3 + (2 : Int32)))) ((0 : Int32)) (g) (q3.2) hf
  · rw [if_neg hc7] at hf
    refine am_b1 C0 am_YYk (pc := 406) (pc2 := 407) [(.iconst 1, 0, 0, .int 1)] (L := [some (.ref 98), some (.ref 0), some (.ref 26), some (.int (l3))]) (st := [.int (xs (Int32.toNatClampNeg (l3 + (2 : Int32)))), .int (xs (Int32.toNatClampNeg (l3 + (1 : Int32)))), .ref 26, .int (q3.1)]) (L' := [some (.ref 98), some (.ref 0), some (.ref 26), some (.int (l3))]) (st' := [.int ((1 : Int32)), .int (xs (Int32.toNatClampNeg (l3 + (2 : Int32)))), .int (xs (Int32.toNatClampNeg (l3 + (1 : Int32)))), .ref 26, .int (q3.1)]) (g' := g) (w' := q3.2) (cl := []) (by decide +kernel) rfl trivial ?_
    refine am_goto C0 (off := 4) (tgt := 411) (by decide +kernel) ?_
    exact B_L_law_411 x C0 hR Q hret F xs Ls hX R hR1 _ hk18 (l3) (q3.1) (xs (Int32.toNatClampNeg (l3 + (1 : Int32)))) (xs (Int32.toNatClampNeg (l3 + (2 : Int32)))) ((1 : Int32)) (g) (q3.2) hf
def f_L_law_622 (F : Nat) (xs : Nat → Int32) (Ls : Nat) (k18 : Int32 → am_G → am_J → Option (Int32)) (l3 : Int32) (s0 : Int32) (s2 : Int32) (s3 : Int32) (s4 : Int32) (g : am_G) (w : am_J) : Option (Int32) :=
  (f_X8_follow g s2 s3 s4).bind fun q8 =>
    if s0 = q8.1 then
      f_L_law_1009 F xs Ls k18 (l3) (q8.2) (w)
    else
      some (0 : Int32)
set_option maxHeartbeats 4000000 in
set_option maxRecDepth 20000 in
theorem B_L_law_622 (x : am_X) (C0 : am_Cm x 13 code 4 (some .boolean)) (hR : am_R x = room_1) (Q : State → Prop) (hret : ∀ L g w, am_Ev x 4 (43, 780) Q 1016 L [.int 1] am_YY g w) (F : Nat) (xs : Nat → Int32) (Ls : Nat) (hX : am_Sx x Ls xs) (R : Int32) (hR1 : R = 1) (k18 : Int32 → am_G → am_J → Option (Int32)) (hk18 : ∀ (l3 : Int32) (g : am_G) (w : am_J), k18 l3 g w = some R → am_Ev x 4 (43, 780) Q 18 [some (.ref 98), some (.ref 0), some (.ref 26), some (.int (l3))] [] am_YY g w) (l3 : Int32) (s0 : Int32) (s2 : Int32) (s3 : Int32) (s4 : Int32) (g : am_G) (w : am_J) (hf : f_L_law_622 F xs Ls k18 l3 s0 s2 s3 s4 g w = some R) : am_Ev x 4 (43, 780) Q 622 [some (.ref 98), some (.ref 0), some (.ref 26), some (.int (l3))] [.int (s4), .int (s3), .int (s2), .ref 26, .int (s0)] am_YY g w := by
  unfold f_L_law_622 at hf
  obtain ⟨q8, hq8, hf⟩ := Option.bind_eq_some_iff.mp hf
  refine am_callV (mi := mi_X8_follow) (rm := rm_X8_follow) [.int (s2), .int (s3), .int (s4)] C0.1 am_YYl cv_13_83 (M_X8_follow _ g w s2 s3 s4 _ hq8) (ci := 8) rfl (by decide) rfl (by rw [hR]; rfl) rfl rfl (Nat.le_of_ble_eq_true rfl) (by decide +kernel) ?_
  refine am_icmp_eq C0 (off := 384) (tgt := 1009) (by decide +kernel) (fun hc9 => ?_) (fun hc9 => ?_)
  · rw [if_pos hc9] at hf
    exact B_L_law_1009 x C0 hR Q hret F xs Ls hX R hR1 _ hk18 (l3) (q8.2) (w) hf
  · rw [if_neg hc9] at hf
    refine am_b1 C0 am_YYk (pc := 628) (pc2 := 629) [(.iconst 0, 0, 0, .int 0)] (L := [some (.ref 98), some (.ref 0), some (.ref 26), some (.int (l3))]) (st := []) (L' := [some (.ref 98), some (.ref 0), some (.ref 26), some (.int (l3))]) (st' := [.int ((0 : Int32))]) (g' := q8.2) (w' := w) (cl := []) (by decide +kernel) rfl trivial ?_
    cases hf
    exact absurd hR1 (by decide)
def f_L_law_595 (F : Nat) (xs : Nat → Int32) (Ls : Nat) (k18 : Int32 → am_G → am_J → Option (Int32)) (l3 : Int32) (s1 : Int32) (s2 : Int32) (s3 : Int32) (g : am_G) (w : am_J) : Option (Int32) :=
  (f_X7_follow g s1 s2 s3).bind fun q10 =>
    if am_in (l3 + (1 : Int32)) Ls then
      if am_in (l3 + (2 : Int32)) Ls then
        if am_in (l3 + (3 : Int32)) Ls then
          if (xs (Int32.toNatClampNeg (l3 + (3 : Int32)))) = 0 then
            f_L_law_622 F xs Ls k18 (l3) (q10.1) (xs (Int32.toNatClampNeg (l3 + (1 : Int32)))) (xs (Int32.toNatClampNeg (l3 + (2 : Int32)))) ((0 : Int32)) (q10.2) (w)
          else
            f_L_law_622 F xs Ls k18 (l3) (q10.1) (xs (Int32.toNatClampNeg (l3 + (1 : Int32)))) (xs (Int32.toNatClampNeg (l3 + (2 : Int32)))) ((1 : Int32)) (q10.2) (w)
        else none
      else none
    else none
set_option maxHeartbeats 4000000 in
set_option maxRecDepth 20000 in
theorem B_L_law_595 (x : am_X) (C0 : am_Cm x 13 code 4 (some .boolean)) (hR : am_R x = room_1) (Q : State → Prop) (hret : ∀ L g w, am_Ev x 4 (43, 780) Q 1016 L [.int 1] am_YY g w) (F : Nat) (xs : Nat → Int32) (Ls : Nat) (hX : am_Sx x Ls xs) (R : Int32) (hR1 : R = 1) (k18 : Int32 → am_G → am_J → Option (Int32)) (hk18 : ∀ (l3 : Int32) (g : am_G) (w : am_J), k18 l3 g w = some R → am_Ev x 4 (43, 780) Q 18 [some (.ref 98), some (.ref 0), some (.ref 26), some (.int (l3))] [] am_YY g w) (l3 : Int32) (s1 : Int32) (s2 : Int32) (s3 : Int32) (g : am_G) (w : am_J) (hf : f_L_law_595 F xs Ls k18 l3 s1 s2 s3 g w = some R) : am_Ev x 4 (43, 780) Q 595 [some (.ref 98), some (.ref 0), some (.ref 26), some (.int (l3))] [.int (s3), .int (s2), .int (s1), .ref 0] am_YY g w := by
  unfold f_L_law_595 at hf
  obtain ⟨q10, hq10, hf⟩ := Option.bind_eq_some_iff.mp hf
  refine am_callV (mi := mi_X7_follow) (rm := rm_X7_follow) [.int (s1), .int (s2), .int (s3)] C0.1 am_YYl cv_13_80 (M_X7_follow _ g w s1 s2 s3 _ hq10) (ci := 7) rfl (by decide) rfl (by rw [hR]; rfl) rfl rfl (Nat.le_of_ble_eq_true rfl) (by decide +kernel) ?_
  refine am_b1 C0 am_YYk (pc := 598) (pc2 := 603) [(.aload_n 2, 0, 0, .null), (.aload_n 0, 0, 0, .null), (.iload_n 3, 0, 0, .null), (.iconst 1, 0, 0, .int 1), (.iadd, 0, 0, .null)] (L := [some (.ref 98), some (.ref 0), some (.ref 26), some (.int (l3))]) (st := [.int (q10.1)]) (L' := [some (.ref 98), some (.ref 0), some (.ref 26), some (.int (l3))]) (st' := [.int (l3 + (1 : Int32)), .ref 98, .ref 26, .int (q10.1)]) (g' := q10.2) (w' := w) (cl := []) (by decide +kernel) rfl trivial ?_
  obtain ⟨hg11, hf⟩ := am_g hf
  refine am_sld C0.1 hX hg11 (by decide +kernel) ?_
  refine am_b1 C0 am_YYk (pc := 604) (pc2 := 608) [(.aload_n 0, 0, 0, .null), (.iload_n 3, 0, 0, .null), (.iconst 2, 0, 0, .int 2), (.iadd, 0, 0, .null)] (L := [some (.ref 98), some (.ref 0), some (.ref 26), some (.int (l3))]) (st := [.int (xs (Int32.toNatClampNeg (l3 + (1 : Int32)))), .ref 26, .int (q10.1)]) (L' := [some (.ref 98), some (.ref 0), some (.ref 26), some (.int (l3))]) (st' := [.int (l3 + (2 : Int32)), .ref 98, .int (xs (Int32.toNatClampNeg (l3 + (1 : Int32)))), .ref 26, .int (q10.1)]) (g' := q10.2) (w' := w) (cl := []) (by decide +kernel) rfl trivial ?_
  obtain ⟨hg12, hf⟩ := am_g hf
  refine am_sld C0.1 hX hg12 (by decide +kernel) ?_
  refine am_b1 C0 am_YYk (pc := 609) (pc2 := 613) [(.aload_n 0, 0, 0, .null), (.iload_n 3, 0, 0, .null), (.iconst 3, 0, 0, .int 3), (.iadd, 0, 0, .null)] (L := [some (.ref 98), some (.ref 0), some (.ref 26), some (.int (l3))]) (st := [.int (xs (Int32.toNatClampNeg (l3 + (2 : Int32)))), .int (xs (Int32.toNatClampNeg (l3 + (1 : Int32)))), .ref 26, .int (q10.1)]) (L' := [some (.ref 98), some (.ref 0), some (.ref 26), some (.int (l3))]) (st' := [.int (l3 + (3 : Int32)), .ref 98, .int (xs (Int32.toNatClampNeg (l3 + (2 : Int32)))), .int (xs (Int32.toNatClampNeg (l3 + (1 : Int32)))), .ref 26, .int (q10.1)]) (g' := q10.2) (w' := w) (cl := []) (by decide +kernel) rfl trivial ?_
  obtain ⟨hg13, hf⟩ := am_g hf
  refine am_sld C0.1 hX hg13 (by decide +kernel) ?_
  refine am_if_eq C0 (off := 7) (tgt := 621) (by decide +kernel) (fun hc14 => ?_) (fun hc14 => ?_)
  · rw [if_pos hc14] at hf
    refine am_b1 C0 am_YYk (pc := 621) (pc2 := 622) [(.iconst 0, 0, 0, .int 0)] (L := [some (.ref 98), some (.ref 0), some (.ref 26), some (.int (l3))]) (st := [.int (xs (Int32.toNatClampNeg (l3 + (2 : Int32)))), .int (xs (Int32.toNatClampNeg (l3 + (1 : Int32)))), .ref 26, .int (q10.1)]) (L' := [some (.ref 98), some (.ref 0), some (.ref 26), some (.int (l3))]) (st' := [.int ((0 : Int32)), .int (xs (Int32.toNatClampNeg (l3 + (2 : Int32)))), .int (xs (Int32.toNatClampNeg (l3 + (1 : Int32)))), .ref 26, .int (q10.1)]) (g' := q10.2) (w' := w) (cl := []) (by decide +kernel) rfl trivial ?_
    exact B_L_law_622 x C0 hR Q hret F xs Ls hX R hR1 _ hk18 (l3) (q10.1) (xs (Int32.toNatClampNeg (l3 + (1 : Int32)))) (xs (Int32.toNatClampNeg (l3 + (2 : Int32)))) ((0 : Int32)) (q10.2) (w) hf
  · rw [if_neg hc14] at hf
    refine am_b1 C0 am_YYk (pc := 617) (pc2 := 618) [(.iconst 1, 0, 0, .int 1)] (L := [some (.ref 98), some (.ref 0), some (.ref 26), some (.int (l3))]) (st := [.int (xs (Int32.toNatClampNeg (l3 + (2 : Int32)))), .int (xs (Int32.toNatClampNeg (l3 + (1 : Int32)))), .ref 26, .int (q10.1)]) (L' := [some (.ref 98), some (.ref 0), some (.ref 26), some (.int (l3))]) (st' := [.int ((1 : Int32)), .int (xs (Int32.toNatClampNeg (l3 + (2 : Int32)))), .int (xs (Int32.toNatClampNeg (l3 + (1 : Int32)))), .ref 26, .int (q10.1)]) (g' := q10.2) (w' := w) (cl := []) (by decide +kernel) rfl trivial ?_
    refine am_goto C0 (off := 4) (tgt := 622) (by decide +kernel) ?_
    exact B_L_law_622 x C0 hR Q hret F xs Ls hX R hR1 _ hk18 (l3) (q10.1) (xs (Int32.toNatClampNeg (l3 + (1 : Int32)))) (xs (Int32.toNatClampNeg (l3 + (2 : Int32)))) ((1 : Int32)) (q10.2) (w) hf
def f_L_law_674 (F : Nat) (xs : Nat → Int32) (Ls : Nat) (k18 : Int32 → am_G → am_J → Option (Int32)) (l3 : Int32) (s0 : Int32) (s2 : Int32) (g : am_G) (w : am_J) : Option (Int32) :=
  (f_X8_codes F g s2).bind fun q15 =>
    if s0 = q15 then
      f_L_law_1009 F xs Ls k18 (l3) (g) (w)
    else
      some (0 : Int32)
set_option maxHeartbeats 4000000 in
set_option maxRecDepth 20000 in
theorem B_L_law_674 (x : am_X) (C0 : am_Cm x 13 code 4 (some .boolean)) (hR : am_R x = room_1) (Q : State → Prop) (hret : ∀ L g w, am_Ev x 4 (43, 780) Q 1016 L [.int 1] am_YY g w) (F : Nat) (xs : Nat → Int32) (Ls : Nat) (hX : am_Sx x Ls xs) (R : Int32) (hR1 : R = 1) (k18 : Int32 → am_G → am_J → Option (Int32)) (hk18 : ∀ (l3 : Int32) (g : am_G) (w : am_J), k18 l3 g w = some R → am_Ev x 4 (43, 780) Q 18 [some (.ref 98), some (.ref 0), some (.ref 26), some (.int (l3))] [] am_YY g w) (l3 : Int32) (s0 : Int32) (s2 : Int32) (g : am_G) (w : am_J) (hf : f_L_law_674 F xs Ls k18 l3 s0 s2 g w = some R) : am_Ev x 4 (43, 780) Q 674 [some (.ref 98), some (.ref 0), some (.ref 26), some (.int (l3))] [.int (s2), .ref 26, .int (s0)] am_YY g w := by
  unfold f_L_law_674 at hf
  obtain ⟨q15, hq15, hf⟩ := Option.bind_eq_some_iff.mp hf
  refine am_callV (mi := mi_X8_codes) (rm := rm_X8_codes) [.int (s2)] C0.1 am_YYl cv_13_92 (M_X8_codes _ F g w s2 _ hq15) (ci := 8) rfl (by decide) rfl (by rw [hR]; rfl) rfl rfl (Nat.le_of_ble_eq_true rfl) (by decide +kernel) ?_
  refine am_icmp_eq C0 (off := 332) (tgt := 1009) (by decide +kernel) (fun hc16 => ?_) (fun hc16 => ?_)
  · rw [if_pos hc16] at hf
    exact B_L_law_1009 x C0 hR Q hret F xs Ls hX R hR1 _ hk18 (l3) (g) (w) hf
  · rw [if_neg hc16] at hf
    refine am_b1 C0 am_YYk (pc := 680) (pc2 := 681) [(.iconst 0, 0, 0, .int 0)] (L := [some (.ref 98), some (.ref 0), some (.ref 26), some (.int (l3))]) (st := []) (L' := [some (.ref 98), some (.ref 0), some (.ref 26), some (.int (l3))]) (st' := [.int ((0 : Int32))]) (g' := g) (w' := w) (cl := []) (by decide +kernel) rfl trivial ?_
    cases hf
    exact absurd hR1 (by decide)
def f_L_law_657 (F : Nat) (xs : Nat → Int32) (Ls : Nat) (k18 : Int32 → am_G → am_J → Option (Int32)) (l3 : Int32) (s1 : Int32) (g : am_G) (w : am_J) : Option (Int32) :=
  (f_X7_codes F g s1).bind fun q17 =>
    if am_in (l3 + (1 : Int32)) Ls then
      if (xs (Int32.toNatClampNeg (l3 + (1 : Int32)))) = 0 then
        f_L_law_674 F xs Ls k18 (l3) (q17) ((0 : Int32)) (g) (w)
      else
        f_L_law_674 F xs Ls k18 (l3) (q17) ((1 : Int32)) (g) (w)
    else none
set_option maxHeartbeats 4000000 in
set_option maxRecDepth 20000 in
theorem B_L_law_657 (x : am_X) (C0 : am_Cm x 13 code 4 (some .boolean)) (hR : am_R x = room_1) (Q : State → Prop) (hret : ∀ L g w, am_Ev x 4 (43, 780) Q 1016 L [.int 1] am_YY g w) (F : Nat) (xs : Nat → Int32) (Ls : Nat) (hX : am_Sx x Ls xs) (R : Int32) (hR1 : R = 1) (k18 : Int32 → am_G → am_J → Option (Int32)) (hk18 : ∀ (l3 : Int32) (g : am_G) (w : am_J), k18 l3 g w = some R → am_Ev x 4 (43, 780) Q 18 [some (.ref 98), some (.ref 0), some (.ref 26), some (.int (l3))] [] am_YY g w) (l3 : Int32) (s1 : Int32) (g : am_G) (w : am_J) (hf : f_L_law_657 F xs Ls k18 l3 s1 g w = some R) : am_Ev x 4 (43, 780) Q 657 [some (.ref 98), some (.ref 0), some (.ref 26), some (.int (l3))] [.int (s1), .ref 0] am_YY g w := by
  unfold f_L_law_657 at hf
  obtain ⟨q17, hq17, hf⟩ := Option.bind_eq_some_iff.mp hf
  refine am_callV (mi := mi_X7_codes) (rm := rm_X7_codes) [.int (s1)] C0.1 am_YYl cv_13_88 (M_X7_codes _ F g w s1 _ hq17) (ci := 7) rfl (by decide) rfl (by rw [hR]; rfl) rfl rfl (Nat.le_of_ble_eq_true rfl) (by decide +kernel) ?_
  refine am_b1 C0 am_YYk (pc := 660) (pc2 := 665) [(.aload_n 2, 0, 0, .null), (.aload_n 0, 0, 0, .null), (.iload_n 3, 0, 0, .null), (.iconst 1, 0, 0, .int 1), (.iadd, 0, 0, .null)] (L := [some (.ref 98), some (.ref 0), some (.ref 26), some (.int (l3))]) (st := [.int (q17)]) (L' := [some (.ref 98), some (.ref 0), some (.ref 26), some (.int (l3))]) (st' := [.int (l3 + (1 : Int32)), .ref 98, .ref 26, .int (q17)]) (g' := g) (w' := w) (cl := []) (by decide +kernel) rfl trivial ?_
  obtain ⟨hg18, hf⟩ := am_g hf
  refine am_sld C0.1 hX hg18 (by decide +kernel) ?_
  refine am_if_eq C0 (off := 7) (tgt := 673) (by decide +kernel) (fun hc19 => ?_) (fun hc19 => ?_)
  · rw [if_pos hc19] at hf
    refine am_b1 C0 am_YYk (pc := 673) (pc2 := 674) [(.iconst 0, 0, 0, .int 0)] (L := [some (.ref 98), some (.ref 0), some (.ref 26), some (.int (l3))]) (st := [.ref 26, .int (q17)]) (L' := [some (.ref 98), some (.ref 0), some (.ref 26), some (.int (l3))]) (st' := [.int ((0 : Int32)), .ref 26, .int (q17)]) (g' := g) (w' := w) (cl := []) (by decide +kernel) rfl trivial ?_
    exact B_L_law_674 x C0 hR Q hret F xs Ls hX R hR1 _ hk18 (l3) (q17) ((0 : Int32)) (g) (w) hf
  · rw [if_neg hc19] at hf
    refine am_b1 C0 am_YYk (pc := 669) (pc2 := 670) [(.iconst 1, 0, 0, .int 1)] (L := [some (.ref 98), some (.ref 0), some (.ref 26), some (.int (l3))]) (st := [.ref 26, .int (q17)]) (L' := [some (.ref 98), some (.ref 0), some (.ref 26), some (.int (l3))]) (st' := [.int ((1 : Int32)), .ref 26, .int (q17)]) (g' := g) (w' := w) (cl := []) (by decide +kernel) rfl trivial ?_
    refine am_goto C0 (off := 4) (tgt := 674) (by decide +kernel) ?_
    exact B_L_law_674 x C0 hR Q hret F xs Ls hX R hR1 _ hk18 (l3) (q17) ((1 : Int32)) (g) (w) hf
def f_L_law_855 (F : Nat) (xs : Nat → Int32) (Ls : Nat) (k18 : Int32 → am_G → am_J → Option (Int32)) (l3 : Int32) (s0 : Int32) (s2 : Int32) (s3 : Int32) (s4 : Int32) (s5 : Int32) (g : am_G) (w : am_J) : Option (Int32) :=
  (f_X8_slams F g s2 s3 s4 s5).bind fun q20 =>
    if s0 = q20 then
      f_L_law_1009 F xs Ls k18 (l3) (g) (w)
    else
      some (0 : Int32)
set_option maxHeartbeats 4000000 in
set_option maxRecDepth 20000 in
theorem B_L_law_855 (x : am_X) (C0 : am_Cm x 13 code 4 (some .boolean)) (hR : am_R x = room_1) (Q : State → Prop) (hret : ∀ L g w, am_Ev x 4 (43, 780) Q 1016 L [.int 1] am_YY g w) (F : Nat) (xs : Nat → Int32) (Ls : Nat) (hX : am_Sx x Ls xs) (R : Int32) (hR1 : R = 1) (k18 : Int32 → am_G → am_J → Option (Int32)) (hk18 : ∀ (l3 : Int32) (g : am_G) (w : am_J), k18 l3 g w = some R → am_Ev x 4 (43, 780) Q 18 [some (.ref 98), some (.ref 0), some (.ref 26), some (.int (l3))] [] am_YY g w) (l3 : Int32) (s0 : Int32) (s2 : Int32) (s3 : Int32) (s4 : Int32) (s5 : Int32) (g : am_G) (w : am_J) (hf : f_L_law_855 F xs Ls k18 l3 s0 s2 s3 s4 s5 g w = some R) : am_Ev x 4 (43, 780) Q 855 [some (.ref 98), some (.ref 0), some (.ref 26), some (.int (l3))] [.int (s5), .int (s4), .int (s3), .int (s2), .ref 26, .int (s0)] am_YY g w := by
  unfold f_L_law_855 at hf
  obtain ⟨q20, hq20, hf⟩ := Option.bind_eq_some_iff.mp hf
  refine am_callV (mi := mi_X8_slams) (rm := rm_X8_slams) [.int (s2), .int (s3), .int (s4), .int (s5)] C0.1 am_YYl cv_13_114 (M_X8_slams _ F g w s2 s3 s4 s5 _ hq20) (ci := 8) rfl (by decide) rfl (by rw [hR]; rfl) rfl rfl (Nat.le_of_ble_eq_true rfl) (by decide +kernel) ?_
  refine am_icmp_eq C0 (off := 151) (tgt := 1009) (by decide +kernel) (fun hc21 => ?_) (fun hc21 => ?_)
  · rw [if_pos hc21] at hf
    exact B_L_law_1009 x C0 hR Q hret F xs Ls hX R hR1 _ hk18 (l3) (g) (w) hf
  · rw [if_neg hc21] at hf
    refine am_b1 C0 am_YYk (pc := 861) (pc2 := 862) [(.iconst 0, 0, 0, .int 0)] (L := [some (.ref 98), some (.ref 0), some (.ref 26), some (.int (l3))]) (st := []) (L' := [some (.ref 98), some (.ref 0), some (.ref 26), some (.int (l3))]) (st' := [.int ((0 : Int32))]) (g' := g) (w' := w) (cl := []) (by decide +kernel) rfl trivial ?_
    cases hf
    exact absurd hR1 (by decide)
def f_L_law_823 (F : Nat) (xs : Nat → Int32) (Ls : Nat) (k18 : Int32 → am_G → am_J → Option (Int32)) (l3 : Int32) (s1 : Int32) (s2 : Int32) (s3 : Int32) (s4 : Int32) (g : am_G) (w : am_J) : Option (Int32) :=
  (f_X7_slams F g s1 s2 s3 s4).bind fun q22 =>
    if am_in (l3 + (1 : Int32)) Ls then
      if am_in (l3 + (2 : Int32)) Ls then
        if am_in (l3 + (3 : Int32)) Ls then
          if am_in (l3 + (4 : Int32)) Ls then
            if (xs (Int32.toNatClampNeg (l3 + (4 : Int32)))) = 0 then
              f_L_law_855 F xs Ls k18 (l3) (q22) (xs (Int32.toNatClampNeg (l3 + (1 : Int32)))) (xs (Int32.toNatClampNeg (l3 + (2 : Int32)))) (xs (Int32.toNatClampNeg (l3 + (3 : Int32)))) ((0 : Int32)) (g) (w)
            else
              f_L_law_855 F xs Ls k18 (l3) (q22) (xs (Int32.toNatClampNeg (l3 + (1 : Int32)))) (xs (Int32.toNatClampNeg (l3 + (2 : Int32)))) (xs (Int32.toNatClampNeg (l3 + (3 : Int32)))) ((1 : Int32)) (g) (w)
          else none
        else none
      else none
    else none
set_option maxHeartbeats 4000000 in
set_option maxRecDepth 20000 in
theorem B_L_law_823 (x : am_X) (C0 : am_Cm x 13 code 4 (some .boolean)) (hR : am_R x = room_1) (Q : State → Prop) (hret : ∀ L g w, am_Ev x 4 (43, 780) Q 1016 L [.int 1] am_YY g w) (F : Nat) (xs : Nat → Int32) (Ls : Nat) (hX : am_Sx x Ls xs) (R : Int32) (hR1 : R = 1) (k18 : Int32 → am_G → am_J → Option (Int32)) (hk18 : ∀ (l3 : Int32) (g : am_G) (w : am_J), k18 l3 g w = some R → am_Ev x 4 (43, 780) Q 18 [some (.ref 98), some (.ref 0), some (.ref 26), some (.int (l3))] [] am_YY g w) (l3 : Int32) (s1 : Int32) (s2 : Int32) (s3 : Int32) (s4 : Int32) (g : am_G) (w : am_J) (hf : f_L_law_823 F xs Ls k18 l3 s1 s2 s3 s4 g w = some R) : am_Ev x 4 (43, 780) Q 823 [some (.ref 98), some (.ref 0), some (.ref 26), some (.int (l3))] [.int (s4), .int (s3), .int (s2), .int (s1), .ref 0] am_YY g w := by
  unfold f_L_law_823 at hf
  obtain ⟨q22, hq22, hf⟩ := Option.bind_eq_some_iff.mp hf
  refine am_callV (mi := mi_X7_slams) (rm := rm_X7_slams) [.int (s1), .int (s2), .int (s3), .int (s4)] C0.1 am_YYl cv_13_110 (M_X7_slams _ F g w s1 s2 s3 s4 _ hq22) (ci := 7) rfl (by decide) rfl (by rw [hR]; rfl) rfl rfl (Nat.le_of_ble_eq_true rfl) (by decide +kernel) ?_
  refine am_b1 C0 am_YYk (pc := 826) (pc2 := 831) [(.aload_n 2, 0, 0, .null), (.aload_n 0, 0, 0, .null), (.iload_n 3, 0, 0, .null), (.iconst 1, 0, 0, .int 1), (.iadd, 0, 0, .null)] (L := [some (.ref 98), some (.ref 0), some (.ref 26), some (.int (l3))]) (st := [.int (q22)]) (L' := [some (.ref 98), some (.ref 0), some (.ref 26), some (.int (l3))]) (st' := [.int (l3 + (1 : Int32)), .ref 98, .ref 26, .int (q22)]) (g' := g) (w' := w) (cl := []) (by decide +kernel) rfl trivial ?_
  obtain ⟨hg23, hf⟩ := am_g hf
  refine am_sld C0.1 hX hg23 (by decide +kernel) ?_
  refine am_b1 C0 am_YYk (pc := 832) (pc2 := 836) [(.aload_n 0, 0, 0, .null), (.iload_n 3, 0, 0, .null), (.iconst 2, 0, 0, .int 2), (.iadd, 0, 0, .null)] (L := [some (.ref 98), some (.ref 0), some (.ref 26), some (.int (l3))]) (st := [.int (xs (Int32.toNatClampNeg (l3 + (1 : Int32)))), .ref 26, .int (q22)]) (L' := [some (.ref 98), some (.ref 0), some (.ref 26), some (.int (l3))]) (st' := [.int (l3 + (2 : Int32)), .ref 98, .int (xs (Int32.toNatClampNeg (l3 + (1 : Int32)))), .ref 26, .int (q22)]) (g' := g) (w' := w) (cl := []) (by decide +kernel) rfl trivial ?_
  obtain ⟨hg24, hf⟩ := am_g hf
  refine am_sld C0.1 hX hg24 (by decide +kernel) ?_
  refine am_b1 C0 am_YYk (pc := 837) (pc2 := 841) [(.aload_n 0, 0, 0, .null), (.iload_n 3, 0, 0, .null), (.iconst 3, 0, 0, .int 3), (.iadd, 0, 0, .null)] (L := [some (.ref 98), some (.ref 0), some (.ref 26), some (.int (l3))]) (st := [.int (xs (Int32.toNatClampNeg (l3 + (2 : Int32)))), .int (xs (Int32.toNatClampNeg (l3 + (1 : Int32)))), .ref 26, .int (q22)]) (L' := [some (.ref 98), some (.ref 0), some (.ref 26), some (.int (l3))]) (st' := [.int (l3 + (3 : Int32)), .ref 98, .int (xs (Int32.toNatClampNeg (l3 + (2 : Int32)))), .int (xs (Int32.toNatClampNeg (l3 + (1 : Int32)))), .ref 26, .int (q22)]) (g' := g) (w' := w) (cl := []) (by decide +kernel) rfl trivial ?_
  obtain ⟨hg25, hf⟩ := am_g hf
  refine am_sld C0.1 hX hg25 (by decide +kernel) ?_
  refine am_b1 C0 am_YYk (pc := 842) (pc2 := 846) [(.aload_n 0, 0, 0, .null), (.iload_n 3, 0, 0, .null), (.iconst 4, 0, 0, .int 4), (.iadd, 0, 0, .null)] (L := [some (.ref 98), some (.ref 0), some (.ref 26), some (.int (l3))]) (st := [.int (xs (Int32.toNatClampNeg (l3 + (3 : Int32)))), .int (xs (Int32.toNatClampNeg (l3 + (2 : Int32)))), .int (xs (Int32.toNatClampNeg (l3 + (1 : Int32)))), .ref 26, .int (q22)]) (L' := [some (.ref 98), some (.ref 0), some (.ref 26), some (.int (l3))]) (st' := [.int (l3 + (4 : Int32)), .ref 98, .int (xs (Int32.toNatClampNeg (l3 + (3 : Int32)))), .int (xs (Int32.toNatClampNeg (l3 + (2 : Int32)))), .int (xs (Int32.toNatClampNeg (l3 + (1 : Int32)))), .ref 26, .int (q22)]) (g' := g) (w' := w) (cl := []) (by decide +kernel) rfl trivial ?_
  obtain ⟨hg26, hf⟩ := am_g hf
  refine am_sld C0.1 hX hg26 (by decide +kernel) ?_
  refine am_if_eq C0 (off := 7) (tgt := 854) (by decide +kernel) (fun hc27 => ?_) (fun hc27 => ?_)
  · rw [if_pos hc27] at hf
    refine am_b1 C0 am_YYk (pc := 854) (pc2 := 855) [(.iconst 0, 0, 0, .int 0)] (L := [some (.ref 98), some (.ref 0), some (.ref 26), some (.int (l3))]) (st := [.int (xs (Int32.toNatClampNeg (l3 + (3 : Int32)))), .int (xs (Int32.toNatClampNeg (l3 + (2 : Int32)))), .int (xs (Int32.toNatClampNeg (l3 + (1 : Int32)))), .ref 26, .int (q22)]) (L' := [some (.ref 98), some (.ref 0), some (.ref 26), some (.int (l3))]) (st' := [.int ((0 : Int32)), .int (xs (Int32.toNatClampNeg (l3 + (3 : Int32)))), .int (xs (Int32.toNatClampNeg (l3 + (2 : Int32)))), .int (xs (Int32.toNatClampNeg (l3 + (1 : Int32)))), .ref 26, .int (q22)]) (g' := g) (w' := w) (cl := []) (by decide +kernel) rfl trivial ?_
    exact B_L_law_855 x C0 hR Q hret F xs Ls hX R hR1 _ hk18 (l3) (q22) (xs (Int32.toNatClampNeg (l3 + (1 : Int32)))) (xs (Int32.toNatClampNeg (l3 + (2 : Int32)))) (xs (Int32.toNatClampNeg (l3 + (3 : Int32)))) ((0 : Int32)) (g) (w) hf
  · rw [if_neg hc27] at hf
    refine am_b1 C0 am_YYk (pc := 850) (pc2 := 851) [(.iconst 1, 0, 0, .int 1)] (L := [some (.ref 98), some (.ref 0), some (.ref 26), some (.int (l3))]) (st := [.int (xs (Int32.toNatClampNeg (l3 + (3 : Int32)))), .int (xs (Int32.toNatClampNeg (l3 + (2 : Int32)))), .int (xs (Int32.toNatClampNeg (l3 + (1 : Int32)))), .ref 26, .int (q22)]) (L' := [some (.ref 98), some (.ref 0), some (.ref 26), some (.int (l3))]) (st' := [.int ((1 : Int32)), .int (xs (Int32.toNatClampNeg (l3 + (3 : Int32)))), .int (xs (Int32.toNatClampNeg (l3 + (2 : Int32)))), .int (xs (Int32.toNatClampNeg (l3 + (1 : Int32)))), .ref 26, .int (q22)]) (g' := g) (w' := w) (cl := []) (by decide +kernel) rfl trivial ?_
    refine am_goto C0 (off := 4) (tgt := 855) (by decide +kernel) ?_
    exact B_L_law_855 x C0 hR Q hret F xs Ls hX R hR1 _ hk18 (l3) (q22) (xs (Int32.toNatClampNeg (l3 + (1 : Int32)))) (xs (Int32.toNatClampNeg (l3 + (2 : Int32)))) (xs (Int32.toNatClampNeg (l3 + (3 : Int32)))) ((1 : Int32)) (g) (w) hf
def f_L_law_18 (F : Nat) (xs : Nat → Int32) (Ls : Nat)  : Nat → Int32 → am_G → am_J → Option (Int32)
  | 0, _, _, _ => none
  | n + 1, l3, g, w =>
    if ((Int32.ofNat Ls) - (5 : Int32)) < l3 then
      some (1 : Int32)
    else
      if am_in l3 Ls then
        if ((xs (Int32.toNatClampNeg l3)) &&& (31 : Int32)) = (0 : Int32) then
          if am_in (l3 + (1 : Int32)) Ls then
            (f_X7_write g (xs (Int32.toNatClampNeg (l3 + (1 : Int32))))).bind fun q30 =>
              if am_in (l3 + (1 : Int32)) Ls then
                (f_X8_write q30.2 (xs (Int32.toNatClampNeg (l3 + (1 : Int32))))).bind fun q32 =>
                  if q30.1 = q32.1 then
                    f_L_law_1009 F xs Ls (fun l3 g w => f_L_law_18 F xs Ls n l3 g w) (l3) (q32.2) (w)
                  else
                    some (0 : Int32)
              else none
          else none
        else
        if ((xs (Int32.toNatClampNeg l3)) &&& (31 : Int32)) = (1 : Int32) then
          (f_X7_wipe g).bind fun q34 =>
            (f_X8_wipe q34.2).bind fun q35 =>
              if q34.1 = q35.1 then
                f_L_law_1009 F xs Ls (fun l3 g w => f_L_law_18 F xs Ls n l3 g w) (l3) (q35.2) (w)
              else
                some (0 : Int32)
        else
        if ((xs (Int32.toNatClampNeg l3)) &&& (31 : Int32)) = (2 : Int32) then
          (f_X7_fault F g).bind fun q37 =>
            (f_X8_fault F g).bind fun q38 =>
              if q37 = q38.1 then
                f_L_law_1009 F xs Ls (fun l3 g w => f_L_law_18 F xs Ls n l3 g w) (l3) (q38.2) (w)
              else
                some (0 : Int32)
        else
        if ((xs (Int32.toNatClampNeg l3)) &&& (31 : Int32)) = (3 : Int32) then
          (f_X7_town F g).bind fun q40 =>
            (f_X8_town F q40.2).bind fun q41 =>
              if q40.1 = q41.1 then
                f_L_law_1009 F xs Ls (fun l3 g w => f_L_law_18 F xs Ls n l3 g w) (l3) (q41.2) (w)
              else
                some (0 : Int32)
        else
        if ((xs (Int32.toNatClampNeg l3)) &&& (31 : Int32)) = (4 : Int32) then
          if am_in (l3 + (1 : Int32)) Ls then
            if am_in (l3 + (2 : Int32)) Ls then
              (f_X7_window g (xs (Int32.toNatClampNeg (l3 + (1 : Int32)))) (xs (Int32.toNatClampNeg (l3 + (2 : Int32))))).bind fun q45 =>
                if am_in (l3 + (1 : Int32)) Ls then
                  if am_in (l3 + (2 : Int32)) Ls then
                    (f_X8_window F g (xs (Int32.toNatClampNeg (l3 + (1 : Int32)))) (xs (Int32.toNatClampNeg (l3 + (2 : Int32))))).bind fun q48 =>
                      if q45 = q48 then
                        f_L_law_1009 F xs Ls (fun l3 g w => f_L_law_18 F xs Ls n l3 g w) (l3) (g) (w)
                      else
                        some (0 : Int32)
                  else none
                else none
            else none
          else none
        else
        if ((xs (Int32.toNatClampNeg l3)) &&& (31 : Int32)) = (5 : Int32) then
          if am_in (l3 + (1 : Int32)) Ls then
            if am_in (l3 + (2 : Int32)) Ls then
              (f_X7_move g (xs (Int32.toNatClampNeg (l3 + (1 : Int32)))) (xs (Int32.toNatClampNeg (l3 + (2 : Int32))))).bind fun q52 =>
                if am_in (l3 + (1 : Int32)) Ls then
                  if am_in (l3 + (2 : Int32)) Ls then
                    (f_X8_move F q52.2 (xs (Int32.toNatClampNeg (l3 + (1 : Int32)))) (xs (Int32.toNatClampNeg (l3 + (2 : Int32))))).bind fun q55 =>
                      if q52.1 = q55.1 then
                        f_L_law_1009 F xs Ls (fun l3 g w => f_L_law_18 F xs Ls n l3 g w) (l3) (q55.2) (w)
                      else
                        some (0 : Int32)
                  else none
                else none
            else none
          else none
        else
        if ((xs (Int32.toNatClampNeg l3)) &&& (31 : Int32)) = (6 : Int32) then
          (f_X7_wind F g).bind fun q57 =>
            (f_X8_wind F q57.2).bind fun q58 =>
              if q57.1 = q58.1 then
                f_L_law_1009 F xs Ls (fun l3 g w => f_L_law_18 F xs Ls n l3 g w) (l3) (q58.2) (w)
              else
                some (0 : Int32)
        else
        if ((xs (Int32.toNatClampNeg l3)) &&& (31 : Int32)) = (7 : Int32) then
          if am_in (l3 + (1 : Int32)) Ls then
            if am_in (l3 + (2 : Int32)) Ls then
              (f_X7_pass F g (xs (Int32.toNatClampNeg (l3 + (1 : Int32)))) (xs (Int32.toNatClampNeg (l3 + (2 : Int32))))).bind fun q62 =>
                if am_in (l3 + (1 : Int32)) Ls then
                  if am_in (l3 + (2 : Int32)) Ls then
                    (f_X8_pass F q62.2 (xs (Int32.toNatClampNeg (l3 + (1 : Int32)))) (xs (Int32.toNatClampNeg (l3 + (2 : Int32))))).bind fun q65 =>
                      if q62.1 = q65.1 then
                        f_L_law_1009 F xs Ls (fun l3 g w => f_L_law_18 F xs Ls n l3 g w) (l3) (q65.2) (w)
                      else
                        some (0 : Int32)
                  else none
                else none
            else none
          else none
        else
        if ((xs (Int32.toNatClampNeg l3)) &&& (31 : Int32)) = (8 : Int32) then
          (f_X7_hour F g).bind fun q67 =>
            (f_X8_hour F q67.2).bind fun q68 =>
              if q67.1 = q68.1 then
                f_L_law_1009 F xs Ls (fun l3 g w => f_L_law_18 F xs Ls n l3 g w) (l3) (q68.2) (w)
              else
                some (0 : Int32)
        else
        if ((xs (Int32.toNatClampNeg l3)) &&& (31 : Int32)) = (9 : Int32) then
          (f_X7_undo g).bind fun q70 =>
            (f_X8_undo F q70.2).bind fun q71 =>
              if q70.1 = q71.1 then
                f_L_law_1009 F xs Ls (fun l3 g w => f_L_law_18 F xs Ls n l3 g w) (l3) (q71.2) (w)
              else
                some (0 : Int32)
        else
        if ((xs (Int32.toNatClampNeg l3)) &&& (31 : Int32)) = (10 : Int32) then
          if am_in (l3 + (1 : Int32)) Ls then
            if am_in (l3 + (2 : Int32)) Ls then
              if am_in (l3 + (3 : Int32)) Ls then
                if (xs (Int32.toNatClampNeg (l3 + (3 : Int32)))) = 0 then
                  f_L_law_384 F xs Ls (fun l3 g w => f_L_law_18 F xs Ls n l3 g w) (l3) (xs (Int32.toNatClampNeg (l3 + (1 : Int32)))) (xs (Int32.toNatClampNeg (l3 + (2 : Int32)))) ((0 : Int32)) (g) (w)
                else
                  f_L_law_384 F xs Ls (fun l3 g w => f_L_law_18 F xs Ls n l3 g w) (l3) (xs (Int32.toNatClampNeg (l3 + (1 : Int32)))) (xs (Int32.toNatClampNeg (l3 + (2 : Int32)))) ((1 : Int32)) (g) (w)
              else none
            else none
          else none
        else
        if ((xs (Int32.toNatClampNeg l3)) &&& (31 : Int32)) = (11 : Int32) then
          if am_in (l3 + (1 : Int32)) Ls then
            if am_in (l3 + (2 : Int32)) Ls then
              (f_X7_knows F g w (xs (Int32.toNatClampNeg (l3 + (1 : Int32)))) (xs (Int32.toNatClampNeg (l3 + (2 : Int32))))).bind fun q79 =>
                if am_in (l3 + (1 : Int32)) Ls then
                  if am_in (l3 + (2 : Int32)) Ls then
                    (f_X8_knows F g (xs (Int32.toNatClampNeg (l3 + (1 : Int32)))) (xs (Int32.toNatClampNeg (l3 + (2 : Int32))))).bind fun q82 =>
                      if q79.1 = q82.1 then
                        f_L_law_1009 F xs Ls (fun l3 g w => f_L_law_18 F xs Ls n l3 g w) (l3) (q82.2) (q79.2)
                      else
                        some (0 : Int32)
                  else none
                else none
            else none
          else none
        else
        if ((xs (Int32.toNatClampNeg l3)) &&& (31 : Int32)) = (12 : Int32) then
          if am_in (l3 + (1 : Int32)) Ls then
            (f_X7_toTell F g (xs (Int32.toNatClampNeg (l3 + (1 : Int32))))).bind fun q85 =>
              if am_in (l3 + (1 : Int32)) Ls then
                (f_X8_toTell F g (xs (Int32.toNatClampNeg (l3 + (1 : Int32))))).bind fun q87 =>
                  if q85 = q87 then
                    f_L_law_1009 F xs Ls (fun l3 g w => f_L_law_18 F xs Ls n l3 g w) (l3) (g) (w)
                  else
                    some (0 : Int32)
              else none
          else none
        else
        if ((xs (Int32.toNatClampNeg l3)) &&& (31 : Int32)) = (13 : Int32) then
          if am_in (l3 + (1 : Int32)) Ls then
            if am_in (l3 + (2 : Int32)) Ls then
              (f_X7_cut F g w (xs (Int32.toNatClampNeg (l3 + (1 : Int32)))) (xs (Int32.toNatClampNeg (l3 + (2 : Int32))))).bind fun q91 =>
                if am_in (l3 + (1 : Int32)) Ls then
                  if am_in (l3 + (2 : Int32)) Ls then
                    (f_X8_cut F g (xs (Int32.toNatClampNeg (l3 + (1 : Int32)))) (xs (Int32.toNatClampNeg (l3 + (2 : Int32))))).bind fun q94 =>
                      if q91.1 = q94.1 then
                        f_L_law_1009 F xs Ls (fun l3 g w => f_L_law_18 F xs Ls n l3 g w) (l3) (q94.2) (q91.2)
                      else
                        some (0 : Int32)
                  else none
                else none
            else none
          else none
        else
        if ((xs (Int32.toNatClampNeg l3)) &&& (31 : Int32)) = (14 : Int32) then
          if am_in (l3 + (1 : Int32)) Ls then
            if am_in (l3 + (2 : Int32)) Ls then
              if am_in (l3 + (3 : Int32)) Ls then
                (f_X7_judge F g (xs (Int32.toNatClampNeg (l3 + (1 : Int32)))) ((am_lshl (Int32.toInt64 (xs (Int32.toNatClampNeg (l3 + (2 : Int32))))) (32 : Int32)) ||| ((Int32.toInt64 (xs (Int32.toNatClampNeg (l3 + (3 : Int32))))) &&& (4294967295 : Int64)))).bind fun q99 =>
                  if am_in (l3 + (1 : Int32)) Ls then
                    if am_in (l3 + (2 : Int32)) Ls then
                      if am_in (l3 + (3 : Int32)) Ls then
                        (f_X8_judge F q99.2 (xs (Int32.toNatClampNeg (l3 + (1 : Int32)))) ((am_lshl (Int32.toInt64 (xs (Int32.toNatClampNeg (l3 + (2 : Int32))))) (32 : Int32)) ||| ((Int32.toInt64 (xs (Int32.toNatClampNeg (l3 + (3 : Int32))))) &&& (4294967295 : Int64)))).bind fun q103 =>
                          if q99.1 = q103.1 then
                            f_L_law_1009 F xs Ls (fun l3 g w => f_L_law_18 F xs Ls n l3 g w) (l3) (q103.2) (w)
                          else
                            some (0 : Int32)
                      else none
                    else none
                  else none
              else none
            else none
          else none
        else
        if ((xs (Int32.toNatClampNeg l3)) &&& (31 : Int32)) = (15 : Int32) then
          if am_in (l3 + (1 : Int32)) Ls then
            if am_in (l3 + (2 : Int32)) Ls then
              if am_in (l3 + (3 : Int32)) Ls then
                if (xs (Int32.toNatClampNeg (l3 + (3 : Int32)))) = 0 then
                  f_L_law_595 F xs Ls (fun l3 g w => f_L_law_18 F xs Ls n l3 g w) (l3) (xs (Int32.toNatClampNeg (l3 + (1 : Int32)))) (xs (Int32.toNatClampNeg (l3 + (2 : Int32)))) ((0 : Int32)) (g) (w)
                else
                  f_L_law_595 F xs Ls (fun l3 g w => f_L_law_18 F xs Ls n l3 g w) (l3) (xs (Int32.toNatClampNeg (l3 + (1 : Int32)))) (xs (Int32.toNatClampNeg (l3 + (2 : Int32)))) ((1 : Int32)) (g) (w)
              else none
            else none
          else none
        else
        if ((xs (Int32.toNatClampNeg l3)) &&& (31 : Int32)) = (16 : Int32) then
          (f_X7_unfollow F g).bind fun q109 =>
            (f_X8_unfollow q109.2).bind fun q110 =>
              if q109.1 = q110.1 then
                f_L_law_1009 F xs Ls (fun l3 g w => f_L_law_18 F xs Ls n l3 g w) (l3) (q110.2) (w)
              else
                some (0 : Int32)
        else
        if ((xs (Int32.toNatClampNeg l3)) &&& (31 : Int32)) = (17 : Int32) then
          if am_in (l3 + (1 : Int32)) Ls then
            if (xs (Int32.toNatClampNeg (l3 + (1 : Int32)))) = 0 then
              f_L_law_657 F xs Ls (fun l3 g w => f_L_law_18 F xs Ls n l3 g w) (l3) ((0 : Int32)) (g) (w)
            else
              f_L_law_657 F xs Ls (fun l3 g w => f_L_law_18 F xs Ls n l3 g w) (l3) ((1 : Int32)) (g) (w)
          else none
        else
        if ((xs (Int32.toNatClampNeg l3)) &&& (31 : Int32)) = (18 : Int32) then
          (f_X7_look F g).bind fun q114 =>
            (f_X8_look F g).bind fun q115 =>
              if q114 = q115 then
                f_L_law_1009 F xs Ls (fun l3 g w => f_L_law_18 F xs Ls n l3 g w) (l3) (g) (w)
              else
                some (0 : Int32)
        else
        if ((xs (Int32.toNatClampNeg l3)) &&& (31 : Int32)) = (19 : Int32) then
          if am_in (l3 + (1 : Int32)) Ls then
            if am_in (l3 + (2 : Int32)) Ls then
              if am_in (l3 + (3 : Int32)) Ls then
                (f_X7_will g (xs (Int32.toNatClampNeg (l3 + (1 : Int32)))) (xs (Int32.toNatClampNeg (l3 + (2 : Int32)))) (xs (Int32.toNatClampNeg (l3 + (3 : Int32))))).bind fun q120 =>
                  if am_in (l3 + (1 : Int32)) Ls then
                    if am_in (l3 + (2 : Int32)) Ls then
                      if am_in (l3 + (3 : Int32)) Ls then
                        (f_X8_will g (xs (Int32.toNatClampNeg (l3 + (1 : Int32)))) (xs (Int32.toNatClampNeg (l3 + (2 : Int32)))) (xs (Int32.toNatClampNeg (l3 + (3 : Int32))))).bind fun q124 =>
                          if q120 = q124 then
                            f_L_law_1009 F xs Ls (fun l3 g w => f_L_law_18 F xs Ls n l3 g w) (l3) (g) (w)
                          else
                            some (0 : Int32)
                      else none
                    else none
                  else none
              else none
            else none
          else none
        else
        if ((xs (Int32.toNatClampNeg l3)) &&& (31 : Int32)) = (20 : Int32) then
          if am_in (l3 + (1 : Int32)) Ls then
            if am_in (l3 + (2 : Int32)) Ls then
              (f_X7_cross F g w (xs (Int32.toNatClampNeg (l3 + (1 : Int32)))) (xs (Int32.toNatClampNeg (l3 + (2 : Int32))))).bind fun q128 =>
                if am_in (l3 + (1 : Int32)) Ls then
                  if am_in (l3 + (2 : Int32)) Ls then
                    (f_X8_cross F q128.2.1 (xs (Int32.toNatClampNeg (l3 + (1 : Int32)))) (xs (Int32.toNatClampNeg (l3 + (2 : Int32))))).bind fun q131 =>
                      if q128.1 = q131.1 then
                        f_L_law_1009 F xs Ls (fun l3 g w => f_L_law_18 F xs Ls n l3 g w) (l3) (q131.2) (q128.2.2)
                      else
                        some (0 : Int32)
                  else none
                else none
            else none
          else none
        else
        if ((xs (Int32.toNatClampNeg l3)) &&& (31 : Int32)) = (21 : Int32) then
          if am_in (l3 + (1 : Int32)) Ls then
            (f_X7_rests F g (xs (Int32.toNatClampNeg (l3 + (1 : Int32))))).bind fun q134 =>
              if am_in (l3 + (1 : Int32)) Ls then
                (f_X8_rests F g (xs (Int32.toNatClampNeg (l3 + (1 : Int32))))).bind fun q136 =>
                  if q134 = q136 then
                    f_L_law_1009 F xs Ls (fun l3 g w => f_L_law_18 F xs Ls n l3 g w) (l3) (g) (w)
                  else
                    some (0 : Int32)
              else none
          else none
        else
        if ((xs (Int32.toNatClampNeg l3)) &&& (31 : Int32)) = (22 : Int32) then
          if am_in (l3 + (1 : Int32)) Ls then
            if am_in (l3 + (2 : Int32)) Ls then
              if am_in (l3 + (3 : Int32)) Ls then
                if am_in (l3 + (4 : Int32)) Ls then
                  if (xs (Int32.toNatClampNeg (l3 + (4 : Int32)))) = 0 then
                    f_L_law_823 F xs Ls (fun l3 g w => f_L_law_18 F xs Ls n l3 g w) (l3) (xs (Int32.toNatClampNeg (l3 + (1 : Int32)))) (xs (Int32.toNatClampNeg (l3 + (2 : Int32)))) (xs (Int32.toNatClampNeg (l3 + (3 : Int32)))) ((0 : Int32)) (g) (w)
                  else
                    f_L_law_823 F xs Ls (fun l3 g w => f_L_law_18 F xs Ls n l3 g w) (l3) (xs (Int32.toNatClampNeg (l3 + (1 : Int32)))) (xs (Int32.toNatClampNeg (l3 + (2 : Int32)))) (xs (Int32.toNatClampNeg (l3 + (3 : Int32)))) ((1 : Int32)) (g) (w)
                else none
              else none
            else none
          else none
        else
        if ((xs (Int32.toNatClampNeg l3)) &&& (31 : Int32)) = (23 : Int32) then
          if am_in (l3 + (1 : Int32)) Ls then
            if am_in (l3 + (2 : Int32)) Ls then
              (f_X7_seed w ((am_lshl (Int32.toInt64 (xs (Int32.toNatClampNeg (l3 + (1 : Int32))))) (32 : Int32)) ||| ((Int32.toInt64 (xs (Int32.toNatClampNeg (l3 + (2 : Int32))))) &&& (4294967295 : Int64)))).bind fun q145 =>
                if am_in (l3 + (1 : Int32)) Ls then
                  if am_in (l3 + (2 : Int32)) Ls then
                    (f_X8_seed q145.2 ((am_lshl (Int32.toInt64 (xs (Int32.toNatClampNeg (l3 + (1 : Int32))))) (32 : Int32)) ||| ((Int32.toInt64 (xs (Int32.toNatClampNeg (l3 + (2 : Int32))))) &&& (4294967295 : Int64)))).bind fun q148 =>
                      if (lg_cmp q145.1 q148.1) = 0 then
                        f_L_law_1009 F xs Ls (fun l3 g w => f_L_law_18 F xs Ls n l3 g w) (l3) (g) (q148.2)
                      else
                        some (0 : Int32)
                  else none
                else none
            else none
          else none
        else
        if ((xs (Int32.toNatClampNeg l3)) &&& (31 : Int32)) = (24 : Int32) then
          if am_in (l3 + (1 : Int32)) Ls then
            (f_X7_afternoons F g w (xs (Int32.toNatClampNeg (l3 + (1 : Int32))))).bind fun q151 =>
              if am_in (l3 + (1 : Int32)) Ls then
                (f_X8_afternoons F q151.2.1 q151.2.2 (xs (Int32.toNatClampNeg (l3 + (1 : Int32))))).bind fun q153 =>
                  if q151.1 = q153.1 then
                    f_L_law_1009 F xs Ls (fun l3 g w => f_L_law_18 F xs Ls n l3 g w) (l3) (q153.2.1) (q153.2.2)
                  else
                    some (0 : Int32)
              else none
          else none
        else
        if ((xs (Int32.toNatClampNeg l3)) &&& (31 : Int32)) = (25 : Int32) then
          if am_in (l3 + (1 : Int32)) Ls then
            (f_X7_keep g (xs (Int32.toNatClampNeg (l3 + (1 : Int32))))).bind fun q156 =>
              if am_in (l3 + (1 : Int32)) Ls then
                (f_X8_keep F q156.2 (xs (Int32.toNatClampNeg (l3 + (1 : Int32))))).bind fun q158 =>
                  if q156.1 = q158.1 then
                    f_L_law_1009 F xs Ls (fun l3 g w => f_L_law_18 F xs Ls n l3 g w) (l3) (q158.2) (w)
                  else
                    some (0 : Int32)
              else none
          else none
        else
        if ((xs (Int32.toNatClampNeg l3)) &&& (31 : Int32)) = (26 : Int32) then
          if am_in (l3 + (1 : Int32)) Ls then
            (f_X7_again g (xs (Int32.toNatClampNeg (l3 + (1 : Int32))))).bind fun q161 =>
              if am_in (l3 + (1 : Int32)) Ls then
                (f_X8_again F q161.2 (xs (Int32.toNatClampNeg (l3 + (1 : Int32))))).bind fun q163 =>
                  if q161.1 = q163.1 then
                    f_L_law_1009 F xs Ls (fun l3 g w => f_L_law_18 F xs Ls n l3 g w) (l3) (q163.2) (w)
                  else
                    some (0 : Int32)
              else none
          else none
        else
        if ((xs (Int32.toNatClampNeg l3)) &&& (31 : Int32)) = (27 : Int32) then
          if am_in (l3 + (1 : Int32)) Ls then
            (f_X7_count F g (xs (Int32.toNatClampNeg (l3 + (1 : Int32))))).bind fun q166 =>
              if am_in (l3 + (1 : Int32)) Ls then
                (f_X8_count F g (xs (Int32.toNatClampNeg (l3 + (1 : Int32))))).bind fun q168 =>
                  if q166 = q168 then
                    f_L_law_1009 F xs Ls (fun l3 g w => f_L_law_18 F xs Ls n l3 g w) (l3) (g) (w)
                  else
                    some (0 : Int32)
              else none
          else none
        else
        f_L_law_1009 F xs Ls (fun l3 g w => f_L_law_18 F xs Ls n l3 g w) (l3) (g) (w)
      else none
set_option maxHeartbeats 4000000 in
set_option maxRecDepth 20000 in
theorem B_L_law_18 (x : am_X) (C0 : am_Cm x 13 code 4 (some .boolean)) (hR : am_R x = room_1) (Q : State → Prop) (hret : ∀ L g w, am_Ev x 4 (43, 780) Q 1016 L [.int 1] am_YY g w) (F : Nat) (xs : Nat → Int32) (Ls : Nat) (hX : am_Sx x Ls xs) (R : Int32) (hR1 : R = 1)   : ∀ (n : Nat) (l3 : Int32) (g : am_G) (w : am_J), f_L_law_18 F xs Ls n l3 g w = some R → am_Ev x 4 (43, 780) Q 18 [some (.ref 98), some (.ref 0), some (.ref 26), some (.int (l3))] [] am_YY g w := by
  intro n
  induction n with
  | zero => intro l3 g w hf; cases hf
  | succ n ih =>
    intro l3 g w hf
    rw [f_L_law_18.eq_2] at hf
    refine am_b1 C0 am_YYk (pc := 18) (pc2 := 20) [(.iload_n 3, 0, 0, .null), (.aload_n 0, 0, 0, .null)] (L := [some (.ref 98), some (.ref 0), some (.ref 26), some (.int (l3))]) (st := []) (L' := [some (.ref 98), some (.ref 0), some (.ref 26), some (.int (l3))]) (st' := [.ref 98, .int (l3)]) (g' := g) (w' := w) (cl := []) (by decide +kernel) rfl trivial ?_
    refine am_slen C0.1 hX (by decide +kernel) ?_
    refine am_b1 C0 am_YYk (pc := 21) (pc2 := 23) [(.iconst 5, 0, 0, .int 5), (.isub, 0, 0, .null)] (L := [some (.ref 98), some (.ref 0), some (.ref 26), some (.int (l3))]) (st := [.int (Int32.ofNat Ls), .int (l3)]) (L' := [some (.ref 98), some (.ref 0), some (.ref 26), some (.int (l3))]) (st' := [.int ((Int32.ofNat Ls) - (5 : Int32)), .int (l3)]) (g' := g) (w' := w) (cl := []) (by decide +kernel) rfl trivial ?_
    refine am_icmp_gt C0 (off := 992) (tgt := 1015) (by decide +kernel) (fun hc198 => ?_) (fun hc198 => ?_)
    · rw [if_pos hc198] at hf
      refine am_b1 C0 am_YYk (pc := 1015) (pc2 := 1016) [(.iconst 1, 0, 0, .int 1)] (L := [some (.ref 98), some (.ref 0), some (.ref 26), some (.int (l3))]) (st := []) (L' := [some (.ref 98), some (.ref 0), some (.ref 26), some (.int (l3))]) (st' := [.int ((1 : Int32))]) (g' := g) (w' := w) (cl := []) (by decide +kernel) rfl trivial ?_
      cases hf
      exact hret _ _ _
    · rw [if_neg hc198] at hf
      refine am_b1 C0 am_YYk (pc := 26) (pc2 := 28) [(.aload_n 0, 0, 0, .null), (.iload_n 3, 0, 0, .null)] (L := [some (.ref 98), some (.ref 0), some (.ref 26), some (.int (l3))]) (st := []) (L' := [some (.ref 98), some (.ref 0), some (.ref 26), some (.int (l3))]) (st' := [.int (l3), .ref 98]) (g' := g) (w' := w) (cl := []) (by decide +kernel) rfl trivial ?_
      obtain ⟨hg28, hf⟩ := am_g hf
      refine am_sld C0.1 hX hg28 (by decide +kernel) ?_
      refine am_b1 C0 am_YYk (pc := 29) (pc2 := 32) [(.bipush 31, 0, 0, .int 31), (.iand, 0, 0, .null)] (L := [some (.ref 98), some (.ref 0), some (.ref 26), some (.int (l3))]) (st := [.int (xs (Int32.toNatClampNeg l3))]) (L' := [some (.ref 98), some (.ref 0), some (.ref 26), some (.int (l3))]) (st' := [.int ((xs (Int32.toNatClampNeg l3)) &&& (31 : Int32))]) (g' := g) (w' := w) (cl := []) (by decide +kernel) rfl trivial ?_
      by_cases hs170 : ((xs (Int32.toNatClampNeg l3)) &&& (31 : Int32)) = (0 : Int32)
      · rw [if_pos hs170] at hf
        refine am_swIn C0 (n := 128) (dflt := 977) (lo := 0) (hi := 27) (offs := #[128, 151, 164, 177, 190, 223, 256, 269, 302, 315, 328, 387, 420, 443, 476, 539, 598, 611, 650, 663, 706, 739, 762, 831, 885, 908, 931, 954]) (by decide +kernel) (off := 128) (tgt := 160) (by rw [hs170]; decide) (by rw [hs170]; decide) (by rw [hs170]; rfl) (by decide) ?_
        refine am_b1 C0 am_YYk (pc := 160) (pc2 := 165) [(.aload_n 1, 0, 0, .null), (.aload_n 0, 0, 0, .null), (.iload_n 3, 0, 0, .null), (.iconst 1, 0, 0, .int 1), (.iadd, 0, 0, .null)] (L := [some (.ref 98), some (.ref 0), some (.ref 26), some (.int (l3))]) (st := []) (L' := [some (.ref 98), some (.ref 0), some (.ref 26), some (.int (l3))]) (st' := [.int (l3 + (1 : Int32)), .ref 98, .ref 0]) (g' := g) (w' := w) (cl := []) (by decide +kernel) rfl trivial ?_
        obtain ⟨hg29, hf⟩ := am_g hf
        refine am_sld C0.1 hX hg29 (by decide +kernel) ?_
        obtain ⟨q30, hq30, hf⟩ := Option.bind_eq_some_iff.mp hf
        refine am_callV (mi := mi_X7_write) (rm := rm_X7_write) [.int (xs (Int32.toNatClampNeg (l3 + (1 : Int32))))] C0.1 am_YYl cv_13_13 (M_X7_write _ g w (xs (Int32.toNatClampNeg (l3 + (1 : Int32)))) _ hq30) (ci := 7) rfl (by decide) rfl (by rw [hR]; rfl) rfl rfl (Nat.le_of_ble_eq_true rfl) (by decide +kernel) ?_
        refine am_b1 C0 am_YYk (pc := 169) (pc2 := 174) [(.aload_n 2, 0, 0, .null), (.aload_n 0, 0, 0, .null), (.iload_n 3, 0, 0, .null), (.iconst 1, 0, 0, .int 1), (.iadd, 0, 0, .null)] (L := [some (.ref 98), some (.ref 0), some (.ref 26), some (.int (l3))]) (st := [.int (q30.1)]) (L' := [some (.ref 98), some (.ref 0), some (.ref 26), some (.int (l3))]) (st' := [.int (l3 + (1 : Int32)), .ref 98, .ref 26, .int (q30.1)]) (g' := q30.2) (w' := w) (cl := []) (by decide +kernel) rfl trivial ?_
        obtain ⟨hg31, hf⟩ := am_g hf
        refine am_sld C0.1 hX hg31 (by decide +kernel) ?_
        obtain ⟨q32, hq32, hf⟩ := Option.bind_eq_some_iff.mp hf
        refine am_callV (mi := mi_X8_write) (rm := rm_X8_write) [.int (xs (Int32.toNatClampNeg (l3 + (1 : Int32))))] C0.1 am_YYl cv_13_17 (M_X8_write _ q30.2 w (xs (Int32.toNatClampNeg (l3 + (1 : Int32)))) _ hq32) (ci := 8) rfl (by decide) rfl (by rw [hR]; rfl) rfl rfl (Nat.le_of_ble_eq_true rfl) (by decide +kernel) ?_
        refine am_icmp_eq C0 (off := 831) (tgt := 1009) (by decide +kernel) (fun hc33 => ?_) (fun hc33 => ?_)
        · rw [if_pos hc33] at hf
          exact B_L_law_1009 x C0 hR Q hret F xs Ls hX R hR1 _ (fun l3 g w hf => ih l3 g w hf) (l3) (q32.2) (w) hf
        · rw [if_neg hc33] at hf
          refine am_b1 C0 am_YYk (pc := 181) (pc2 := 182) [(.iconst 0, 0, 0, .int 0)] (L := [some (.ref 98), some (.ref 0), some (.ref 26), some (.int (l3))]) (st := []) (L' := [some (.ref 98), some (.ref 0), some (.ref 26), some (.int (l3))]) (st' := [.int ((0 : Int32))]) (g' := q32.2) (w' := w) (cl := []) (by decide +kernel) rfl trivial ?_
          cases hf
          exact absurd hR1 (by decide)
      rw [if_neg hs170] at hf
      by_cases hs171 : ((xs (Int32.toNatClampNeg l3)) &&& (31 : Int32)) = (1 : Int32)
      · rw [if_pos hs171] at hf
        refine am_swIn C0 (n := 128) (dflt := 977) (lo := 0) (hi := 27) (offs := #[128, 151, 164, 177, 190, 223, 256, 269, 302, 315, 328, 387, 420, 443, 476, 539, 598, 611, 650, 663, 706, 739, 762, 831, 885, 908, 931, 954]) (by decide +kernel) (off := 151) (tgt := 183) (by rw [hs171]; decide) (by rw [hs171]; decide) (by rw [hs171]; rfl) (by decide) ?_
        refine am_b1 C0 am_YYk (pc := 183) (pc2 := 184) [(.aload_n 1, 0, 0, .null)] (L := [some (.ref 98), some (.ref 0), some (.ref 26), some (.int (l3))]) (st := []) (L' := [some (.ref 98), some (.ref 0), some (.ref 26), some (.int (l3))]) (st' := [.ref 0]) (g' := g) (w' := w) (cl := []) (by decide +kernel) rfl trivial ?_
        obtain ⟨q34, hq34, hf⟩ := Option.bind_eq_some_iff.mp hf
        refine am_callV (mi := mi_X7_wipe) (rm := rm_X7_wipe) [] C0.1 am_YYl cv_13_18 (M_X7_wipe _ g w _ hq34) (ci := 7) rfl (by decide) rfl (by rw [hR]; rfl) rfl rfl (Nat.le_of_ble_eq_true rfl) (by decide +kernel) ?_
        refine am_b1 C0 am_YYk (pc := 187) (pc2 := 188) [(.aload_n 2, 0, 0, .null)] (L := [some (.ref 98), some (.ref 0), some (.ref 26), some (.int (l3))]) (st := [.int (q34.1)]) (L' := [some (.ref 98), some (.ref 0), some (.ref 26), some (.int (l3))]) (st' := [.ref 26, .int (q34.1)]) (g' := q34.2) (w' := w) (cl := []) (by decide +kernel) rfl trivial ?_
        obtain ⟨q35, hq35, hf⟩ := Option.bind_eq_some_iff.mp hf
        refine am_callV (mi := mi_X8_wipe) (rm := rm_X8_wipe) [] C0.1 am_YYl cv_13_22 (M_X8_wipe _ q34.2 w _ hq35) (ci := 8) rfl (by decide) rfl (by rw [hR]; rfl) rfl rfl (Nat.le_of_ble_eq_true rfl) (by decide +kernel) ?_
        refine am_icmp_eq C0 (off := 818) (tgt := 1009) (by decide +kernel) (fun hc36 => ?_) (fun hc36 => ?_)
        · rw [if_pos hc36] at hf
          exact B_L_law_1009 x C0 hR Q hret F xs Ls hX R hR1 _ (fun l3 g w hf => ih l3 g w hf) (l3) (q35.2) (w) hf
        · rw [if_neg hc36] at hf
          refine am_b1 C0 am_YYk (pc := 194) (pc2 := 195) [(.iconst 0, 0, 0, .int 0)] (L := [some (.ref 98), some (.ref 0), some (.ref 26), some (.int (l3))]) (st := []) (L' := [some (.ref 98), some (.ref 0), some (.ref 26), some (.int (l3))]) (st' := [.int ((0 : Int32))]) (g' := q35.2) (w' := w) (cl := []) (by decide +kernel) rfl trivial ?_
          cases hf
          exact absurd hR1 (by decide)
      rw [if_neg hs171] at hf
      by_cases hs172 : ((xs (Int32.toNatClampNeg l3)) &&& (31 : Int32)) = (2 : Int32)
      · rw [if_pos hs172] at hf
        refine am_swIn C0 (n := 128) (dflt := 977) (lo := 0) (hi := 27) (offs := #[128, 151, 164, 177, 190, 223, 256, 269, 302, 315, 328, 387, 420, 443, 476, 539, 598, 611, 650, 663, 706, 739, 762, 831, 885, 908, 931, 954]) (by decide +kernel) (off := 164) (tgt := 196) (by rw [hs172]; decide) (by rw [hs172]; decide) (by rw [hs172]; rfl) (by decide) ?_
        refine am_b1 C0 am_YYk (pc := 196) (pc2 := 197) [(.aload_n 1, 0, 0, .null)] (L := [some (.ref 98), some (.ref 0), some (.ref 26), some (.int (l3))]) (st := []) (L' := [some (.ref 98), some (.ref 0), some (.ref 26), some (.int (l3))]) (st' := [.ref 0]) (g' := g) (w' := w) (cl := []) (by decide +kernel) rfl trivial ?_
        obtain ⟨q37, hq37, hf⟩ := Option.bind_eq_some_iff.mp hf
        refine am_callV (mi := mi_X7_fault) (rm := rm_X7_fault) [] C0.1 am_YYl cv_13_23 (M_X7_fault _ F g w _ hq37) (ci := 7) rfl (by decide) rfl (by rw [hR]; rfl) rfl rfl (Nat.le_of_ble_eq_true rfl) (by decide +kernel) ?_
        refine am_b1 C0 am_YYk (pc := 200) (pc2 := 201) [(.aload_n 2, 0, 0, .null)] (L := [some (.ref 98), some (.ref 0), some (.ref 26), some (.int (l3))]) (st := [.int (q37)]) (L' := [some (.ref 98), some (.ref 0), some (.ref 26), some (.int (l3))]) (st' := [.ref 26, .int (q37)]) (g' := g) (w' := w) (cl := []) (by decide +kernel) rfl trivial ?_
        obtain ⟨q38, hq38, hf⟩ := Option.bind_eq_some_iff.mp hf
        refine am_callV (mi := mi_X8_fault) (rm := rm_X8_fault) [] C0.1 am_YYl cv_13_26 (M_X8_fault _ F g w _ hq38) (ci := 8) rfl (by decide) rfl (by rw [hR]; rfl) rfl rfl (Nat.le_of_ble_eq_true rfl) (by decide +kernel) ?_
        refine am_icmp_eq C0 (off := 805) (tgt := 1009) (by decide +kernel) (fun hc39 => ?_) (fun hc39 => ?_)
        · rw [if_pos hc39] at hf
          exact B_L_law_1009 x C0 hR Q hret F xs Ls hX R hR1 _ (fun l3 g w hf => ih l3 g w hf) (l3) (q38.2) (w) hf
        · rw [if_neg hc39] at hf
          refine am_b1 C0 am_YYk (pc := 207) (pc2 := 208) [(.iconst 0, 0, 0, .int 0)] (L := [some (.ref 98), some (.ref 0), some (.ref 26), some (.int (l3))]) (st := []) (L' := [some (.ref 98), some (.ref 0), some (.ref 26), some (.int (l3))]) (st' := [.int ((0 : Int32))]) (g' := q38.2) (w' := w) (cl := []) (by decide +kernel) rfl trivial ?_
          cases hf
          exact absurd hR1 (by decide)
      rw [if_neg hs172] at hf
      by_cases hs173 : ((xs (Int32.toNatClampNeg l3)) &&& (31 : Int32)) = (3 : Int32)
      · rw [if_pos hs173] at hf
        refine am_swIn C0 (n := 128) (dflt := 977) (lo := 0) (hi := 27) (offs := #[128, 151, 164, 177, 190, 223, 256, 269, 302, 315, 328, 387, 420, 443, 476, 539, 598, 611, 650, 663, 706, 739, 762, 831, 885, 908, 931, 954]) (by decide +kernel) (off := 177) (tgt := 209) (by rw [hs173]; decide) (by rw [hs173]; decide) (by rw [hs173]; rfl) (by decide) ?_
        refine am_b1 C0 am_YYk (pc := 209) (pc2 := 210) [(.aload_n 1, 0, 0, .null)] (L := [some (.ref 98), some (.ref 0), some (.ref 26), some (.int (l3))]) (st := []) (L' := [some (.ref 98), some (.ref 0), some (.ref 26), some (.int (l3))]) (st' := [.ref 0]) (g' := g) (w' := w) (cl := []) (by decide +kernel) rfl trivial ?_
        obtain ⟨q40, hq40, hf⟩ := Option.bind_eq_some_iff.mp hf
        refine am_callV (mi := mi_X7_town) (rm := rm_X7_town) [] C0.1 am_YYl cv_13_27 (M_X7_town _ F g w _ hq40) (ci := 7) rfl (by decide) rfl (by rw [hR]; rfl) rfl rfl (Nat.le_of_ble_eq_true rfl) (by decide +kernel) ?_
        refine am_b1 C0 am_YYk (pc := 213) (pc2 := 214) [(.aload_n 2, 0, 0, .null)] (L := [some (.ref 98), some (.ref 0), some (.ref 26), some (.int (l3))]) (st := [.int (q40.1)]) (L' := [some (.ref 98), some (.ref 0), some (.ref 26), some (.int (l3))]) (st' := [.ref 26, .int (q40.1)]) (g' := q40.2) (w' := w) (cl := []) (by decide +kernel) rfl trivial ?_
        obtain ⟨q41, hq41, hf⟩ := Option.bind_eq_some_iff.mp hf
        refine am_callV (mi := mi_X8_town) (rm := rm_X8_town) [] C0.1 am_YYl cv_13_30 (M_X8_town _ F q40.2 w _ hq41) (ci := 8) rfl (by decide) rfl (by rw [hR]; rfl) rfl rfl (Nat.le_of_ble_eq_true rfl) (by decide +kernel) ?_
        refine am_icmp_eq C0 (off := 792) (tgt := 1009) (by decide +kernel) (fun hc42 => ?_) (fun hc42 => ?_)
        · rw [if_pos hc42] at hf
          exact B_L_law_1009 x C0 hR Q hret F xs Ls hX R hR1 _ (fun l3 g w hf => ih l3 g w hf) (l3) (q41.2) (w) hf
        · rw [if_neg hc42] at hf
          refine am_b1 C0 am_YYk (pc := 220) (pc2 := 221) [(.iconst 0, 0, 0, .int 0)] (L := [some (.ref 98), some (.ref 0), some (.ref 26), some (.int (l3))]) (st := []) (L' := [some (.ref 98), some (.ref 0), some (.ref 26), some (.int (l3))]) (st' := [.int ((0 : Int32))]) (g' := q41.2) (w' := w) (cl := []) (by decide +kernel) rfl trivial ?_
          cases hf
          exact absurd hR1 (by decide)
      rw [if_neg hs173] at hf
      by_cases hs174 : ((xs (Int32.toNatClampNeg l3)) &&& (31 : Int32)) = (4 : Int32)
      · rw [if_pos hs174] at hf
        refine am_swIn C0 (n := 128) (dflt := 977) (lo := 0) (hi := 27) (offs := #[128, 151, 164, 177, 190, 223, 256, 269, 302, 315, 328, 387, 420, 443, 476, 539, 598, 611, 650, 663, 706, 739, 762, 831, 885, 908, 931, 954]) (by decide +kernel) (off := 190) (tgt := 222) (by rw [hs174]; decide) (by rw [hs174]; decide) (by rw [hs174]; rfl) (by decide) ?_
        refine am_b1 C0 am_YYk (pc := 222) (pc2 := 227) [(.aload_n 1, 0, 0, .null), (.aload_n 0, 0, 0, .null), (.iload_n 3, 0, 0, .null), (.iconst 1, 0, 0, .int 1), (.iadd, 0, 0, .null)] (L := [some (.ref 98), some (.ref 0), some (.ref 26), some (.int (l3))]) (st := []) (L' := [some (.ref 98), some (.ref 0), some (.ref 26), some (.int (l3))]) (st' := [.int (l3 + (1 : Int32)), .ref 98, .ref 0]) (g' := g) (w' := w) (cl := []) (by decide +kernel) rfl trivial ?_
        obtain ⟨hg43, hf⟩ := am_g hf
        refine am_sld C0.1 hX hg43 (by decide +kernel) ?_
        refine am_b1 C0 am_YYk (pc := 228) (pc2 := 232) [(.aload_n 0, 0, 0, .null), (.iload_n 3, 0, 0, .null), (.iconst 2, 0, 0, .int 2), (.iadd, 0, 0, .null)] (L := [some (.ref 98), some (.ref 0), some (.ref 26), some (.int (l3))]) (st := [.int (xs (Int32.toNatClampNeg (l3 + (1 : Int32)))), .ref 0]) (L' := [some (.ref 98), some (.ref 0), some (.ref 26), some (.int (l3))]) (st' := [.int (l3 + (2 : Int32)), .ref 98, .int (xs (Int32.toNatClampNeg (l3 + (1 : Int32)))), .ref 0]) (g' := g) (w' := w) (cl := []) (by decide +kernel) rfl trivial ?_
        obtain ⟨hg44, hf⟩ := am_g hf
        refine am_sld C0.1 hX hg44 (by decide +kernel) ?_
        obtain ⟨q45, hq45, hf⟩ := Option.bind_eq_some_iff.mp hf
        refine am_callV (mi := mi_X7_window) (rm := rm_X7_window) [.int (xs (Int32.toNatClampNeg (l3 + (1 : Int32)))), .int (xs (Int32.toNatClampNeg (l3 + (2 : Int32))))] C0.1 am_YYl cv_13_31 (M_X7_window _ g w (xs (Int32.toNatClampNeg (l3 + (1 : Int32)))) (xs (Int32.toNatClampNeg (l3 + (2 : Int32)))) _ hq45) (ci := 7) rfl (by decide) rfl (by rw [hR]; rfl) rfl rfl (Nat.le_of_ble_eq_true rfl) (by decide +kernel) ?_
        refine am_b1 C0 am_YYk (pc := 236) (pc2 := 241) [(.aload_n 2, 0, 0, .null), (.aload_n 0, 0, 0, .null), (.iload_n 3, 0, 0, .null), (.iconst 1, 0, 0, .int 1), (.iadd, 0, 0, .null)] (L := [some (.ref 98), some (.ref 0), some (.ref 26), some (.int (l3))]) (st := [.int (q45)]) (L' := [some (.ref 98), some (.ref 0), some (.ref 26), some (.int (l3))]) (st' := [.int (l3 + (1 : Int32)), .ref 98, .ref 26, .int (q45)]) (g' := g) (w' := w) (cl := []) (by decide +kernel) rfl trivial ?_
        obtain ⟨hg46, hf⟩ := am_g hf
        refine am_sld C0.1 hX hg46 (by decide +kernel) ?_
        refine am_b1 C0 am_YYk (pc := 242) (pc2 := 246) [(.aload_n 0, 0, 0, .null), (.iload_n 3, 0, 0, .null), (.iconst 2, 0, 0, .int 2), (.iadd, 0, 0, .null)] (L := [some (.ref 98), some (.ref 0), some (.ref 26), some (.int (l3))]) (st := [.int (xs (Int32.toNatClampNeg (l3 + (1 : Int32)))), .ref 26, .int (q45)]) (L' := [some (.ref 98), some (.ref 0), some (.ref 26), some (.int (l3))]) (st' := [.int (l3 + (2 : Int32)), .ref 98, .int (xs (Int32.toNatClampNeg (l3 + (1 : Int32)))), .ref 26, .int (q45)]) (g' := g) (w' := w) (cl := []) (by decide +kernel) rfl trivial ?_
        obtain ⟨hg47, hf⟩ := am_g hf
        refine am_sld C0.1 hX hg47 (by decide +kernel) ?_
        obtain ⟨q48, hq48, hf⟩ := Option.bind_eq_some_iff.mp hf
        refine am_callV (mi := mi_X8_window) (rm := rm_X8_window) [.int (xs (Int32.toNatClampNeg (l3 + (1 : Int32)))), .int (xs (Int32.toNatClampNeg (l3 + (2 : Int32))))] C0.1 am_YYl cv_13_35 (M_X8_window _ F g w (xs (Int32.toNatClampNeg (l3 + (1 : Int32)))) (xs (Int32.toNatClampNeg (l3 + (2 : Int32)))) _ hq48) (ci := 8) rfl (by decide) rfl (by rw [hR]; rfl) rfl rfl (Nat.le_of_ble_eq_true rfl) (by decide +kernel) ?_
        refine am_icmp_eq C0 (off := 759) (tgt := 1009) (by decide +kernel) (fun hc49 => ?_) (fun hc49 => ?_)
        · rw [if_pos hc49] at hf
          exact B_L_law_1009 x C0 hR Q hret F xs Ls hX R hR1 _ (fun l3 g w hf => ih l3 g w hf) (l3) (g) (w) hf
        · rw [if_neg hc49] at hf
          refine am_b1 C0 am_YYk (pc := 253) (pc2 := 254) [(.iconst 0, 0, 0, .int 0)] (L := [some (.ref 98), some (.ref 0), some (.ref 26), some (.int (l3))]) (st := []) (L' := [some (.ref 98), some (.ref 0), some (.ref 26), some (.int (l3))]) (st' := [.int ((0 : Int32))]) (g' := g) (w' := w) (cl := []) (by decide +kernel) rfl trivial ?_
          cases hf
          exact absurd hR1 (by decide)
      rw [if_neg hs174] at hf
      by_cases hs175 : ((xs (Int32.toNatClampNeg l3)) &&& (31 : Int32)) = (5 : Int32)
      · rw [if_pos hs175] at hf
        refine am_swIn C0 (n := 128) (dflt := 977) (lo := 0) (hi := 27) (offs := #[128, 151, 164, 177, 190, 223, 256, 269, 302, 315, 328, 387, 420, 443, 476, 539, 598, 611, 650, 663, 706, 739, 762, 831, 885, 908, 931, 954]) (by decide +kernel) (off := 223) (tgt := 255) (by rw [hs175]; decide) (by rw [hs175]; decide) (by rw [hs175]; rfl) (by decide) ?_
        refine am_b1 C0 am_YYk (pc := 255) (pc2 := 260) [(.aload_n 1, 0, 0, .null), (.aload_n 0, 0, 0, .null), (.iload_n 3, 0, 0, .null), (.iconst 1, 0, 0, .int 1), (.iadd, 0, 0, .null)] (L := [some (.ref 98), some (.ref 0), some (.ref 26), some (.int (l3))]) (st := []) (L' := [some (.ref 98), some (.ref 0), some (.ref 26), some (.int (l3))]) (st' := [.int (l3 + (1 : Int32)), .ref 98, .ref 0]) (g' := g) (w' := w) (cl := []) (by decide +kernel) rfl trivial ?_
        obtain ⟨hg50, hf⟩ := am_g hf
        refine am_sld C0.1 hX hg50 (by decide +kernel) ?_
        refine am_b1 C0 am_YYk (pc := 261) (pc2 := 265) [(.aload_n 0, 0, 0, .null), (.iload_n 3, 0, 0, .null), (.iconst 2, 0, 0, .int 2), (.iadd, 0, 0, .null)] (L := [some (.ref 98), some (.ref 0), some (.ref 26), some (.int (l3))]) (st := [.int (xs (Int32.toNatClampNeg (l3 + (1 : Int32)))), .ref 0]) (L' := [some (.ref 98), some (.ref 0), some (.ref 26), some (.int (l3))]) (st' := [.int (l3 + (2 : Int32)), .ref 98, .int (xs (Int32.toNatClampNeg (l3 + (1 : Int32)))), .ref 0]) (g' := g) (w' := w) (cl := []) (by decide +kernel) rfl trivial ?_
        obtain ⟨hg51, hf⟩ := am_g hf
        refine am_sld C0.1 hX hg51 (by decide +kernel) ?_
        obtain ⟨q52, hq52, hf⟩ := Option.bind_eq_some_iff.mp hf
        refine am_callV (mi := mi_X7_move) (rm := rm_X7_move) [.int (xs (Int32.toNatClampNeg (l3 + (1 : Int32)))), .int (xs (Int32.toNatClampNeg (l3 + (2 : Int32))))] C0.1 am_YYl cv_13_36 (M_X7_move _ g w (xs (Int32.toNatClampNeg (l3 + (1 : Int32)))) (xs (Int32.toNatClampNeg (l3 + (2 : Int32)))) _ hq52) (ci := 7) rfl (by decide) rfl (by rw [hR]; rfl) rfl rfl (Nat.le_of_ble_eq_true rfl) (by decide +kernel) ?_
        refine am_b1 C0 am_YYk (pc := 269) (pc2 := 274) [(.aload_n 2, 0, 0, .null), (.aload_n 0, 0, 0, .null), (.iload_n 3, 0, 0, .null), (.iconst 1, 0, 0, .int 1), (.iadd, 0, 0, .null)] (L := [some (.ref 98), some (.ref 0), some (.ref 26), some (.int (l3))]) (st := [.int (q52.1)]) (L' := [some (.ref 98), some (.ref 0), some (.ref 26), some (.int (l3))]) (st' := [.int (l3 + (1 : Int32)), .ref 98, .ref 26, .int (q52.1)]) (g' := q52.2) (w' := w) (cl := []) (by decide +kernel) rfl trivial ?_
        obtain ⟨hg53, hf⟩ := am_g hf
        refine am_sld C0.1 hX hg53 (by decide +kernel) ?_
        refine am_b1 C0 am_YYk (pc := 275) (pc2 := 279) [(.aload_n 0, 0, 0, .null), (.iload_n 3, 0, 0, .null), (.iconst 2, 0, 0, .int 2), (.iadd, 0, 0, .null)] (L := [some (.ref 98), some (.ref 0), some (.ref 26), some (.int (l3))]) (st := [.int (xs (Int32.toNatClampNeg (l3 + (1 : Int32)))), .ref 26, .int (q52.1)]) (L' := [some (.ref 98), some (.ref 0), some (.ref 26), some (.int (l3))]) (st' := [.int (l3 + (2 : Int32)), .ref 98, .int (xs (Int32.toNatClampNeg (l3 + (1 : Int32)))), .ref 26, .int (q52.1)]) (g' := q52.2) (w' := w) (cl := []) (by decide +kernel) rfl trivial ?_
        obtain ⟨hg54, hf⟩ := am_g hf
        refine am_sld C0.1 hX hg54 (by decide +kernel) ?_
        obtain ⟨q55, hq55, hf⟩ := Option.bind_eq_some_iff.mp hf
        refine am_callV (mi := mi_X8_move) (rm := rm_X8_move) [.int (xs (Int32.toNatClampNeg (l3 + (1 : Int32)))), .int (xs (Int32.toNatClampNeg (l3 + (2 : Int32))))] C0.1 am_YYl cv_13_39 (M_X8_move _ F q52.2 w (xs (Int32.toNatClampNeg (l3 + (1 : Int32)))) (xs (Int32.toNatClampNeg (l3 + (2 : Int32)))) _ hq55) (ci := 8) rfl (by decide) rfl (by rw [hR]; rfl) rfl rfl (Nat.le_of_ble_eq_true rfl) (by decide +kernel) ?_
        refine am_icmp_eq C0 (off := 726) (tgt := 1009) (by decide +kernel) (fun hc56 => ?_) (fun hc56 => ?_)
        · rw [if_pos hc56] at hf
          exact B_L_law_1009 x C0 hR Q hret F xs Ls hX R hR1 _ (fun l3 g w hf => ih l3 g w hf) (l3) (q55.2) (w) hf
        · rw [if_neg hc56] at hf
          refine am_b1 C0 am_YYk (pc := 286) (pc2 := 287) [(.iconst 0, 0, 0, .int 0)] (L := [some (.ref 98), some (.ref 0), some (.ref 26), some (.int (l3))]) (st := []) (L' := [some (.ref 98), some (.ref 0), some (.ref 26), some (.int (l3))]) (st' := [.int ((0 : Int32))]) (g' := q55.2) (w' := w) (cl := []) (by decide +kernel) rfl trivial ?_
          cases hf
          exact absurd hR1 (by decide)
      rw [if_neg hs175] at hf
      by_cases hs176 : ((xs (Int32.toNatClampNeg l3)) &&& (31 : Int32)) = (6 : Int32)
      · rw [if_pos hs176] at hf
        refine am_swIn C0 (n := 128) (dflt := 977) (lo := 0) (hi := 27) (offs := #[128, 151, 164, 177, 190, 223, 256, 269, 302, 315, 328, 387, 420, 443, 476, 539, 598, 611, 650, 663, 706, 739, 762, 831, 885, 908, 931, 954]) (by decide +kernel) (off := 256) (tgt := 288) (by rw [hs176]; decide) (by rw [hs176]; decide) (by rw [hs176]; rfl) (by decide) ?_
        refine am_b1 C0 am_YYk (pc := 288) (pc2 := 289) [(.aload_n 1, 0, 0, .null)] (L := [some (.ref 98), some (.ref 0), some (.ref 26), some (.int (l3))]) (st := []) (L' := [some (.ref 98), some (.ref 0), some (.ref 26), some (.int (l3))]) (st' := [.ref 0]) (g' := g) (w' := w) (cl := []) (by decide +kernel) rfl trivial ?_
        obtain ⟨q57, hq57, hf⟩ := Option.bind_eq_some_iff.mp hf
        refine am_callV (mi := mi_X7_wind) (rm := rm_X7_wind) [] C0.1 am_YYl cv_13_40 (M_X7_wind _ F g w _ hq57) (ci := 7) rfl (by decide) rfl (by rw [hR]; rfl) rfl rfl (Nat.le_of_ble_eq_true rfl) (by decide +kernel) ?_
        refine am_b1 C0 am_YYk (pc := 292) (pc2 := 293) [(.aload_n 2, 0, 0, .null)] (L := [some (.ref 98), some (.ref 0), some (.ref 26), some (.int (l3))]) (st := [.int (q57.1)]) (L' := [some (.ref 98), some (.ref 0), some (.ref 26), some (.int (l3))]) (st' := [.ref 26, .int (q57.1)]) (g' := q57.2) (w' := w) (cl := []) (by decide +kernel) rfl trivial ?_
        obtain ⟨q58, hq58, hf⟩ := Option.bind_eq_some_iff.mp hf
        refine am_callV (mi := mi_X8_wind) (rm := rm_X8_wind) [] C0.1 am_YYl cv_13_43 (M_X8_wind _ F q57.2 w _ hq58) (ci := 8) rfl (by decide) rfl (by rw [hR]; rfl) rfl rfl (Nat.le_of_ble_eq_true rfl) (by decide +kernel) ?_
        refine am_icmp_eq C0 (off := 713) (tgt := 1009) (by decide +kernel) (fun hc59 => ?_) (fun hc59 => ?_)
        · rw [if_pos hc59] at hf
          exact B_L_law_1009 x C0 hR Q hret F xs Ls hX R hR1 _ (fun l3 g w hf => ih l3 g w hf) (l3) (q58.2) (w) hf
        · rw [if_neg hc59] at hf
          refine am_b1 C0 am_YYk (pc := 299) (pc2 := 300) [(.iconst 0, 0, 0, .int 0)] (L := [some (.ref 98), some (.ref 0), some (.ref 26), some (.int (l3))]) (st := []) (L' := [some (.ref 98), some (.ref 0), some (.ref 26), some (.int (l3))]) (st' := [.int ((0 : Int32))]) (g' := q58.2) (w' := w) (cl := []) (by decide +kernel) rfl trivial ?_
          cases hf
          exact absurd hR1 (by decide)
      rw [if_neg hs176] at hf
      by_cases hs177 : ((xs (Int32.toNatClampNeg l3)) &&& (31 : Int32)) = (7 : Int32)
      · rw [if_pos hs177] at hf
        refine am_swIn C0 (n := 128) (dflt := 977) (lo := 0) (hi := 27) (offs := #[128, 151, 164, 177, 190, 223, 256, 269, 302, 315, 328, 387, 420, 443, 476, 539, 598, 611, 650, 663, 706, 739, 762, 831, 885, 908, 931, 954]) (by decide +kernel) (off := 269) (tgt := 301) (by rw [hs177]; decide) (by rw [hs177]; decide) (by rw [hs177]; rfl) (by decide) ?_
        refine am_b1 C0 am_YYk (pc := 301) (pc2 := 306) [(.aload_n 1, 0, 0, .null), (.aload_n 0, 0, 0, .null), (.iload_n 3, 0, 0, .null), (.iconst 1, 0, 0, .int 1), (.iadd, 0, 0, .null)] (L := [some (.ref 98), some (.ref 0), some (.ref 26), some (.int (l3))]) (st := []) (L' := [some (.ref 98), some (.ref 0), some (.ref 26), some (.int (l3))]) (st' := [.int (l3 + (1 : Int32)), .ref 98, .ref 0]) (g' := g) (w' := w) (cl := []) (by decide +kernel) rfl trivial ?_
        obtain ⟨hg60, hf⟩ := am_g hf
        refine am_sld C0.1 hX hg60 (by decide +kernel) ?_
        refine am_b1 C0 am_YYk (pc := 307) (pc2 := 311) [(.aload_n 0, 0, 0, .null), (.iload_n 3, 0, 0, .null), (.iconst 2, 0, 0, .int 2), (.iadd, 0, 0, .null)] (L := [some (.ref 98), some (.ref 0), some (.ref 26), some (.int (l3))]) (st := [.int (xs (Int32.toNatClampNeg (l3 + (1 : Int32)))), .ref 0]) (L' := [some (.ref 98), some (.ref 0), some (.ref 26), some (.int (l3))]) (st' := [.int (l3 + (2 : Int32)), .ref 98, .int (xs (Int32.toNatClampNeg (l3 + (1 : Int32)))), .ref 0]) (g' := g) (w' := w) (cl := []) (by decide +kernel) rfl trivial ?_
        obtain ⟨hg61, hf⟩ := am_g hf
        refine am_sld C0.1 hX hg61 (by decide +kernel) ?_
        obtain ⟨q62, hq62, hf⟩ := Option.bind_eq_some_iff.mp hf
        refine am_callV (mi := mi_X7_pass) (rm := rm_X7_pass) [.int (xs (Int32.toNatClampNeg (l3 + (1 : Int32)))), .int (xs (Int32.toNatClampNeg (l3 + (2 : Int32))))] C0.1 am_YYl cv_13_44 (M_X7_pass _ F g w (xs (Int32.toNatClampNeg (l3 + (1 : Int32)))) (xs (Int32.toNatClampNeg (l3 + (2 : Int32)))) _ hq62) (ci := 7) rfl (by decide) rfl (by rw [hR]; rfl) rfl rfl (Nat.le_of_ble_eq_true rfl) (by decide +kernel) ?_
        refine am_b1 C0 am_YYk (pc := 315) (pc2 := 320) [(.aload_n 2, 0, 0, .null), (.aload_n 0, 0, 0, .null), (.iload_n 3, 0, 0, .null), (.iconst 1, 0, 0, .int 1), (.iadd, 0, 0, .null)] (L := [some (.ref 98), some (.ref 0), some (.ref 26), some (.int (l3))]) (st := [.int (q62.1)]) (L' := [some (.ref 98), some (.ref 0), some (.ref 26), some (.int (l3))]) (st' := [.int (l3 + (1 : Int32)), .ref 98, .ref 26, .int (q62.1)]) (g' := q62.2) (w' := w) (cl := []) (by decide +kernel) rfl trivial ?_
        obtain ⟨hg63, hf⟩ := am_g hf
        refine am_sld C0.1 hX hg63 (by decide +kernel) ?_
        refine am_b1 C0 am_YYk (pc := 321) (pc2 := 325) [(.aload_n 0, 0, 0, .null), (.iload_n 3, 0, 0, .null), (.iconst 2, 0, 0, .int 2), (.iadd, 0, 0, .null)] (L := [some (.ref 98), some (.ref 0), some (.ref 26), some (.int (l3))]) (st := [.int (xs (Int32.toNatClampNeg (l3 + (1 : Int32)))), .ref 26, .int (q62.1)]) (L' := [some (.ref 98), some (.ref 0), some (.ref 26), some (.int (l3))]) (st' := [.int (l3 + (2 : Int32)), .ref 98, .int (xs (Int32.toNatClampNeg (l3 + (1 : Int32)))), .ref 26, .int (q62.1)]) (g' := q62.2) (w' := w) (cl := []) (by decide +kernel) rfl trivial ?_
        obtain ⟨hg64, hf⟩ := am_g hf
        refine am_sld C0.1 hX hg64 (by decide +kernel) ?_
        obtain ⟨q65, hq65, hf⟩ := Option.bind_eq_some_iff.mp hf
        refine am_callV (mi := mi_X8_pass) (rm := rm_X8_pass) [.int (xs (Int32.toNatClampNeg (l3 + (1 : Int32)))), .int (xs (Int32.toNatClampNeg (l3 + (2 : Int32))))] C0.1 am_YYl cv_13_47 (M_X8_pass _ F q62.2 w (xs (Int32.toNatClampNeg (l3 + (1 : Int32)))) (xs (Int32.toNatClampNeg (l3 + (2 : Int32)))) _ hq65) (ci := 8) rfl (by decide) rfl (by rw [hR]; rfl) rfl rfl (Nat.le_of_ble_eq_true rfl) (by decide +kernel) ?_
        refine am_icmp_eq C0 (off := 680) (tgt := 1009) (by decide +kernel) (fun hc66 => ?_) (fun hc66 => ?_)
        · rw [if_pos hc66] at hf
          exact B_L_law_1009 x C0 hR Q hret F xs Ls hX R hR1 _ (fun l3 g w hf => ih l3 g w hf) (l3) (q65.2) (w) hf
        · rw [if_neg hc66] at hf
          refine am_b1 C0 am_YYk (pc := 332) (pc2 := 333) [(.iconst 0, 0, 0, .int 0)] (L := [some (.ref 98), some (.ref 0), some (.ref 26), some (.int (l3))]) (st := []) (L' := [some (.ref 98), some (.ref 0), some (.ref 26), some (.int (l3))]) (st' := [.int ((0 : Int32))]) (g' := q65.2) (w' := w) (cl := []) (by decide +kernel) rfl trivial ?_
          cases hf
          exact absurd hR1 (by decide)
      rw [if_neg hs177] at hf
      by_cases hs178 : ((xs (Int32.toNatClampNeg l3)) &&& (31 : Int32)) = (8 : Int32)
      · rw [if_pos hs178] at hf
        refine am_swIn C0 (n := 128) (dflt := 977) (lo := 0) (hi := 27) (offs := #[128, 151, 164, 177, 190, 223, 256, 269, 302, 315, 328, 387, 420, 443, 476, 539, 598, 611, 650, 663, 706, 739, 762, 831, 885, 908, 931, 954]) (by decide +kernel) (off := 302) (tgt := 334) (by rw [hs178]; decide) (by rw [hs178]; decide) (by rw [hs178]; rfl) (by decide) ?_
        refine am_b1 C0 am_YYk (pc := 334) (pc2 := 335) [(.aload_n 1, 0, 0, .null)] (L := [some (.ref 98), some (.ref 0), some (.ref 26), some (.int (l3))]) (st := []) (L' := [some (.ref 98), some (.ref 0), some (.ref 26), some (.int (l3))]) (st' := [.ref 0]) (g' := g) (w' := w) (cl := []) (by decide +kernel) rfl trivial ?_
        obtain ⟨q67, hq67, hf⟩ := Option.bind_eq_some_iff.mp hf
        refine am_callV (mi := mi_X7_hour) (rm := rm_X7_hour) [] C0.1 am_YYl cv_13_48 (M_X7_hour _ F g w _ hq67) (ci := 7) rfl (by decide) rfl (by rw [hR]; rfl) rfl rfl (Nat.le_of_ble_eq_true rfl) (by decide +kernel) ?_
        refine am_b1 C0 am_YYk (pc := 338) (pc2 := 339) [(.aload_n 2, 0, 0, .null)] (L := [some (.ref 98), some (.ref 0), some (.ref 26), some (.int (l3))]) (st := [.int (q67.1)]) (L' := [some (.ref 98), some (.ref 0), some (.ref 26), some (.int (l3))]) (st' := [.ref 26, .int (q67.1)]) (g' := q67.2) (w' := w) (cl := []) (by decide +kernel) rfl trivial ?_
        obtain ⟨q68, hq68, hf⟩ := Option.bind_eq_some_iff.mp hf
        refine am_callV (mi := mi_X8_hour) (rm := rm_X8_hour) [] C0.1 am_YYl cv_13_51 (M_X8_hour _ F q67.2 w _ hq68) (ci := 8) rfl (by decide) rfl (by rw [hR]; rfl) rfl rfl (Nat.le_of_ble_eq_true rfl) (by decide +kernel) ?_
        refine am_icmp_eq C0 (off := 667) (tgt := 1009) (by decide +kernel) (fun hc69 => ?_) (fun hc69 => ?_)
        · rw [if_pos hc69] at hf
          exact B_L_law_1009 x C0 hR Q hret F xs Ls hX R hR1 _ (fun l3 g w hf => ih l3 g w hf) (l3) (q68.2) (w) hf
        · rw [if_neg hc69] at hf
          refine am_b1 C0 am_YYk (pc := 345) (pc2 := 346) [(.iconst 0, 0, 0, .int 0)] (L := [some (.ref 98), some (.ref 0), some (.ref 26), some (.int (l3))]) (st := []) (L' := [some (.ref 98), some (.ref 0), some (.ref 26), some (.int (l3))]) (st' := [.int ((0 : Int32))]) (g' := q68.2) (w' := w) (cl := []) (by decide +kernel) rfl trivial ?_
          cases hf
          exact absurd hR1 (by decide)
      rw [if_neg hs178] at hf
      by_cases hs179 : ((xs (Int32.toNatClampNeg l3)) &&& (31 : Int32)) = (9 : Int32)
      · rw [if_pos hs179] at hf
        refine am_swIn C0 (n := 128) (dflt := 977) (lo := 0) (hi := 27) (offs := #[128, 151, 164, 177, 190, 223, 256, 269, 302, 315, 328, 387, 420, 443, 476, 539, 598, 611, 650, 663, 706, 739, 762, 831, 885, 908, 931, 954]) (by decide +kernel) (off := 315) (tgt := 347) (by rw [hs179]; decide) (by rw [hs179]; decide) (by rw [hs179]; rfl) (by decide) ?_
        refine am_b1 C0 am_YYk (pc := 347) (pc2 := 348) [(.aload_n 1, 0, 0, .null)] (L := [some (.ref 98), some (.ref 0), some (.ref 26), some (.int (l3))]) (st := []) (L' := [some (.ref 98), some (.ref 0), some (.ref 26), some (.int (l3))]) (st' := [.ref 0]) (g' := g) (w' := w) (cl := []) (by decide +kernel) rfl trivial ?_
        obtain ⟨q70, hq70, hf⟩ := Option.bind_eq_some_iff.mp hf
        refine am_callV (mi := mi_X7_undo) (rm := rm_X7_undo) [] C0.1 am_YYl cv_13_52 (M_X7_undo _ g w _ hq70) (ci := 7) rfl (by decide) rfl (by rw [hR]; rfl) rfl rfl (Nat.le_of_ble_eq_true rfl) (by decide +kernel) ?_
        refine am_b1 C0 am_YYk (pc := 351) (pc2 := 352) [(.aload_n 2, 0, 0, .null)] (L := [some (.ref 98), some (.ref 0), some (.ref 26), some (.int (l3))]) (st := [.int (q70.1)]) (L' := [some (.ref 98), some (.ref 0), some (.ref 26), some (.int (l3))]) (st' := [.ref 26, .int (q70.1)]) (g' := q70.2) (w' := w) (cl := []) (by decide +kernel) rfl trivial ?_
        obtain ⟨q71, hq71, hf⟩ := Option.bind_eq_some_iff.mp hf
        refine am_callV (mi := mi_X8_undo) (rm := rm_X8_undo) [] C0.1 am_YYl cv_13_55 (M_X8_undo _ F q70.2 w _ hq71) (ci := 8) rfl (by decide) rfl (by rw [hR]; rfl) rfl rfl (Nat.le_of_ble_eq_true rfl) (by decide +kernel) ?_
        refine am_icmp_eq C0 (off := 654) (tgt := 1009) (by decide +kernel) (fun hc72 => ?_) (fun hc72 => ?_)
        · rw [if_pos hc72] at hf
          exact B_L_law_1009 x C0 hR Q hret F xs Ls hX R hR1 _ (fun l3 g w hf => ih l3 g w hf) (l3) (q71.2) (w) hf
        · rw [if_neg hc72] at hf
          refine am_b1 C0 am_YYk (pc := 358) (pc2 := 359) [(.iconst 0, 0, 0, .int 0)] (L := [some (.ref 98), some (.ref 0), some (.ref 26), some (.int (l3))]) (st := []) (L' := [some (.ref 98), some (.ref 0), some (.ref 26), some (.int (l3))]) (st' := [.int ((0 : Int32))]) (g' := q71.2) (w' := w) (cl := []) (by decide +kernel) rfl trivial ?_
          cases hf
          exact absurd hR1 (by decide)
      rw [if_neg hs179] at hf
      by_cases hs180 : ((xs (Int32.toNatClampNeg l3)) &&& (31 : Int32)) = (10 : Int32)
      · rw [if_pos hs180] at hf
        refine am_swIn C0 (n := 128) (dflt := 977) (lo := 0) (hi := 27) (offs := #[128, 151, 164, 177, 190, 223, 256, 269, 302, 315, 328, 387, 420, 443, 476, 539, 598, 611, 650, 663, 706, 739, 762, 831, 885, 908, 931, 954]) (by decide +kernel) (off := 328) (tgt := 360) (by rw [hs180]; decide) (by rw [hs180]; decide) (by rw [hs180]; rfl) (by decide) ?_
        refine am_b1 C0 am_YYk (pc := 360) (pc2 := 365) [(.aload_n 1, 0, 0, .null), (.aload_n 0, 0, 0, .null), (.iload_n 3, 0, 0, .null), (.iconst 1, 0, 0, .int 1), (.iadd, 0, 0, .null)] (L := [some (.ref 98), some (.ref 0), some (.ref 26), some (.int (l3))]) (st := []) (L' := [some (.ref 98), some (.ref 0), some (.ref 26), some (.int (l3))]) (st' := [.int (l3 + (1 : Int32)), .ref 98, .ref 0]) (g' := g) (w' := w) (cl := []) (by decide +kernel) rfl trivial ?_
        obtain ⟨hg73, hf⟩ := am_g hf
        refine am_sld C0.1 hX hg73 (by decide +kernel) ?_
        refine am_b1 C0 am_YYk (pc := 366) (pc2 := 370) [(.aload_n 0, 0, 0, .null), (.iload_n 3, 0, 0, .null), (.iconst 2, 0, 0, .int 2), (.iadd, 0, 0, .null)] (L := [some (.ref 98), some (.ref 0), some (.ref 26), some (.int (l3))]) (st := [.int (xs (Int32.toNatClampNeg (l3 + (1 : Int32)))), .ref 0]) (L' := [some (.ref 98), some (.ref 0), some (.ref 26), some (.int (l3))]) (st' := [.int (l3 + (2 : Int32)), .ref 98, .int (xs (Int32.toNatClampNeg (l3 + (1 : Int32)))), .ref 0]) (g' := g) (w' := w) (cl := []) (by decide +kernel) rfl trivial ?_
        obtain ⟨hg74, hf⟩ := am_g hf
        refine am_sld C0.1 hX hg74 (by decide +kernel) ?_
        refine am_b1 C0 am_YYk (pc := 371) (pc2 := 375) [(.aload_n 0, 0, 0, .null), (.iload_n 3, 0, 0, .null), (.iconst 3, 0, 0, .int 3), (.iadd, 0, 0, .null)] (L := [some (.ref 98), some (.ref 0), some (.ref 26), some (.int (l3))]) (st := [.int (xs (Int32.toNatClampNeg (l3 + (2 : Int32)))), .int (xs (Int32.toNatClampNeg (l3 + (1 : Int32)))), .ref 0]) (L' := [some (.ref 98), some (.ref 0), some (.ref 26), some (.int (l3))]) (st' := [.int (l3 + (3 : Int32)), .ref 98, .int (xs (Int32.toNatClampNeg (l3 + (2 : Int32)))), .int (xs (Int32.toNatClampNeg (l3 + (1 : Int32)))), .ref 0]) (g' := g) (w' := w) (cl := []) (by decide +kernel) rfl trivial ?_
        obtain ⟨hg75, hf⟩ := am_g hf
        refine am_sld C0.1 hX hg75 (by decide +kernel) ?_
        refine am_if_eq C0 (off := 7) (tgt := 383) (by decide +kernel) (fun hc76 => ?_) (fun hc76 => ?_)
        · rw [if_pos hc76] at hf
          refine am_b1 C0 am_YYk (pc := 383) (pc2 := 384) [(.iconst 0, 0, 0, .int 0)] (L := [some (.ref 98), some (.ref 0), some (.ref 26), some (.int (l3))]) (st := [.int (xs (Int32.toNatClampNeg (l3 + (2 : Int32)))), .int (xs (Int32.toNatClampNeg (l3 + (1 : Int32)))), .ref 0]) (L' := [some (.ref 98), some (.ref 0), some (.ref 26), some (.int (l3))]) (st' := [.int ((0 : Int32)), .int (xs (Int32.toNatClampNeg (l3 + (2 : Int32)))), .int (xs (Int32.toNatClampNeg (l3 + (1 : Int32)))), .ref 0]) (g' := g) (w' := w) (cl := []) (by decide +kernel) rfl trivial ?_
          exact B_L_law_384 x C0 hR Q hret F xs Ls hX R hR1 _ (fun l3 g w hf => ih l3 g w hf) (l3) (xs (Int32.toNatClampNeg (l3 + (1 : Int32)))) (xs (Int32.toNatClampNeg (l3 + (2 : Int32)))) ((0 : Int32)) (g) (w) hf
        · rw [if_neg hc76] at hf
          refine am_b1 C0 am_YYk (pc := 379) (pc2 := 380) [(.iconst 1, 0, 0, .int 1)] (L := [some (.ref 98), some (.ref 0), some (.ref 26), some (.int (l3))]) (st := [.int (xs (Int32.toNatClampNeg (l3 + (2 : Int32)))), .int (xs (Int32.toNatClampNeg (l3 + (1 : Int32)))), .ref 0]) (L' := [some (.ref 98), some (.ref 0), some (.ref 26), some (.int (l3))]) (st' := [.int ((1 : Int32)), .int (xs (Int32.toNatClampNeg (l3 + (2 : Int32)))), .int (xs (Int32.toNatClampNeg (l3 + (1 : Int32)))), .ref 0]) (g' := g) (w' := w) (cl := []) (by decide +kernel) rfl trivial ?_
          refine am_goto C0 (off := 4) (tgt := 384) (by decide +kernel) ?_
          exact B_L_law_384 x C0 hR Q hret F xs Ls hX R hR1 _ (fun l3 g w hf => ih l3 g w hf) (l3) (xs (Int32.toNatClampNeg (l3 + (1 : Int32)))) (xs (Int32.toNatClampNeg (l3 + (2 : Int32)))) ((1 : Int32)) (g) (w) hf
      rw [if_neg hs180] at hf
      by_cases hs181 : ((xs (Int32.toNatClampNeg l3)) &&& (31 : Int32)) = (11 : Int32)
      · rw [if_pos hs181] at hf
        refine am_swIn C0 (n := 128) (dflt := 977) (lo := 0) (hi := 27) (offs := #[128, 151, 164, 177, 190, 223, 256, 269, 302, 315, 328, 387, 420, 443, 476, 539, 598, 611, 650, 663, 706, 739, 762, 831, 885, 908, 931, 954]) (by decide +kernel) (off := 387) (tgt := 419) (by rw [hs181]; decide) (by rw [hs181]; decide) (by rw [hs181]; rfl) (by decide) ?_
        refine am_b1 C0 am_YYk (pc := 419) (pc2 := 424) [(.aload_n 1, 0, 0, .null), (.aload_n 0, 0, 0, .null), (.iload_n 3, 0, 0, .null), (.iconst 1, 0, 0, .int 1), (.iadd, 0, 0, .null)] (L := [some (.ref 98), some (.ref 0), some (.ref 26), some (.int (l3))]) (st := []) (L' := [some (.ref 98), some (.ref 0), some (.ref 26), some (.int (l3))]) (st' := [.int (l3 + (1 : Int32)), .ref 98, .ref 0]) (g' := g) (w' := w) (cl := []) (by decide +kernel) rfl trivial ?_
        obtain ⟨hg77, hf⟩ := am_g hf
        refine am_sld C0.1 hX hg77 (by decide +kernel) ?_
        refine am_b1 C0 am_YYk (pc := 425) (pc2 := 429) [(.aload_n 0, 0, 0, .null), (.iload_n 3, 0, 0, .null), (.iconst 2, 0, 0, .int 2), (.iadd, 0, 0, .null)] (L := [some (.ref 98), some (.ref 0), some (.ref 26), some (.int (l3))]) (st := [.int (xs (Int32.toNatClampNeg (l3 + (1 : Int32)))), .ref 0]) (L' := [some (.ref 98), some (.ref 0), some (.ref 26), some (.int (l3))]) (st' := [.int (l3 + (2 : Int32)), .ref 98, .int (xs (Int32.toNatClampNeg (l3 + (1 : Int32)))), .ref 0]) (g' := g) (w' := w) (cl := []) (by decide +kernel) rfl trivial ?_
        obtain ⟨hg78, hf⟩ := am_g hf
        refine am_sld C0.1 hX hg78 (by decide +kernel) ?_
        obtain ⟨q79, hq79, hf⟩ := Option.bind_eq_some_iff.mp hf
        refine am_callV (mi := mi_X7_knows) (rm := rm_X7_knows) [.int (xs (Int32.toNatClampNeg (l3 + (1 : Int32)))), .int (xs (Int32.toNatClampNeg (l3 + (2 : Int32))))] C0.1 am_YYl cv_13_61 (M_X7_knows _ F g w (xs (Int32.toNatClampNeg (l3 + (1 : Int32)))) (xs (Int32.toNatClampNeg (l3 + (2 : Int32)))) _ hq79) (ci := 7) rfl (by decide) rfl (by rw [hR]; rfl) rfl rfl (Nat.le_of_ble_eq_true rfl) (by decide +kernel) ?_
        refine am_b1 C0 am_YYk (pc := 433) (pc2 := 438) [(.aload_n 2, 0, 0, .null), (.aload_n 0, 0, 0, .null), (.iload_n 3, 0, 0, .null), (.iconst 1, 0, 0, .int 1), (.iadd, 0, 0, .null)] (L := [some (.ref 98), some (.ref 0), some (.ref 26), some (.int (l3))]) (st := [.int (q79.1)]) (L' := [some (.ref 98), some (.ref 0), some (.ref 26), some (.int (l3))]) (st' := [.int (l3 + (1 : Int32)), .ref 98, .ref 26, .int (q79.1)]) (g' := g) (w' := q79.2) (cl := []) (by decide +kernel) rfl trivial ?_
        obtain ⟨hg80, hf⟩ := am_g hf
        refine am_sld C0.1 hX hg80 (by decide +kernel) ?_
        refine am_b1 C0 am_YYk (pc := 439) (pc2 := 443) [(.aload_n 0, 0, 0, .null), (.iload_n 3, 0, 0, .null), (.iconst 2, 0, 0, .int 2), (.iadd, 0, 0, .null)] (L := [some (.ref 98), some (.ref 0), some (.ref 26), some (.int (l3))]) (st := [.int (xs (Int32.toNatClampNeg (l3 + (1 : Int32)))), .ref 26, .int (q79.1)]) (L' := [some (.ref 98), some (.ref 0), some (.ref 26), some (.int (l3))]) (st' := [.int (l3 + (2 : Int32)), .ref 98, .int (xs (Int32.toNatClampNeg (l3 + (1 : Int32)))), .ref 26, .int (q79.1)]) (g' := g) (w' := q79.2) (cl := []) (by decide +kernel) rfl trivial ?_
        obtain ⟨hg81, hf⟩ := am_g hf
        refine am_sld C0.1 hX hg81 (by decide +kernel) ?_
        obtain ⟨q82, hq82, hf⟩ := Option.bind_eq_some_iff.mp hf
        refine am_callV (mi := mi_X8_knows) (rm := rm_X8_knows) [.int (xs (Int32.toNatClampNeg (l3 + (1 : Int32)))), .int (xs (Int32.toNatClampNeg (l3 + (2 : Int32))))] C0.1 am_YYl cv_13_64 (M_X8_knows _ F g q79.2 (xs (Int32.toNatClampNeg (l3 + (1 : Int32)))) (xs (Int32.toNatClampNeg (l3 + (2 : Int32)))) _ hq82) (ci := 8) rfl (by decide) rfl (by rw [hR]; rfl) rfl rfl (Nat.le_of_ble_eq_true rfl) (by decide +kernel) ?_
        refine am_icmp_eq C0 (off := 562) (tgt := 1009) (by decide +kernel) (fun hc83 => ?_) (fun hc83 => ?_)
        · rw [if_pos hc83] at hf
          exact B_L_law_1009 x C0 hR Q hret F xs Ls hX R hR1 _ (fun l3 g w hf => ih l3 g w hf) (l3) (q82.2) (q79.2) hf
        · rw [if_neg hc83] at hf
          refine am_b1 C0 am_YYk (pc := 450) (pc2 := 451) [(.iconst 0, 0, 0, .int 0)] (L := [some (.ref 98), some (.ref 0), some (.ref 26), some (.int (l3))]) (st := []) (L' := [some (.ref 98), some (.ref 0), some (.ref 26), some (.int (l3))]) (st' := [.int ((0 : Int32))]) (g' := q82.2) (w' := q79.2) (cl := []) (by decide +kernel) rfl trivial ?_
          cases hf
          exact absurd hR1 (by decide)
      rw [if_neg hs181] at hf
      by_cases hs182 : ((xs (Int32.toNatClampNeg l3)) &&& (31 : Int32)) = (12 : Int32)
      · rw [if_pos hs182] at hf
        refine am_swIn C0 (n := 128) (dflt := 977) (lo := 0) (hi := 27) (offs := #[128, 151, 164, 177, 190, 223, 256, 269, 302, 315, 328, 387, 420, 443, 476, 539, 598, 611, 650, 663, 706, 739, 762, 831, 885, 908, 931, 954]) (by decide +kernel) (off := 420) (tgt := 452) (by rw [hs182]; decide) (by rw [hs182]; decide) (by rw [hs182]; rfl) (by decide) ?_
        refine am_b1 C0 am_YYk (pc := 452) (pc2 := 457) [(.aload_n 1, 0, 0, .null), (.aload_n 0, 0, 0, .null), (.iload_n 3, 0, 0, .null), (.iconst 1, 0, 0, .int 1), (.iadd, 0, 0, .null)] (L := [some (.ref 98), some (.ref 0), some (.ref 26), some (.int (l3))]) (st := []) (L' := [some (.ref 98), some (.ref 0), some (.ref 26), some (.int (l3))]) (st' := [.int (l3 + (1 : Int32)), .ref 98, .ref 0]) (g' := g) (w' := w) (cl := []) (by decide +kernel) rfl trivial ?_
        obtain ⟨hg84, hf⟩ := am_g hf
        refine am_sld C0.1 hX hg84 (by decide +kernel) ?_
        obtain ⟨q85, hq85, hf⟩ := Option.bind_eq_some_iff.mp hf
        refine am_callV (mi := mi_X7_toTell) (rm := rm_X7_toTell) [.int (xs (Int32.toNatClampNeg (l3 + (1 : Int32))))] C0.1 am_YYl cv_13_65 (M_X7_toTell _ F g w (xs (Int32.toNatClampNeg (l3 + (1 : Int32)))) _ hq85) (ci := 7) rfl (by decide) rfl (by rw [hR]; rfl) rfl rfl (Nat.le_of_ble_eq_true rfl) (by decide +kernel) ?_
        refine am_b1 C0 am_YYk (pc := 461) (pc2 := 466) [(.aload_n 2, 0, 0, .null), (.aload_n 0, 0, 0, .null), (.iload_n 3, 0, 0, .null), (.iconst 1, 0, 0, .int 1), (.iadd, 0, 0, .null)] (L := [some (.ref 98), some (.ref 0), some (.ref 26), some (.int (l3))]) (st := [.int (q85)]) (L' := [some (.ref 98), some (.ref 0), some (.ref 26), some (.int (l3))]) (st' := [.int (l3 + (1 : Int32)), .ref 98, .ref 26, .int (q85)]) (g' := g) (w' := w) (cl := []) (by decide +kernel) rfl trivial ?_
        obtain ⟨hg86, hf⟩ := am_g hf
        refine am_sld C0.1 hX hg86 (by decide +kernel) ?_
        obtain ⟨q87, hq87, hf⟩ := Option.bind_eq_some_iff.mp hf
        refine am_callV (mi := mi_X8_toTell) (rm := rm_X8_toTell) [.int (xs (Int32.toNatClampNeg (l3 + (1 : Int32))))] C0.1 am_YYl cv_13_68 (M_X8_toTell _ F g w (xs (Int32.toNatClampNeg (l3 + (1 : Int32)))) _ hq87) (ci := 8) rfl (by decide) rfl (by rw [hR]; rfl) rfl rfl (Nat.le_of_ble_eq_true rfl) (by decide +kernel) ?_
        refine am_icmp_eq C0 (off := 539) (tgt := 1009) (by decide +kernel) (fun hc88 => ?_) (fun hc88 => ?_)
        · rw [if_pos hc88] at hf
          exact B_L_law_1009 x C0 hR Q hret F xs Ls hX R hR1 _ (fun l3 g w hf => ih l3 g w hf) (l3) (g) (w) hf
        · rw [if_neg hc88] at hf
          refine am_b1 C0 am_YYk (pc := 473) (pc2 := 474) [(.iconst 0, 0, 0, .int 0)] (L := [some (.ref 98), some (.ref 0), some (.ref 26), some (.int (l3))]) (st := []) (L' := [some (.ref 98), some (.ref 0), some (.ref 26), some (.int (l3))]) (st' := [.int ((0 : Int32))]) (g' := g) (w' := w) (cl := []) (by decide +kernel) rfl trivial ?_
          cases hf
          exact absurd hR1 (by decide)
      rw [if_neg hs182] at hf
      by_cases hs183 : ((xs (Int32.toNatClampNeg l3)) &&& (31 : Int32)) = (13 : Int32)
      · rw [if_pos hs183] at hf
        refine am_swIn C0 (n := 128) (dflt := 977) (lo := 0) (hi := 27) (offs := #[128, 151, 164, 177, 190, 223, 256, 269, 302, 315, 328, 387, 420, 443, 476, 539, 598, 611, 650, 663, 706, 739, 762, 831, 885, 908, 931, 954]) (by decide +kernel) (off := 443) (tgt := 475) (by rw [hs183]; decide) (by rw [hs183]; decide) (by rw [hs183]; rfl) (by decide) ?_
        refine am_b1 C0 am_YYk (pc := 475) (pc2 := 480) [(.aload_n 1, 0, 0, .null), (.aload_n 0, 0, 0, .null), (.iload_n 3, 0, 0, .null), (.iconst 1, 0, 0, .int 1), (.iadd, 0, 0, .null)] (L := [some (.ref 98), some (.ref 0), some (.ref 26), some (.int (l3))]) (st := []) (L' := [some (.ref 98), some (.ref 0), some (.ref 26), some (.int (l3))]) (st' := [.int (l3 + (1 : Int32)), .ref 98, .ref 0]) (g' := g) (w' := w) (cl := []) (by decide +kernel) rfl trivial ?_
        obtain ⟨hg89, hf⟩ := am_g hf
        refine am_sld C0.1 hX hg89 (by decide +kernel) ?_
        refine am_b1 C0 am_YYk (pc := 481) (pc2 := 485) [(.aload_n 0, 0, 0, .null), (.iload_n 3, 0, 0, .null), (.iconst 2, 0, 0, .int 2), (.iadd, 0, 0, .null)] (L := [some (.ref 98), some (.ref 0), some (.ref 26), some (.int (l3))]) (st := [.int (xs (Int32.toNatClampNeg (l3 + (1 : Int32)))), .ref 0]) (L' := [some (.ref 98), some (.ref 0), some (.ref 26), some (.int (l3))]) (st' := [.int (l3 + (2 : Int32)), .ref 98, .int (xs (Int32.toNatClampNeg (l3 + (1 : Int32)))), .ref 0]) (g' := g) (w' := w) (cl := []) (by decide +kernel) rfl trivial ?_
        obtain ⟨hg90, hf⟩ := am_g hf
        refine am_sld C0.1 hX hg90 (by decide +kernel) ?_
        obtain ⟨q91, hq91, hf⟩ := Option.bind_eq_some_iff.mp hf
        refine am_callV (mi := mi_X7_cut) (rm := rm_X7_cut) [.int (xs (Int32.toNatClampNeg (l3 + (1 : Int32)))), .int (xs (Int32.toNatClampNeg (l3 + (2 : Int32))))] C0.1 am_YYl cv_13_69 (M_X7_cut _ F g w (xs (Int32.toNatClampNeg (l3 + (1 : Int32)))) (xs (Int32.toNatClampNeg (l3 + (2 : Int32)))) _ hq91) (ci := 7) rfl (by decide) rfl (by rw [hR]; rfl) rfl rfl (Nat.le_of_ble_eq_true rfl) (by decide +kernel) ?_
        refine am_b1 C0 am_YYk (pc := 489) (pc2 := 494) [(.aload_n 2, 0, 0, .null), (.aload_n 0, 0, 0, .null), (.iload_n 3, 0, 0, .null), (.iconst 1, 0, 0, .int 1), (.iadd, 0, 0, .null)] (L := [some (.ref 98), some (.ref 0), some (.ref 26), some (.int (l3))]) (st := [.int (q91.1)]) (L' := [some (.ref 98), some (.ref 0), some (.ref 26), some (.int (l3))]) (st' := [.int (l3 + (1 : Int32)), .ref 98, .ref 26, .int (q91.1)]) (g' := g) (w' := q91.2) (cl := []) (by decide +kernel) rfl trivial ?_
        obtain ⟨hg92, hf⟩ := am_g hf
        refine am_sld C0.1 hX hg92 (by decide +kernel) ?_
        refine am_b1 C0 am_YYk (pc := 495) (pc2 := 499) [(.aload_n 0, 0, 0, .null), (.iload_n 3, 0, 0, .null), (.iconst 2, 0, 0, .int 2), (.iadd, 0, 0, .null)] (L := [some (.ref 98), some (.ref 0), some (.ref 26), some (.int (l3))]) (st := [.int (xs (Int32.toNatClampNeg (l3 + (1 : Int32)))), .ref 26, .int (q91.1)]) (L' := [some (.ref 98), some (.ref 0), some (.ref 26), some (.int (l3))]) (st' := [.int (l3 + (2 : Int32)), .ref 98, .int (xs (Int32.toNatClampNeg (l3 + (1 : Int32)))), .ref 26, .int (q91.1)]) (g' := g) (w' := q91.2) (cl := []) (by decide +kernel) rfl trivial ?_
        obtain ⟨hg93, hf⟩ := am_g hf
        refine am_sld C0.1 hX hg93 (by decide +kernel) ?_
        obtain ⟨q94, hq94, hf⟩ := Option.bind_eq_some_iff.mp hf
        refine am_callV (mi := mi_X8_cut) (rm := rm_X8_cut) [.int (xs (Int32.toNatClampNeg (l3 + (1 : Int32)))), .int (xs (Int32.toNatClampNeg (l3 + (2 : Int32))))] C0.1 am_YYl cv_13_72 (M_X8_cut _ F g q91.2 (xs (Int32.toNatClampNeg (l3 + (1 : Int32)))) (xs (Int32.toNatClampNeg (l3 + (2 : Int32)))) _ hq94) (ci := 8) rfl (by decide) rfl (by rw [hR]; rfl) rfl rfl (Nat.le_of_ble_eq_true rfl) (by decide +kernel) ?_
        refine am_icmp_eq C0 (off := 506) (tgt := 1009) (by decide +kernel) (fun hc95 => ?_) (fun hc95 => ?_)
        · rw [if_pos hc95] at hf
          exact B_L_law_1009 x C0 hR Q hret F xs Ls hX R hR1 _ (fun l3 g w hf => ih l3 g w hf) (l3) (q94.2) (q91.2) hf
        · rw [if_neg hc95] at hf
          refine am_b1 C0 am_YYk (pc := 506) (pc2 := 507) [(.iconst 0, 0, 0, .int 0)] (L := [some (.ref 98), some (.ref 0), some (.ref 26), some (.int (l3))]) (st := []) (L' := [some (.ref 98), some (.ref 0), some (.ref 26), some (.int (l3))]) (st' := [.int ((0 : Int32))]) (g' := q94.2) (w' := q91.2) (cl := []) (by decide +kernel) rfl trivial ?_
          cases hf
          exact absurd hR1 (by decide)
      rw [if_neg hs183] at hf
      by_cases hs184 : ((xs (Int32.toNatClampNeg l3)) &&& (31 : Int32)) = (14 : Int32)
      · rw [if_pos hs184] at hf
        refine am_swIn C0 (n := 128) (dflt := 977) (lo := 0) (hi := 27) (offs := #[128, 151, 164, 177, 190, 223, 256, 269, 302, 315, 328, 387, 420, 443, 476, 539, 598, 611, 650, 663, 706, 739, 762, 831, 885, 908, 931, 954]) (by decide +kernel) (off := 476) (tgt := 508) (by rw [hs184]; decide) (by rw [hs184]; decide) (by rw [hs184]; rfl) (by decide) ?_
        refine am_b1 C0 am_YYk (pc := 508) (pc2 := 513) [(.aload_n 1, 0, 0, .null), (.aload_n 0, 0, 0, .null), (.iload_n 3, 0, 0, .null), (.iconst 1, 0, 0, .int 1), (.iadd, 0, 0, .null)] (L := [some (.ref 98), some (.ref 0), some (.ref 26), some (.int (l3))]) (st := []) (L' := [some (.ref 98), some (.ref 0), some (.ref 26), some (.int (l3))]) (st' := [.int (l3 + (1 : Int32)), .ref 98, .ref 0]) (g' := g) (w' := w) (cl := []) (by decide +kernel) rfl trivial ?_
        obtain ⟨hg96, hf⟩ := am_g hf
        refine am_sld C0.1 hX hg96 (by decide +kernel) ?_
        refine am_b1 C0 am_YYk (pc := 514) (pc2 := 518) [(.aload_n 0, 0, 0, .null), (.iload_n 3, 0, 0, .null), (.iconst 2, 0, 0, .int 2), (.iadd, 0, 0, .null)] (L := [some (.ref 98), some (.ref 0), some (.ref 26), some (.int (l3))]) (st := [.int (xs (Int32.toNatClampNeg (l3 + (1 : Int32)))), .ref 0]) (L' := [some (.ref 98), some (.ref 0), some (.ref 26), some (.int (l3))]) (st' := [.int (l3 + (2 : Int32)), .ref 98, .int (xs (Int32.toNatClampNeg (l3 + (1 : Int32)))), .ref 0]) (g' := g) (w' := w) (cl := []) (by decide +kernel) rfl trivial ?_
        obtain ⟨hg97, hf⟩ := am_g hf
        refine am_sld C0.1 hX hg97 (by decide +kernel) ?_
        refine am_b1 C0 am_YYk (pc := 519) (pc2 := 527) [(.i2l, 0, 0, .null), (.bipush 32, 0, 0, .int 32), (.lshl, 0, 0, .null), (.aload_n 0, 0, 0, .null), (.iload_n 3, 0, 0, .null), (.iconst 3, 0, 0, .int 3), (.iadd, 0, 0, .null)] (L := [some (.ref 98), some (.ref 0), some (.ref 26), some (.int (l3))]) (st := [.int (xs (Int32.toNatClampNeg (l3 + (2 : Int32)))), .int (xs (Int32.toNatClampNeg (l3 + (1 : Int32)))), .ref 0]) (L' := [some (.ref 98), some (.ref 0), some (.ref 26), some (.int (l3))]) (st' := [.int (l3 + (3 : Int32)), .ref 98, .long (am_lshl (Int32.toInt64 (xs (Int32.toNatClampNeg (l3 + (2 : Int32))))) (32 : Int32)), .int (xs (Int32.toNatClampNeg (l3 + (1 : Int32)))), .ref 0]) (g' := g) (w' := w) (cl := []) (by decide +kernel) rfl trivial ?_
        obtain ⟨hg98, hf⟩ := am_g hf
        refine am_sld C0.1 hX hg98 (by decide +kernel) ?_
        refine am_b1 C0 am_YYk (pc := 528) (pc2 := 534) [(.i2l, 0, 0, .null), (.ldc2_w 73, 0, 0, .long 4294967295), (.land, 0, 0, .null), (.lor, 0, 0, .null)] (L := [some (.ref 98), some (.ref 0), some (.ref 26), some (.int (l3))]) (st := [.int (xs (Int32.toNatClampNeg (l3 + (3 : Int32)))), .long (am_lshl (Int32.toInt64 (xs (Int32.toNatClampNeg (l3 + (2 : Int32))))) (32 : Int32)), .int (xs (Int32.toNatClampNeg (l3 + (1 : Int32)))), .ref 0]) (L' := [some (.ref 98), some (.ref 0), some (.ref 26), some (.int (l3))]) (st' := [.long ((am_lshl (Int32.toInt64 (xs (Int32.toNatClampNeg (l3 + (2 : Int32))))) (32 : Int32)) ||| ((Int32.toInt64 (xs (Int32.toNatClampNeg (l3 + (3 : Int32))))) &&& (4294967295 : Int64))), .int (xs (Int32.toNatClampNeg (l3 + (1 : Int32)))), .ref 0]) (g' := g) (w' := w) (cl := []) (by decide +kernel) rfl trivial ?_
        obtain ⟨q99, hq99, hf⟩ := Option.bind_eq_some_iff.mp hf
        refine am_callV (mi := mi_X7_judge) (rm := rm_X7_judge) [.int (xs (Int32.toNatClampNeg (l3 + (1 : Int32)))), .long ((am_lshl (Int32.toInt64 (xs (Int32.toNatClampNeg (l3 + (2 : Int32))))) (32 : Int32)) ||| ((Int32.toInt64 (xs (Int32.toNatClampNeg (l3 + (3 : Int32))))) &&& (4294967295 : Int64)))] C0.1 am_YYl cv_13_75 (M_X7_judge _ F g w (xs (Int32.toNatClampNeg (l3 + (1 : Int32)))) ((am_lshl (Int32.toInt64 (xs (Int32.toNatClampNeg (l3 + (2 : Int32))))) (32 : Int32)) ||| ((Int32.toInt64 (xs (Int32.toNatClampNeg (l3 + (3 : Int32))))) &&& (4294967295 : Int64))) _ hq99) (ci := 7) rfl (by decide) rfl (by rw [hR]; rfl) rfl rfl (Nat.le_of_ble_eq_true rfl) (by decide +kernel) ?_
        refine am_b1 C0 am_YYk (pc := 537) (pc2 := 542) [(.aload_n 2, 0, 0, .null), (.aload_n 0, 0, 0, .null), (.iload_n 3, 0, 0, .null), (.iconst 1, 0, 0, .int 1), (.iadd, 0, 0, .null)] (L := [some (.ref 98), some (.ref 0), some (.ref 26), some (.int (l3))]) (st := [.int (q99.1)]) (L' := [some (.ref 98), some (.ref 0), some (.ref 26), some (.int (l3))]) (st' := [.int (l3 + (1 : Int32)), .ref 98, .ref 26, .int (q99.1)]) (g' := q99.2) (w' := w) (cl := []) (by decide +kernel) rfl trivial ?_
        obtain ⟨hg100, hf⟩ := am_g hf
        refine am_sld C0.1 hX hg100 (by decide +kernel) ?_
        refine am_b1 C0 am_YYk (pc := 543) (pc2 := 547) [(.aload_n 0, 0, 0, .null), (.iload_n 3, 0, 0, .null), (.iconst 2, 0, 0, .int 2), (.iadd, 0, 0, .null)] (L := [some (.ref 98), some (.ref 0), some (.ref 26), some (.int (l3))]) (st := [.int (xs (Int32.toNatClampNeg (l3 + (1 : Int32)))), .ref 26, .int (q99.1)]) (L' := [some (.ref 98), some (.ref 0), some (.ref 26), some (.int (l3))]) (st' := [.int (l3 + (2 : Int32)), .ref 98, .int (xs (Int32.toNatClampNeg (l3 + (1 : Int32)))), .ref 26, .int (q99.1)]) (g' := q99.2) (w' := w) (cl := []) (by decide +kernel) rfl trivial ?_
        obtain ⟨hg101, hf⟩ := am_g hf
        refine am_sld C0.1 hX hg101 (by decide +kernel) ?_
        refine am_b1 C0 am_YYk (pc := 548) (pc2 := 556) [(.i2l, 0, 0, .null), (.bipush 32, 0, 0, .int 32), (.lshl, 0, 0, .null), (.aload_n 0, 0, 0, .null), (.iload_n 3, 0, 0, .null), (.iconst 3, 0, 0, .int 3), (.iadd, 0, 0, .null)] (L := [some (.ref 98), some (.ref 0), some (.ref 26), some (.int (l3))]) (st := [.int (xs (Int32.toNatClampNeg (l3 + (2 : Int32)))), .int (xs (Int32.toNatClampNeg (l3 + (1 : Int32)))), .ref 26, .int (q99.1)]) (L' := [some (.ref 98), some (.ref 0), some (.ref 26), some (.int (l3))]) (st' := [.int (l3 + (3 : Int32)), .ref 98, .long (am_lshl (Int32.toInt64 (xs (Int32.toNatClampNeg (l3 + (2 : Int32))))) (32 : Int32)), .int (xs (Int32.toNatClampNeg (l3 + (1 : Int32)))), .ref 26, .int (q99.1)]) (g' := q99.2) (w' := w) (cl := []) (by decide +kernel) rfl trivial ?_
        obtain ⟨hg102, hf⟩ := am_g hf
        refine am_sld C0.1 hX hg102 (by decide +kernel) ?_
        refine am_b1 C0 am_YYk (pc := 557) (pc2 := 563) [(.i2l, 0, 0, .null), (.ldc2_w 73, 0, 0, .long 4294967295), (.land, 0, 0, .null), (.lor, 0, 0, .null)] (L := [some (.ref 98), some (.ref 0), some (.ref 26), some (.int (l3))]) (st := [.int (xs (Int32.toNatClampNeg (l3 + (3 : Int32)))), .long (am_lshl (Int32.toInt64 (xs (Int32.toNatClampNeg (l3 + (2 : Int32))))) (32 : Int32)), .int (xs (Int32.toNatClampNeg (l3 + (1 : Int32)))), .ref 26, .int (q99.1)]) (L' := [some (.ref 98), some (.ref 0), some (.ref 26), some (.int (l3))]) (st' := [.long ((am_lshl (Int32.toInt64 (xs (Int32.toNatClampNeg (l3 + (2 : Int32))))) (32 : Int32)) ||| ((Int32.toInt64 (xs (Int32.toNatClampNeg (l3 + (3 : Int32))))) &&& (4294967295 : Int64))), .int (xs (Int32.toNatClampNeg (l3 + (1 : Int32)))), .ref 26, .int (q99.1)]) (g' := q99.2) (w' := w) (cl := []) (by decide +kernel) rfl trivial ?_
        obtain ⟨q103, hq103, hf⟩ := Option.bind_eq_some_iff.mp hf
        refine am_callV (mi := mi_X8_judge) (rm := rm_X8_judge) [.int (xs (Int32.toNatClampNeg (l3 + (1 : Int32)))), .long ((am_lshl (Int32.toInt64 (xs (Int32.toNatClampNeg (l3 + (2 : Int32))))) (32 : Int32)) ||| ((Int32.toInt64 (xs (Int32.toNatClampNeg (l3 + (3 : Int32))))) &&& (4294967295 : Int64)))] C0.1 am_YYl cv_13_79 (M_X8_judge _ F q99.2 w (xs (Int32.toNatClampNeg (l3 + (1 : Int32)))) ((am_lshl (Int32.toInt64 (xs (Int32.toNatClampNeg (l3 + (2 : Int32))))) (32 : Int32)) ||| ((Int32.toInt64 (xs (Int32.toNatClampNeg (l3 + (3 : Int32))))) &&& (4294967295 : Int64))) _ hq103) (ci := 8) rfl (by decide) rfl (by rw [hR]; rfl) rfl rfl (Nat.le_of_ble_eq_true rfl) (by decide +kernel) ?_
        refine am_icmp_eq C0 (off := 443) (tgt := 1009) (by decide +kernel) (fun hc104 => ?_) (fun hc104 => ?_)
        · rw [if_pos hc104] at hf
          exact B_L_law_1009 x C0 hR Q hret F xs Ls hX R hR1 _ (fun l3 g w hf => ih l3 g w hf) (l3) (q103.2) (w) hf
        · rw [if_neg hc104] at hf
          refine am_b1 C0 am_YYk (pc := 569) (pc2 := 570) [(.iconst 0, 0, 0, .int 0)] (L := [some (.ref 98), some (.ref 0), some (.ref 26), some (.int (l3))]) (st := []) (L' := [some (.ref 98), some (.ref 0), some (.ref 26), some (.int (l3))]) (st' := [.int ((0 : Int32))]) (g' := q103.2) (w' := w) (cl := []) (by decide +kernel) rfl trivial ?_
          cases hf
          exact absurd hR1 (by decide)
      rw [if_neg hs184] at hf
      by_cases hs185 : ((xs (Int32.toNatClampNeg l3)) &&& (31 : Int32)) = (15 : Int32)
      · rw [if_pos hs185] at hf
        refine am_swIn C0 (n := 128) (dflt := 977) (lo := 0) (hi := 27) (offs := #[128, 151, 164, 177, 190, 223, 256, 269, 302, 315, 328, 387, 420, 443, 476, 539, 598, 611, 650, 663, 706, 739, 762, 831, 885, 908, 931, 954]) (by decide +kernel) (off := 539) (tgt := 571) (by rw [hs185]; decide) (by rw [hs185]; decide) (by rw [hs185]; rfl) (by decide) ?_
        refine am_b1 C0 am_YYk (pc := 571) (pc2 := 576) [(.aload_n 1, 0, 0, .null), (.aload_n 0, 0, 0, .null), (.iload_n 3, 0, 0, .null), (.iconst 1, 0, 0, .int 1), (.iadd, 0, 0, .null)] (L := [some (.ref 98), some (.ref 0), some (.ref 26), some (.int (l3))]) (st := []) (L' := [some (.ref 98), some (.ref 0), some (.ref 26), some (.int (l3))]) (st' := [.int (l3 + (1 : Int32)), .ref 98, .ref 0]) (g' := g) (w' := w) (cl := []) (by decide +kernel) rfl trivial ?_
        obtain ⟨hg105, hf⟩ := am_g hf
        refine am_sld C0.1 hX hg105 (by decide +kernel) ?_
        refine am_b1 C0 am_YYk (pc := 577) (pc2 := 581) [(.aload_n 0, 0, 0, .null), (.iload_n 3, 0, 0, .null), (.iconst 2, 0, 0, .int 2), (.iadd, 0, 0, .null)] (L := [some (.ref 98), some (.ref 0), some (.ref 26), some (.int (l3))]) (st := [.int (xs (Int32.toNatClampNeg (l3 + (1 : Int32)))), .ref 0]) (L' := [some (.ref 98), some (.ref 0), some (.ref 26), some (.int (l3))]) (st' := [.int (l3 + (2 : Int32)), .ref 98, .int (xs (Int32.toNatClampNeg (l3 + (1 : Int32)))), .ref 0]) (g' := g) (w' := w) (cl := []) (by decide +kernel) rfl trivial ?_
        obtain ⟨hg106, hf⟩ := am_g hf
        refine am_sld C0.1 hX hg106 (by decide +kernel) ?_
        refine am_b1 C0 am_YYk (pc := 582) (pc2 := 586) [(.aload_n 0, 0, 0, .null), (.iload_n 3, 0, 0, .null), (.iconst 3, 0, 0, .int 3), (.iadd, 0, 0, .null)] (L := [some (.ref 98), some (.ref 0), some (.ref 26), some (.int (l3))]) (st := [.int (xs (Int32.toNatClampNeg (l3 + (2 : Int32)))), .int (xs (Int32.toNatClampNeg (l3 + (1 : Int32)))), .ref 0]) (L' := [some (.ref 98), some (.ref 0), some (.ref 26), some (.int (l3))]) (st' := [.int (l3 + (3 : Int32)), .ref 98, .int (xs (Int32.toNatClampNeg (l3 + (2 : Int32)))), .int (xs (Int32.toNatClampNeg (l3 + (1 : Int32)))), .ref 0]) (g' := g) (w' := w) (cl := []) (by decide +kernel) rfl trivial ?_
        obtain ⟨hg107, hf⟩ := am_g hf
        refine am_sld C0.1 hX hg107 (by decide +kernel) ?_
        refine am_if_eq C0 (off := 7) (tgt := 594) (by decide +kernel) (fun hc108 => ?_) (fun hc108 => ?_)
        · rw [if_pos hc108] at hf
          refine am_b1 C0 am_YYk (pc := 594) (pc2 := 595) [(.iconst 0, 0, 0, .int 0)] (L := [some (.ref 98), some (.ref 0), some (.ref 26), some (.int (l3))]) (st := [.int (xs (Int32.toNatClampNeg (l3 + (2 : Int32)))), .int (xs (Int32.toNatClampNeg (l3 + (1 : Int32)))), .ref 0]) (L' := [some (.ref 98), some (.ref 0), some (.ref 26), some (.int (l3))]) (st' := [.int ((0 : Int32)), .int (xs (Int32.toNatClampNeg (l3 + (2 : Int32)))), .int (xs (Int32.toNatClampNeg (l3 + (1 : Int32)))), .ref 0]) (g' := g) (w' := w) (cl := []) (by decide +kernel) rfl trivial ?_
          exact B_L_law_595 x C0 hR Q hret F xs Ls hX R hR1 _ (fun l3 g w hf => ih l3 g w hf) (l3) (xs (Int32.toNatClampNeg (l3 + (1 : Int32)))) (xs (Int32.toNatClampNeg (l3 + (2 : Int32)))) ((0 : Int32)) (g) (w) hf
        · rw [if_neg hc108] at hf
          refine am_b1 C0 am_YYk (pc := 590) (pc2 := 591) [(.iconst 1, 0, 0, .int 1)] (L := [some (.ref 98), some (.ref 0), some (.ref 26), some (.int (l3))]) (st := [.int (xs (Int32.toNatClampNeg (l3 + (2 : Int32)))), .int (xs (Int32.toNatClampNeg (l3 + (1 : Int32)))), .ref 0]) (L' := [some (.ref 98), some (.ref 0), some (.ref 26), some (.int (l3))]) (st' := [.int ((1 : Int32)), .int (xs (Int32.toNatClampNeg (l3 + (2 : Int32)))), .int (xs (Int32.toNatClampNeg (l3 + (1 : Int32)))), .ref 0]) (g' := g) (w' := w) (cl := []) (by decide +kernel) rfl trivial ?_
          refine am_goto C0 (off := 4) (tgt := 595) (by decide +kernel) ?_
          exact B_L_law_595 x C0 hR Q hret F xs Ls hX R hR1 _ (fun l3 g w hf => ih l3 g w hf) (l3) (xs (Int32.toNatClampNeg (l3 + (1 : Int32)))) (xs (Int32.toNatClampNeg (l3 + (2 : Int32)))) ((1 : Int32)) (g) (w) hf
      rw [if_neg hs185] at hf
      by_cases hs186 : ((xs (Int32.toNatClampNeg l3)) &&& (31 : Int32)) = (16 : Int32)
      · rw [if_pos hs186] at hf
        refine am_swIn C0 (n := 128) (dflt := 977) (lo := 0) (hi := 27) (offs := #[128, 151, 164, 177, 190, 223, 256, 269, 302, 315, 328, 387, 420, 443, 476, 539, 598, 611, 650, 663, 706, 739, 762, 831, 885, 908, 931, 954]) (by decide +kernel) (off := 598) (tgt := 630) (by rw [hs186]; decide) (by rw [hs186]; decide) (by rw [hs186]; rfl) (by decide) ?_
        refine am_b1 C0 am_YYk (pc := 630) (pc2 := 631) [(.aload_n 1, 0, 0, .null)] (L := [some (.ref 98), some (.ref 0), some (.ref 26), some (.int (l3))]) (st := []) (L' := [some (.ref 98), some (.ref 0), some (.ref 26), some (.int (l3))]) (st' := [.ref 0]) (g' := g) (w' := w) (cl := []) (by decide +kernel) rfl trivial ?_
        obtain ⟨q109, hq109, hf⟩ := Option.bind_eq_some_iff.mp hf
        refine am_callV (mi := mi_X7_unfollow) (rm := rm_X7_unfollow) [] C0.1 am_YYl cv_13_84 (M_X7_unfollow _ F g w _ hq109) (ci := 7) rfl (by decide) rfl (by rw [hR]; rfl) rfl rfl (Nat.le_of_ble_eq_true rfl) (by decide +kernel) ?_
        refine am_b1 C0 am_YYk (pc := 634) (pc2 := 635) [(.aload_n 2, 0, 0, .null)] (L := [some (.ref 98), some (.ref 0), some (.ref 26), some (.int (l3))]) (st := [.int (q109.1)]) (L' := [some (.ref 98), some (.ref 0), some (.ref 26), some (.int (l3))]) (st' := [.ref 26, .int (q109.1)]) (g' := q109.2) (w' := w) (cl := []) (by decide +kernel) rfl trivial ?_
        obtain ⟨q110, hq110, hf⟩ := Option.bind_eq_some_iff.mp hf
        refine am_callV (mi := mi_X8_unfollow) (rm := rm_X8_unfollow) [] C0.1 am_YYl cv_13_87 (M_X8_unfollow _ q109.2 w _ hq110) (ci := 8) rfl (by decide) rfl (by rw [hR]; rfl) rfl rfl (Nat.le_of_ble_eq_true rfl) (by decide +kernel) ?_
        refine am_icmp_eq C0 (off := 371) (tgt := 1009) (by decide +kernel) (fun hc111 => ?_) (fun hc111 => ?_)
        · rw [if_pos hc111] at hf
          exact B_L_law_1009 x C0 hR Q hret F xs Ls hX R hR1 _ (fun l3 g w hf => ih l3 g w hf) (l3) (q110.2) (w) hf
        · rw [if_neg hc111] at hf
          refine am_b1 C0 am_YYk (pc := 641) (pc2 := 642) [(.iconst 0, 0, 0, .int 0)] (L := [some (.ref 98), some (.ref 0), some (.ref 26), some (.int (l3))]) (st := []) (L' := [some (.ref 98), some (.ref 0), some (.ref 26), some (.int (l3))]) (st' := [.int ((0 : Int32))]) (g' := q110.2) (w' := w) (cl := []) (by decide +kernel) rfl trivial ?_
          cases hf
          exact absurd hR1 (by decide)
      rw [if_neg hs186] at hf
      by_cases hs187 : ((xs (Int32.toNatClampNeg l3)) &&& (31 : Int32)) = (17 : Int32)
      · rw [if_pos hs187] at hf
        refine am_swIn C0 (n := 128) (dflt := 977) (lo := 0) (hi := 27) (offs := #[128, 151, 164, 177, 190, 223, 256, 269, 302, 315, 328, 387, 420, 443, 476, 539, 598, 611, 650, 663, 706, 739, 762, 831, 885, 908, 931, 954]) (by decide +kernel) (off := 611) (tgt := 643) (by rw [hs187]; decide) (by rw [hs187]; decide) (by rw [hs187]; rfl) (by decide) ?_
        refine am_b1 C0 am_YYk (pc := 643) (pc2 := 648) [(.aload_n 1, 0, 0, .null), (.aload_n 0, 0, 0, .null), (.iload_n 3, 0, 0, .null), (.iconst 1, 0, 0, .int 1), (.iadd, 0, 0, .null)] (L := [some (.ref 98), some (.ref 0), some (.ref 26), some (.int (l3))]) (st := []) (L' := [some (.ref 98), some (.ref 0), some (.ref 26), some (.int (l3))]) (st' := [.int (l3 + (1 : Int32)), .ref 98, .ref 0]) (g' := g) (w' := w) (cl := []) (by decide +kernel) rfl trivial ?_
        obtain ⟨hg112, hf⟩ := am_g hf
        refine am_sld C0.1 hX hg112 (by decide +kernel) ?_
        refine am_if_eq C0 (off := 7) (tgt := 656) (by decide +kernel) (fun hc113 => ?_) (fun hc113 => ?_)
        · rw [if_pos hc113] at hf
          refine am_b1 C0 am_YYk (pc := 656) (pc2 := 657) [(.iconst 0, 0, 0, .int 0)] (L := [some (.ref 98), some (.ref 0), some (.ref 26), some (.int (l3))]) (st := [.ref 0]) (L' := [some (.ref 98), some (.ref 0), some (.ref 26), some (.int (l3))]) (st' := [.int ((0 : Int32)), .ref 0]) (g' := g) (w' := w) (cl := []) (by decide +kernel) rfl trivial ?_
          exact B_L_law_657 x C0 hR Q hret F xs Ls hX R hR1 _ (fun l3 g w hf => ih l3 g w hf) (l3) ((0 : Int32)) (g) (w) hf
        · rw [if_neg hc113] at hf
          refine am_b1 C0 am_YYk (pc := 652) (pc2 := 653) [(.iconst 1, 0, 0, .int 1)] (L := [some (.ref 98), some (.ref 0), some (.ref 26), some (.int (l3))]) (st := [.ref 0]) (L' := [some (.ref 98), some (.ref 0), some (.ref 26), some (.int (l3))]) (st' := [.int ((1 : Int32)), .ref 0]) (g' := g) (w' := w) (cl := []) (by decide +kernel) rfl trivial ?_
          refine am_goto C0 (off := 4) (tgt := 657) (by decide +kernel) ?_
          exact B_L_law_657 x C0 hR Q hret F xs Ls hX R hR1 _ (fun l3 g w hf => ih l3 g w hf) (l3) ((1 : Int32)) (g) (w) hf
      rw [if_neg hs187] at hf
      by_cases hs188 : ((xs (Int32.toNatClampNeg l3)) &&& (31 : Int32)) = (18 : Int32)
      · rw [if_pos hs188] at hf
        refine am_swIn C0 (n := 128) (dflt := 977) (lo := 0) (hi := 27) (offs := #[128, 151, 164, 177, 190, 223, 256, 269, 302, 315, 328, 387, 420, 443, 476, 539, 598, 611, 650, 663, 706, 739, 762, 831, 885, 908, 931, 954]) (by decide +kernel) (off := 650) (tgt := 682) (by rw [hs188]; decide) (by rw [hs188]; decide) (by rw [hs188]; rfl) (by decide) ?_
        refine am_b1 C0 am_YYk (pc := 682) (pc2 := 683) [(.aload_n 1, 0, 0, .null)] (L := [some (.ref 98), some (.ref 0), some (.ref 26), some (.int (l3))]) (st := []) (L' := [some (.ref 98), some (.ref 0), some (.ref 26), some (.int (l3))]) (st' := [.ref 0]) (g' := g) (w' := w) (cl := []) (by decide +kernel) rfl trivial ?_
        obtain ⟨q114, hq114, hf⟩ := Option.bind_eq_some_iff.mp hf
        refine am_callV (mi := mi_X7_look) (rm := rm_X7_look) [] C0.1 am_YYl cv_13_93 (M_X7_look _ F g w _ hq114) (ci := 7) rfl (by decide) rfl (by rw [hR]; rfl) rfl rfl (Nat.le_of_ble_eq_true rfl) (by decide +kernel) ?_
        refine am_b1 C0 am_YYk (pc := 686) (pc2 := 687) [(.aload_n 2, 0, 0, .null)] (L := [some (.ref 98), some (.ref 0), some (.ref 26), some (.int (l3))]) (st := [.int (q114)]) (L' := [some (.ref 98), some (.ref 0), some (.ref 26), some (.int (l3))]) (st' := [.ref 26, .int (q114)]) (g' := g) (w' := w) (cl := []) (by decide +kernel) rfl trivial ?_
        obtain ⟨q115, hq115, hf⟩ := Option.bind_eq_some_iff.mp hf
        refine am_callV (mi := mi_X8_look) (rm := rm_X8_look) [] C0.1 am_YYl cv_13_96 (M_X8_look _ F g w _ hq115) (ci := 8) rfl (by decide) rfl (by rw [hR]; rfl) rfl rfl (Nat.le_of_ble_eq_true rfl) (by decide +kernel) ?_
        refine am_icmp_eq C0 (off := 319) (tgt := 1009) (by decide +kernel) (fun hc116 => ?_) (fun hc116 => ?_)
        · rw [if_pos hc116] at hf
          exact B_L_law_1009 x C0 hR Q hret F xs Ls hX R hR1 _ (fun l3 g w hf => ih l3 g w hf) (l3) (g) (w) hf
        · rw [if_neg hc116] at hf
          refine am_b1 C0 am_YYk (pc := 693) (pc2 := 694) [(.iconst 0, 0, 0, .int 0)] (L := [some (.ref 98), some (.ref 0), some (.ref 26), some (.int (l3))]) (st := []) (L' := [some (.ref 98), some (.ref 0), some (.ref 26), some (.int (l3))]) (st' := [.int ((0 : Int32))]) (g' := g) (w' := w) (cl := []) (by decide +kernel) rfl trivial ?_
          cases hf
          exact absurd hR1 (by decide)
      rw [if_neg hs188] at hf
      by_cases hs189 : ((xs (Int32.toNatClampNeg l3)) &&& (31 : Int32)) = (19 : Int32)
      · rw [if_pos hs189] at hf
        refine am_swIn C0 (n := 128) (dflt := 977) (lo := 0) (hi := 27) (offs := #[128, 151, 164, 177, 190, 223, 256, 269, 302, 315, 328, 387, 420, 443, 476, 539, 598, 611, 650, 663, 706, 739, 762, 831, 885, 908, 931, 954]) (by decide +kernel) (off := 663) (tgt := 695) (by rw [hs189]; decide) (by rw [hs189]; decide) (by rw [hs189]; rfl) (by decide) ?_
        refine am_b1 C0 am_YYk (pc := 695) (pc2 := 700) [(.aload_n 1, 0, 0, .null), (.aload_n 0, 0, 0, .null), (.iload_n 3, 0, 0, .null), (.iconst 1, 0, 0, .int 1), (.iadd, 0, 0, .null)] (L := [some (.ref 98), some (.ref 0), some (.ref 26), some (.int (l3))]) (st := []) (L' := [some (.ref 98), some (.ref 0), some (.ref 26), some (.int (l3))]) (st' := [.int (l3 + (1 : Int32)), .ref 98, .ref 0]) (g' := g) (w' := w) (cl := []) (by decide +kernel) rfl trivial ?_
        obtain ⟨hg117, hf⟩ := am_g hf
        refine am_sld C0.1 hX hg117 (by decide +kernel) ?_
        refine am_b1 C0 am_YYk (pc := 701) (pc2 := 705) [(.aload_n 0, 0, 0, .null), (.iload_n 3, 0, 0, .null), (.iconst 2, 0, 0, .int 2), (.iadd, 0, 0, .null)] (L := [some (.ref 98), some (.ref 0), some (.ref 26), some (.int (l3))]) (st := [.int (xs (Int32.toNatClampNeg (l3 + (1 : Int32)))), .ref 0]) (L' := [some (.ref 98), some (.ref 0), some (.ref 26), some (.int (l3))]) (st' := [.int (l3 + (2 : Int32)), .ref 98, .int (xs (Int32.toNatClampNeg (l3 + (1 : Int32)))), .ref 0]) (g' := g) (w' := w) (cl := []) (by decide +kernel) rfl trivial ?_
        obtain ⟨hg118, hf⟩ := am_g hf
        refine am_sld C0.1 hX hg118 (by decide +kernel) ?_
        refine am_b1 C0 am_YYk (pc := 706) (pc2 := 710) [(.aload_n 0, 0, 0, .null), (.iload_n 3, 0, 0, .null), (.iconst 3, 0, 0, .int 3), (.iadd, 0, 0, .null)] (L := [some (.ref 98), some (.ref 0), some (.ref 26), some (.int (l3))]) (st := [.int (xs (Int32.toNatClampNeg (l3 + (2 : Int32)))), .int (xs (Int32.toNatClampNeg (l3 + (1 : Int32)))), .ref 0]) (L' := [some (.ref 98), some (.ref 0), some (.ref 26), some (.int (l3))]) (st' := [.int (l3 + (3 : Int32)), .ref 98, .int (xs (Int32.toNatClampNeg (l3 + (2 : Int32)))), .int (xs (Int32.toNatClampNeg (l3 + (1 : Int32)))), .ref 0]) (g' := g) (w' := w) (cl := []) (by decide +kernel) rfl trivial ?_
        obtain ⟨hg119, hf⟩ := am_g hf
        refine am_sld C0.1 hX hg119 (by decide +kernel) ?_
        obtain ⟨q120, hq120, hf⟩ := Option.bind_eq_some_iff.mp hf
        refine am_callV (mi := mi_X7_will) (rm := rm_X7_will) [.int (xs (Int32.toNatClampNeg (l3 + (1 : Int32)))), .int (xs (Int32.toNatClampNeg (l3 + (2 : Int32)))), .int (xs (Int32.toNatClampNeg (l3 + (3 : Int32))))] C0.1 am_YYl cv_13_97 (M_X7_will _ g w (xs (Int32.toNatClampNeg (l3 + (1 : Int32)))) (xs (Int32.toNatClampNeg (l3 + (2 : Int32)))) (xs (Int32.toNatClampNeg (l3 + (3 : Int32)))) _ hq120) (ci := 7) rfl (by decide) rfl (by rw [hR]; rfl) rfl rfl (Nat.le_of_ble_eq_true rfl) (by decide +kernel) ?_
        refine am_b1 C0 am_YYk (pc := 714) (pc2 := 719) [(.aload_n 2, 0, 0, .null), (.aload_n 0, 0, 0, .null), (.iload_n 3, 0, 0, .null), (.iconst 1, 0, 0, .int 1), (.iadd, 0, 0, .null)] (L := [some (.ref 98), some (.ref 0), some (.ref 26), some (.int (l3))]) (st := [.int (q120)]) (L' := [some (.ref 98), some (.ref 0), some (.ref 26), some (.int (l3))]) (st' := [.int (l3 + (1 : Int32)), .ref 98, .ref 26, .int (q120)]) (g' := g) (w' := w) (cl := []) (by decide +kernel) rfl trivial ?_
        obtain ⟨hg121, hf⟩ := am_g hf
        refine am_sld C0.1 hX hg121 (by decide +kernel) ?_
        refine am_b1 C0 am_YYk (pc := 720) (pc2 := 724) [(.aload_n 0, 0, 0, .null), (.iload_n 3, 0, 0, .null), (.iconst 2, 0, 0, .int 2), (.iadd, 0, 0, .null)] (L := [some (.ref 98), some (.ref 0), some (.ref 26), some (.int (l3))]) (st := [.int (xs (Int32.toNatClampNeg (l3 + (1 : Int32)))), .ref 26, .int (q120)]) (L' := [some (.ref 98), some (.ref 0), some (.ref 26), some (.int (l3))]) (st' := [.int (l3 + (2 : Int32)), .ref 98, .int (xs (Int32.toNatClampNeg (l3 + (1 : Int32)))), .ref 26, .int (q120)]) (g' := g) (w' := w) (cl := []) (by decide +kernel) rfl trivial ?_
        obtain ⟨hg122, hf⟩ := am_g hf
        refine am_sld C0.1 hX hg122 (by decide +kernel) ?_
        refine am_b1 C0 am_YYk (pc := 725) (pc2 := 729) [(.aload_n 0, 0, 0, .null), (.iload_n 3, 0, 0, .null), (.iconst 3, 0, 0, .int 3), (.iadd, 0, 0, .null)] (L := [some (.ref 98), some (.ref 0), some (.ref 26), some (.int (l3))]) (st := [.int (xs (Int32.toNatClampNeg (l3 + (2 : Int32)))), .int (xs (Int32.toNatClampNeg (l3 + (1 : Int32)))), .ref 26, .int (q120)]) (L' := [some (.ref 98), some (.ref 0), some (.ref 26), some (.int (l3))]) (st' := [.int (l3 + (3 : Int32)), .ref 98, .int (xs (Int32.toNatClampNeg (l3 + (2 : Int32)))), .int (xs (Int32.toNatClampNeg (l3 + (1 : Int32)))), .ref 26, .int (q120)]) (g' := g) (w' := w) (cl := []) (by decide +kernel) rfl trivial ?_
        obtain ⟨hg123, hf⟩ := am_g hf
        refine am_sld C0.1 hX hg123 (by decide +kernel) ?_
        obtain ⟨q124, hq124, hf⟩ := Option.bind_eq_some_iff.mp hf
        refine am_callV (mi := mi_X8_will) (rm := rm_X8_will) [.int (xs (Int32.toNatClampNeg (l3 + (1 : Int32)))), .int (xs (Int32.toNatClampNeg (l3 + (2 : Int32)))), .int (xs (Int32.toNatClampNeg (l3 + (3 : Int32))))] C0.1 am_YYl cv_13_101 (M_X8_will _ g w (xs (Int32.toNatClampNeg (l3 + (1 : Int32)))) (xs (Int32.toNatClampNeg (l3 + (2 : Int32)))) (xs (Int32.toNatClampNeg (l3 + (3 : Int32)))) _ hq124) (ci := 8) rfl (by decide) rfl (by rw [hR]; rfl) rfl rfl (Nat.le_of_ble_eq_true rfl) (by decide +kernel) ?_
        refine am_icmp_eq C0 (off := 276) (tgt := 1009) (by decide +kernel) (fun hc125 => ?_) (fun hc125 => ?_)
        · rw [if_pos hc125] at hf
          exact B_L_law_1009 x C0 hR Q hret F xs Ls hX R hR1 _ (fun l3 g w hf => ih l3 g w hf) (l3) (g) (w) hf
        · rw [if_neg hc125] at hf
          refine am_b1 C0 am_YYk (pc := 736) (pc2 := 737) [(.iconst 0, 0, 0, .int 0)] (L := [some (.ref 98), some (.ref 0), some (.ref 26), some (.int (l3))]) (st := []) (L' := [some (.ref 98), some (.ref 0), some (.ref 26), some (.int (l3))]) (st' := [.int ((0 : Int32))]) (g' := g) (w' := w) (cl := []) (by decide +kernel) rfl trivial ?_
          cases hf
          exact absurd hR1 (by decide)
      rw [if_neg hs189] at hf
      by_cases hs190 : ((xs (Int32.toNatClampNeg l3)) &&& (31 : Int32)) = (20 : Int32)
      · rw [if_pos hs190] at hf
        refine am_swIn C0 (n := 128) (dflt := 977) (lo := 0) (hi := 27) (offs := #[128, 151, 164, 177, 190, 223, 256, 269, 302, 315, 328, 387, 420, 443, 476, 539, 598, 611, 650, 663, 706, 739, 762, 831, 885, 908, 931, 954]) (by decide +kernel) (off := 706) (tgt := 738) (by rw [hs190]; decide) (by rw [hs190]; decide) (by rw [hs190]; rfl) (by decide) ?_
        refine am_b1 C0 am_YYk (pc := 738) (pc2 := 743) [(.aload_n 1, 0, 0, .null), (.aload_n 0, 0, 0, .null), (.iload_n 3, 0, 0, .null), (.iconst 1, 0, 0, .int 1), (.iadd, 0, 0, .null)] (L := [some (.ref 98), some (.ref 0), some (.ref 26), some (.int (l3))]) (st := []) (L' := [some (.ref 98), some (.ref 0), some (.ref 26), some (.int (l3))]) (st' := [.int (l3 + (1 : Int32)), .ref 98, .ref 0]) (g' := g) (w' := w) (cl := []) (by decide +kernel) rfl trivial ?_
        obtain ⟨hg126, hf⟩ := am_g hf
        refine am_sld C0.1 hX hg126 (by decide +kernel) ?_
        refine am_b1 C0 am_YYk (pc := 744) (pc2 := 748) [(.aload_n 0, 0, 0, .null), (.iload_n 3, 0, 0, .null), (.iconst 2, 0, 0, .int 2), (.iadd, 0, 0, .null)] (L := [some (.ref 98), some (.ref 0), some (.ref 26), some (.int (l3))]) (st := [.int (xs (Int32.toNatClampNeg (l3 + (1 : Int32)))), .ref 0]) (L' := [some (.ref 98), some (.ref 0), some (.ref 26), some (.int (l3))]) (st' := [.int (l3 + (2 : Int32)), .ref 98, .int (xs (Int32.toNatClampNeg (l3 + (1 : Int32)))), .ref 0]) (g' := g) (w' := w) (cl := []) (by decide +kernel) rfl trivial ?_
        obtain ⟨hg127, hf⟩ := am_g hf
        refine am_sld C0.1 hX hg127 (by decide +kernel) ?_
        obtain ⟨q128, hq128, hf⟩ := Option.bind_eq_some_iff.mp hf
        refine am_callV (mi := mi_X7_cross) (rm := rm_X7_cross) [.int (xs (Int32.toNatClampNeg (l3 + (1 : Int32)))), .int (xs (Int32.toNatClampNeg (l3 + (2 : Int32))))] C0.1 am_YYl cv_13_102 (M_X7_cross _ F g w (xs (Int32.toNatClampNeg (l3 + (1 : Int32)))) (xs (Int32.toNatClampNeg (l3 + (2 : Int32)))) _ hq128) (ci := 7) rfl (by decide) rfl (by rw [hR]; rfl) rfl rfl (Nat.le_of_ble_eq_true rfl) (by decide +kernel) ?_
        refine am_b1 C0 am_YYk (pc := 752) (pc2 := 757) [(.aload_n 2, 0, 0, .null), (.aload_n 0, 0, 0, .null), (.iload_n 3, 0, 0, .null), (.iconst 1, 0, 0, .int 1), (.iadd, 0, 0, .null)] (L := [some (.ref 98), some (.ref 0), some (.ref 26), some (.int (l3))]) (st := [.int (q128.1)]) (L' := [some (.ref 98), some (.ref 0), some (.ref 26), some (.int (l3))]) (st' := [.int (l3 + (1 : Int32)), .ref 98, .ref 26, .int (q128.1)]) (g' := q128.2.1) (w' := q128.2.2) (cl := []) (by decide +kernel) rfl trivial ?_
        obtain ⟨hg129, hf⟩ := am_g hf
        refine am_sld C0.1 hX hg129 (by decide +kernel) ?_
        refine am_b1 C0 am_YYk (pc := 758) (pc2 := 762) [(.aload_n 0, 0, 0, .null), (.iload_n 3, 0, 0, .null), (.iconst 2, 0, 0, .int 2), (.iadd, 0, 0, .null)] (L := [some (.ref 98), some (.ref 0), some (.ref 26), some (.int (l3))]) (st := [.int (xs (Int32.toNatClampNeg (l3 + (1 : Int32)))), .ref 26, .int (q128.1)]) (L' := [some (.ref 98), some (.ref 0), some (.ref 26), some (.int (l3))]) (st' := [.int (l3 + (2 : Int32)), .ref 98, .int (xs (Int32.toNatClampNeg (l3 + (1 : Int32)))), .ref 26, .int (q128.1)]) (g' := q128.2.1) (w' := q128.2.2) (cl := []) (by decide +kernel) rfl trivial ?_
        obtain ⟨hg130, hf⟩ := am_g hf
        refine am_sld C0.1 hX hg130 (by decide +kernel) ?_
        obtain ⟨q131, hq131, hf⟩ := Option.bind_eq_some_iff.mp hf
        refine am_callV (mi := mi_X8_cross) (rm := rm_X8_cross) [.int (xs (Int32.toNatClampNeg (l3 + (1 : Int32)))), .int (xs (Int32.toNatClampNeg (l3 + (2 : Int32))))] C0.1 am_YYl cv_13_105 (M_X8_cross _ F q128.2.1 q128.2.2 (xs (Int32.toNatClampNeg (l3 + (1 : Int32)))) (xs (Int32.toNatClampNeg (l3 + (2 : Int32)))) _ hq131) (ci := 8) rfl (by decide) rfl (by rw [hR]; rfl) rfl rfl (Nat.le_of_ble_eq_true rfl) (by decide +kernel) ?_
        refine am_icmp_eq C0 (off := 243) (tgt := 1009) (by decide +kernel) (fun hc132 => ?_) (fun hc132 => ?_)
        · rw [if_pos hc132] at hf
          exact B_L_law_1009 x C0 hR Q hret F xs Ls hX R hR1 _ (fun l3 g w hf => ih l3 g w hf) (l3) (q131.2) (q128.2.2) hf
        · rw [if_neg hc132] at hf
          refine am_b1 C0 am_YYk (pc := 769) (pc2 := 770) [(.iconst 0, 0, 0, .int 0)] (L := [some (.ref 98), some (.ref 0), some (.ref 26), some (.int (l3))]) (st := []) (L' := [some (.ref 98), some (.ref 0), some (.ref 26), some (.int (l3))]) (st' := [.int ((0 : Int32))]) (g' := q131.2) (w' := q128.2.2) (cl := []) (by decide +kernel) rfl trivial ?_
          cases hf
          exact absurd hR1 (by decide)
      rw [if_neg hs190] at hf
      by_cases hs191 : ((xs (Int32.toNatClampNeg l3)) &&& (31 : Int32)) = (21 : Int32)
      · rw [if_pos hs191] at hf
        refine am_swIn C0 (n := 128) (dflt := 977) (lo := 0) (hi := 27) (offs := #[128, 151, 164, 177, 190, 223, 256, 269, 302, 315, 328, 387, 420, 443, 476, 539, 598, 611, 650, 663, 706, 739, 762, 831, 885, 908, 931, 954]) (by decide +kernel) (off := 739) (tgt := 771) (by rw [hs191]; decide) (by rw [hs191]; decide) (by rw [hs191]; rfl) (by decide) ?_
        refine am_b1 C0 am_YYk (pc := 771) (pc2 := 776) [(.aload_n 1, 0, 0, .null), (.aload_n 0, 0, 0, .null), (.iload_n 3, 0, 0, .null), (.iconst 1, 0, 0, .int 1), (.iadd, 0, 0, .null)] (L := [some (.ref 98), some (.ref 0), some (.ref 26), some (.int (l3))]) (st := []) (L' := [some (.ref 98), some (.ref 0), some (.ref 26), some (.int (l3))]) (st' := [.int (l3 + (1 : Int32)), .ref 98, .ref 0]) (g' := g) (w' := w) (cl := []) (by decide +kernel) rfl trivial ?_
        obtain ⟨hg133, hf⟩ := am_g hf
        refine am_sld C0.1 hX hg133 (by decide +kernel) ?_
        obtain ⟨q134, hq134, hf⟩ := Option.bind_eq_some_iff.mp hf
        refine am_callV (mi := mi_X7_rests) (rm := rm_X7_rests) [.int (xs (Int32.toNatClampNeg (l3 + (1 : Int32))))] C0.1 am_YYl cv_13_106 (M_X7_rests _ F g w (xs (Int32.toNatClampNeg (l3 + (1 : Int32)))) _ hq134) (ci := 7) rfl (by decide) rfl (by rw [hR]; rfl) rfl rfl (Nat.le_of_ble_eq_true rfl) (by decide +kernel) ?_
        refine am_b1 C0 am_YYk (pc := 780) (pc2 := 785) [(.aload_n 2, 0, 0, .null), (.aload_n 0, 0, 0, .null), (.iload_n 3, 0, 0, .null), (.iconst 1, 0, 0, .int 1), (.iadd, 0, 0, .null)] (L := [some (.ref 98), some (.ref 0), some (.ref 26), some (.int (l3))]) (st := [.int (q134)]) (L' := [some (.ref 98), some (.ref 0), some (.ref 26), some (.int (l3))]) (st' := [.int (l3 + (1 : Int32)), .ref 98, .ref 26, .int (q134)]) (g' := g) (w' := w) (cl := []) (by decide +kernel) rfl trivial ?_
        obtain ⟨hg135, hf⟩ := am_g hf
        refine am_sld C0.1 hX hg135 (by decide +kernel) ?_
        obtain ⟨q136, hq136, hf⟩ := Option.bind_eq_some_iff.mp hf
        refine am_callV (mi := mi_X8_rests) (rm := rm_X8_rests) [.int (xs (Int32.toNatClampNeg (l3 + (1 : Int32))))] C0.1 am_YYl cv_13_109 (M_X8_rests _ F g w (xs (Int32.toNatClampNeg (l3 + (1 : Int32)))) _ hq136) (ci := 8) rfl (by decide) rfl (by rw [hR]; rfl) rfl rfl (Nat.le_of_ble_eq_true rfl) (by decide +kernel) ?_
        refine am_icmp_eq C0 (off := 220) (tgt := 1009) (by decide +kernel) (fun hc137 => ?_) (fun hc137 => ?_)
        · rw [if_pos hc137] at hf
          exact B_L_law_1009 x C0 hR Q hret F xs Ls hX R hR1 _ (fun l3 g w hf => ih l3 g w hf) (l3) (g) (w) hf
        · rw [if_neg hc137] at hf
          refine am_b1 C0 am_YYk (pc := 792) (pc2 := 793) [(.iconst 0, 0, 0, .int 0)] (L := [some (.ref 98), some (.ref 0), some (.ref 26), some (.int (l3))]) (st := []) (L' := [some (.ref 98), some (.ref 0), some (.ref 26), some (.int (l3))]) (st' := [.int ((0 : Int32))]) (g' := g) (w' := w) (cl := []) (by decide +kernel) rfl trivial ?_
          cases hf
          exact absurd hR1 (by decide)
      rw [if_neg hs191] at hf
      by_cases hs192 : ((xs (Int32.toNatClampNeg l3)) &&& (31 : Int32)) = (22 : Int32)
      · rw [if_pos hs192] at hf
        refine am_swIn C0 (n := 128) (dflt := 977) (lo := 0) (hi := 27) (offs := #[128, 151, 164, 177, 190, 223, 256, 269, 302, 315, 328, 387, 420, 443, 476, 539, 598, 611, 650, 663, 706, 739, 762, 831, 885, 908, 931, 954]) (by decide +kernel) (off := 762) (tgt := 794) (by rw [hs192]; decide) (by rw [hs192]; decide) (by rw [hs192]; rfl) (by decide) ?_
        refine am_b1 C0 am_YYk (pc := 794) (pc2 := 799) [(.aload_n 1, 0, 0, .null), (.aload_n 0, 0, 0, .null), (.iload_n 3, 0, 0, .null), (.iconst 1, 0, 0, .int 1), (.iadd, 0, 0, .null)] (L := [some (.ref 98), some (.ref 0), some (.ref 26), some (.int (l3))]) (st := []) (L' := [some (.ref 98), some (.ref 0), some (.ref 26), some (.int (l3))]) (st' := [.int (l3 + (1 : Int32)), .ref 98, .ref 0]) (g' := g) (w' := w) (cl := []) (by decide +kernel) rfl trivial ?_
        obtain ⟨hg138, hf⟩ := am_g hf
        refine am_sld C0.1 hX hg138 (by decide +kernel) ?_
        refine am_b1 C0 am_YYk (pc := 800) (pc2 := 804) [(.aload_n 0, 0, 0, .null), (.iload_n 3, 0, 0, .null), (.iconst 2, 0, 0, .int 2), (.iadd, 0, 0, .null)] (L := [some (.ref 98), some (.ref 0), some (.ref 26), some (.int (l3))]) (st := [.int (xs (Int32.toNatClampNeg (l3 + (1 : Int32)))), .ref 0]) (L' := [some (.ref 98), some (.ref 0), some (.ref 26), some (.int (l3))]) (st' := [.int (l3 + (2 : Int32)), .ref 98, .int (xs (Int32.toNatClampNeg (l3 + (1 : Int32)))), .ref 0]) (g' := g) (w' := w) (cl := []) (by decide +kernel) rfl trivial ?_
        obtain ⟨hg139, hf⟩ := am_g hf
        refine am_sld C0.1 hX hg139 (by decide +kernel) ?_
        refine am_b1 C0 am_YYk (pc := 805) (pc2 := 809) [(.aload_n 0, 0, 0, .null), (.iload_n 3, 0, 0, .null), (.iconst 3, 0, 0, .int 3), (.iadd, 0, 0, .null)] (L := [some (.ref 98), some (.ref 0), some (.ref 26), some (.int (l3))]) (st := [.int (xs (Int32.toNatClampNeg (l3 + (2 : Int32)))), .int (xs (Int32.toNatClampNeg (l3 + (1 : Int32)))), .ref 0]) (L' := [some (.ref 98), some (.ref 0), some (.ref 26), some (.int (l3))]) (st' := [.int (l3 + (3 : Int32)), .ref 98, .int (xs (Int32.toNatClampNeg (l3 + (2 : Int32)))), .int (xs (Int32.toNatClampNeg (l3 + (1 : Int32)))), .ref 0]) (g' := g) (w' := w) (cl := []) (by decide +kernel) rfl trivial ?_
        obtain ⟨hg140, hf⟩ := am_g hf
        refine am_sld C0.1 hX hg140 (by decide +kernel) ?_
        refine am_b1 C0 am_YYk (pc := 810) (pc2 := 814) [(.aload_n 0, 0, 0, .null), (.iload_n 3, 0, 0, .null), (.iconst 4, 0, 0, .int 4), (.iadd, 0, 0, .null)] (L := [some (.ref 98), some (.ref 0), some (.ref 26), some (.int (l3))]) (st := [.int (xs (Int32.toNatClampNeg (l3 + (3 : Int32)))), .int (xs (Int32.toNatClampNeg (l3 + (2 : Int32)))), .int (xs (Int32.toNatClampNeg (l3 + (1 : Int32)))), .ref 0]) (L' := [some (.ref 98), some (.ref 0), some (.ref 26), some (.int (l3))]) (st' := [.int (l3 + (4 : Int32)), .ref 98, .int (xs (Int32.toNatClampNeg (l3 + (3 : Int32)))), .int (xs (Int32.toNatClampNeg (l3 + (2 : Int32)))), .int (xs (Int32.toNatClampNeg (l3 + (1 : Int32)))), .ref 0]) (g' := g) (w' := w) (cl := []) (by decide +kernel) rfl trivial ?_
        obtain ⟨hg141, hf⟩ := am_g hf
        refine am_sld C0.1 hX hg141 (by decide +kernel) ?_
        refine am_if_eq C0 (off := 7) (tgt := 822) (by decide +kernel) (fun hc142 => ?_) (fun hc142 => ?_)
        · rw [if_pos hc142] at hf
          refine am_b1 C0 am_YYk (pc := 822) (pc2 := 823) [(.iconst 0, 0, 0, .int 0)] (L := [some (.ref 98), some (.ref 0), some (.ref 26), some (.int (l3))]) (st := [.int (xs (Int32.toNatClampNeg (l3 + (3 : Int32)))), .int (xs (Int32.toNatClampNeg (l3 + (2 : Int32)))), .int (xs (Int32.toNatClampNeg (l3 + (1 : Int32)))), .ref 0]) (L' := [some (.ref 98), some (.ref 0), some (.ref 26), some (.int (l3))]) (st' := [.int ((0 : Int32)), .int (xs (Int32.toNatClampNeg (l3 + (3 : Int32)))), .int (xs (Int32.toNatClampNeg (l3 + (2 : Int32)))), .int (xs (Int32.toNatClampNeg (l3 + (1 : Int32)))), .ref 0]) (g' := g) (w' := w) (cl := []) (by decide +kernel) rfl trivial ?_
          exact B_L_law_823 x C0 hR Q hret F xs Ls hX R hR1 _ (fun l3 g w hf => ih l3 g w hf) (l3) (xs (Int32.toNatClampNeg (l3 + (1 : Int32)))) (xs (Int32.toNatClampNeg (l3 + (2 : Int32)))) (xs (Int32.toNatClampNeg (l3 + (3 : Int32)))) ((0 : Int32)) (g) (w) hf
        · rw [if_neg hc142] at hf
          refine am_b1 C0 am_YYk (pc := 818) (pc2 := 819) [(.iconst 1, 0, 0, .int 1)] (L := [some (.ref 98), some (.ref 0), some (.ref 26), some (.int (l3))]) (st := [.int (xs (Int32.toNatClampNeg (l3 + (3 : Int32)))), .int (xs (Int32.toNatClampNeg (l3 + (2 : Int32)))), .int (xs (Int32.toNatClampNeg (l3 + (1 : Int32)))), .ref 0]) (L' := [some (.ref 98), some (.ref 0), some (.ref 26), some (.int (l3))]) (st' := [.int ((1 : Int32)), .int (xs (Int32.toNatClampNeg (l3 + (3 : Int32)))), .int (xs (Int32.toNatClampNeg (l3 + (2 : Int32)))), .int (xs (Int32.toNatClampNeg (l3 + (1 : Int32)))), .ref 0]) (g' := g) (w' := w) (cl := []) (by decide +kernel) rfl trivial ?_
          refine am_goto C0 (off := 4) (tgt := 823) (by decide +kernel) ?_
          exact B_L_law_823 x C0 hR Q hret F xs Ls hX R hR1 _ (fun l3 g w hf => ih l3 g w hf) (l3) (xs (Int32.toNatClampNeg (l3 + (1 : Int32)))) (xs (Int32.toNatClampNeg (l3 + (2 : Int32)))) (xs (Int32.toNatClampNeg (l3 + (3 : Int32)))) ((1 : Int32)) (g) (w) hf
      rw [if_neg hs192] at hf
      by_cases hs193 : ((xs (Int32.toNatClampNeg l3)) &&& (31 : Int32)) = (23 : Int32)
      · rw [if_pos hs193] at hf
        refine am_swIn C0 (n := 128) (dflt := 977) (lo := 0) (hi := 27) (offs := #[128, 151, 164, 177, 190, 223, 256, 269, 302, 315, 328, 387, 420, 443, 476, 539, 598, 611, 650, 663, 706, 739, 762, 831, 885, 908, 931, 954]) (by decide +kernel) (off := 831) (tgt := 863) (by rw [hs193]; decide) (by rw [hs193]; decide) (by rw [hs193]; rfl) (by decide) ?_
        refine am_b1 C0 am_YYk (pc := 863) (pc2 := 868) [(.aload_n 1, 0, 0, .null), (.aload_n 0, 0, 0, .null), (.iload_n 3, 0, 0, .null), (.iconst 1, 0, 0, .int 1), (.iadd, 0, 0, .null)] (L := [some (.ref 98), some (.ref 0), some (.ref 26), some (.int (l3))]) (st := []) (L' := [some (.ref 98), some (.ref 0), some (.ref 26), some (.int (l3))]) (st' := [.int (l3 + (1 : Int32)), .ref 98, .ref 0]) (g' := g) (w' := w) (cl := []) (by decide +kernel) rfl trivial ?_
        obtain ⟨hg143, hf⟩ := am_g hf
        refine am_sld C0.1 hX hg143 (by decide +kernel) ?_
        refine am_b1 C0 am_YYk (pc := 869) (pc2 := 877) [(.i2l, 0, 0, .null), (.bipush 32, 0, 0, .int 32), (.lshl, 0, 0, .null), (.aload_n 0, 0, 0, .null), (.iload_n 3, 0, 0, .null), (.iconst 2, 0, 0, .int 2), (.iadd, 0, 0, .null)] (L := [some (.ref 98), some (.ref 0), some (.ref 26), some (.int (l3))]) (st := [.int (xs (Int32.toNatClampNeg (l3 + (1 : Int32)))), .ref 0]) (L' := [some (.ref 98), some (.ref 0), some (.ref 26), some (.int (l3))]) (st' := [.int (l3 + (2 : Int32)), .ref 98, .long (am_lshl (Int32.toInt64 (xs (Int32.toNatClampNeg (l3 + (1 : Int32))))) (32 : Int32)), .ref 0]) (g' := g) (w' := w) (cl := []) (by decide +kernel) rfl trivial ?_
        obtain ⟨hg144, hf⟩ := am_g hf
        refine am_sld C0.1 hX hg144 (by decide +kernel) ?_
        refine am_b1 C0 am_YYk (pc := 878) (pc2 := 884) [(.i2l, 0, 0, .null), (.ldc2_w 73, 0, 0, .long 4294967295), (.land, 0, 0, .null), (.lor, 0, 0, .null)] (L := [some (.ref 98), some (.ref 0), some (.ref 26), some (.int (l3))]) (st := [.int (xs (Int32.toNatClampNeg (l3 + (2 : Int32)))), .long (am_lshl (Int32.toInt64 (xs (Int32.toNatClampNeg (l3 + (1 : Int32))))) (32 : Int32)), .ref 0]) (L' := [some (.ref 98), some (.ref 0), some (.ref 26), some (.int (l3))]) (st' := [.long ((am_lshl (Int32.toInt64 (xs (Int32.toNatClampNeg (l3 + (1 : Int32))))) (32 : Int32)) ||| ((Int32.toInt64 (xs (Int32.toNatClampNeg (l3 + (2 : Int32))))) &&& (4294967295 : Int64))), .ref 0]) (g' := g) (w' := w) (cl := []) (by decide +kernel) rfl trivial ?_
        obtain ⟨q145, hq145, hf⟩ := Option.bind_eq_some_iff.mp hf
        refine am_callV (mi := mi_X7_seed) (rm := rm_X7_seed) [.long ((am_lshl (Int32.toInt64 (xs (Int32.toNatClampNeg (l3 + (1 : Int32))))) (32 : Int32)) ||| ((Int32.toInt64 (xs (Int32.toNatClampNeg (l3 + (2 : Int32))))) &&& (4294967295 : Int64)))] C0.1 am_YYl cv_13_115 (M_X7_seed _ g w ((am_lshl (Int32.toInt64 (xs (Int32.toNatClampNeg (l3 + (1 : Int32))))) (32 : Int32)) ||| ((Int32.toInt64 (xs (Int32.toNatClampNeg (l3 + (2 : Int32))))) &&& (4294967295 : Int64))) _ hq145) (ci := 7) rfl (by decide) rfl (by rw [hR]; rfl) rfl rfl (Nat.le_of_ble_eq_true rfl) (by decide +kernel) ?_
        refine am_b1 C0 am_YYk (pc := 887) (pc2 := 892) [(.aload_n 2, 0, 0, .null), (.aload_n 0, 0, 0, .null), (.iload_n 3, 0, 0, .null), (.iconst 1, 0, 0, .int 1), (.iadd, 0, 0, .null)] (L := [some (.ref 98), some (.ref 0), some (.ref 26), some (.int (l3))]) (st := [.long (q145.1)]) (L' := [some (.ref 98), some (.ref 0), some (.ref 26), some (.int (l3))]) (st' := [.int (l3 + (1 : Int32)), .ref 98, .ref 26, .long (q145.1)]) (g' := g) (w' := q145.2) (cl := []) (by decide +kernel) rfl trivial ?_
        obtain ⟨hg146, hf⟩ := am_g hf
        refine am_sld C0.1 hX hg146 (by decide +kernel) ?_
        refine am_b1 C0 am_YYk (pc := 893) (pc2 := 901) [(.i2l, 0, 0, .null), (.bipush 32, 0, 0, .int 32), (.lshl, 0, 0, .null), (.aload_n 0, 0, 0, .null), (.iload_n 3, 0, 0, .null), (.iconst 2, 0, 0, .int 2), (.iadd, 0, 0, .null)] (L := [some (.ref 98), some (.ref 0), some (.ref 26), some (.int (l3))]) (st := [.int (xs (Int32.toNatClampNeg (l3 + (1 : Int32)))), .ref 26, .long (q145.1)]) (L' := [some (.ref 98), some (.ref 0), some (.ref 26), some (.int (l3))]) (st' := [.int (l3 + (2 : Int32)), .ref 98, .long (am_lshl (Int32.toInt64 (xs (Int32.toNatClampNeg (l3 + (1 : Int32))))) (32 : Int32)), .ref 26, .long (q145.1)]) (g' := g) (w' := q145.2) (cl := []) (by decide +kernel) rfl trivial ?_
        obtain ⟨hg147, hf⟩ := am_g hf
        refine am_sld C0.1 hX hg147 (by decide +kernel) ?_
        refine am_b1 C0 am_YYk (pc := 902) (pc2 := 908) [(.i2l, 0, 0, .null), (.ldc2_w 73, 0, 0, .long 4294967295), (.land, 0, 0, .null), (.lor, 0, 0, .null)] (L := [some (.ref 98), some (.ref 0), some (.ref 26), some (.int (l3))]) (st := [.int (xs (Int32.toNatClampNeg (l3 + (2 : Int32)))), .long (am_lshl (Int32.toInt64 (xs (Int32.toNatClampNeg (l3 + (1 : Int32))))) (32 : Int32)), .ref 26, .long (q145.1)]) (L' := [some (.ref 98), some (.ref 0), some (.ref 26), some (.int (l3))]) (st' := [.long ((am_lshl (Int32.toInt64 (xs (Int32.toNatClampNeg (l3 + (1 : Int32))))) (32 : Int32)) ||| ((Int32.toInt64 (xs (Int32.toNatClampNeg (l3 + (2 : Int32))))) &&& (4294967295 : Int64))), .ref 26, .long (q145.1)]) (g' := g) (w' := q145.2) (cl := []) (by decide +kernel) rfl trivial ?_
        obtain ⟨q148, hq148, hf⟩ := Option.bind_eq_some_iff.mp hf
        refine am_callV (mi := mi_X8_seed) (rm := rm_X8_seed) [.long ((am_lshl (Int32.toInt64 (xs (Int32.toNatClampNeg (l3 + (1 : Int32))))) (32 : Int32)) ||| ((Int32.toInt64 (xs (Int32.toNatClampNeg (l3 + (2 : Int32))))) &&& (4294967295 : Int64)))] C0.1 am_YYl cv_13_119 (M_X8_seed _ g q145.2 ((am_lshl (Int32.toInt64 (xs (Int32.toNatClampNeg (l3 + (1 : Int32))))) (32 : Int32)) ||| ((Int32.toInt64 (xs (Int32.toNatClampNeg (l3 + (2 : Int32))))) &&& (4294967295 : Int64))) _ hq148) (ci := 8) rfl (by decide) rfl (by rw [hR]; rfl) rfl rfl (Nat.le_of_ble_eq_true rfl) (by decide +kernel) ?_
        refine am_b1 C0 am_YYk (pc := 911) (pc2 := 912) [(.lcmp, 0, 0, .null)] (L := [some (.ref 98), some (.ref 0), some (.ref 26), some (.int (l3))]) (st := [.long (q148.1), .long (q145.1)]) (L' := [some (.ref 98), some (.ref 0), some (.ref 26), some (.int (l3))]) (st' := [.int (lg_cmp q145.1 q148.1)]) (g' := g) (w' := q148.2) (cl := []) (by decide +kernel) rfl trivial ?_
        refine am_if_eq C0 (off := 97) (tgt := 1009) (by decide +kernel) (fun hc149 => ?_) (fun hc149 => ?_)
        · rw [if_pos hc149] at hf
          exact B_L_law_1009 x C0 hR Q hret F xs Ls hX R hR1 _ (fun l3 g w hf => ih l3 g w hf) (l3) (g) (q148.2) hf
        · rw [if_neg hc149] at hf
          refine am_b1 C0 am_YYk (pc := 915) (pc2 := 916) [(.iconst 0, 0, 0, .int 0)] (L := [some (.ref 98), some (.ref 0), some (.ref 26), some (.int (l3))]) (st := []) (L' := [some (.ref 98), some (.ref 0), some (.ref 26), some (.int (l3))]) (st' := [.int ((0 : Int32))]) (g' := g) (w' := q148.2) (cl := []) (by decide +kernel) rfl trivial ?_
          cases hf
          exact absurd hR1 (by decide)
      rw [if_neg hs193] at hf
      by_cases hs194 : ((xs (Int32.toNatClampNeg l3)) &&& (31 : Int32)) = (24 : Int32)
      · rw [if_pos hs194] at hf
        refine am_swIn C0 (n := 128) (dflt := 977) (lo := 0) (hi := 27) (offs := #[128, 151, 164, 177, 190, 223, 256, 269, 302, 315, 328, 387, 420, 443, 476, 539, 598, 611, 650, 663, 706, 739, 762, 831, 885, 908, 931, 954]) (by decide +kernel) (off := 885) (tgt := 917) (by rw [hs194]; decide) (by rw [hs194]; decide) (by rw [hs194]; rfl) (by decide) ?_
        refine am_b1 C0 am_YYk (pc := 917) (pc2 := 922) [(.aload_n 1, 0, 0, .null), (.aload_n 0, 0, 0, .null), (.iload_n 3, 0, 0, .null), (.iconst 1, 0, 0, .int 1), (.iadd, 0, 0, .null)] (L := [some (.ref 98), some (.ref 0), some (.ref 26), some (.int (l3))]) (st := []) (L' := [some (.ref 98), some (.ref 0), some (.ref 26), some (.int (l3))]) (st' := [.int (l3 + (1 : Int32)), .ref 98, .ref 0]) (g' := g) (w' := w) (cl := []) (by decide +kernel) rfl trivial ?_
        obtain ⟨hg150, hf⟩ := am_g hf
        refine am_sld C0.1 hX hg150 (by decide +kernel) ?_
        obtain ⟨q151, hq151, hf⟩ := Option.bind_eq_some_iff.mp hf
        refine am_callV (mi := mi_X7_afternoons) (rm := rm_X7_afternoons) [.int (xs (Int32.toNatClampNeg (l3 + (1 : Int32))))] C0.1 am_YYl cv_13_120 (M_X7_afternoons _ F g w (xs (Int32.toNatClampNeg (l3 + (1 : Int32)))) _ hq151) (ci := 7) rfl (by decide) rfl (by rw [hR]; rfl) rfl rfl (Nat.le_of_ble_eq_true rfl) (by decide +kernel) ?_
        refine am_b1 C0 am_YYk (pc := 926) (pc2 := 931) [(.aload_n 2, 0, 0, .null), (.aload_n 0, 0, 0, .null), (.iload_n 3, 0, 0, .null), (.iconst 1, 0, 0, .int 1), (.iadd, 0, 0, .null)] (L := [some (.ref 98), some (.ref 0), some (.ref 26), some (.int (l3))]) (st := [.int (q151.1)]) (L' := [some (.ref 98), some (.ref 0), some (.ref 26), some (.int (l3))]) (st' := [.int (l3 + (1 : Int32)), .ref 98, .ref 26, .int (q151.1)]) (g' := q151.2.1) (w' := q151.2.2) (cl := []) (by decide +kernel) rfl trivial ?_
        obtain ⟨hg152, hf⟩ := am_g hf
        refine am_sld C0.1 hX hg152 (by decide +kernel) ?_
        obtain ⟨q153, hq153, hf⟩ := Option.bind_eq_some_iff.mp hf
        refine am_callV (mi := mi_X8_afternoons) (rm := rm_X8_afternoons) [.int (xs (Int32.toNatClampNeg (l3 + (1 : Int32))))] C0.1 am_YYl cv_13_123 (M_X8_afternoons _ F q151.2.1 q151.2.2 (xs (Int32.toNatClampNeg (l3 + (1 : Int32)))) _ hq153) (ci := 8) rfl (by decide) rfl (by rw [hR]; rfl) rfl rfl (Nat.le_of_ble_eq_true rfl) (by decide +kernel) ?_
        refine am_icmp_eq C0 (off := 74) (tgt := 1009) (by decide +kernel) (fun hc154 => ?_) (fun hc154 => ?_)
        · rw [if_pos hc154] at hf
          exact B_L_law_1009 x C0 hR Q hret F xs Ls hX R hR1 _ (fun l3 g w hf => ih l3 g w hf) (l3) (q153.2.1) (q153.2.2) hf
        · rw [if_neg hc154] at hf
          refine am_b1 C0 am_YYk (pc := 938) (pc2 := 939) [(.iconst 0, 0, 0, .int 0)] (L := [some (.ref 98), some (.ref 0), some (.ref 26), some (.int (l3))]) (st := []) (L' := [some (.ref 98), some (.ref 0), some (.ref 26), some (.int (l3))]) (st' := [.int ((0 : Int32))]) (g' := q153.2.1) (w' := q153.2.2) (cl := []) (by decide +kernel) rfl trivial ?_
          cases hf
          exact absurd hR1 (by decide)
      rw [if_neg hs194] at hf
      by_cases hs195 : ((xs (Int32.toNatClampNeg l3)) &&& (31 : Int32)) = (25 : Int32)
      · rw [if_pos hs195] at hf
        refine am_swIn C0 (n := 128) (dflt := 977) (lo := 0) (hi := 27) (offs := #[128, 151, 164, 177, 190, 223, 256, 269, 302, 315, 328, 387, 420, 443, 476, 539, 598, 611, 650, 663, 706, 739, 762, 831, 885, 908, 931, 954]) (by decide +kernel) (off := 908) (tgt := 940) (by rw [hs195]; decide) (by rw [hs195]; decide) (by rw [hs195]; rfl) (by decide) ?_
        refine am_b1 C0 am_YYk (pc := 940) (pc2 := 945) [(.aload_n 1, 0, 0, .null), (.aload_n 0, 0, 0, .null), (.iload_n 3, 0, 0, .null), (.iconst 1, 0, 0, .int 1), (.iadd, 0, 0, .null)] (L := [some (.ref 98), some (.ref 0), some (.ref 26), some (.int (l3))]) (st := []) (L' := [some (.ref 98), some (.ref 0), some (.ref 26), some (.int (l3))]) (st' := [.int (l3 + (1 : Int32)), .ref 98, .ref 0]) (g' := g) (w' := w) (cl := []) (by decide +kernel) rfl trivial ?_
        obtain ⟨hg155, hf⟩ := am_g hf
        refine am_sld C0.1 hX hg155 (by decide +kernel) ?_
        obtain ⟨q156, hq156, hf⟩ := Option.bind_eq_some_iff.mp hf
        refine am_callV (mi := mi_X7_keep) (rm := rm_X7_keep) [.int (xs (Int32.toNatClampNeg (l3 + (1 : Int32))))] C0.1 am_YYl cv_13_124 (M_X7_keep _ g w (xs (Int32.toNatClampNeg (l3 + (1 : Int32)))) _ hq156) (ci := 7) rfl (by decide) rfl (by rw [hR]; rfl) rfl rfl (Nat.le_of_ble_eq_true rfl) (by decide +kernel) ?_
        refine am_b1 C0 am_YYk (pc := 949) (pc2 := 954) [(.aload_n 2, 0, 0, .null), (.aload_n 0, 0, 0, .null), (.iload_n 3, 0, 0, .null), (.iconst 1, 0, 0, .int 1), (.iadd, 0, 0, .null)] (L := [some (.ref 98), some (.ref 0), some (.ref 26), some (.int (l3))]) (st := [.int (q156.1)]) (L' := [some (.ref 98), some (.ref 0), some (.ref 26), some (.int (l3))]) (st' := [.int (l3 + (1 : Int32)), .ref 98, .ref 26, .int (q156.1)]) (g' := q156.2) (w' := w) (cl := []) (by decide +kernel) rfl trivial ?_
        obtain ⟨hg157, hf⟩ := am_g hf
        refine am_sld C0.1 hX hg157 (by decide +kernel) ?_
        obtain ⟨q158, hq158, hf⟩ := Option.bind_eq_some_iff.mp hf
        refine am_callV (mi := mi_X8_keep) (rm := rm_X8_keep) [.int (xs (Int32.toNatClampNeg (l3 + (1 : Int32))))] C0.1 am_YYl cv_13_127 (M_X8_keep _ F q156.2 w (xs (Int32.toNatClampNeg (l3 + (1 : Int32)))) _ hq158) (ci := 8) rfl (by decide) rfl (by rw [hR]; rfl) rfl rfl (Nat.le_of_ble_eq_true rfl) (by decide +kernel) ?_
        refine am_icmp_eq C0 (off := 51) (tgt := 1009) (by decide +kernel) (fun hc159 => ?_) (fun hc159 => ?_)
        · rw [if_pos hc159] at hf
          exact B_L_law_1009 x C0 hR Q hret F xs Ls hX R hR1 _ (fun l3 g w hf => ih l3 g w hf) (l3) (q158.2) (w) hf
        · rw [if_neg hc159] at hf
          refine am_b1 C0 am_YYk (pc := 961) (pc2 := 962) [(.iconst 0, 0, 0, .int 0)] (L := [some (.ref 98), some (.ref 0), some (.ref 26), some (.int (l3))]) (st := []) (L' := [some (.ref 98), some (.ref 0), some (.ref 26), some (.int (l3))]) (st' := [.int ((0 : Int32))]) (g' := q158.2) (w' := w) (cl := []) (by decide +kernel) rfl trivial ?_
          cases hf
          exact absurd hR1 (by decide)
      rw [if_neg hs195] at hf
      by_cases hs196 : ((xs (Int32.toNatClampNeg l3)) &&& (31 : Int32)) = (26 : Int32)
      · rw [if_pos hs196] at hf
        refine am_swIn C0 (n := 128) (dflt := 977) (lo := 0) (hi := 27) (offs := #[128, 151, 164, 177, 190, 223, 256, 269, 302, 315, 328, 387, 420, 443, 476, 539, 598, 611, 650, 663, 706, 739, 762, 831, 885, 908, 931, 954]) (by decide +kernel) (off := 931) (tgt := 963) (by rw [hs196]; decide) (by rw [hs196]; decide) (by rw [hs196]; rfl) (by decide) ?_
        refine am_b1 C0 am_YYk (pc := 963) (pc2 := 968) [(.aload_n 1, 0, 0, .null), (.aload_n 0, 0, 0, .null), (.iload_n 3, 0, 0, .null), (.iconst 1, 0, 0, .int 1), (.iadd, 0, 0, .null)] (L := [some (.ref 98), some (.ref 0), some (.ref 26), some (.int (l3))]) (st := []) (L' := [some (.ref 98), some (.ref 0), some (.ref 26), some (.int (l3))]) (st' := [.int (l3 + (1 : Int32)), .ref 98, .ref 0]) (g' := g) (w' := w) (cl := []) (by decide +kernel) rfl trivial ?_
        obtain ⟨hg160, hf⟩ := am_g hf
        refine am_sld C0.1 hX hg160 (by decide +kernel) ?_
        obtain ⟨q161, hq161, hf⟩ := Option.bind_eq_some_iff.mp hf
        refine am_callV (mi := mi_X7_again) (rm := rm_X7_again) [.int (xs (Int32.toNatClampNeg (l3 + (1 : Int32))))] C0.1 am_YYl cv_13_128 (M_X7_again _ g w (xs (Int32.toNatClampNeg (l3 + (1 : Int32)))) _ hq161) (ci := 7) rfl (by decide) rfl (by rw [hR]; rfl) rfl rfl (Nat.le_of_ble_eq_true rfl) (by decide +kernel) ?_
        refine am_b1 C0 am_YYk (pc := 972) (pc2 := 977) [(.aload_n 2, 0, 0, .null), (.aload_n 0, 0, 0, .null), (.iload_n 3, 0, 0, .null), (.iconst 1, 0, 0, .int 1), (.iadd, 0, 0, .null)] (L := [some (.ref 98), some (.ref 0), some (.ref 26), some (.int (l3))]) (st := [.int (q161.1)]) (L' := [some (.ref 98), some (.ref 0), some (.ref 26), some (.int (l3))]) (st' := [.int (l3 + (1 : Int32)), .ref 98, .ref 26, .int (q161.1)]) (g' := q161.2) (w' := w) (cl := []) (by decide +kernel) rfl trivial ?_
        obtain ⟨hg162, hf⟩ := am_g hf
        refine am_sld C0.1 hX hg162 (by decide +kernel) ?_
        obtain ⟨q163, hq163, hf⟩ := Option.bind_eq_some_iff.mp hf
        refine am_callV (mi := mi_X8_again) (rm := rm_X8_again) [.int (xs (Int32.toNatClampNeg (l3 + (1 : Int32))))] C0.1 am_YYl cv_13_131 (M_X8_again _ F q161.2 w (xs (Int32.toNatClampNeg (l3 + (1 : Int32)))) _ hq163) (ci := 8) rfl (by decide) rfl (by rw [hR]; rfl) rfl rfl (Nat.le_of_ble_eq_true rfl) (by decide +kernel) ?_
        refine am_icmp_eq C0 (off := 28) (tgt := 1009) (by decide +kernel) (fun hc164 => ?_) (fun hc164 => ?_)
        · rw [if_pos hc164] at hf
          exact B_L_law_1009 x C0 hR Q hret F xs Ls hX R hR1 _ (fun l3 g w hf => ih l3 g w hf) (l3) (q163.2) (w) hf
        · rw [if_neg hc164] at hf
          refine am_b1 C0 am_YYk (pc := 984) (pc2 := 985) [(.iconst 0, 0, 0, .int 0)] (L := [some (.ref 98), some (.ref 0), some (.ref 26), some (.int (l3))]) (st := []) (L' := [some (.ref 98), some (.ref 0), some (.ref 26), some (.int (l3))]) (st' := [.int ((0 : Int32))]) (g' := q163.2) (w' := w) (cl := []) (by decide +kernel) rfl trivial ?_
          cases hf
          exact absurd hR1 (by decide)
      rw [if_neg hs196] at hf
      by_cases hs197 : ((xs (Int32.toNatClampNeg l3)) &&& (31 : Int32)) = (27 : Int32)
      · rw [if_pos hs197] at hf
        refine am_swIn C0 (n := 128) (dflt := 977) (lo := 0) (hi := 27) (offs := #[128, 151, 164, 177, 190, 223, 256, 269, 302, 315, 328, 387, 420, 443, 476, 539, 598, 611, 650, 663, 706, 739, 762, 831, 885, 908, 931, 954]) (by decide +kernel) (off := 954) (tgt := 986) (by rw [hs197]; decide) (by rw [hs197]; decide) (by rw [hs197]; rfl) (by decide) ?_
        refine am_b1 C0 am_YYk (pc := 986) (pc2 := 991) [(.aload_n 1, 0, 0, .null), (.aload_n 0, 0, 0, .null), (.iload_n 3, 0, 0, .null), (.iconst 1, 0, 0, .int 1), (.iadd, 0, 0, .null)] (L := [some (.ref 98), some (.ref 0), some (.ref 26), some (.int (l3))]) (st := []) (L' := [some (.ref 98), some (.ref 0), some (.ref 26), some (.int (l3))]) (st' := [.int (l3 + (1 : Int32)), .ref 98, .ref 0]) (g' := g) (w' := w) (cl := []) (by decide +kernel) rfl trivial ?_
        obtain ⟨hg165, hf⟩ := am_g hf
        refine am_sld C0.1 hX hg165 (by decide +kernel) ?_
        obtain ⟨q166, hq166, hf⟩ := Option.bind_eq_some_iff.mp hf
        refine am_callV (mi := mi_X7_count) (rm := rm_X7_count) [.int (xs (Int32.toNatClampNeg (l3 + (1 : Int32))))] C0.1 am_YYl cv_13_132 (M_X7_count _ F g w (xs (Int32.toNatClampNeg (l3 + (1 : Int32)))) _ hq166) (ci := 7) rfl (by decide) rfl (by rw [hR]; rfl) rfl rfl (Nat.le_of_ble_eq_true rfl) (by decide +kernel) ?_
        refine am_b1 C0 am_YYk (pc := 995) (pc2 := 1000) [(.aload_n 2, 0, 0, .null), (.aload_n 0, 0, 0, .null), (.iload_n 3, 0, 0, .null), (.iconst 1, 0, 0, .int 1), (.iadd, 0, 0, .null)] (L := [some (.ref 98), some (.ref 0), some (.ref 26), some (.int (l3))]) (st := [.int (q166)]) (L' := [some (.ref 98), some (.ref 0), some (.ref 26), some (.int (l3))]) (st' := [.int (l3 + (1 : Int32)), .ref 98, .ref 26, .int (q166)]) (g' := g) (w' := w) (cl := []) (by decide +kernel) rfl trivial ?_
        obtain ⟨hg167, hf⟩ := am_g hf
        refine am_sld C0.1 hX hg167 (by decide +kernel) ?_
        obtain ⟨q168, hq168, hf⟩ := Option.bind_eq_some_iff.mp hf
        refine am_callV (mi := mi_X8_count) (rm := rm_X8_count) [.int (xs (Int32.toNatClampNeg (l3 + (1 : Int32))))] C0.1 am_YYl cv_13_135 (M_X8_count _ F g w (xs (Int32.toNatClampNeg (l3 + (1 : Int32)))) _ hq168) (ci := 8) rfl (by decide) rfl (by rw [hR]; rfl) rfl rfl (Nat.le_of_ble_eq_true rfl) (by decide +kernel) ?_
        refine am_icmp_eq C0 (off := 5) (tgt := 1009) (by decide +kernel) (fun hc169 => ?_) (fun hc169 => ?_)
        · rw [if_pos hc169] at hf
          exact B_L_law_1009 x C0 hR Q hret F xs Ls hX R hR1 _ (fun l3 g w hf => ih l3 g w hf) (l3) (g) (w) hf
        · rw [if_neg hc169] at hf
          refine am_b1 C0 am_YYk (pc := 1007) (pc2 := 1008) [(.iconst 0, 0, 0, .int 0)] (L := [some (.ref 98), some (.ref 0), some (.ref 26), some (.int (l3))]) (st := []) (L' := [some (.ref 98), some (.ref 0), some (.ref 26), some (.int (l3))]) (st' := [.int ((0 : Int32))]) (g' := g) (w' := w) (cl := []) (by decide +kernel) rfl trivial ?_
          cases hf
          exact absurd hR1 (by decide)
      rw [if_neg hs197] at hf
      refine am_swOut C0 (n := 128) (dflt := 977) (lo := 0) (hi := 27) (offs := #[128, 151, 164, 177, 190, 223, 256, 269, 302, 315, 328, 387, 420, 443, 476, 539, 598, 611, 650, 663, 706, 739, 762, 831, 885, 908, 931, 954]) (by decide +kernel) (tgt := 1009) (am_sw27 hs170 hs171 hs172 hs173 hs174 hs175 hs176 hs177 hs178 hs179 hs180 hs181 hs182 hs183 hs184 hs185 hs186 hs187 hs188 hs189 hs190 hs191 hs192 hs193 hs194 hs195 hs196 hs197) (by decide) ?_
      exact B_L_law_1009 x C0 hR Q hret F xs Ls hX R hR1 _ (fun l3 g w hf => ih l3 g w hf) (l3) (g) (w) hf
