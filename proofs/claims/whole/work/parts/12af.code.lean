/-! ShutterTown$Followed.add(IIZ)Z at (22,) -/
def f_X1_add_57 (p1 : Int32) (p2 : Int32) (p3 : Int32)  (s1 : Int32) (s2 : Int32) (s3 : Int32) (g : am_G) : Option (Int32 × am_G) :=
  if am_in s1 4 then
    some ((1 : Int32), am_u (am_u g 23 (Int32.toNatClampNeg s1) (s2 &&& s3)) 22 1 (((am_u g 23 (Int32.toNatClampNeg s1) (s2 &&& s3)) 22 1) + (1 : Int32)))
  else none
set_option maxRecDepth 20000 in
theorem B_X1_add_57 (x : am_X) (C0 : am_Cm x 1 cX1_add 5 (some .boolean)) (hR : am_R x = rm_X1_add) (w : am_J) (p1 : Int32) (p2 : Int32) (p3 : Int32) (R : Int32 × am_G)   (s1 : Int32) (s2 : Int32) (s3 : Int32) (g : am_G) (hf : f_X1_add_57 p1 p2 p3 s1 s2 s3 g = some R) : am_Ev x 5 (0, 0) (am_Q x (0, 0) (some (.int R.1)) am_YY (R.2) w) 57 [some (.ref 22), some (.int (p1)), some (.int (p2)), some (.int (p3)), none] [.int (s3), .int (s2), .int (s1), .ref 23] am_YY g w := by
  unfold f_X1_add_57 at hf
  obtain ⟨hg1, hf⟩ := am_g hf
  refine am_b1 C0 am_YYk (pc := 57) (pc2 := 70) [(.iand, 0, 0, .null), (.iastore, 0, 0, .null), (.aload_n 0, 0, 0, .null), (.dup, 0, 0, .null), (.getfield 15, 1, 1, .null), (.iconst 1, 0, 0, .int 1), (.iadd, 0, 0, .null), (.putfield 15, 1, 1, .null), (.iconst 1, 0, 0, .int 1)] (L := [some (.ref 22), some (.int (p1)), some (.int (p2)), some (.int (p3)), none]) (st := [.int (s3), .int (s2), .int (s1), .ref 23]) (L' := [some (.ref 22), some (.int (p1)), some (.int (p2)), some (.int (p3)), none]) (st' := [.int ((1 : Int32))]) (g' := am_u (am_u g 23 (Int32.toNatClampNeg s1) (s2 &&& s3)) 22 1 (((am_u g 23 (Int32.toNatClampNeg s1) (s2 &&& s3)) 22 1) + (1 : Int32))) (w' := w) (cl := [am_in s1 4]) (by decide +kernel) rfl ⟨hg1, trivial⟩ ?_
  cases hf
  exact am_zret C0 (by decide +kernel) (Or.inr rfl)
def f_X1_add (g : am_G) (p1 : Int32) (p2 : Int32) (p3 : Int32) : Option (Int32 × am_G) :=
  (f_X7_isState p1).bind fun q2 =>
    if q2 = 0 then
      some ((0 : Int32), g)
    else
      (f_X7_isWord p2).bind fun q3 =>
        if q3 = 0 then
          some ((0 : Int32), g)
        else
          if (g 22 1) < (6 : Int32) then
            if am_in p1 4 then
              if p3 = 0 then
                f_X1_add_57 p1 p2 p3 (p1) (g 23 (Int32.toNatClampNeg p1)) (((1 : Int32) <<< (p2 &&& 31)) ||| ((1 : Int32) <<< (((p2 + (1 : Int32)) - (p2 + (1 : Int32)) / (4 : Int32) * (4 : Int32)) &&& 31))) (g)
              else
                f_X1_add_57 p1 p2 p3 (p1) (g 23 (Int32.toNatClampNeg p1)) ((1 : Int32) <<< (p2 &&& 31)) (g)
            else none
          else
            some ((0 : Int32), g)
set_option maxRecDepth 20000 in
theorem M_X1_add (l : Launch) (g : am_G) (w : am_J) (p1 : Int32) (p2 : Int32) (p3 : Int32) (R : Int32 × am_G) (hf : f_X1_add g p1 p2 p3 = some R) : am_Met l mi_X1_add rm_X1_add [.ref 22, .int p1, .int p2, .int p3] am_YY g w (some (.int R.1)) am_YY (R.2) w := by
  refine am_met (own := 1) [some (.ref 22), some (.int (p1)), some (.int (p2)), some (.int (p3)), none] (by decide) rfl rfl (by first | decide | exact Nat.le_of_ble_eq_true rfl) (fun x C0 hR hl hnm => ?_)
  unfold f_X1_add at hf
  refine am_b1 C0 am_YYk (pc := 0) (pc2 := 1) [(.iload_n 1, 0, 0, .null)] (L := [some (.ref 22), some (.int (p1)), some (.int (p2)), some (.int (p3)), none]) (st := []) (L' := [some (.ref 22), some (.int (p1)), some (.int (p2)), some (.int (p3)), none]) (st' := [.int (p1)]) (g' := g) (w' := w) (cl := []) (by decide +kernel) rfl trivial ?_
  obtain ⟨q2, hq2, hf⟩ := Option.bind_eq_some_iff.mp hf
  refine am_callSN (mi := mi_X7_isState) (rm := rm_X7_isState) [.int (p1)] C0.1 cv_1_25 (M_X7_isState _ g w p1 _ hq2) (by rw [hR]; rfl) rfl rfl (Nat.le_of_ble_eq_true rfl) (by decide +kernel) ?_
  refine am_if_eq C0 (off := 19) (tgt := 23) (by decide +kernel) (fun hc8 => ?_) (fun hc8 => ?_)
  · rw [if_pos hc8] at hf
    refine am_b1 C0 am_YYk (pc := 23) (pc2 := 24) [(.iconst 0, 0, 0, .int 0)] (L := [some (.ref 22), some (.int (p1)), some (.int (p2)), some (.int (p3)), none]) (st := []) (L' := [some (.ref 22), some (.int (p1)), some (.int (p2)), some (.int (p3)), none]) (st' := [.int ((0 : Int32))]) (g' := g) (w' := w) (cl := []) (by decide +kernel) rfl trivial ?_
    cases hf
    exact am_zret C0 (by decide +kernel) (Or.inl rfl)
  · rw [if_neg hc8] at hf
    refine am_b1 C0 am_YYk (pc := 7) (pc2 := 8) [(.iload_n 2, 0, 0, .null)] (L := [some (.ref 22), some (.int (p1)), some (.int (p2)), some (.int (p3)), none]) (st := []) (L' := [some (.ref 22), some (.int (p1)), some (.int (p2)), some (.int (p3)), none]) (st' := [.int (p2)]) (g' := g) (w' := w) (cl := []) (by decide +kernel) rfl trivial ?_
    obtain ⟨q3, hq3, hf⟩ := Option.bind_eq_some_iff.mp hf
    refine am_callSN (mi := mi_X7_isWord) (rm := rm_X7_isWord) [.int (p2)] C0.1 cv_1_29 (M_X7_isWord _ g w p2 _ hq3) (by rw [hR]; rfl) rfl rfl (Nat.le_of_ble_eq_true rfl) (by decide +kernel) ?_
    refine am_if_eq C0 (off := 12) (tgt := 23) (by decide +kernel) (fun hc7 => ?_) (fun hc7 => ?_)
    · rw [if_pos hc7] at hf
      refine am_b1 C0 am_YYk (pc := 23) (pc2 := 24) [(.iconst 0, 0, 0, .int 0)] (L := [some (.ref 22), some (.int (p1)), some (.int (p2)), some (.int (p3)), none]) (st := []) (L' := [some (.ref 22), some (.int (p1)), some (.int (p2)), some (.int (p3)), none]) (st' := [.int ((0 : Int32))]) (g' := g) (w' := w) (cl := []) (by decide +kernel) rfl trivial ?_
      cases hf
      exact am_zret C0 (by decide +kernel) (Or.inl rfl)
    · rw [if_neg hc7] at hf
      refine am_b1 C0 am_YYk (pc := 14) (pc2 := 20) [(.aload_n 0, 0, 0, .null), (.getfield 15, 1, 1, .null), (.bipush 6, 0, 0, .int 6)] (L := [some (.ref 22), some (.int (p1)), some (.int (p2)), some (.int (p3)), none]) (st := []) (L' := [some (.ref 22), some (.int (p1)), some (.int (p2)), some (.int (p3)), none]) (st' := [.int ((6 : Int32)), .int (g 22 1)]) (g' := g) (w' := w) (cl := []) (by decide +kernel) rfl trivial ?_
      refine am_icmp_lt C0 (off := 5) (tgt := 25) (by decide +kernel) (fun hc6 => ?_) (fun hc6 => ?_)
      · rw [if_pos hc6] at hf
        obtain ⟨hg4, hf⟩ := am_g hf
        refine am_b1 C0 am_YYk (pc := 25) (pc2 := 40) [(.iload_n 2, 0, 0, .null), (.iconst 1, 0, 0, .int 1), (.iadd, 0, 0, .null), (.iconst 4, 0, 0, .int 4), (.irem, 0, 0, .null), (.istore 4, 0, 0, .null), (.aload_n 0, 0, 0, .null), (.getfield 11, 1, 0, .null), (.iload_n 1, 0, 0, .null), (.dup2, 0, 0, .null), (.iaload, 0, 0, .null), (.iload_n 3, 0, 0, .null)] (L := [some (.ref 22), some (.int (p1)), some (.int (p2)), some (.int (p3)), none]) (st := []) (L' := [some (.ref 22), some (.int (p1)), some (.int (p2)), some (.int (p3)), some (.int ((p2 + (1 : Int32)) - (p2 + (1 : Int32)) / (4 : Int32) * (4 : Int32)))]) (st' := [.int (p3), .int (g 23 (Int32.toNatClampNeg p1)), .int (p1), .ref 23]) (g' := g) (w' := w) (cl := [¬ (4 : Int32) = 0, am_in p1 4]) (by decide +kernel) rfl ⟨by decide, hg4, trivial⟩ ?_
        refine am_if_eq C0 (off := 9) (tgt := 49) (by decide +kernel) (fun hc5 => ?_) (fun hc5 => ?_)
        · rw [if_pos hc5] at hf
          refine am_b1 C0 am_YYk (pc := 49) (pc2 := 57) [(.iconst 1, 0, 0, .int 1), (.iload_n 2, 0, 0, .null), (.ishl, 0, 0, .null), (.iconst 1, 0, 0, .int 1), (.iload 4, 0, 0, .null), (.ishl, 0, 0, .null), (.ior, 0, 0, .null)] (L := [some (.ref 22), some (.int (p1)), some (.int (p2)), some (.int (p3)), some (.int ((p2 + (1 : Int32)) - (p2 + (1 : Int32)) / (4 : Int32) * (4 : Int32)))]) (st := [.int (g 23 (Int32.toNatClampNeg p1)), .int (p1), .ref 23]) (L' := [some (.ref 22), some (.int (p1)), some (.int (p2)), some (.int (p3)), some (.int ((p2 + (1 : Int32)) - (p2 + (1 : Int32)) / (4 : Int32) * (4 : Int32)))]) (st' := [.int (((1 : Int32) <<< (p2 &&& 31)) ||| ((1 : Int32) <<< (((p2 + (1 : Int32)) - (p2 + (1 : Int32)) / (4 : Int32) * (4 : Int32)) &&& 31))), .int (g 23 (Int32.toNatClampNeg p1)), .int (p1), .ref 23]) (g' := g) (w' := w) (cl := []) (by decide +kernel) rfl trivial ?_
          refine am_wk [some (.ref 22), some (.int (p1)), some (.int (p2)), some (.int (p3)), none] ⟨rfl, rfl, rfl, rfl, trivial⟩ rfl ?_
          exact B_X1_add_57 x C0 hR w p1 p2 p3 R  (p1) (g 23 (Int32.toNatClampNeg p1)) (((1 : Int32) <<< (p2 &&& 31)) ||| ((1 : Int32) <<< (((p2 + (1 : Int32)) - (p2 + (1 : Int32)) / (4 : Int32) * (4 : Int32)) &&& 31))) (g) hf
        · rw [if_neg hc5] at hf
          refine am_b1 C0 am_YYk (pc := 43) (pc2 := 46) [(.iconst 1, 0, 0, .int 1), (.iload_n 2, 0, 0, .null), (.ishl, 0, 0, .null)] (L := [some (.ref 22), some (.int (p1)), some (.int (p2)), some (.int (p3)), some (.int ((p2 + (1 : Int32)) - (p2 + (1 : Int32)) / (4 : Int32) * (4 : Int32)))]) (st := [.int (g 23 (Int32.toNatClampNeg p1)), .int (p1), .ref 23]) (L' := [some (.ref 22), some (.int (p1)), some (.int (p2)), some (.int (p3)), some (.int ((p2 + (1 : Int32)) - (p2 + (1 : Int32)) / (4 : Int32) * (4 : Int32)))]) (st' := [.int ((1 : Int32) <<< (p2 &&& 31)), .int (g 23 (Int32.toNatClampNeg p1)), .int (p1), .ref 23]) (g' := g) (w' := w) (cl := []) (by decide +kernel) rfl trivial ?_
          refine am_goto C0 (off := 11) (tgt := 57) (by decide +kernel) ?_
          refine am_wk [some (.ref 22), some (.int (p1)), some (.int (p2)), some (.int (p3)), none] ⟨rfl, rfl, rfl, rfl, trivial⟩ rfl ?_
          exact B_X1_add_57 x C0 hR w p1 p2 p3 R  (p1) (g 23 (Int32.toNatClampNeg p1)) ((1 : Int32) <<< (p2 &&& 31)) (g) hf
      · rw [if_neg hc6] at hf
        refine am_b1 C0 am_YYk (pc := 23) (pc2 := 24) [(.iconst 0, 0, 0, .int 0)] (L := [some (.ref 22), some (.int (p1)), some (.int (p2)), some (.int (p3)), none]) (st := []) (L' := [some (.ref 22), some (.int (p1)), some (.int (p2)), some (.int (p3)), none]) (st' := [.int ((0 : Int32))]) (g' := g) (w' := w) (cl := []) (by decide +kernel) rfl trivial ?_
        cases hf
        exact am_zret C0 (by decide +kernel) (Or.inl rfl)
/-! ShutterTown$Followed.size()I at (22,) -/
def f_X1_size (g : am_G) : Option (Int32) :=
  some (g 22 1)
set_option maxRecDepth 20000 in
theorem M_X1_size (l : Launch) (g : am_G) (w : am_J)  (R : Int32) (hf : f_X1_size g = some R) : am_Met l mi_X1_size rm_X1_size [.ref 22] am_YY g w (some (.int R)) am_YY g w := by
  refine am_met (own := 1) [some (.ref 22)] (by decide) rfl rfl (by first | decide | exact Nat.le_of_ble_eq_true rfl) (fun x C0 hR hl hnm => ?_)
  unfold f_X1_size at hf
  refine am_b1 C0 am_YYk (pc := 0) (pc2 := 4) [(.aload_n 0, 0, 0, .null), (.getfield 15, 1, 1, .null)] (L := [some (.ref 22)]) (st := []) (L' := [some (.ref 22)]) (st' := [.int (g 22 1)]) (g' := g) (w' := w) (cl := []) (by decide +kernel) rfl trivial ?_
  cases hf
  exact am_iret C0 (by decide +kernel)
/-! ShutterTown.follow(IIZ)I at (0,) -/
def f_X7_follow (g : am_G) (p1 : Int32) (p2 : Int32) (p3 : Int32) : Option (Int32 × am_G) :=
  (f_X7_isState p1).bind fun q1 =>
    if q1 = 0 then
      some ((-2 : Int32), g)
    else
      (f_X7_isWord p2).bind fun q2 =>
        if q2 = 0 then
          some ((-2 : Int32), g)
        else
          (f_X1_add g p1 p2 p3).bind fun q3 =>
            if q3.1 = 0 then
              some ((-4 : Int32), q3.2)
            else
              (f_X1_size q3.2).bind fun q4 =>
                some (q4, q3.2)
set_option maxRecDepth 20000 in
theorem M_X7_follow (l : Launch) (g : am_G) (w : am_J) (p1 : Int32) (p2 : Int32) (p3 : Int32) (R : Int32 × am_G) (hf : f_X7_follow g p1 p2 p3 = some R) : am_Met l mi_X7_follow rm_X7_follow [.ref 0, .int p1, .int p2, .int p3] am_YY g w (some (.int R.1)) am_YY (R.2) w := by
  refine am_met (own := 7) [some (.ref 0), some (.int (p1)), some (.int (p2)), some (.int (p3))] (by decide) rfl rfl (by first | decide | exact Nat.le_of_ble_eq_true rfl) (fun x C0 hR hl hnm => ?_)
  unfold f_X7_follow at hf
  refine am_b1 C0 am_YYk (pc := 0) (pc2 := 1) [(.iload_n 1, 0, 0, .null)] (L := [some (.ref 0), some (.int (p1)), some (.int (p2)), some (.int (p3))]) (st := []) (L' := [some (.ref 0), some (.int (p1)), some (.int (p2)), some (.int (p3))]) (st' := [.int (p1)]) (g' := g) (w' := w) (cl := []) (by decide +kernel) rfl trivial ?_
  obtain ⟨q1, hq1, hf⟩ := Option.bind_eq_some_iff.mp hf
  refine am_callS (mi := mi_X7_isState) (rm := rm_X7_isState) [.int (p1)] C0.1 cv_7_124 (M_X7_isState _ g w p1 _ hq1) (by rw [hR]; rfl) rfl rfl (Nat.le_of_ble_eq_true rfl) (by decide +kernel) ?_
  refine am_if_eq C0 (off := 10) (tgt := 14) (by decide +kernel) (fun hc7 => ?_) (fun hc7 => ?_)
  · rw [if_pos hc7] at hf
    refine am_b1 C0 am_YYk (pc := 14) (pc2 := 16) [(.bipush (-2), 0, 0, .int (-2))] (L := [some (.ref 0), some (.int (p1)), some (.int (p2)), some (.int (p3))]) (st := []) (L' := [some (.ref 0), some (.int (p1)), some (.int (p2)), some (.int (p3))]) (st' := [.int ((-2 : Int32))]) (g' := g) (w' := w) (cl := []) (by decide +kernel) rfl trivial ?_
    cases hf
    exact am_iret C0 (by decide +kernel)
  · rw [if_neg hc7] at hf
    refine am_b1 C0 am_YYk (pc := 7) (pc2 := 8) [(.iload_n 2, 0, 0, .null)] (L := [some (.ref 0), some (.int (p1)), some (.int (p2)), some (.int (p3))]) (st := []) (L' := [some (.ref 0), some (.int (p1)), some (.int (p2)), some (.int (p3))]) (st' := [.int (p2)]) (g' := g) (w' := w) (cl := []) (by decide +kernel) rfl trivial ?_
    obtain ⟨q2, hq2, hf⟩ := Option.bind_eq_some_iff.mp hf
    refine am_callS (mi := mi_X7_isWord) (rm := rm_X7_isWord) [.int (p2)] C0.1 cv_7_195 (M_X7_isWord _ g w p2 _ hq2) (by rw [hR]; rfl) rfl rfl (Nat.le_of_ble_eq_true rfl) (by decide +kernel) ?_
    refine am_if_ne C0 (off := 6) (tgt := 17) (by decide +kernel) (fun hc6 => ?_) (fun hc6 => ?_)
    · rw [if_neg hc6] at hf
      refine am_b1 C0 am_YYk (pc := 17) (pc2 := 24) [(.aload_n 0, 0, 0, .null), (.getfield 59, 7, 7, .null), (.iload_n 1, 0, 0, .null), (.iload_n 2, 0, 0, .null), (.iload_n 3, 0, 0, .null)] (L := [some (.ref 0), some (.int (p1)), some (.int (p2)), some (.int (p3))]) (st := []) (L' := [some (.ref 0), some (.int (p1)), some (.int (p2)), some (.int (p3))]) (st' := [.int (p3), .int (p2), .int (p1), .ref 22]) (g' := g) (w' := w) (cl := []) (by decide +kernel) rfl trivial ?_
      obtain ⟨q3, hq3, hf⟩ := Option.bind_eq_some_iff.mp hf
      refine am_callV (mi := mi_X1_add) (rm := rm_X1_add) [.int (p1), .int (p2), .int (p3)] C0.1 am_YYl cv_7_198 (M_X1_add _ g w p1 p2 p3 _ hq3) (ci := 1) rfl (by decide) rfl (by rw [hR]; rfl) rfl rfl (Nat.le_of_ble_eq_true rfl) (by decide +kernel) ?_
      refine am_if_eq C0 (off := 13) (tgt := 40) (by decide +kernel) (fun hc5 => ?_) (fun hc5 => ?_)
      · rw [if_pos hc5] at hf
        refine am_b1 C0 am_YYk (pc := 40) (pc2 := 42) [(.bipush (-4), 0, 0, .int (-4))] (L := [some (.ref 0), some (.int (p1)), some (.int (p2)), some (.int (p3))]) (st := []) (L' := [some (.ref 0), some (.int (p1)), some (.int (p2)), some (.int (p3))]) (st' := [.int ((-4 : Int32))]) (g' := q3.2) (w' := w) (cl := []) (by decide +kernel) rfl trivial ?_
        cases hf
        exact am_iret C0 (by decide +kernel)
      · rw [if_neg hc5] at hf
        refine am_b1 C0 am_YYk (pc := 30) (pc2 := 34) [(.aload_n 0, 0, 0, .null), (.getfield 59, 7, 7, .null)] (L := [some (.ref 0), some (.int (p1)), some (.int (p2)), some (.int (p3))]) (st := []) (L' := [some (.ref 0), some (.int (p1)), some (.int (p2)), some (.int (p3))]) (st' := [.ref 22]) (g' := q3.2) (w' := w) (cl := []) (by decide +kernel) rfl trivial ?_
        obtain ⟨q4, hq4, hf⟩ := Option.bind_eq_some_iff.mp hf
        refine am_callV (mi := mi_X1_size) (rm := rm_X1_size) [] C0.1 am_YYl cv_7_201 (M_X1_size _ q3.2 w _ hq4) (ci := 1) rfl (by decide) rfl (by rw [hR]; rfl) rfl rfl (Nat.le_of_ble_eq_true rfl) (by decide +kernel) ?_
        refine am_goto C0 (off := 5) (tgt := 42) (by decide +kernel) ?_
        cases hf
        exact am_iret C0 (by decide +kernel)
    · rw [if_pos hc6] at hf
      refine am_b1 C0 am_YYk (pc := 14) (pc2 := 16) [(.bipush (-2), 0, 0, .int (-2))] (L := [some (.ref 0), some (.int (p1)), some (.int (p2)), some (.int (p3))]) (st := []) (L' := [some (.ref 0), some (.int (p1)), some (.int (p2)), some (.int (p3))]) (st' := [.int ((-2 : Int32))]) (g' := g) (w' := w) (cl := []) (by decide +kernel) rfl trivial ?_
      cases hf
      exact am_iret C0 (by decide +kernel)
/-! java/util/Arrays.fill([II)V at (23,) -/
def f_J7_fill_53178_23_5 (F : Nat) (p1 : Int32)  : Nat → Int32 → Int32 → am_G → Option (am_G)
  | 0, _, _, _ => none
  | n + 1, l2, l3, g =>
    if l3 ≤ l2 then
      some (g)
    else
      if am_in l2 4 then
        f_J7_fill_53178_23_5 F p1 n (l2 + (1 : Int32)) (l3) (am_u g 23 (Int32.toNatClampNeg l2) p1)
      else none
set_option maxRecDepth 20000 in
theorem B_J7_fill_53178_23_5 (x : am_X) (C0 : am_Cm x 12 cJ7_fill_53178 4 none) (hR : am_R x = rm_J7_fill_53178) (w : am_J) (F : Nat) (p1 : Int32) (R : am_G)   : ∀ (n : Nat) (l2 : Int32) (l3 : Int32) (g : am_G), f_J7_fill_53178_23_5 F p1 n l2 l3 g = some R → am_Ev x 4 (0, 0) (am_Q x (0, 0) none am_YY R w) 5 [some (.ref 23), some (.int (p1)), some (.int (l2)), some (.int (l3))] [] am_YY g w := by
  intro n
  induction n with
  | zero => intro l2 l3 g hf; cases hf
  | succ n ih =>
    intro l2 l3 g hf
    rw [f_J7_fill_53178_23_5.eq_2] at hf
    refine am_b1 C0 am_YYk (pc := 5) (pc2 := 7) [(.iload_n 2, 0, 0, .null), (.iload_n 3, 0, 0, .null)] (L := [some (.ref 23), some (.int (p1)), some (.int (l2)), some (.int (l3))]) (st := []) (L' := [some (.ref 23), some (.int (p1)), some (.int (l2)), some (.int (l3))]) (st' := [.int (l3), .int (l2)]) (g' := g) (w' := w) (cl := []) (by decide +kernel) rfl trivial ?_
    refine am_icmp_ge C0 (off := 13) (tgt := 20) (by decide +kernel) (fun hc2 => ?_) (fun hc2 => ?_)
    · rw [if_pos hc2] at hf
      cases hf
      exact am_vret C0 (by decide +kernel)
    · rw [if_neg hc2] at hf
      obtain ⟨hg1, hf⟩ := am_g hf
      refine am_b1 C0 am_YYk (pc := 10) (pc2 := 17) [(.aload_n 0, 0, 0, .null), (.iload_n 2, 0, 0, .null), (.iload_n 1, 0, 0, .null), (.iastore, 0, 0, .null), (.iinc 2 1, 0, 0, .int 1)] (L := [some (.ref 23), some (.int (p1)), some (.int (l2)), some (.int (l3))]) (st := []) (L' := [some (.ref 23), some (.int (p1)), some (.int (l2 + (1 : Int32))), some (.int (l3))]) (st' := []) (g' := am_u g 23 (Int32.toNatClampNeg l2) p1) (w' := w) (cl := [am_in l2 4]) (by decide +kernel) rfl ⟨hg1, trivial⟩ ?_
      refine am_goto C0 (off := (-12)) (tgt := 5) (by decide +kernel) ?_
      exact ih (l2 + (1 : Int32)) (l3) (am_u g 23 (Int32.toNatClampNeg l2) p1) hf
def f_J7_fill_53178_23 (F : Nat) (g : am_G) (p1 : Int32) : Option (am_G) :=
  f_J7_fill_53178_23_5 F p1 F ((0 : Int32)) (Int32.ofNat 4) (g)
set_option maxRecDepth 20000 in
theorem M_J7_fill_53178_23 (l : Launch) (F : Nat) (g : am_G) (w : am_J) (p1 : Int32) (R : am_G) (hf : f_J7_fill_53178_23 F g p1 = some R) : am_Met l mi_J7_fill_53178 rm_J7_fill_53178 [.ref 23, .int p1] am_YY g w none am_YY R w := by
  refine am_met (own := 12) [some (.ref 23), some (.int (p1)), none, none] (by decide) rfl rfl (by first | decide | exact Nat.le_of_ble_eq_true rfl) (fun x C0 hR hl hnm => ?_)
  unfold f_J7_fill_53178_23 at hf
  refine am_b1 C0 am_YYk (pc := 0) (pc2 := 5) [(.iconst 0, 0, 0, .int 0), (.istore_n 2, 0, 0, .null), (.aload_n 0, 0, 0, .null), (.arraylength, 0, 0, .null), (.istore_n 3, 0, 0, .null)] (L := [some (.ref 23), some (.int (p1)), none, none]) (st := []) (L' := [some (.ref 23), some (.int (p1)), some (.int ((0 : Int32))), some (.int (Int32.ofNat 4))]) (st' := []) (g' := g) (w' := w) (cl := []) (by decide +kernel) rfl trivial ?_
  refine B_J7_fill_53178_23_5 x C0 hR w F p1 R   F ((0 : Int32)) (Int32.ofNat 4) (g) hf
/-! ShutterTown$Followed.clear()V at (22,) -/
def f_X1_clear (F : Nat) (g : am_G) : Option (am_G) :=
  (f_J7_fill_53178_23 F g (15 : Int32)).bind fun q1 =>
    some (am_u q1 22 1 (0 : Int32))
set_option maxRecDepth 20000 in
theorem M_X1_clear (l : Launch) (F : Nat) (g : am_G) (w : am_J)  (R : am_G) (hf : f_X1_clear F g = some R) : am_Met l mi_X1_clear rm_X1_clear [.ref 22] am_YY g w none am_YY R w := by
  refine am_met (own := 1) [some (.ref 22)] (by decide) rfl rfl (by first | decide | exact Nat.le_of_ble_eq_true rfl) (fun x C0 hR hl hnm => ?_)
  unfold f_X1_clear at hf
  refine am_b1 C0 am_YYk (pc := 0) (pc2 := 6) [(.aload_n 0, 0, 0, .null), (.getfield 11, 1, 0, .null), (.bipush 15, 0, 0, .int 15)] (L := [some (.ref 22)]) (st := []) (L' := [some (.ref 22)]) (st' := [.int ((15 : Int32)), .ref 23]) (g' := g) (w' := w) (cl := []) (by decide +kernel) rfl trivial ?_
  obtain ⟨q1, hq1, hf⟩ := Option.bind_eq_some_iff.mp hf
  refine am_callS (mi := mi_J7_fill_53178) (rm := rm_J7_fill_53178) [.ref 23, .int ((15 : Int32))] C0.1 cv_1_19 (M_J7_fill_53178_23 _ F g w (15 : Int32) _ hq1) (by rw [hR]; rfl) rfl rfl (Nat.le_of_ble_eq_true rfl) (by decide +kernel) ?_
  refine am_b1 C0 am_YYk (pc := 9) (pc2 := 14) [(.aload_n 0, 0, 0, .null), (.iconst 0, 0, 0, .int 0), (.putfield 15, 1, 1, .null)] (L := [some (.ref 22)]) (st := []) (L' := [some (.ref 22)]) (st' := []) (g' := am_u q1 22 1 (0 : Int32)) (w' := w) (cl := []) (by decide +kernel) rfl trivial ?_
  cases hf
  exact am_vret C0 (by decide +kernel)
/-! ShutterTown.unfollow()I at (0,) -/
def f_X7_unfollow (F : Nat) (g : am_G) : Option (Int32 × am_G) :=
  (f_X1_size g).bind fun q1 =>
    (f_X1_clear F g).bind fun q2 =>
      some (q1, q2)
set_option maxRecDepth 20000 in
theorem M_X7_unfollow (l : Launch) (F : Nat) (g : am_G) (w : am_J)  (R : Int32 × am_G) (hf : f_X7_unfollow F g = some R) : am_Met l mi_X7_unfollow rm_X7_unfollow [.ref 0] am_YY g w (some (.int R.1)) am_YY (R.2) w := by
  refine am_met (own := 7) [some (.ref 0), none] (by decide) rfl rfl (by first | decide | exact Nat.le_of_ble_eq_true rfl) (fun x C0 hR hl hnm => ?_)
  unfold f_X7_unfollow at hf
  refine am_b1 C0 am_YYk (pc := 0) (pc2 := 4) [(.aload_n 0, 0, 0, .null), (.getfield 59, 7, 7, .null)] (L := [some (.ref 0), none]) (st := []) (L' := [some (.ref 0), none]) (st' := [.ref 22]) (g' := g) (w' := w) (cl := []) (by decide +kernel) rfl trivial ?_
  obtain ⟨q1, hq1, hf⟩ := Option.bind_eq_some_iff.mp hf
  refine am_callV (mi := mi_X1_size) (rm := rm_X1_size) [] C0.1 am_YYl cv_7_201 (M_X1_size _ g w _ hq1) (ci := 1) rfl (by decide) rfl (by rw [hR]; rfl) rfl rfl (Nat.le_of_ble_eq_true rfl) (by decide +kernel) ?_
  refine am_b1 C0 am_YYk (pc := 7) (pc2 := 12) [(.istore_n 1, 0, 0, .null), (.aload_n 0, 0, 0, .null), (.getfield 59, 7, 7, .null)] (L := [some (.ref 0), none]) (st := [.int (q1)]) (L' := [some (.ref 0), some (.int (q1))]) (st' := [.ref 22]) (g' := g) (w' := w) (cl := []) (by decide +kernel) rfl trivial ?_
  obtain ⟨q2, hq2, hf⟩ := Option.bind_eq_some_iff.mp hf
  refine am_callV (mi := mi_X1_clear) (rm := rm_X1_clear) [] C0.1 am_YYl cv_7_202 (M_X1_clear _ F g w _ hq2) (ci := 1) rfl (by decide) rfl (by rw [hR]; rfl) rfl rfl (Nat.le_of_ble_eq_true rfl) (by decide +kernel) ?_
  refine am_b1 C0 am_YYk (pc := 15) (pc2 := 16) [(.iload_n 1, 0, 0, .null)] (L := [some (.ref 0), some (.int (q1))]) (st := []) (L' := [some (.ref 0), some (.int (q1))]) (st' := [.int (q1)]) (g' := q2) (w' := w) (cl := []) (by decide +kernel) rfl trivial ?_
  cases hf
  exact am_iret C0 (by decide +kernel)
/-! ShutterTown$Followed.codesLeft()I at (22,) -/
def f_X1_codesLeft_4 (F : Nat) (g : am_G)  : Nat → Int32 → Int32 → Option (Int32)
  | 0, _, _ => none
  | n + 1, l1, l2 =>
    if (4 : Int32) ≤ l2 then
      some (l1)
    else
      if am_in l2 4 then
        (f_J6_bitCount_0f7a4 (g 23 (Int32.toNatClampNeg l2))).bind fun q2 =>
          f_X1_codesLeft_4 F g n (l1 * q2) (l2 + (1 : Int32))
      else none
set_option maxRecDepth 20000 in
theorem B_X1_codesLeft_4 (x : am_X) (C0 : am_Cm x 1 cX1_codesLeft 3 (some .int)) (hR : am_R x = rm_X1_codesLeft) (w : am_J) (F : Nat) (g : am_G) (R : Int32)   : ∀ (n : Nat) (l1 : Int32) (l2 : Int32), f_X1_codesLeft_4 F g n l1 l2 = some R → am_Ev x 3 (0, 0) (am_Q x (0, 0) (some (.int R)) am_YY g w) 4 [some (.ref 22), some (.int (l1)), some (.int (l2))] [] am_YY g w := by
  intro n
  induction n with
  | zero => intro l1 l2 hf; cases hf
  | succ n ih =>
    intro l1 l2 hf
    rw [f_X1_codesLeft_4.eq_2] at hf
    refine am_b1 C0 am_YYk (pc := 4) (pc2 := 6) [(.iload_n 2, 0, 0, .null), (.iconst 4, 0, 0, .int 4)] (L := [some (.ref 22), some (.int (l1)), some (.int (l2))]) (st := []) (L' := [some (.ref 22), some (.int (l1)), some (.int (l2))]) (st' := [.int ((4 : Int32)), .int (l2)]) (g' := g) (w' := w) (cl := []) (by decide +kernel) rfl trivial ?_
    refine am_icmp_ge C0 (off := 21) (tgt := 27) (by decide +kernel) (fun hc3 => ?_) (fun hc3 => ?_)
    · rw [if_pos hc3] at hf
      refine am_b1 C0 am_YYk (pc := 27) (pc2 := 28) [(.iload_n 1, 0, 0, .null)] (L := [some (.ref 22), some (.int (l1)), some (.int (l2))]) (st := []) (L' := [some (.ref 22), some (.int (l1)), some (.int (l2))]) (st' := [.int (l1)]) (g' := g) (w' := w) (cl := []) (by decide +kernel) rfl trivial ?_
      cases hf
      exact am_iret C0 (by decide +kernel)
    · rw [if_neg hc3] at hf
      obtain ⟨hg1, hf⟩ := am_g hf
      refine am_b1 C0 am_YYk (pc := 9) (pc2 := 16) [(.iload_n 1, 0, 0, .null), (.aload_n 0, 0, 0, .null), (.getfield 11, 1, 0, .null), (.iload_n 2, 0, 0, .null), (.iaload, 0, 0, .null)] (L := [some (.ref 22), some (.int (l1)), some (.int (l2))]) (st := []) (L' := [some (.ref 22), some (.int (l1)), some (.int (l2))]) (st' := [.int (g 23 (Int32.toNatClampNeg l2)), .int (l1)]) (g' := g) (w' := w) (cl := [am_in l2 4]) (by decide +kernel) rfl ⟨hg1, trivial⟩ ?_
      obtain ⟨q2, hq2, hf⟩ := Option.bind_eq_some_iff.mp hf
      refine am_callS (mi := mi_J6_bitCount_0f7a4) (rm := rm_J6_bitCount_0f7a4) [.int (g 23 (Int32.toNatClampNeg l2))] C0.1 cv_1_32 (M_J6_bitCount_0f7a4 _ g w (g 23 (Int32.toNatClampNeg l2)) _ hq2) (by rw [hR]; rfl) rfl rfl (Nat.le_of_ble_eq_true rfl) (by decide +kernel) ?_
      refine am_b1 C0 am_YYk (pc := 19) (pc2 := 24) [(.imul, 0, 0, .null), (.istore_n 1, 0, 0, .null), (.iinc 2 1, 0, 0, .int 1)] (L := [some (.ref 22), some (.int (l1)), some (.int (l2))]) (st := [.int (q2), .int (l1)]) (L' := [some (.ref 22), some (.int (l1 * q2)), some (.int (l2 + (1 : Int32)))]) (st' := []) (g' := g) (w' := w) (cl := []) (by decide +kernel) rfl trivial ?_
      refine am_goto C0 (off := (-20)) (tgt := 4) (by decide +kernel) ?_
      exact ih (l1 * q2) (l2 + (1 : Int32)) hf
def f_X1_codesLeft (F : Nat) (g : am_G) : Option (Int32) :=
  f_X1_codesLeft_4 F g F ((1 : Int32)) ((0 : Int32))
set_option maxRecDepth 20000 in
theorem M_X1_codesLeft (l : Launch) (F : Nat) (g : am_G) (w : am_J)  (R : Int32) (hf : f_X1_codesLeft F g = some R) : am_Met l mi_X1_codesLeft rm_X1_codesLeft [.ref 22] am_YY g w (some (.int R)) am_YY g w := by
  refine am_met (own := 1) [some (.ref 22), none, none] (by decide) rfl rfl (by first | decide | exact Nat.le_of_ble_eq_true rfl) (fun x C0 hR hl hnm => ?_)
  unfold f_X1_codesLeft at hf
  refine am_b1 C0 am_YYk (pc := 0) (pc2 := 4) [(.iconst 1, 0, 0, .int 1), (.istore_n 1, 0, 0, .null), (.iconst 0, 0, 0, .int 0), (.istore_n 2, 0, 0, .null)] (L := [some (.ref 22), none, none]) (st := []) (L' := [some (.ref 22), some (.int ((1 : Int32))), some (.int ((0 : Int32)))]) (st' := []) (g' := g) (w' := w) (cl := []) (by decide +kernel) rfl trivial ?_
  refine B_X1_codesLeft_4 x C0 hR w F g R   F ((1 : Int32)) ((0 : Int32)) hf
/-! java/lang/Integer.numberOfTrailingZeros(I)I at () -/
def f_J6_numberOfTrailingZeros_0f7a4_74   (l0 : Int32) (l1 : Int32) : Option (Int32) :=
  some (l1 + (am_ushr l0 (1 : Int32)))
set_option maxRecDepth 20000 in
theorem B_J6_numberOfTrailingZeros_0f7a4_74 (x : am_X) (C0 : am_Cm x 9 cJ6_numberOfTrailingZeros_0f7a4 2 (some .int)) (hR : am_R x = rm_J6_numberOfTrailingZeros_0f7a4) (g : am_G) (w : am_J)  (R : Int32)   (l0 : Int32) (l1 : Int32) (hf : f_J6_numberOfTrailingZeros_0f7a4_74 l0 l1 = some R) : am_Ev x 2 (0, 0) (am_Q x (0, 0) (some (.int R)) am_YY g w) 74 [some (.int (l0)), some (.int (l1))] [] am_YY g w := by
  unfold f_J6_numberOfTrailingZeros_0f7a4_74 at hf
  refine am_b1 C0 am_YYk (pc := 74) (pc2 := 79) [(.iload_n 1, 0, 0, .null), (.iload_n 0, 0, 0, .null), (.iconst 1, 0, 0, .int 1), (.iushr, 0, 0, .null), (.iadd, 0, 0, .null)] (L := [some (.int (l0)), some (.int (l1))]) (st := []) (L' := [some (.int (l0)), some (.int (l1))]) (st' := [.int (l1 + (am_ushr l0 (1 : Int32)))]) (g' := g) (w' := w) (cl := []) (by decide +kernel) rfl trivial ?_
  cases hf
  exact am_iret C0 (by decide +kernel)
def f_J6_numberOfTrailingZeros_0f7a4_62   (l0 : Int32) (l1 : Int32) : Option (Int32) :=
  if l0 ≤ (4 : Int32) then
    f_J6_numberOfTrailingZeros_0f7a4_74 (l0) (l1)
  else
    f_J6_numberOfTrailingZeros_0f7a4_74 (am_ushr l0 (2 : Int32)) (l1 + (2 : Int32))
set_option maxRecDepth 20000 in
theorem B_J6_numberOfTrailingZeros_0f7a4_62 (x : am_X) (C0 : am_Cm x 9 cJ6_numberOfTrailingZeros_0f7a4 2 (some .int)) (hR : am_R x = rm_J6_numberOfTrailingZeros_0f7a4) (g : am_G) (w : am_J)  (R : Int32)   (l0 : Int32) (l1 : Int32) (hf : f_J6_numberOfTrailingZeros_0f7a4_62 l0 l1 = some R) : am_Ev x 2 (0, 0) (am_Q x (0, 0) (some (.int R)) am_YY g w) 62 [some (.int (l0)), some (.int (l1))] [] am_YY g w := by
  unfold f_J6_numberOfTrailingZeros_0f7a4_62 at hf
  refine am_b1 C0 am_YYk (pc := 62) (pc2 := 64) [(.iload_n 0, 0, 0, .null), (.iconst 4, 0, 0, .int 4)] (L := [some (.int (l0)), some (.int (l1))]) (st := []) (L' := [some (.int (l0)), some (.int (l1))]) (st' := [.int ((4 : Int32)), .int (l0)]) (g' := g) (w' := w) (cl := []) (by decide +kernel) rfl trivial ?_
  refine am_icmp_le C0 (off := 10) (tgt := 74) (by decide +kernel) (fun hc1 => ?_) (fun hc1 => ?_)
  · rw [if_pos hc1] at hf
    exact B_J6_numberOfTrailingZeros_0f7a4_74 x C0 hR g w  R  (l0) (l1) hf
  · rw [if_neg hc1] at hf
    refine am_b1 C0 am_YYk (pc := 67) (pc2 := 74) [(.iinc 1 2, 0, 0, .int 2), (.iload_n 0, 0, 0, .null), (.iconst 2, 0, 0, .int 2), (.iushr, 0, 0, .null), (.istore_n 0, 0, 0, .null)] (L := [some (.int (l0)), some (.int (l1))]) (st := []) (L' := [some (.int (am_ushr l0 (2 : Int32))), some (.int (l1 + (2 : Int32)))]) (st' := []) (g' := g) (w' := w) (cl := []) (by decide +kernel) rfl trivial ?_
    exact B_J6_numberOfTrailingZeros_0f7a4_74 x C0 hR g w  R  (am_ushr l0 (2 : Int32)) (l1 + (2 : Int32)) hf
def f_J6_numberOfTrailingZeros_0f7a4_49   (l0 : Int32) (l1 : Int32) : Option (Int32) :=
  if l0 ≤ (16 : Int32) then
    f_J6_numberOfTrailingZeros_0f7a4_62 (l0) (l1)
  else
    f_J6_numberOfTrailingZeros_0f7a4_62 (am_ushr l0 (4 : Int32)) (l1 + (4 : Int32))
set_option maxRecDepth 20000 in
theorem B_J6_numberOfTrailingZeros_0f7a4_49 (x : am_X) (C0 : am_Cm x 9 cJ6_numberOfTrailingZeros_0f7a4 2 (some .int)) (hR : am_R x = rm_J6_numberOfTrailingZeros_0f7a4) (g : am_G) (w : am_J)  (R : Int32)   (l0 : Int32) (l1 : Int32) (hf : f_J6_numberOfTrailingZeros_0f7a4_49 l0 l1 = some R) : am_Ev x 2 (0, 0) (am_Q x (0, 0) (some (.int R)) am_YY g w) 49 [some (.int (l0)), some (.int (l1))] [] am_YY g w := by
  unfold f_J6_numberOfTrailingZeros_0f7a4_49 at hf
  refine am_b1 C0 am_YYk (pc := 49) (pc2 := 52) [(.iload_n 0, 0, 0, .null), (.bipush 16, 0, 0, .int 16)] (L := [some (.int (l0)), some (.int (l1))]) (st := []) (L' := [some (.int (l0)), some (.int (l1))]) (st' := [.int ((16 : Int32)), .int (l0)]) (g' := g) (w' := w) (cl := []) (by decide +kernel) rfl trivial ?_
  refine am_icmp_le C0 (off := 10) (tgt := 62) (by decide +kernel) (fun hc2 => ?_) (fun hc2 => ?_)
  · rw [if_pos hc2] at hf
    exact B_J6_numberOfTrailingZeros_0f7a4_62 x C0 hR g w  R  (l0) (l1) hf
  · rw [if_neg hc2] at hf
    refine am_b1 C0 am_YYk (pc := 55) (pc2 := 62) [(.iinc 1 4, 0, 0, .int 4), (.iload_n 0, 0, 0, .null), (.iconst 4, 0, 0, .int 4), (.iushr, 0, 0, .null), (.istore_n 0, 0, 0, .null)] (L := [some (.int (l0)), some (.int (l1))]) (st := []) (L' := [some (.int (am_ushr l0 (4 : Int32))), some (.int (l1 + (4 : Int32)))]) (st' := []) (g' := g) (w' := w) (cl := []) (by decide +kernel) rfl trivial ?_
    exact B_J6_numberOfTrailingZeros_0f7a4_62 x C0 hR g w  R  (am_ushr l0 (4 : Int32)) (l1 + (4 : Int32)) hf
def f_J6_numberOfTrailingZeros_0f7a4_34   (l0 : Int32) (l1 : Int32) : Option (Int32) :=
  if l0 ≤ (256 : Int32) then
    f_J6_numberOfTrailingZeros_0f7a4_49 (l0) (l1)
  else
    f_J6_numberOfTrailingZeros_0f7a4_49 (am_ushr l0 (8 : Int32)) (l1 + (8 : Int32))
set_option maxRecDepth 20000 in
theorem B_J6_numberOfTrailingZeros_0f7a4_34 (x : am_X) (C0 : am_Cm x 9 cJ6_numberOfTrailingZeros_0f7a4 2 (some .int)) (hR : am_R x = rm_J6_numberOfTrailingZeros_0f7a4) (g : am_G) (w : am_J)  (R : Int32)   (l0 : Int32) (l1 : Int32) (hf : f_J6_numberOfTrailingZeros_0f7a4_34 l0 l1 = some R) : am_Ev x 2 (0, 0) (am_Q x (0, 0) (some (.int R)) am_YY g w) 34 [some (.int (l0)), some (.int (l1))] [] am_YY g w := by
  unfold f_J6_numberOfTrailingZeros_0f7a4_34 at hf
  refine am_b1 C0 am_YYk (pc := 34) (pc2 := 38) [(.iload_n 0, 0, 0, .null), (.sipush 256, 0, 0, .int 256)] (L := [some (.int (l0)), some (.int (l1))]) (st := []) (L' := [some (.int (l0)), some (.int (l1))]) (st' := [.int ((256 : Int32)), .int (l0)]) (g' := g) (w' := w) (cl := []) (by decide +kernel) rfl trivial ?_
  refine am_icmp_le C0 (off := 11) (tgt := 49) (by decide +kernel) (fun hc3 => ?_) (fun hc3 => ?_)
  · rw [if_pos hc3] at hf
    exact B_J6_numberOfTrailingZeros_0f7a4_49 x C0 hR g w  R  (l0) (l1) hf
  · rw [if_neg hc3] at hf
    refine am_b1 C0 am_YYk (pc := 41) (pc2 := 49) [(.iinc 1 8, 0, 0, .int 8), (.iload_n 0, 0, 0, .null), (.bipush 8, 0, 0, .int 8), (.iushr, 0, 0, .null), (.istore_n 0, 0, 0, .null)] (L := [some (.int (l0)), some (.int (l1))]) (st := []) (L' := [some (.int (am_ushr l0 (8 : Int32))), some (.int (l1 + (8 : Int32)))]) (st' := []) (g' := g) (w' := w) (cl := []) (by decide +kernel) rfl trivial ?_
    exact B_J6_numberOfTrailingZeros_0f7a4_49 x C0 hR g w  R  (am_ushr l0 (8 : Int32)) (l1 + (8 : Int32)) hf
def f_J6_numberOfTrailingZeros_0f7a4 (p0 : Int32) : Option (Int32) :=
  if 0 < ((p0 ^^^ (-1 : Int32)) &&& (p0 - (1 : Int32))) then
    if ((p0 ^^^ (-1 : Int32)) &&& (p0 - (1 : Int32))) ≤ (65536 : Int32) then
      f_J6_numberOfTrailingZeros_0f7a4_34 ((p0 ^^^ (-1 : Int32)) &&& (p0 - (1 : Int32))) ((1 : Int32))
    else
      f_J6_numberOfTrailingZeros_0f7a4_34 (am_ushr ((p0 ^^^ (-1 : Int32)) &&& (p0 - (1 : Int32))) (16 : Int32)) ((1 : Int32) + (16 : Int32))
  else
    some (((p0 ^^^ (-1 : Int32)) &&& (p0 - (1 : Int32))) &&& (32 : Int32))
set_option maxRecDepth 20000 in
theorem M_J6_numberOfTrailingZeros_0f7a4 (l : Launch) (g : am_G) (w : am_J) (p0 : Int32) (R : Int32) (hf : f_J6_numberOfTrailingZeros_0f7a4 p0 = some R) : am_Met l mi_J6_numberOfTrailingZeros_0f7a4 rm_J6_numberOfTrailingZeros_0f7a4 [.int p0] am_YY g w (some (.int R)) am_YY g w := by
  refine am_met (own := 9) [some (.int (p0)), none] (by decide) rfl rfl (by first | decide | exact Nat.le_of_ble_eq_true rfl) (fun x C0 hR hl hnm => ?_)
  unfold f_J6_numberOfTrailingZeros_0f7a4 at hf
  refine am_b1 C0 am_YYk (pc := 0) (pc2 := 9) [(.iload_n 0, 0, 0, .null), (.iconst (-1), 0, 0, .int (-1)), (.ixor, 0, 0, .null), (.iload_n 0, 0, 0, .null), (.iconst 1, 0, 0, .int 1), (.isub, 0, 0, .null), (.iand, 0, 0, .null), (.istore_n 0, 0, 0, .null), (.iload_n 0, 0, 0, .null)] (L := [some (.int (p0)), none]) (st := []) (L' := [some (.int ((p0 ^^^ (-1 : Int32)) &&& (p0 - (1 : Int32)))), none]) (st' := [.int ((p0 ^^^ (-1 : Int32)) &&& (p0 - (1 : Int32)))]) (g' := g) (w' := w) (cl := []) (by decide +kernel) rfl trivial ?_
  refine am_if_gt C0 (off := 8) (tgt := 17) (by decide +kernel) (fun hc5 => ?_) (fun hc5 => ?_)
  · rw [if_pos hc5] at hf
    refine am_b1 C0 am_YYk (pc := 17) (pc2 := 23) [(.iconst 1, 0, 0, .int 1), (.istore_n 1, 0, 0, .null), (.iload_n 0, 0, 0, .null), (.ldc_w 264, 0, 0, .int 65536)] (L := [some (.int ((p0 ^^^ (-1 : Int32)) &&& (p0 - (1 : Int32)))), none]) (st := []) (L' := [some (.int ((p0 ^^^ (-1 : Int32)) &&& (p0 - (1 : Int32)))), some (.int ((1 : Int32)))]) (st' := [.int ((65536 : Int32)), .int ((p0 ^^^ (-1 : Int32)) &&& (p0 - (1 : Int32)))]) (g' := g) (w' := w) (cl := []) (by decide +kernel) rfl trivial ?_
    refine am_icmp_le C0 (off := 11) (tgt := 34) (by decide +kernel) (fun hc4 => ?_) (fun hc4 => ?_)
    · rw [if_pos hc4] at hf
      exact B_J6_numberOfTrailingZeros_0f7a4_34 x C0 hR g w  R  ((p0 ^^^ (-1 : Int32)) &&& (p0 - (1 : Int32))) ((1 : Int32)) hf
    · rw [if_neg hc4] at hf
      refine am_b1 C0 am_YYk (pc := 26) (pc2 := 34) [(.iinc 1 16, 0, 0, .int 16), (.iload_n 0, 0, 0, .null), (.bipush 16, 0, 0, .int 16), (.iushr, 0, 0, .null), (.istore_n 0, 0, 0, .null)] (L := [some (.int ((p0 ^^^ (-1 : Int32)) &&& (p0 - (1 : Int32)))), some (.int ((1 : Int32)))]) (st := []) (L' := [some (.int (am_ushr ((p0 ^^^ (-1 : Int32)) &&& (p0 - (1 : Int32))) (16 : Int32))), some (.int ((1 : Int32) + (16 : Int32)))]) (st' := []) (g' := g) (w' := w) (cl := []) (by decide +kernel) rfl trivial ?_
      exact B_J6_numberOfTrailingZeros_0f7a4_34 x C0 hR g w  R  (am_ushr ((p0 ^^^ (-1 : Int32)) &&& (p0 - (1 : Int32))) (16 : Int32)) ((1 : Int32) + (16 : Int32)) hf
  · rw [if_neg hc5] at hf
    refine am_b1 C0 am_YYk (pc := 12) (pc2 := 16) [(.iload_n 0, 0, 0, .null), (.bipush 32, 0, 0, .int 32), (.iand, 0, 0, .null)] (L := [some (.int ((p0 ^^^ (-1 : Int32)) &&& (p0 - (1 : Int32)))), none]) (st := []) (L' := [some (.int ((p0 ^^^ (-1 : Int32)) &&& (p0 - (1 : Int32)))), none]) (st' := [.int (((p0 ^^^ (-1 : Int32)) &&& (p0 - (1 : Int32))) &&& (32 : Int32))]) (g' := g) (w' := w) (cl := []) (by decide +kernel) rfl trivial ?_
    cases hf
    exact am_iret C0 (by decide +kernel)
/-! ShutterTown$Followed.firstCode()I at (22,) -/
def f_X1_firstCode_14 (F : Nat) (g : am_G)  : Nat → Int32 → Int32 → Option (Int32)
  | 0, _, _ => none
  | n + 1, l1, l2 =>
    if (4 : Int32) ≤ l2 then
      some (l1)
    else
      if am_in l2 4 then
        (f_J6_numberOfTrailingZeros_0f7a4 (g 23 (Int32.toNatClampNeg l2))).bind fun q2 =>
          f_X1_firstCode_14 F g n (((10 : Int32) * l1) + q2) (l2 + (1 : Int32))
      else none
set_option maxRecDepth 20000 in
theorem B_X1_firstCode_14 (x : am_X) (C0 : am_Cm x 1 cX1_firstCode 3 (some .int)) (hR : am_R x = rm_X1_firstCode) (w : am_J) (F : Nat) (g : am_G) (R : Int32)   : ∀ (n : Nat) (l1 : Int32) (l2 : Int32), f_X1_firstCode_14 F g n l1 l2 = some R → am_Ev x 3 (0, 0) (am_Q x (0, 0) (some (.int R)) am_YY g w) 14 [some (.ref 22), some (.int (l1)), some (.int (l2))] [] am_YY g w := by
  intro n
  induction n with
  | zero => intro l1 l2 hf; cases hf
  | succ n ih =>
    intro l1 l2 hf
    rw [f_X1_firstCode_14.eq_2] at hf
    refine am_b1 C0 am_YYk (pc := 14) (pc2 := 16) [(.iload_n 2, 0, 0, .null), (.iconst 4, 0, 0, .int 4)] (L := [some (.ref 22), some (.int (l1)), some (.int (l2))]) (st := []) (L' := [some (.ref 22), some (.int (l1)), some (.int (l2))]) (st' := [.int ((4 : Int32)), .int (l2)]) (g' := g) (w' := w) (cl := []) (by decide +kernel) rfl trivial ?_
    refine am_icmp_ge C0 (off := 24) (tgt := 40) (by decide +kernel) (fun hc3 => ?_) (fun hc3 => ?_)
    · rw [if_pos hc3] at hf
      refine am_b1 C0 am_YYk (pc := 40) (pc2 := 41) [(.iload_n 1, 0, 0, .null)] (L := [some (.ref 22), some (.int (l1)), some (.int (l2))]) (st := []) (L' := [some (.ref 22), some (.int (l1)), some (.int (l2))]) (st' := [.int (l1)]) (g' := g) (w' := w) (cl := []) (by decide +kernel) rfl trivial ?_
      cases hf
      exact am_iret C0 (by decide +kernel)
    · rw [if_neg hc3] at hf
      obtain ⟨hg1, hf⟩ := am_g hf
      refine am_b1 C0 am_YYk (pc := 19) (pc2 := 29) [(.bipush 10, 0, 0, .int 10), (.iload_n 1, 0, 0, .null), (.imul, 0, 0, .null), (.aload_n 0, 0, 0, .null), (.getfield 11, 1, 0, .null), (.iload_n 2, 0, 0, .null), (.iaload, 0, 0, .null)] (L := [some (.ref 22), some (.int (l1)), some (.int (l2))]) (st := []) (L' := [some (.ref 22), some (.int (l1)), some (.int (l2))]) (st' := [.int (g 23 (Int32.toNatClampNeg l2)), .int ((10 : Int32) * l1)]) (g' := g) (w' := w) (cl := [am_in l2 4]) (by decide +kernel) rfl ⟨hg1, trivial⟩ ?_
      obtain ⟨q2, hq2, hf⟩ := Option.bind_eq_some_iff.mp hf
      refine am_callS (mi := mi_J6_numberOfTrailingZeros_0f7a4) (rm := rm_J6_numberOfTrailingZeros_0f7a4) [.int (g 23 (Int32.toNatClampNeg l2))] C0.1 cv_1_42 (M_J6_numberOfTrailingZeros_0f7a4 _ g w (g 23 (Int32.toNatClampNeg l2)) _ hq2) (by rw [hR]; rfl) rfl rfl (Nat.le_of_ble_eq_true rfl) (by decide +kernel) ?_
      refine am_b1 C0 am_YYk (pc := 32) (pc2 := 37) [(.iadd, 0, 0, .null), (.istore_n 1, 0, 0, .null), (.iinc 2 1, 0, 0, .int 1)] (L := [some (.ref 22), some (.int (l1)), some (.int (l2))]) (st := [.int (q2), .int ((10 : Int32) * l1)]) (L' := [some (.ref 22), some (.int (((10 : Int32) * l1) + q2)), some (.int (l2 + (1 : Int32)))]) (st' := []) (g' := g) (w' := w) (cl := []) (by decide +kernel) rfl trivial ?_
      refine am_goto C0 (off := (-23)) (tgt := 14) (by decide +kernel) ?_
      exact ih (((10 : Int32) * l1) + q2) (l2 + (1 : Int32)) hf
def f_X1_firstCode (F : Nat) (g : am_G) : Option (Int32) :=
  (f_X1_codesLeft F g).bind fun q4 =>
    if q4 = 0 then
      some ((-9 : Int32))
    else
      f_X1_firstCode_14 F g F ((0 : Int32)) ((0 : Int32))
set_option maxRecDepth 20000 in
theorem M_X1_firstCode (l : Launch) (F : Nat) (g : am_G) (w : am_J)  (R : Int32) (hf : f_X1_firstCode F g = some R) : am_Met l mi_X1_firstCode rm_X1_firstCode [.ref 22] am_YY g w (some (.int R)) am_YY g w := by
  refine am_met (own := 1) [some (.ref 22), none, none] (by decide) rfl rfl (by first | decide | exact Nat.le_of_ble_eq_true rfl) (fun x C0 hR hl hnm => ?_)
  unfold f_X1_firstCode at hf
  refine am_b1 C0 am_YYk (pc := 0) (pc2 := 1) [(.aload_n 0, 0, 0, .null)] (L := [some (.ref 22), none, none]) (st := []) (L' := [some (.ref 22), none, none]) (st' := [.ref 22]) (g' := g) (w' := w) (cl := []) (by decide +kernel) rfl trivial ?_
  obtain ⟨q4, hq4, hf⟩ := Option.bind_eq_some_iff.mp hf
  refine am_callV (mi := mi_X1_codesLeft) (rm := rm_X1_codesLeft) [] C0.1 am_YYl cv_1_38 (M_X1_codesLeft _ F g w _ hq4) (ci := 1) rfl (by decide) rfl (by rw [hR]; rfl) rfl rfl (Nat.le_of_ble_eq_true rfl) (by decide +kernel) ?_
  refine am_if_ne C0 (off := 6) (tgt := 10) (by decide +kernel) (fun hc5 => ?_) (fun hc5 => ?_)
  · rw [if_neg hc5] at hf
    refine am_b1 C0 am_YYk (pc := 10) (pc2 := 14) [(.iconst 0, 0, 0, .int 0), (.istore_n 1, 0, 0, .null), (.iconst 0, 0, 0, .int 0), (.istore_n 2, 0, 0, .null)] (L := [some (.ref 22), none, none]) (st := []) (L' := [some (.ref 22), some (.int ((0 : Int32))), some (.int ((0 : Int32)))]) (st' := []) (g' := g) (w' := w) (cl := []) (by decide +kernel) rfl trivial ?_
    refine B_X1_firstCode_14 x C0 hR w F g R   F ((0 : Int32)) ((0 : Int32)) hf
  · rw [if_pos hc5] at hf
    refine am_b1 C0 am_YYk (pc := 7) (pc2 := 9) [(.bipush (-9), 0, 0, .int (-9))] (L := [some (.ref 22), none, none]) (st := []) (L' := [some (.ref 22), none, none]) (st' := [.int ((-9 : Int32))]) (g' := g) (w' := w) (cl := []) (by decide +kernel) rfl trivial ?_
    cases hf
    exact am_iret C0 (by decide +kernel)
/-! ShutterTown.codes(Z)I at (0,) -/
def f_X7_codes (F : Nat) (g : am_G) (p1 : Int32) : Option (Int32) :=
  if p1 = 0 then
    (f_X1_codesLeft F g).bind fun q1 =>
      some (q1)
  else
    (f_X1_firstCode F g).bind fun q2 =>
      some (q2)
set_option maxRecDepth 20000 in
theorem M_X7_codes (l : Launch) (F : Nat) (g : am_G) (w : am_J) (p1 : Int32) (R : Int32) (hf : f_X7_codes F g p1 = some R) : am_Met l mi_X7_codes rm_X7_codes [.ref 0, .int p1] am_YY g w (some (.int R)) am_YY g w := by
  refine am_met (own := 7) [some (.ref 0), some (.int (p1))] (by decide) rfl rfl (by first | decide | exact Nat.le_of_ble_eq_true rfl) (fun x C0 hR hl hnm => ?_)
  unfold f_X7_codes at hf
  refine am_b1 C0 am_YYk (pc := 0) (pc2 := 1) [(.iload_n 1, 0, 0, .null)] (L := [some (.ref 0), some (.int (p1))]) (st := []) (L' := [some (.ref 0), some (.int (p1))]) (st' := [.int (p1)]) (g' := g) (w' := w) (cl := []) (by decide +kernel) rfl trivial ?_
  refine am_if_eq C0 (off := 13) (tgt := 14) (by decide +kernel) (fun hc3 => ?_) (fun hc3 => ?_)
  · rw [if_pos hc3] at hf
    refine am_b1 C0 am_YYk (pc := 14) (pc2 := 18) [(.aload_n 0, 0, 0, .null), (.getfield 59, 7, 7, .null)] (L := [some (.ref 0), some (.int (p1))]) (st := []) (L' := [some (.ref 0), some (.int (p1))]) (st' := [.ref 22]) (g' := g) (w' := w) (cl := []) (by decide +kernel) rfl trivial ?_
    obtain ⟨q1, hq1, hf⟩ := Option.bind_eq_some_iff.mp hf
    refine am_callV (mi := mi_X1_codesLeft) (rm := rm_X1_codesLeft) [] C0.1 am_YYl cv_7_206 (M_X1_codesLeft _ F g w _ hq1) (ci := 1) rfl (by decide) rfl (by rw [hR]; rfl) rfl rfl (Nat.le_of_ble_eq_true rfl) (by decide +kernel) ?_
    cases hf
    exact am_iret C0 (by decide +kernel)
  · rw [if_neg hc3] at hf
    refine am_b1 C0 am_YYk (pc := 4) (pc2 := 8) [(.aload_n 0, 0, 0, .null), (.getfield 59, 7, 7, .null)] (L := [some (.ref 0), some (.int (p1))]) (st := []) (L' := [some (.ref 0), some (.int (p1))]) (st' := [.ref 22]) (g' := g) (w' := w) (cl := []) (by decide +kernel) rfl trivial ?_
    obtain ⟨q2, hq2, hf⟩ := Option.bind_eq_some_iff.mp hf
    refine am_callV (mi := mi_X1_firstCode) (rm := rm_X1_firstCode) [] C0.1 am_YYl cv_7_203 (M_X1_firstCode _ F g w _ hq2) (ci := 1) rfl (by decide) rfl (by rw [hR]; rfl) rfl rfl (Nat.le_of_ble_eq_true rfl) (by decide +kernel) ?_
    refine am_goto C0 (off := 10) (tgt := 21) (by decide +kernel) ?_
    cases hf
    exact am_iret C0 (by decide +kernel)
/-! ShutterTown$Followed.bestState()I at (22,) -/
def f_X1_bestState_42 (F : Nat) (g : am_G) (k14 : Int32 → Int32 → Option (Int32)) (l1 : Int32) (l2 : Int32) : Option (Int32) :=
  k14 (l1) (l2 + (1 : Int32))
set_option maxRecDepth 20000 in
theorem B_X1_bestState_42 (x : am_X) (C0 : am_Cm x 1 cX1_bestState 3 (some .int)) (hR : am_R x = rm_X1_bestState) (w : am_J) (F : Nat) (g : am_G) (R : Int32) (k14 : Int32 → Int32 → Option (Int32)) (hk14 : ∀ (l1 : Int32) (l2 : Int32), k14 l1 l2 = some R → am_Ev x 3 (0, 0) (am_Q x (0, 0) (some (.int R)) am_YY g w) 14 [some (.ref 22), some (.int (l1)), some (.int (l2))] [] am_YY g w) (l1 : Int32) (l2 : Int32) (hf : f_X1_bestState_42 F g k14 l1 l2 = some R) : am_Ev x 3 (0, 0) (am_Q x (0, 0) (some (.int R)) am_YY g w) 42 [some (.ref 22), some (.int (l1)), some (.int (l2))] [] am_YY g w := by
  unfold f_X1_bestState_42 at hf
  refine am_b1 C0 am_YYk (pc := 42) (pc2 := 45) [(.iinc 2 1, 0, 0, .int 1)] (L := [some (.ref 22), some (.int (l1)), some (.int (l2))]) (st := []) (L' := [some (.ref 22), some (.int (l1)), some (.int (l2 + (1 : Int32)))]) (st' := []) (g' := g) (w' := w) (cl := []) (by decide +kernel) rfl trivial ?_
  refine am_goto C0 (off := (-31)) (tgt := 14) (by decide +kernel) ?_
  exact hk14 (l1) (l2 + (1 : Int32)) hf
def f_X1_bestState_14 (F : Nat) (g : am_G)  : Nat → Int32 → Int32 → Option (Int32)
  | 0, _, _ => none
  | n + 1, l1, l2 =>
    if (4 : Int32) ≤ l2 then
      some (l1)
    else
      if am_in l2 4 then
        (f_J6_bitCount_0f7a4 (g 23 (Int32.toNatClampNeg l2))).bind fun q2 =>
          if am_in l1 4 then
            (f_J6_bitCount_0f7a4 (g 23 (Int32.toNatClampNeg l1))).bind fun q4 =>
              if q2 ≤ q4 then
                f_X1_bestState_42 F g (fun l1 l2 => f_X1_bestState_14 F g n l1 l2) (l1) (l2)
              else
                f_X1_bestState_42 F g (fun l1 l2 => f_X1_bestState_14 F g n l1 l2) (l2) (l2)
          else none
      else none
set_option maxRecDepth 20000 in
theorem B_X1_bestState_14 (x : am_X) (C0 : am_Cm x 1 cX1_bestState 3 (some .int)) (hR : am_R x = rm_X1_bestState) (w : am_J) (F : Nat) (g : am_G) (R : Int32)   : ∀ (n : Nat) (l1 : Int32) (l2 : Int32), f_X1_bestState_14 F g n l1 l2 = some R → am_Ev x 3 (0, 0) (am_Q x (0, 0) (some (.int R)) am_YY g w) 14 [some (.ref 22), some (.int (l1)), some (.int (l2))] [] am_YY g w := by
  intro n
  induction n with
  | zero => intro l1 l2 hf; cases hf
  | succ n ih =>
    intro l1 l2 hf
    rw [f_X1_bestState_14.eq_2] at hf
    refine am_b1 C0 am_YYk (pc := 14) (pc2 := 16) [(.iload_n 2, 0, 0, .null), (.iconst 4, 0, 0, .int 4)] (L := [some (.ref 22), some (.int (l1)), some (.int (l2))]) (st := []) (L' := [some (.ref 22), some (.int (l1)), some (.int (l2))]) (st' := [.int ((4 : Int32)), .int (l2)]) (g' := g) (w' := w) (cl := []) (by decide +kernel) rfl trivial ?_
    refine am_icmp_ge C0 (off := 32) (tgt := 48) (by decide +kernel) (fun hc6 => ?_) (fun hc6 => ?_)
    · rw [if_pos hc6] at hf
      refine am_b1 C0 am_YYk (pc := 48) (pc2 := 49) [(.iload_n 1, 0, 0, .null)] (L := [some (.ref 22), some (.int (l1)), some (.int (l2))]) (st := []) (L' := [some (.ref 22), some (.int (l1)), some (.int (l2))]) (st' := [.int (l1)]) (g' := g) (w' := w) (cl := []) (by decide +kernel) rfl trivial ?_
      cases hf
      exact am_iret C0 (by decide +kernel)
    · rw [if_neg hc6] at hf
      obtain ⟨hg1, hf⟩ := am_g hf
      refine am_b1 C0 am_YYk (pc := 19) (pc2 := 25) [(.aload_n 0, 0, 0, .null), (.getfield 11, 1, 0, .null), (.iload_n 2, 0, 0, .null), (.iaload, 0, 0, .null)] (L := [some (.ref 22), some (.int (l1)), some (.int (l2))]) (st := []) (L' := [some (.ref 22), some (.int (l1)), some (.int (l2))]) (st' := [.int (g 23 (Int32.toNatClampNeg l2))]) (g' := g) (w' := w) (cl := [am_in l2 4]) (by decide +kernel) rfl ⟨hg1, trivial⟩ ?_
      obtain ⟨q2, hq2, hf⟩ := Option.bind_eq_some_iff.mp hf
      refine am_callS (mi := mi_J6_bitCount_0f7a4) (rm := rm_J6_bitCount_0f7a4) [.int (g 23 (Int32.toNatClampNeg l2))] C0.1 cv_1_32 (M_J6_bitCount_0f7a4 _ g w (g 23 (Int32.toNatClampNeg l2)) _ hq2) (by rw [hR]; rfl) rfl rfl (Nat.le_of_ble_eq_true rfl) (by decide +kernel) ?_
      obtain ⟨hg3, hf⟩ := am_g hf
      refine am_b1 C0 am_YYk (pc := 28) (pc2 := 34) [(.aload_n 0, 0, 0, .null), (.getfield 11, 1, 0, .null), (.iload_n 1, 0, 0, .null), (.iaload, 0, 0, .null)] (L := [some (.ref 22), some (.int (l1)), some (.int (l2))]) (st := [.int (q2)]) (L' := [some (.ref 22), some (.int (l1)), some (.int (l2))]) (st' := [.int (g 23 (Int32.toNatClampNeg l1)), .int (q2)]) (g' := g) (w' := w) (cl := [am_in l1 4]) (by decide +kernel) rfl ⟨hg3, trivial⟩ ?_
      obtain ⟨q4, hq4, hf⟩ := Option.bind_eq_some_iff.mp hf
      refine am_callS (mi := mi_J6_bitCount_0f7a4) (rm := rm_J6_bitCount_0f7a4) [.int (g 23 (Int32.toNatClampNeg l1))] C0.1 cv_1_32 (M_J6_bitCount_0f7a4 _ g w (g 23 (Int32.toNatClampNeg l1)) _ hq4) (by rw [hR]; rfl) rfl rfl (Nat.le_of_ble_eq_true rfl) (by decide +kernel) ?_
      refine am_icmp_le C0 (off := 5) (tgt := 42) (by decide +kernel) (fun hc5 => ?_) (fun hc5 => ?_)
      · rw [if_pos hc5] at hf
        exact B_X1_bestState_42 x C0 hR w F g R _ (fun l1 l2 hf => ih l1 l2 hf) (l1) (l2) hf
      · rw [if_neg hc5] at hf
        refine am_b1 C0 am_YYk (pc := 40) (pc2 := 42) [(.iload_n 2, 0, 0, .null), (.istore_n 1, 0, 0, .null)] (L := [some (.ref 22), some (.int (l1)), some (.int (l2))]) (st := []) (L' := [some (.ref 22), some (.int (l2)), some (.int (l2))]) (st' := []) (g' := g) (w' := w) (cl := []) (by decide +kernel) rfl trivial ?_
        exact B_X1_bestState_42 x C0 hR w F g R _ (fun l1 l2 hf => ih l1 l2 hf) (l2) (l2) hf
def f_X1_bestState (F : Nat) (g : am_G) : Option (Int32) :=
  (f_X1_codesLeft F g).bind fun q7 =>
    if q7 = 0 then
      some ((-9 : Int32))
    else
      f_X1_bestState_14 F g F ((0 : Int32)) ((1 : Int32))
set_option maxRecDepth 20000 in
theorem M_X1_bestState (l : Launch) (F : Nat) (g : am_G) (w : am_J)  (R : Int32) (hf : f_X1_bestState F g = some R) : am_Met l mi_X1_bestState rm_X1_bestState [.ref 22] am_YY g w (some (.int R)) am_YY g w := by
  refine am_met (own := 1) [some (.ref 22), none, none] (by decide) rfl rfl (by first | decide | exact Nat.le_of_ble_eq_true rfl) (fun x C0 hR hl hnm => ?_)
  unfold f_X1_bestState at hf
  refine am_b1 C0 am_YYk (pc := 0) (pc2 := 1) [(.aload_n 0, 0, 0, .null)] (L := [some (.ref 22), none, none]) (st := []) (L' := [some (.ref 22), none, none]) (st' := [.ref 22]) (g' := g) (w' := w) (cl := []) (by decide +kernel) rfl trivial ?_
  obtain ⟨q7, hq7, hf⟩ := Option.bind_eq_some_iff.mp hf
  refine am_callV (mi := mi_X1_codesLeft) (rm := rm_X1_codesLeft) [] C0.1 am_YYl cv_1_38 (M_X1_codesLeft _ F g w _ hq7) (ci := 1) rfl (by decide) rfl (by rw [hR]; rfl) rfl rfl (Nat.le_of_ble_eq_true rfl) (by decide +kernel) ?_
  refine am_if_ne C0 (off := 6) (tgt := 10) (by decide +kernel) (fun hc8 => ?_) (fun hc8 => ?_)
  · rw [if_neg hc8] at hf
    refine am_b1 C0 am_YYk (pc := 10) (pc2 := 14) [(.iconst 0, 0, 0, .int 0), (.istore_n 1, 0, 0, .null), (.iconst 1, 0, 0, .int 1), (.istore_n 2, 0, 0, .null)] (L := [some (.ref 22), none, none]) (st := []) (L' := [some (.ref 22), some (.int ((0 : Int32))), some (.int ((1 : Int32)))]) (st' := []) (g' := g) (w' := w) (cl := []) (by decide +kernel) rfl trivial ?_
    refine B_X1_bestState_14 x C0 hR w F g R   F ((0 : Int32)) ((1 : Int32)) hf
  · rw [if_pos hc8] at hf
    refine am_b1 C0 am_YYk (pc := 7) (pc2 := 9) [(.bipush (-9), 0, 0, .int (-9))] (L := [some (.ref 22), none, none]) (st := []) (L' := [some (.ref 22), none, none]) (st' := [.int ((-9 : Int32))]) (g' := g) (w' := w) (cl := []) (by decide +kernel) rfl trivial ?_
    cases hf
    exact am_iret C0 (by decide +kernel)
/-! ShutterTown.look()I at (0,) -/
def f_X7_look (F : Nat) (g : am_G) : Option (Int32) :=
  (f_X1_bestState F g).bind fun q1 =>
    some (q1)
set_option maxRecDepth 20000 in
theorem M_X7_look (l : Launch) (F : Nat) (g : am_G) (w : am_J)  (R : Int32) (hf : f_X7_look F g = some R) : am_Met l mi_X7_look rm_X7_look [.ref 0] am_YY g w (some (.int R)) am_YY g w := by
  refine am_met (own := 7) [some (.ref 0)] (by decide) rfl rfl (by first | decide | exact Nat.le_of_ble_eq_true rfl) (fun x C0 hR hl hnm => ?_)
  unfold f_X7_look at hf
  refine am_b1 C0 am_YYk (pc := 0) (pc2 := 4) [(.aload_n 0, 0, 0, .null), (.getfield 59, 7, 7, .null)] (L := [some (.ref 0)]) (st := []) (L' := [some (.ref 0)]) (st' := [.ref 22]) (g' := g) (w' := w) (cl := []) (by decide +kernel) rfl trivial ?_
  obtain ⟨q1, hq1, hf⟩ := Option.bind_eq_some_iff.mp hf
  refine am_callV (mi := mi_X1_bestState) (rm := rm_X1_bestState) [] C0.1 am_YYl cv_7_209 (M_X1_bestState _ F g w _ hq1) (ci := 1) rfl (by decide) rfl (by rw [hR]; rfl) rfl rfl (Nat.le_of_ble_eq_true rfl) (by decide +kernel) ?_
  cases hf
  exact am_iret C0 (by decide +kernel)
/-! ShutterTown.will(III)I at (0,) -/
def f_X7_will (g : am_G) (p1 : Int32) (p2 : Int32) (p3 : Int32) : Option (Int32) :=
  (f_X2_has g p1).bind fun q1 =>
    if q1 = 0 then
      some ((-1 : Int32))
    else
      (f_X7_isState p2).bind fun q2 =>
        if q2 = 0 then
          some ((-2 : Int32))
        else
          (f_X7_isState p3).bind fun q3 =>
            if q3 = 0 then
              some ((-2 : Int32))
            else
              if p2 = p3 then
                some ((-2 : Int32))
              else
                (f_X2_kind g p1).bind fun q4 =>
                  if q4 = (3 : Int32) then
                    some ((0 : Int32))
                  else
                    if q4 = (2 : Int32) then
                      if (p2 ^^^ p3) = (1 : Int32) then
                        some ((2 : Int32))
                      else
                        some ((1 : Int32))
                    else
                      some ((1 : Int32))
set_option maxRecDepth 20000 in
theorem M_X7_will (l : Launch) (g : am_G) (w : am_J) (p1 : Int32) (p2 : Int32) (p3 : Int32) (R : Int32) (hf : f_X7_will g p1 p2 p3 = some R) : am_Met l mi_X7_will rm_X7_will [.ref 0, .int p1, .int p2, .int p3] am_YY g w (some (.int R)) am_YY g w := by
  refine am_met (own := 7) [some (.ref 0), some (.int (p1)), some (.int (p2)), some (.int (p3)), none] (by decide) rfl rfl (by first | decide | exact Nat.le_of_ble_eq_true rfl) (fun x C0 hR hl hnm => ?_)
  unfold f_X7_will at hf
  refine am_b1 C0 am_YYk (pc := 0) (pc2 := 5) [(.aload_n 0, 0, 0, .null), (.getfield 19, 7, 1, .null), (.iload_n 1, 0, 0, .null)] (L := [some (.ref 0), some (.int (p1)), some (.int (p2)), some (.int (p3)), none]) (st := []) (L' := [some (.ref 0), some (.int (p1)), some (.int (p2)), some (.int (p3)), none]) (st' := [.int (p1), .ref 3]) (g' := g) (w' := w) (cl := []) (by decide +kernel) rfl trivial ?_
  obtain ⟨q1, hq1, hf⟩ := Option.bind_eq_some_iff.mp hf
  refine am_callV (mi := mi_X2_has) (rm := rm_X2_has) [.int (p1)] C0.1 am_YYl cv_7_96 (M_X2_has _ g w p1 _ hq1) (ci := 2) rfl (by decide) rfl (by rw [hR]; rfl) rfl rfl (Nat.le_of_ble_eq_true rfl) (by decide +kernel) ?_
  refine am_if_ne C0 (off := 5) (tgt := 13) (by decide +kernel) (fun hc11 => ?_) (fun hc11 => ?_)
  · rw [if_neg hc11] at hf
    refine am_b1 C0 am_YYk (pc := 13) (pc2 := 14) [(.iload_n 2, 0, 0, .null)] (L := [some (.ref 0), some (.int (p1)), some (.int (p2)), some (.int (p3)), none]) (st := []) (L' := [some (.ref 0), some (.int (p1)), some (.int (p2)), some (.int (p3)), none]) (st' := [.int (p2)]) (g' := g) (w' := w) (cl := []) (by decide +kernel) rfl trivial ?_
    obtain ⟨q2, hq2, hf⟩ := Option.bind_eq_some_iff.mp hf
    refine am_callS (mi := mi_X7_isState) (rm := rm_X7_isState) [.int (p2)] C0.1 cv_7_124 (M_X7_isState _ g w p2 _ hq2) (by rw [hR]; rfl) rfl rfl (Nat.le_of_ble_eq_true rfl) (by decide +kernel) ?_
    refine am_if_eq C0 (off := 15) (tgt := 32) (by decide +kernel) (fun hc10 => ?_) (fun hc10 => ?_)
    · rw [if_pos hc10] at hf
      refine am_b1 C0 am_YYk (pc := 32) (pc2 := 34) [(.bipush (-2), 0, 0, .int (-2))] (L := [some (.ref 0), some (.int (p1)), some (.int (p2)), some (.int (p3)), none]) (st := []) (L' := [some (.ref 0), some (.int (p1)), some (.int (p2)), some (.int (p3)), none]) (st' := [.int ((-2 : Int32))]) (g' := g) (w' := w) (cl := []) (by decide +kernel) rfl trivial ?_
      cases hf
      exact am_iret C0 (by decide +kernel)
    · rw [if_neg hc10] at hf
      refine am_b1 C0 am_YYk (pc := 20) (pc2 := 21) [(.iload_n 3, 0, 0, .null)] (L := [some (.ref 0), some (.int (p1)), some (.int (p2)), some (.int (p3)), none]) (st := []) (L' := [some (.ref 0), some (.int (p1)), some (.int (p2)), some (.int (p3)), none]) (st' := [.int (p3)]) (g' := g) (w' := w) (cl := []) (by decide +kernel) rfl trivial ?_
      obtain ⟨q3, hq3, hf⟩ := Option.bind_eq_some_iff.mp hf
      refine am_callS (mi := mi_X7_isState) (rm := rm_X7_isState) [.int (p3)] C0.1 cv_7_124 (M_X7_isState _ g w p3 _ hq3) (by rw [hR]; rfl) rfl rfl (Nat.le_of_ble_eq_true rfl) (by decide +kernel) ?_
      refine am_if_eq C0 (off := 8) (tgt := 32) (by decide +kernel) (fun hc9 => ?_) (fun hc9 => ?_)
      · rw [if_pos hc9] at hf
        refine am_b1 C0 am_YYk (pc := 32) (pc2 := 34) [(.bipush (-2), 0, 0, .int (-2))] (L := [some (.ref 0), some (.int (p1)), some (.int (p2)), some (.int (p3)), none]) (st := []) (L' := [some (.ref 0), some (.int (p1)), some (.int (p2)), some (.int (p3)), none]) (st' := [.int ((-2 : Int32))]) (g' := g) (w' := w) (cl := []) (by decide +kernel) rfl trivial ?_
        cases hf
        exact am_iret C0 (by decide +kernel)
      · rw [if_neg hc9] at hf
        refine am_b1 C0 am_YYk (pc := 27) (pc2 := 29) [(.iload_n 2, 0, 0, .null), (.iload_n 3, 0, 0, .null)] (L := [some (.ref 0), some (.int (p1)), some (.int (p2)), some (.int (p3)), none]) (st := []) (L' := [some (.ref 0), some (.int (p1)), some (.int (p2)), some (.int (p3)), none]) (st' := [.int (p3), .int (p2)]) (g' := g) (w' := w) (cl := []) (by decide +kernel) rfl trivial ?_
        refine am_icmp_ne C0 (off := 6) (tgt := 35) (by decide +kernel) (fun hc8 => ?_) (fun hc8 => ?_)
        · rw [if_neg hc8] at hf
          refine am_b1 C0 am_YYk (pc := 35) (pc2 := 40) [(.aload_n 0, 0, 0, .null), (.getfield 19, 7, 1, .null), (.iload_n 1, 0, 0, .null)] (L := [some (.ref 0), some (.int (p1)), some (.int (p2)), some (.int (p3)), none]) (st := []) (L' := [some (.ref 0), some (.int (p1)), some (.int (p2)), some (.int (p3)), none]) (st' := [.int (p1), .ref 3]) (g' := g) (w' := w) (cl := []) (by decide +kernel) rfl trivial ?_
          obtain ⟨q4, hq4, hf⟩ := Option.bind_eq_some_iff.mp hf
          refine am_callV (mi := mi_X2_kind) (rm := rm_X2_kind) [.int (p1)] C0.1 am_YYl cv_7_112 (M_X2_kind _ g w p1 _ hq4) (ci := 2) rfl (by decide) rfl (by rw [hR]; rfl) rfl rfl (Nat.le_of_ble_eq_true rfl) (by decide +kernel) ?_
          refine am_b1 C0 am_YYk (pc := 43) (pc2 := 48) [(.istore 4, 0, 0, .null), (.iload 4, 0, 0, .null), (.iconst 3, 0, 0, .int 3)] (L := [some (.ref 0), some (.int (p1)), some (.int (p2)), some (.int (p3)), none]) (st := [.int (q4)]) (L' := [some (.ref 0), some (.int (p1)), some (.int (p2)), some (.int (p3)), some (.int (q4))]) (st' := [.int ((3 : Int32)), .int (q4)]) (g' := g) (w' := w) (cl := []) (by decide +kernel) rfl trivial ?_
          refine am_icmp_ne C0 (off := 5) (tgt := 53) (by decide +kernel) (fun hc7 => ?_) (fun hc7 => ?_)
          · rw [if_neg hc7] at hf
            refine am_b1 C0 am_YYk (pc := 53) (pc2 := 56) [(.iload 4, 0, 0, .null), (.iconst 2, 0, 0, .int 2)] (L := [some (.ref 0), some (.int (p1)), some (.int (p2)), some (.int (p3)), some (.int (q4))]) (st := []) (L' := [some (.ref 0), some (.int (p1)), some (.int (p2)), some (.int (p3)), some (.int (q4))]) (st' := [.int ((2 : Int32)), .int (q4)]) (g' := g) (w' := w) (cl := []) (by decide +kernel) rfl trivial ?_
            refine am_icmp_ne C0 (off := 14) (tgt := 70) (by decide +kernel) (fun hc6 => ?_) (fun hc6 => ?_)
            · rw [if_neg hc6] at hf
              refine am_b1 C0 am_YYk (pc := 70) (pc2 := 71) [(.iconst 1, 0, 0, .int 1)] (L := [some (.ref 0), some (.int (p1)), some (.int (p2)), some (.int (p3)), some (.int (q4))]) (st := []) (L' := [some (.ref 0), some (.int (p1)), some (.int (p2)), some (.int (p3)), some (.int (q4))]) (st' := [.int ((1 : Int32))]) (g' := g) (w' := w) (cl := []) (by decide +kernel) rfl trivial ?_
              cases hf
              exact am_iret C0 (by decide +kernel)
            · rw [if_pos hc6] at hf
              refine am_b1 C0 am_YYk (pc := 59) (pc2 := 63) [(.iload_n 2, 0, 0, .null), (.iload_n 3, 0, 0, .null), (.ixor, 0, 0, .null), (.iconst 1, 0, 0, .int 1)] (L := [some (.ref 0), some (.int (p1)), some (.int (p2)), some (.int (p3)), some (.int (q4))]) (st := []) (L' := [some (.ref 0), some (.int (p1)), some (.int (p2)), some (.int (p3)), some (.int (q4))]) (st' := [.int ((1 : Int32)), .int (p2 ^^^ p3)]) (g' := g) (w' := w) (cl := []) (by decide +kernel) rfl trivial ?_
              refine am_icmp_ne C0 (off := 7) (tgt := 70) (by decide +kernel) (fun hc5 => ?_) (fun hc5 => ?_)
              · rw [if_neg hc5] at hf
                refine am_b1 C0 am_YYk (pc := 70) (pc2 := 71) [(.iconst 1, 0, 0, .int 1)] (L := [some (.ref 0), some (.int (p1)), some (.int (p2)), some (.int (p3)), some (.int (q4))]) (st := []) (L' := [some (.ref 0), some (.int (p1)), some (.int (p2)), some (.int (p3)), some (.int (q4))]) (st' := [.int ((1 : Int32))]) (g' := g) (w' := w) (cl := []) (by decide +kernel) rfl trivial ?_
                cases hf
                exact am_iret C0 (by decide +kernel)
              · rw [if_pos hc5] at hf
                refine am_b1 C0 am_YYk (pc := 66) (pc2 := 67) [(.iconst 2, 0, 0, .int 2)] (L := [some (.ref 0), some (.int (p1)), some (.int (p2)), some (.int (p3)), some (.int (q4))]) (st := []) (L' := [some (.ref 0), some (.int (p1)), some (.int (p2)), some (.int (p3)), some (.int (q4))]) (st' := [.int ((2 : Int32))]) (g' := g) (w' := w) (cl := []) (by decide +kernel) rfl trivial ?_
                refine am_goto C0 (off := 4) (tgt := 71) (by decide +kernel) ?_
                cases hf
                exact am_iret C0 (by decide +kernel)
          · rw [if_pos hc7] at hf
            refine am_b1 C0 am_YYk (pc := 51) (pc2 := 52) [(.iconst 0, 0, 0, .int 0)] (L := [some (.ref 0), some (.int (p1)), some (.int (p2)), some (.int (p3)), some (.int (q4))]) (st := []) (L' := [some (.ref 0), some (.int (p1)), some (.int (p2)), some (.int (p3)), some (.int (q4))]) (st' := [.int ((0 : Int32))]) (g' := g) (w' := w) (cl := []) (by decide +kernel) rfl trivial ?_
            cases hf
            exact am_iret C0 (by decide +kernel)
        · rw [if_pos hc8] at hf
          refine am_b1 C0 am_YYk (pc := 32) (pc2 := 34) [(.bipush (-2), 0, 0, .int (-2))] (L := [some (.ref 0), some (.int (p1)), some (.int (p2)), some (.int (p3)), none]) (st := []) (L' := [some (.ref 0), some (.int (p1)), some (.int (p2)), some (.int (p3)), none]) (st' := [.int ((-2 : Int32))]) (g' := g) (w' := w) (cl := []) (by decide +kernel) rfl trivial ?_
          cases hf
          exact am_iret C0 (by decide +kernel)
  · rw [if_pos hc11] at hf
    refine am_b1 C0 am_YYk (pc := 11) (pc2 := 12) [(.iconst (-1), 0, 0, .int (-1))] (L := [some (.ref 0), some (.int (p1)), some (.int (p2)), some (.int (p3)), none]) (st := []) (L' := [some (.ref 0), some (.int (p1)), some (.int (p2)), some (.int (p3)), none]) (st' := [.int ((-1 : Int32))]) (g' := g) (w' := w) (cl := []) (by decide +kernel) rfl trivial ?_
    cases hf
    exact am_iret C0 (by decide +kernel)
/-! java/util/Arrays.fill([II)V at (24,) -/
def f_J7_fill_53178_24_5 (F : Nat) (p1 : Int32)  : Nat → Int32 → Int32 → am_G → Option (am_G)
  | 0, _, _, _ => none
  | n + 1, l2, l3, g =>
    if l3 ≤ l2 then
      some (g)
    else
      if am_in l2 6 then
        f_J7_fill_53178_24_5 F p1 n (l2 + (1 : Int32)) (l3) (am_u g 24 (Int32.toNatClampNeg l2) p1)
      else none
set_option maxRecDepth 20000 in
theorem B_J7_fill_53178_24_5 (x : am_X) (C0 : am_Cm x 12 cJ7_fill_53178 4 none) (hR : am_R x = rm_J7_fill_53178) (w : am_J) (F : Nat) (p1 : Int32) (R : am_G)   : ∀ (n : Nat) (l2 : Int32) (l3 : Int32) (g : am_G), f_J7_fill_53178_24_5 F p1 n l2 l3 g = some R → am_Ev x 4 (0, 0) (am_Q x (0, 0) none am_YY R w) 5 [some (.ref 24), some (.int (p1)), some (.int (l2)), some (.int (l3))] [] am_YY g w := by
  intro n
  induction n with
  | zero => intro l2 l3 g hf; cases hf
  | succ n ih =>
    intro l2 l3 g hf
    rw [f_J7_fill_53178_24_5.eq_2] at hf
    refine am_b1 C0 am_YYk (pc := 5) (pc2 := 7) [(.iload_n 2, 0, 0, .null), (.iload_n 3, 0, 0, .null)] (L := [some (.ref 24), some (.int (p1)), some (.int (l2)), some (.int (l3))]) (st := []) (L' := [some (.ref 24), some (.int (p1)), some (.int (l2)), some (.int (l3))]) (st' := [.int (l3), .int (l2)]) (g' := g) (w' := w) (cl := []) (by decide +kernel) rfl trivial ?_
    refine am_icmp_ge C0 (off := 13) (tgt := 20) (by decide +kernel) (fun hc2 => ?_) (fun hc2 => ?_)
    · rw [if_pos hc2] at hf
      cases hf
      exact am_vret C0 (by decide +kernel)
    · rw [if_neg hc2] at hf
      obtain ⟨hg1, hf⟩ := am_g hf
      refine am_b1 C0 am_YYk (pc := 10) (pc2 := 17) [(.aload_n 0, 0, 0, .null), (.iload_n 2, 0, 0, .null), (.iload_n 1, 0, 0, .null), (.iastore, 0, 0, .null), (.iinc 2 1, 0, 0, .int 1)] (L := [some (.ref 24), some (.int (p1)), some (.int (l2)), some (.int (l3))]) (st := []) (L' := [some (.ref 24), some (.int (p1)), some (.int (l2 + (1 : Int32))), some (.int (l3))]) (st' := []) (g' := am_u g 24 (Int32.toNatClampNeg l2) p1) (w' := w) (cl := [am_in l2 6]) (by decide +kernel) rfl ⟨hg1, trivial⟩ ?_
      refine am_goto C0 (off := (-12)) (tgt := 5) (by decide +kernel) ?_
      exact ih (l2 + (1 : Int32)) (l3) (am_u g 24 (Int32.toNatClampNeg l2) p1) hf
def f_J7_fill_53178_24 (F : Nat) (g : am_G) (p1 : Int32) : Option (am_G) :=
  f_J7_fill_53178_24_5 F p1 F ((0 : Int32)) (Int32.ofNat 6) (g)
set_option maxRecDepth 20000 in
theorem M_J7_fill_53178_24 (l : Launch) (F : Nat) (g : am_G) (w : am_J) (p1 : Int32) (R : am_G) (hf : f_J7_fill_53178_24 F g p1 = some R) : am_Met l mi_J7_fill_53178 rm_J7_fill_53178 [.ref 24, .int p1] am_YY g w none am_YY R w := by
  refine am_met (own := 12) [some (.ref 24), some (.int (p1)), none, none] (by decide) rfl rfl (by first | decide | exact Nat.le_of_ble_eq_true rfl) (fun x C0 hR hl hnm => ?_)
  unfold f_J7_fill_53178_24 at hf
  refine am_b1 C0 am_YYk (pc := 0) (pc2 := 5) [(.iconst 0, 0, 0, .int 0), (.istore_n 2, 0, 0, .null), (.aload_n 0, 0, 0, .null), (.arraylength, 0, 0, .null), (.istore_n 3, 0, 0, .null)] (L := [some (.ref 24), some (.int (p1)), none, none]) (st := []) (L' := [some (.ref 24), some (.int (p1)), some (.int ((0 : Int32))), some (.int (Int32.ofNat 6))]) (st' := []) (g' := g) (w' := w) (cl := []) (by decide +kernel) rfl trivial ?_
  refine B_J7_fill_53178_24_5 x C0 hR w F p1 R   F ((0 : Int32)) (Int32.ofNat 6) (g) hf
/-! ShutterTown$Ways.hoursBetween(II[I)V at (20, 24) -/
def f_X6_hoursBetween_20_24_82 (F : Nat) (p1 : Int32) (p2 : Int32) (k41 : Int32 → Int32 → Int32 → am_G → am_J → Option (am_G × am_J)) (l4 : Int32) (l5 : Int32) (l6 : Int32) (l7 : Int32) (g : am_G) (w : am_J) : Option (am_G × am_J) :=
  (f_X6_hoursAt g l7).bind fun q1 =>
    k41 (l4 - q1) (l5 / (10 : Int32)) (l6 + (1 : Int32)) (g) (w)
set_option maxRecDepth 20000 in
theorem B_X6_hoursBetween_20_24_82 (x : am_X) (C0 : am_Cm x 6 cX6_hoursBetween 8 none) (hR : am_R x = rm_X6_hoursBetween) (F : Nat) (p1 : Int32) (p2 : Int32) (R : am_G × am_J) (k41 : Int32 → Int32 → Int32 → am_G → am_J → Option (am_G × am_J)) (hk41 : ∀ (l4 : Int32) (l5 : Int32) (l6 : Int32) (g : am_G) (w : am_J), k41 l4 l5 l6 g w = some R → am_Ev x 8 (0, 0) (am_Q x (0, 0) none am_YY (R.1) (R.2)) 41 [some (.ref 20), some (.int (p1)), some (.int (p2)), some (.ref 24), some (.int (l4)), some (.int (l5)), some (.int (l6)), none] [] am_YY g w) (l4 : Int32) (l5 : Int32) (l6 : Int32) (l7 : Int32) (g : am_G) (w : am_J) (hf : f_X6_hoursBetween_20_24_82 F p1 p2 k41 l4 l5 l6 l7 g w = some R) : am_Ev x 8 (0, 0) (am_Q x (0, 0) none am_YY (R.1) (R.2)) 82 [some (.ref 20), some (.int (p1)), some (.int (p2)), some (.ref 24), some (.int (l4)), some (.int (l5)), some (.int (l6)), some (.int (l7))] [] am_YY g w := by
  unfold f_X6_hoursBetween_20_24_82 at hf
  refine am_b1 C0 am_YYk (pc := 82) (pc2 := 87) [(.iload 4, 0, 0, .null), (.aload_n 0, 0, 0, .null), (.iload 7, 0, 0, .null)] (L := [some (.ref 20), some (.int (p1)), some (.int (p2)), some (.ref 24), some (.int (l4)), some (.int (l5)), some (.int (l6)), some (.int (l7))]) (st := []) (L' := [some (.ref 20), some (.int (p1)), some (.int (p2)), some (.ref 24), some (.int (l4)), some (.int (l5)), some (.int (l6)), some (.int (l7))]) (st' := [.int (l7), .ref 20, .int (l4)]) (g' := g) (w' := w) (cl := []) (by decide +kernel) rfl trivial ?_
  obtain ⟨q1, hq1, hf⟩ := Option.bind_eq_some_iff.mp hf
  refine am_callV (mi := mi_X6_hoursAt) (rm := rm_X6_hoursAt) [.int (l7)] C0.1 am_YYl cv_6_45 (M_X6_hoursAt _ g w l7 _ hq1) (ci := 6) rfl (by decide) rfl (by rw [hR]; rfl) rfl rfl (Nat.le_of_ble_eq_true rfl) (by decide +kernel) ?_
  refine am_b1 C0 am_YYk (pc := 90) (pc2 := 103) [(.isub, 0, 0, .null), (.istore 4, 0, 0, .null), (.iload 5, 0, 0, .null), (.bipush 10, 0, 0, .int 10), (.idiv, 0, 0, .null), (.istore 5, 0, 0, .null), (.iinc 6 1, 0, 0, .int 1)] (L := [some (.ref 20), some (.int (p1)), some (.int (p2)), some (.ref 24), some (.int (l4)), some (.int (l5)), some (.int (l6)), some (.int (l7))]) (st := [.int (q1), .int (l4)]) (L' := [some (.ref 20), some (.int (p1)), some (.int (p2)), some (.ref 24), some (.int (l4 - q1)), some (.int (l5 / (10 : Int32))), some (.int (l6 + (1 : Int32))), some (.int (l7))]) (st' := []) (g' := g) (w' := w) (cl := [¬ (10 : Int32) = 0]) (by decide +kernel) rfl ⟨by decide, trivial⟩ ?_
  refine am_goto C0 (off := (-62)) (tgt := 41) (by decide +kernel) ?_
  refine am_wk [some (.ref 20), some (.int (p1)), some (.int (p2)), some (.ref 24), some (.int (l4 - q1)), some (.int (l5 / (10 : Int32))), some (.int (l6 + (1 : Int32))), none] ⟨rfl, rfl, rfl, rfl, rfl, rfl, rfl, trivial⟩ rfl ?_
  exact hk41 (l4 - q1) (l5 / (10 : Int32)) (l6 + (1 : Int32)) (g) (w) hf
def f_X6_hoursBetween_20_24_41 (F : Nat) (p1 : Int32) (p2 : Int32)  : Nat → Int32 → Int32 → Int32 → am_G → am_J → Option (am_G × am_J)
  | 0, _, _, _, _, _ => none
  | n + 1, l4, l5, l6, g, w =>
    if (6 : Int32) ≤ l6 then
      some (g, w)
    else
      if l5 < (10 : Int32) then
        some (g, w)
      else
        if ((l5 - l5 / (10 : Int32) * (10 : Int32)) - (1 : Int32)) < 0 then
          f_X6_hoursBetween_20_24_82 F p1 p2 (fun l4 l5 l6 g w => f_X6_hoursBetween_20_24_41 F p1 p2 n l4 l5 l6 g w) (l4) (l5) (l6) ((l5 - l5 / (10 : Int32) * (10 : Int32)) - (1 : Int32)) (g) (w)
        else
          if (Int32.ofNat 6) ≤ ((l5 - l5 / (10 : Int32) * (10 : Int32)) - (1 : Int32)) then
            f_X6_hoursBetween_20_24_82 F p1 p2 (fun l4 l5 l6 g w => f_X6_hoursBetween_20_24_41 F p1 p2 n l4 l5 l6 g w) (l4) (l5) (l6) ((l5 - l5 / (10 : Int32) * (10 : Int32)) - (1 : Int32)) (g) (w)
          else
            if am_in ((l5 - l5 / (10 : Int32) * (10 : Int32)) - (1 : Int32)) 6 then
              f_X6_hoursBetween_20_24_82 F p1 p2 (fun l4 l5 l6 g w => f_X6_hoursBetween_20_24_41 F p1 p2 n l4 l5 l6 g w) (l4) (l5) (l6) ((l5 - l5 / (10 : Int32) * (10 : Int32)) - (1 : Int32)) (am_u g 24 (Int32.toNatClampNeg ((l5 - l5 / (10 : Int32) * (10 : Int32)) - (1 : Int32))) l4) (w)
            else none
set_option maxRecDepth 20000 in
theorem B_X6_hoursBetween_20_24_41 (x : am_X) (C0 : am_Cm x 6 cX6_hoursBetween 8 none) (hR : am_R x = rm_X6_hoursBetween) (F : Nat) (p1 : Int32) (p2 : Int32) (R : am_G × am_J)   : ∀ (n : Nat) (l4 : Int32) (l5 : Int32) (l6 : Int32) (g : am_G) (w : am_J), f_X6_hoursBetween_20_24_41 F p1 p2 n l4 l5 l6 g w = some R → am_Ev x 8 (0, 0) (am_Q x (0, 0) none am_YY (R.1) (R.2)) 41 [some (.ref 20), some (.int (p1)), some (.int (p2)), some (.ref 24), some (.int (l4)), some (.int (l5)), some (.int (l6)), none] [] am_YY g w := by
  intro n
  induction n with
  | zero => intro l4 l5 l6 g w hf; cases hf
  | succ n ih =>
    intro l4 l5 l6 g w hf
    rw [f_X6_hoursBetween_20_24_41.eq_2] at hf
    refine am_b1 C0 am_YYk (pc := 41) (pc2 := 45) [(.iload 6, 0, 0, .null), (.bipush 6, 0, 0, .int 6)] (L := [some (.ref 20), some (.int (p1)), some (.int (p2)), some (.ref 24), some (.int (l4)), some (.int (l5)), some (.int (l6)), none]) (st := []) (L' := [some (.ref 20), some (.int (p1)), some (.int (p2)), some (.ref 24), some (.int (l4)), some (.int (l5)), some (.int (l6)), none]) (st' := [.int ((6 : Int32)), .int (l6)]) (g' := g) (w' := w) (cl := []) (by decide +kernel) rfl trivial ?_
    refine am_icmp_ge C0 (off := 61) (tgt := 106) (by decide +kernel) (fun hc6 => ?_) (fun hc6 => ?_)
    · rw [if_pos hc6] at hf
      cases hf
      exact am_vret C0 (by decide +kernel)
    · rw [if_neg hc6] at hf
      refine am_b1 C0 am_YYk (pc := 48) (pc2 := 52) [(.iload 5, 0, 0, .null), (.bipush 10, 0, 0, .int 10)] (L := [some (.ref 20), some (.int (p1)), some (.int (p2)), some (.ref 24), some (.int (l4)), some (.int (l5)), some (.int (l6)), none]) (st := []) (L' := [some (.ref 20), some (.int (p1)), some (.int (p2)), some (.ref 24), some (.int (l4)), some (.int (l5)), some (.int (l6)), none]) (st' := [.int ((10 : Int32)), .int (l5)]) (g' := g) (w' := w) (cl := []) (by decide +kernel) rfl trivial ?_
      refine am_icmp_lt C0 (off := 54) (tgt := 106) (by decide +kernel) (fun hc5 => ?_) (fun hc5 => ?_)
      · rw [if_pos hc5] at hf
        cases hf
        exact am_vret C0 (by decide +kernel)
      · rw [if_neg hc5] at hf
        refine am_b1 C0 am_YYk (pc := 55) (pc2 := 66) [(.iload 5, 0, 0, .null), (.bipush 10, 0, 0, .int 10), (.irem, 0, 0, .null), (.iconst 1, 0, 0, .int 1), (.isub, 0, 0, .null), (.istore 7, 0, 0, .null), (.iload 7, 0, 0, .null)] (L := [some (.ref 20), some (.int (p1)), some (.int (p2)), some (.ref 24), some (.int (l4)), some (.int (l5)), some (.int (l6)), none]) (st := []) (L' := [some (.ref 20), some (.int (p1)), some (.int (p2)), some (.ref 24), some (.int (l4)), some (.int (l5)), some (.int (l6)), some (.int ((l5 - l5 / (10 : Int32) * (10 : Int32)) - (1 : Int32)))]) (st' := [.int ((l5 - l5 / (10 : Int32) * (10 : Int32)) - (1 : Int32))]) (g' := g) (w' := w) (cl := [¬ (10 : Int32) = 0]) (by decide +kernel) rfl ⟨by decide, trivial⟩ ?_
        refine am_if_lt C0 (off := 16) (tgt := 82) (by decide +kernel) (fun hc4 => ?_) (fun hc4 => ?_)
        · rw [if_pos hc4] at hf
          exact B_X6_hoursBetween_20_24_82 x C0 hR F p1 p2 R _ (fun l4 l5 l6 g w hf => ih l4 l5 l6 g w hf) (l4) (l5) (l6) ((l5 - l5 / (10 : Int32) * (10 : Int32)) - (1 : Int32)) (g) (w) hf
        · rw [if_neg hc4] at hf
          refine am_b1 C0 am_YYk (pc := 69) (pc2 := 73) [(.iload 7, 0, 0, .null), (.aload_n 3, 0, 0, .null), (.arraylength, 0, 0, .null)] (L := [some (.ref 20), some (.int (p1)), some (.int (p2)), some (.ref 24), some (.int (l4)), some (.int (l5)), some (.int (l6)), some (.int ((l5 - l5 / (10 : Int32) * (10 : Int32)) - (1 : Int32)))]) (st := []) (L' := [some (.ref 20), some (.int (p1)), some (.int (p2)), some (.ref 24), some (.int (l4)), some (.int (l5)), some (.int (l6)), some (.int ((l5 - l5 / (10 : Int32) * (10 : Int32)) - (1 : Int32)))]) (st' := [.int (Int32.ofNat 6), .int ((l5 - l5 / (10 : Int32) * (10 : Int32)) - (1 : Int32))]) (g' := g) (w' := w) (cl := []) (by decide +kernel) rfl trivial ?_
          refine am_icmp_ge C0 (off := 9) (tgt := 82) (by decide +kernel) (fun hc3 => ?_) (fun hc3 => ?_)
          · rw [if_pos hc3] at hf
            exact B_X6_hoursBetween_20_24_82 x C0 hR F p1 p2 R _ (fun l4 l5 l6 g w hf => ih l4 l5 l6 g w hf) (l4) (l5) (l6) ((l5 - l5 / (10 : Int32) * (10 : Int32)) - (1 : Int32)) (g) (w) hf
          · rw [if_neg hc3] at hf
            obtain ⟨hg2, hf⟩ := am_g hf
            refine am_b1 C0 am_YYk (pc := 76) (pc2 := 82) [(.aload_n 3, 0, 0, .null), (.iload 7, 0, 0, .null), (.iload 4, 0, 0, .null), (.iastore, 0, 0, .null)] (L := [some (.ref 20), some (.int (p1)), some (.int (p2)), some (.ref 24), some (.int (l4)), some (.int (l5)), some (.int (l6)), some (.int ((l5 - l5 / (10 : Int32) * (10 : Int32)) - (1 : Int32)))]) (st := []) (L' := [some (.ref 20), some (.int (p1)), some (.int (p2)), some (.ref 24), some (.int (l4)), some (.int (l5)), some (.int (l6)), some (.int ((l5 - l5 / (10 : Int32) * (10 : Int32)) - (1 : Int32)))]) (st' := []) (g' := am_u g 24 (Int32.toNatClampNeg ((l5 - l5 / (10 : Int32) * (10 : Int32)) - (1 : Int32))) l4) (w' := w) (cl := [am_in ((l5 - l5 / (10 : Int32) * (10 : Int32)) - (1 : Int32)) 6]) (by decide +kernel) rfl ⟨hg2, trivial⟩ ?_
            exact B_X6_hoursBetween_20_24_82 x C0 hR F p1 p2 R _ (fun l4 l5 l6 g w hf => ih l4 l5 l6 g w hf) (l4) (l5) (l6) ((l5 - l5 / (10 : Int32) * (10 : Int32)) - (1 : Int32)) (am_u g 24 (Int32.toNatClampNeg ((l5 - l5 / (10 : Int32) * (10 : Int32)) - (1 : Int32))) l4) (w) hf
def f_X6_hoursBetween_20_24 (F : Nat) (g : am_G) (w : am_J) (p1 : Int32) (p2 : Int32) : Option (am_G × am_J) :=
  (f_J7_fill_53178_24 F g (-9 : Int32)).bind fun q7 =>
    (f_X6_measure F q7 w p1 (0 : Int32)).bind fun q8 =>
      (f_X6_comesTo q7 q8 p2).bind fun q9 =>
        if q9 = 0 then
          some (q7, q8)
        else
          (f_X6_hoursTo q7 q8 p2).bind fun q10 =>
            (f_X6_wayTo q7 q8 p2).bind fun q11 =>
              f_X6_hoursBetween_20_24_41 F p1 p2 F (q10) (q11 / (10 : Int32)) ((0 : Int32)) (q7) (q8)
set_option maxRecDepth 20000 in
theorem M_X6_hoursBetween_20_24 (l : Launch) (F : Nat) (g : am_G) (w : am_J) (p1 : Int32) (p2 : Int32) (R : am_G × am_J) (hf : f_X6_hoursBetween_20_24 F g w p1 p2 = some R) : am_Met l mi_X6_hoursBetween rm_X6_hoursBetween [.ref 20, .int p1, .int p2, .ref 24] am_YY g w none am_YY (R.1) (R.2) := by
  refine am_met (own := 6) [some (.ref 20), some (.int (p1)), some (.int (p2)), some (.ref 24), none, none, none, none] (by decide) rfl rfl (by first | decide | exact Nat.le_of_ble_eq_true rfl) (fun x C0 hR hl hnm => ?_)
  unfold f_X6_hoursBetween_20_24 at hf
  refine am_b1 C0 am_YYk (pc := 0) (pc2 := 3) [(.aload_n 3, 0, 0, .null), (.bipush (-9), 0, 0, .int (-9))] (L := [some (.ref 20), some (.int (p1)), some (.int (p2)), some (.ref 24), none, none, none, none]) (st := []) (L' := [some (.ref 20), some (.int (p1)), some (.int (p2)), some (.ref 24), none, none, none, none]) (st' := [.int ((-9 : Int32)), .ref 24]) (g' := g) (w' := w) (cl := []) (by decide +kernel) rfl trivial ?_
  obtain ⟨q7, hq7, hf⟩ := Option.bind_eq_some_iff.mp hf
  refine am_callS (mi := mi_J7_fill_53178) (rm := rm_J7_fill_53178) [.ref 24, .int ((-9 : Int32))] C0.1 cv_6_53 (M_J7_fill_53178_24 _ F g w (-9 : Int32) _ hq7) (by rw [hR]; rfl) rfl rfl (Nat.le_of_ble_eq_true rfl) (by decide +kernel) ?_
  refine am_b1 C0 am_YYk (pc := 6) (pc2 := 9) [(.aload_n 0, 0, 0, .null), (.iload_n 1, 0, 0, .null), (.iconst 0, 0, 0, .int 0)] (L := [some (.ref 20), some (.int (p1)), some (.int (p2)), some (.ref 24), none, none, none, none]) (st := []) (L' := [some (.ref 20), some (.int (p1)), some (.int (p2)), some (.ref 24), none, none, none, none]) (st' := [.int ((0 : Int32)), .int (p1), .ref 20]) (g' := q7) (w' := w) (cl := []) (by decide +kernel) rfl trivial ?_
  obtain ⟨q8, hq8, hf⟩ := Option.bind_eq_some_iff.mp hf
  refine am_callV (mi := mi_X6_measure) (rm := rm_X6_measure) [.int (p1), .int ((0 : Int32))] C0.1 am_YYl cv_6_56 (M_X6_measure _ F q7 w p1 (0 : Int32) _ hq8) (ci := 6) rfl (by decide) rfl (by rw [hR]; rfl) rfl rfl (Nat.le_of_ble_eq_true rfl) (by decide +kernel) ?_
  refine am_b1 C0 am_YYk (pc := 12) (pc2 := 14) [(.aload_n 0, 0, 0, .null), (.iload_n 2, 0, 0, .null)] (L := [some (.ref 20), some (.int (p1)), some (.int (p2)), some (.ref 24), none, none, none, none]) (st := []) (L' := [some (.ref 20), some (.int (p1)), some (.int (p2)), some (.ref 24), none, none, none, none]) (st' := [.int (p2), .ref 20]) (g' := q7) (w' := q8) (cl := []) (by decide +kernel) rfl trivial ?_
  obtain ⟨q9, hq9, hf⟩ := Option.bind_eq_some_iff.mp hf
  refine am_callV (mi := mi_X6_comesTo) (rm := rm_X6_comesTo) [.int (p2)] C0.1 am_YYl cv_6_48 (M_X6_comesTo _ q7 q8 p2 _ hq9) (ci := 6) rfl (by decide) rfl (by rw [hR]; rfl) rfl rfl (Nat.le_of_ble_eq_true rfl) (by decide +kernel) ?_
  refine am_if_ne C0 (off := 4) (tgt := 21) (by decide +kernel) (fun hc12 => ?_) (fun hc12 => ?_)
  · rw [if_neg hc12] at hf
    refine am_b1 C0 am_YYk (pc := 21) (pc2 := 23) [(.aload_n 0, 0, 0, .null), (.iload_n 2, 0, 0, .null)] (L := [some (.ref 20), some (.int (p1)), some (.int (p2)), some (.ref 24), none, none, none, none]) (st := []) (L' := [some (.ref 20), some (.int (p1)), some (.int (p2)), some (.ref 24), none, none, none, none]) (st' := [.int (p2), .ref 20]) (g' := q7) (w' := q8) (cl := []) (by decide +kernel) rfl trivial ?_
    obtain ⟨q10, hq10, hf⟩ := Option.bind_eq_some_iff.mp hf
    refine am_callV (mi := mi_X6_hoursTo) (rm := rm_X6_hoursTo) [.int (p2)] C0.1 am_YYl cv_6_59 (M_X6_hoursTo _ q7 q8 p2 _ hq10) (ci := 6) rfl (by decide) rfl (by rw [hR]; rfl) rfl rfl (Nat.le_of_ble_eq_true rfl) (by decide +kernel) ?_
    refine am_b1 C0 am_YYk (pc := 26) (pc2 := 30) [(.istore 4, 0, 0, .null), (.aload_n 0, 0, 0, .null), (.iload_n 2, 0, 0, .null)] (L := [some (.ref 20), some (.int (p1)), some (.int (p2)), some (.ref 24), none, none, none, none]) (st := [.int (q10)]) (L' := [some (.ref 20), some (.int (p1)), some (.int (p2)), some (.ref 24), some (.int (q10)), none, none, none]) (st' := [.int (p2), .ref 20]) (g' := q7) (w' := q8) (cl := []) (by decide +kernel) rfl trivial ?_
    obtain ⟨q11, hq11, hf⟩ := Option.bind_eq_some_iff.mp hf
    refine am_callV (mi := mi_X6_wayTo) (rm := rm_X6_wayTo) [.int (p2)] C0.1 am_YYl cv_6_62 (M_X6_wayTo _ q7 q8 p2 _ hq11) (ci := 6) rfl (by decide) rfl (by rw [hR]; rfl) rfl rfl (Nat.le_of_ble_eq_true rfl) (by decide +kernel) ?_
    refine am_b1 C0 am_YYk (pc := 33) (pc2 := 41) [(.bipush 10, 0, 0, .int 10), (.idiv, 0, 0, .null), (.istore 5, 0, 0, .null), (.iconst 0, 0, 0, .int 0), (.istore 6, 0, 0, .null)] (L := [some (.ref 20), some (.int (p1)), some (.int (p2)), some (.ref 24), some (.int (q10)), none, none, none]) (st := [.int (q11)]) (L' := [some (.ref 20), some (.int (p1)), some (.int (p2)), some (.ref 24), some (.int (q10)), some (.int (q11 / (10 : Int32))), some (.int ((0 : Int32))), none]) (st' := []) (g' := q7) (w' := q8) (cl := [¬ (10 : Int32) = 0]) (by decide +kernel) rfl ⟨by decide, trivial⟩ ?_
    refine B_X6_hoursBetween_20_24_41 x C0 hR F p1 p2 R   F (q10) (q11 / (10 : Int32)) ((0 : Int32)) (q7) (q8) hf
  · rw [if_pos hc12] at hf
    cases hf
    exact am_vret C0 (by decide +kernel)
/-! java/util/Arrays.fill([II)V at (25,) -/
def f_J7_fill_53178_25_5 (F : Nat) (p1 : Int32)  : Nat → Int32 → Int32 → am_G → Option (am_G)
  | 0, _, _, _ => none
  | n + 1, l2, l3, g =>
    if l3 ≤ l2 then
      some (g)
    else
      if am_in l2 6 then
        f_J7_fill_53178_25_5 F p1 n (l2 + (1 : Int32)) (l3) (am_u g 25 (Int32.toNatClampNeg l2) p1)
      else none
set_option maxRecDepth 20000 in
theorem B_J7_fill_53178_25_5 (x : am_X) (C0 : am_Cm x 12 cJ7_fill_53178 4 none) (hR : am_R x = rm_J7_fill_53178) (w : am_J) (F : Nat) (p1 : Int32) (R : am_G)   : ∀ (n : Nat) (l2 : Int32) (l3 : Int32) (g : am_G), f_J7_fill_53178_25_5 F p1 n l2 l3 g = some R → am_Ev x 4 (0, 0) (am_Q x (0, 0) none am_YY R w) 5 [some (.ref 25), some (.int (p1)), some (.int (l2)), some (.int (l3))] [] am_YY g w := by
  intro n
  induction n with
  | zero => intro l2 l3 g hf; cases hf
  | succ n ih =>
    intro l2 l3 g hf
    rw [f_J7_fill_53178_25_5.eq_2] at hf
    refine am_b1 C0 am_YYk (pc := 5) (pc2 := 7) [(.iload_n 2, 0, 0, .null), (.iload_n 3, 0, 0, .null)] (L := [some (.ref 25), some (.int (p1)), some (.int (l2)), some (.int (l3))]) (st := []) (L' := [some (.ref 25), some (.int (p1)), some (.int (l2)), some (.int (l3))]) (st' := [.int (l3), .int (l2)]) (g' := g) (w' := w) (cl := []) (by decide +kernel) rfl trivial ?_
    refine am_icmp_ge C0 (off := 13) (tgt := 20) (by decide +kernel) (fun hc2 => ?_) (fun hc2 => ?_)
    · rw [if_pos hc2] at hf
      cases hf
      exact am_vret C0 (by decide +kernel)
    · rw [if_neg hc2] at hf
      obtain ⟨hg1, hf⟩ := am_g hf
      refine am_b1 C0 am_YYk (pc := 10) (pc2 := 17) [(.aload_n 0, 0, 0, .null), (.iload_n 2, 0, 0, .null), (.iload_n 1, 0, 0, .null), (.iastore, 0, 0, .null), (.iinc 2 1, 0, 0, .int 1)] (L := [some (.ref 25), some (.int (p1)), some (.int (l2)), some (.int (l3))]) (st := []) (L' := [some (.ref 25), some (.int (p1)), some (.int (l2 + (1 : Int32))), some (.int (l3))]) (st' := []) (g' := am_u g 25 (Int32.toNatClampNeg l2) p1) (w' := w) (cl := [am_in l2 6]) (by decide +kernel) rfl ⟨hg1, trivial⟩ ?_
      refine am_goto C0 (off := (-12)) (tgt := 5) (by decide +kernel) ?_
      exact ih (l2 + (1 : Int32)) (l3) (am_u g 25 (Int32.toNatClampNeg l2) p1) hf
def f_J7_fill_53178_25 (F : Nat) (g : am_G) (p1 : Int32) : Option (am_G) :=
  f_J7_fill_53178_25_5 F p1 F ((0 : Int32)) (Int32.ofNat 6) (g)
set_option maxRecDepth 20000 in
theorem M_J7_fill_53178_25 (l : Launch) (F : Nat) (g : am_G) (w : am_J) (p1 : Int32) (R : am_G) (hf : f_J7_fill_53178_25 F g p1 = some R) : am_Met l mi_J7_fill_53178 rm_J7_fill_53178 [.ref 25, .int p1] am_YY g w none am_YY R w := by
  refine am_met (own := 12) [some (.ref 25), some (.int (p1)), none, none] (by decide) rfl rfl (by first | decide | exact Nat.le_of_ble_eq_true rfl) (fun x C0 hR hl hnm => ?_)
  unfold f_J7_fill_53178_25 at hf
  refine am_b1 C0 am_YYk (pc := 0) (pc2 := 5) [(.iconst 0, 0, 0, .int 0), (.istore_n 2, 0, 0, .null), (.aload_n 0, 0, 0, .null), (.arraylength, 0, 0, .null), (.istore_n 3, 0, 0, .null)] (L := [some (.ref 25), some (.int (p1)), none, none]) (st := []) (L' := [some (.ref 25), some (.int (p1)), some (.int ((0 : Int32))), some (.int (Int32.ofNat 6))]) (st' := []) (g' := g) (w' := w) (cl := []) (by decide +kernel) rfl trivial ?_
  refine B_J7_fill_53178_25_5 x C0 hR w F p1 R   F ((0 : Int32)) (Int32.ofNat 6) (g) hf
