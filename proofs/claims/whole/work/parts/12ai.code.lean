/-! ShutterTown$Shutters.pairsAlike()I at (10,) -/
def f_X4_pairsAlike_10_69 (F : Nat) (g : am_G) (k4 : Int32 → Int32 → Option (Int32)) (l1 : Int32) (l2 : Int32) : Option (Int32) :=
  k4 (l1) (l2 + (1 : Int32))
set_option maxRecDepth 20000 in
theorem B_X4_pairsAlike_10_69 (x : am_X) (C0 : am_Cm x 4 cX4_pairsAlike 4 (some .int)) (hR : am_R x = rm_X4_pairsAlike) (w : am_J) (F : Nat) (g : am_G) (R : Int32) (k4 : Int32 → Int32 → Option (Int32)) (hk4 : ∀ (l1 : Int32) (l2 : Int32), k4 l1 l2 = some R → am_Ev x 4 (0, 0) (am_Q x (0, 0) (some (.int R)) am_YY g w) 4 [some (.ref 10), some (.int (l1)), some (.int (l2)), none] [] am_YY g w) (l1 : Int32) (l2 : Int32) (hf : f_X4_pairsAlike_10_69 F g k4 l1 l2 = some R) : am_Ev x 4 (0, 0) (am_Q x (0, 0) (some (.int R)) am_YY g w) 69 [some (.ref 10), some (.int (l1)), some (.int (l2)), none] [] am_YY g w := by
  unfold f_X4_pairsAlike_10_69 at hf
  refine am_b1 C0 am_YYk (pc := 69) (pc2 := 72) [(.iinc 2 1, 0, 0, .int 1)] (L := [some (.ref 10), some (.int (l1)), some (.int (l2)), none]) (st := []) (L' := [some (.ref 10), some (.int (l1)), some (.int (l2 + (1 : Int32))), none]) (st' := []) (g' := g) (w' := w) (cl := []) (by decide +kernel) rfl trivial ?_
  refine am_goto C0 (off := (-68)) (tgt := 4) (by decide +kernel) ?_
  exact hk4 (l1) (l2 + (1 : Int32)) hf
def f_X4_pairsAlike_10_61 (F : Nat) (g : am_G) (k19 : Int32 → Int32 → Int32 → Option (Int32)) (k69 : Int32 → Int32 → Option (Int32)) (l2 : Int32) (l3 : Int32) (s0 : Int32) (s1 : Int32) : Option (Int32) :=
  k19 (s0 + s1) (l2) (l3 + (1 : Int32))
set_option maxRecDepth 20000 in
theorem B_X4_pairsAlike_10_61 (x : am_X) (C0 : am_Cm x 4 cX4_pairsAlike 4 (some .int)) (hR : am_R x = rm_X4_pairsAlike) (w : am_J) (F : Nat) (g : am_G) (R : Int32) (k19 : Int32 → Int32 → Int32 → Option (Int32)) (k69 : Int32 → Int32 → Option (Int32)) (hk19 : ∀ (l1 : Int32) (l2 : Int32) (l3 : Int32), k19 l1 l2 l3 = some R → am_Ev x 4 (0, 0) (am_Q x (0, 0) (some (.int R)) am_YY g w) 19 [some (.ref 10), some (.int (l1)), some (.int (l2)), some (.int (l3))] [] am_YY g w) (hk69 : ∀ (l1 : Int32) (l2 : Int32), k69 l1 l2 = some R → am_Ev x 4 (0, 0) (am_Q x (0, 0) (some (.int R)) am_YY g w) 69 [some (.ref 10), some (.int (l1)), some (.int (l2)), none] [] am_YY g w) (l2 : Int32) (l3 : Int32) (s0 : Int32) (s1 : Int32) (hf : f_X4_pairsAlike_10_61 F g k19 k69 l2 l3 s0 s1 = some R) : am_Ev x 4 (0, 0) (am_Q x (0, 0) (some (.int R)) am_YY g w) 61 [some (.ref 10), none, some (.int (l2)), some (.int (l3))] [.int (s1), .int (s0)] am_YY g w := by
  unfold f_X4_pairsAlike_10_61 at hf
  refine am_b1 C0 am_YYk (pc := 61) (pc2 := 66) [(.iadd, 0, 0, .null), (.istore_n 1, 0, 0, .null), (.iinc 3 1, 0, 0, .int 1)] (L := [some (.ref 10), none, some (.int (l2)), some (.int (l3))]) (st := [.int (s1), .int (s0)]) (L' := [some (.ref 10), some (.int (s0 + s1)), some (.int (l2)), some (.int (l3 + (1 : Int32)))]) (st' := []) (g' := g) (w' := w) (cl := []) (by decide +kernel) rfl trivial ?_
  refine am_goto C0 (off := (-47)) (tgt := 19) (by decide +kernel) ?_
  exact hk19 (s0 + s1) (l2) (l3 + (1 : Int32)) hf
def f_X4_pairsAlike_10_60 (F : Nat) (g : am_G) (k19 : Int32 → Int32 → Int32 → Option (Int32)) (k69 : Int32 → Int32 → Option (Int32)) (l2 : Int32) (l3 : Int32) (s0 : Int32) : Option (Int32) :=
  f_X4_pairsAlike_10_61 F g k19 k69 (l2) (l3) (s0) ((0 : Int32))
set_option maxRecDepth 20000 in
theorem B_X4_pairsAlike_10_60 (x : am_X) (C0 : am_Cm x 4 cX4_pairsAlike 4 (some .int)) (hR : am_R x = rm_X4_pairsAlike) (w : am_J) (F : Nat) (g : am_G) (R : Int32) (k19 : Int32 → Int32 → Int32 → Option (Int32)) (k69 : Int32 → Int32 → Option (Int32)) (hk19 : ∀ (l1 : Int32) (l2 : Int32) (l3 : Int32), k19 l1 l2 l3 = some R → am_Ev x 4 (0, 0) (am_Q x (0, 0) (some (.int R)) am_YY g w) 19 [some (.ref 10), some (.int (l1)), some (.int (l2)), some (.int (l3))] [] am_YY g w) (hk69 : ∀ (l1 : Int32) (l2 : Int32), k69 l1 l2 = some R → am_Ev x 4 (0, 0) (am_Q x (0, 0) (some (.int R)) am_YY g w) 69 [some (.ref 10), some (.int (l1)), some (.int (l2)), none] [] am_YY g w) (l2 : Int32) (l3 : Int32) (s0 : Int32) (hf : f_X4_pairsAlike_10_60 F g k19 k69 l2 l3 s0 = some R) : am_Ev x 4 (0, 0) (am_Q x (0, 0) (some (.int R)) am_YY g w) 60 [some (.ref 10), none, some (.int (l2)), some (.int (l3))] [.int (s0)] am_YY g w := by
  unfold f_X4_pairsAlike_10_60 at hf
  refine am_b1 C0 am_YYk (pc := 60) (pc2 := 61) [(.iconst 0, 0, 0, .int 0)] (L := [some (.ref 10), none, some (.int (l2)), some (.int (l3))]) (st := [.int (s0)]) (L' := [some (.ref 10), none, some (.int (l2)), some (.int (l3))]) (st' := [.int ((0 : Int32)), .int (s0)]) (g' := g) (w' := w) (cl := []) (by decide +kernel) rfl trivial ?_
  exact B_X4_pairsAlike_10_61 x C0 hR w F g R _ _ hk19 hk69 (l2) (l3) (s0) ((0 : Int32)) hf
def f_X4_pairsAlike_10_19 (F : Nat) (g : am_G) (k69 : Int32 → Int32 → Option (Int32)) : Nat → Int32 → Int32 → Int32 → Option (Int32)
  | 0, _, _, _ => none
  | n + 1, l1, l2, l3 =>
    (f_X2_windows g).bind fun q1 =>
      if q1 ≤ l3 then
        k69 (l1) (l2)
      else
        (f_X2_areFacing g l2 l3).bind fun q2 =>
          if q2 = 0 then
            f_X4_pairsAlike_10_60 F g (fun l1 l2 l3 => f_X4_pairsAlike_10_19 F g k69 n l1 l2 l3) k69 (l2) (l3) (l1)
          else
            (f_X4_word_10 g l2).bind fun q3 =>
              (f_X4_word_10 g l3).bind fun q4 =>
                if q3 = q4 then
                  f_X4_pairsAlike_10_61 F g (fun l1 l2 l3 => f_X4_pairsAlike_10_19 F g k69 n l1 l2 l3) k69 (l2) (l3) (l1) ((1 : Int32))
                else
                  f_X4_pairsAlike_10_60 F g (fun l1 l2 l3 => f_X4_pairsAlike_10_19 F g k69 n l1 l2 l3) k69 (l2) (l3) (l1)
set_option maxRecDepth 20000 in
theorem B_X4_pairsAlike_10_19 (x : am_X) (C0 : am_Cm x 4 cX4_pairsAlike 4 (some .int)) (hR : am_R x = rm_X4_pairsAlike) (w : am_J) (F : Nat) (g : am_G) (R : Int32) (k69 : Int32 → Int32 → Option (Int32)) (hk69 : ∀ (l1 : Int32) (l2 : Int32), k69 l1 l2 = some R → am_Ev x 4 (0, 0) (am_Q x (0, 0) (some (.int R)) am_YY g w) 69 [some (.ref 10), some (.int (l1)), some (.int (l2)), none] [] am_YY g w) : ∀ (n : Nat) (l1 : Int32) (l2 : Int32) (l3 : Int32), f_X4_pairsAlike_10_19 F g k69 n l1 l2 l3 = some R → am_Ev x 4 (0, 0) (am_Q x (0, 0) (some (.int R)) am_YY g w) 19 [some (.ref 10), some (.int (l1)), some (.int (l2)), some (.int (l3))] [] am_YY g w := by
  intro n
  induction n with
  | zero => intro l1 l2 l3 hf; cases hf
  | succ n ih =>
    intro l1 l2 l3 hf
    rw [f_X4_pairsAlike_10_19.eq_2] at hf
    refine am_b1 C0 am_YYk (pc := 19) (pc2 := 24) [(.iload_n 3, 0, 0, .null), (.aload_n 0, 0, 0, .null), (.getfield 18, 4, 0, .null)] (L := [some (.ref 10), some (.int (l1)), some (.int (l2)), some (.int (l3))]) (st := []) (L' := [some (.ref 10), some (.int (l1)), some (.int (l2)), some (.int (l3))]) (st' := [.ref 3, .int (l3)]) (g' := g) (w' := w) (cl := []) (by decide +kernel) rfl trivial ?_
    obtain ⟨q1, hq1, hf⟩ := Option.bind_eq_some_iff.mp hf
    refine am_callV (mi := mi_X2_windows) (rm := rm_X2_windows) [] C0.1 am_YYl cv_4_22 (M_X2_windows _ g w _ hq1) (ci := 2) rfl (by decide) rfl (by rw [hR]; rfl) rfl rfl (Nat.le_of_ble_eq_true rfl) (by decide +kernel) ?_
    refine am_icmp_ge C0 (off := 42) (tgt := 69) (by decide +kernel) (fun hc7 => ?_) (fun hc7 => ?_)
    · rw [if_pos hc7] at hf
      refine am_wk [some (.ref 10), some (.int (l1)), some (.int (l2)), none] ⟨rfl, rfl, rfl, trivial⟩ rfl ?_
      exact hk69 (l1) (l2) hf
    · rw [if_neg hc7] at hf
      refine am_b1 C0 am_YYk (pc := 30) (pc2 := 37) [(.iload_n 1, 0, 0, .null), (.aload_n 0, 0, 0, .null), (.getfield 18, 4, 0, .null), (.iload_n 2, 0, 0, .null), (.iload_n 3, 0, 0, .null)] (L := [some (.ref 10), some (.int (l1)), some (.int (l2)), some (.int (l3))]) (st := []) (L' := [some (.ref 10), some (.int (l1)), some (.int (l2)), some (.int (l3))]) (st' := [.int (l3), .int (l2), .ref 3, .int (l1)]) (g' := g) (w' := w) (cl := []) (by decide +kernel) rfl trivial ?_
      obtain ⟨q2, hq2, hf⟩ := Option.bind_eq_some_iff.mp hf
      refine am_callV (mi := mi_X2_areFacing) (rm := rm_X2_areFacing) [.int (l2), .int (l3)] C0.1 am_YYl cv_4_73 (M_X2_areFacing _ g w l2 l3 _ hq2) (ci := 2) rfl (by decide) rfl (by rw [hR]; rfl) rfl rfl (Nat.le_of_ble_eq_true rfl) (by decide +kernel) ?_
      refine am_if_eq C0 (off := 20) (tgt := 60) (by decide +kernel) (fun hc6 => ?_) (fun hc6 => ?_)
      · rw [if_pos hc6] at hf
        refine am_wk [some (.ref 10), none, some (.int (l2)), some (.int (l3))] ⟨rfl, rfl, rfl, trivial⟩ rfl ?_
        exact B_X4_pairsAlike_10_60 x C0 hR w F g R _ _ (fun l1 l2 l3 hf => ih l1 l2 l3 hf) hk69 (l2) (l3) (l1) hf
      · rw [if_neg hc6] at hf
        refine am_b1 C0 am_YYk (pc := 43) (pc2 := 45) [(.aload_n 0, 0, 0, .null), (.iload_n 2, 0, 0, .null)] (L := [some (.ref 10), some (.int (l1)), some (.int (l2)), some (.int (l3))]) (st := [.int (l1)]) (L' := [some (.ref 10), some (.int (l1)), some (.int (l2)), some (.int (l3))]) (st' := [.int (l2), .ref 10, .int (l1)]) (g' := g) (w' := w) (cl := []) (by decide +kernel) rfl trivial ?_
        obtain ⟨q3, hq3, hf⟩ := Option.bind_eq_some_iff.mp hf
        refine am_callV (mi := mi_X4_word) (rm := rm_X4_word) [.int (l2)] C0.1 am_YYl cv_4_70 (M_X4_word_10 _ g w l2 _ hq3) (ci := 4) rfl (by decide) rfl (by rw [hR]; rfl) rfl rfl (Nat.le_of_ble_eq_true rfl) (by decide +kernel) ?_
        refine am_b1 C0 am_YYk (pc := 48) (pc2 := 50) [(.aload_n 0, 0, 0, .null), (.iload_n 3, 0, 0, .null)] (L := [some (.ref 10), some (.int (l1)), some (.int (l2)), some (.int (l3))]) (st := [.int (q3), .int (l1)]) (L' := [some (.ref 10), some (.int (l1)), some (.int (l2)), some (.int (l3))]) (st' := [.int (l3), .ref 10, .int (q3), .int (l1)]) (g' := g) (w' := w) (cl := []) (by decide +kernel) rfl trivial ?_
        obtain ⟨q4, hq4, hf⟩ := Option.bind_eq_some_iff.mp hf
        refine am_callV (mi := mi_X4_word) (rm := rm_X4_word) [.int (l3)] C0.1 am_YYl cv_4_70 (M_X4_word_10 _ g w l3 _ hq4) (ci := 4) rfl (by decide) rfl (by rw [hR]; rfl) rfl rfl (Nat.le_of_ble_eq_true rfl) (by decide +kernel) ?_
        refine am_icmp_ne C0 (off := 7) (tgt := 60) (by decide +kernel) (fun hc5 => ?_) (fun hc5 => ?_)
        · rw [if_neg hc5] at hf
          refine am_wk [some (.ref 10), none, some (.int (l2)), some (.int (l3))] ⟨rfl, rfl, rfl, trivial⟩ rfl ?_
          exact B_X4_pairsAlike_10_60 x C0 hR w F g R _ _ (fun l1 l2 l3 hf => ih l1 l2 l3 hf) hk69 (l2) (l3) (l1) hf
        · rw [if_pos hc5] at hf
          refine am_b1 C0 am_YYk (pc := 56) (pc2 := 57) [(.iconst 1, 0, 0, .int 1)] (L := [some (.ref 10), some (.int (l1)), some (.int (l2)), some (.int (l3))]) (st := [.int (l1)]) (L' := [some (.ref 10), some (.int (l1)), some (.int (l2)), some (.int (l3))]) (st' := [.int ((1 : Int32)), .int (l1)]) (g' := g) (w' := w) (cl := []) (by decide +kernel) rfl trivial ?_
          refine am_goto C0 (off := 4) (tgt := 61) (by decide +kernel) ?_
          refine am_wk [some (.ref 10), none, some (.int (l2)), some (.int (l3))] ⟨rfl, rfl, rfl, trivial⟩ rfl ?_
          exact B_X4_pairsAlike_10_61 x C0 hR w F g R _ _ (fun l1 l2 l3 hf => ih l1 l2 l3 hf) hk69 (l2) (l3) (l1) ((1 : Int32)) hf
def f_X4_pairsAlike_10_4 (F : Nat) (g : am_G)  : Nat → Int32 → Int32 → Option (Int32)
  | 0, _, _ => none
  | n + 1, l1, l2 =>
    (f_X2_windows g).bind fun q8 =>
      if q8 ≤ l2 then
        some (l1)
      else
        f_X4_pairsAlike_10_19 F g (fun l1 l2 => f_X4_pairsAlike_10_69 F g (fun l1 l2 => f_X4_pairsAlike_10_4 F g n l1 l2) (l1) (l2)) F (l1) (l2) (l2 + (1 : Int32))
set_option maxRecDepth 20000 in
theorem B_X4_pairsAlike_10_4 (x : am_X) (C0 : am_Cm x 4 cX4_pairsAlike 4 (some .int)) (hR : am_R x = rm_X4_pairsAlike) (w : am_J) (F : Nat) (g : am_G) (R : Int32)   : ∀ (n : Nat) (l1 : Int32) (l2 : Int32), f_X4_pairsAlike_10_4 F g n l1 l2 = some R → am_Ev x 4 (0, 0) (am_Q x (0, 0) (some (.int R)) am_YY g w) 4 [some (.ref 10), some (.int (l1)), some (.int (l2)), none] [] am_YY g w := by
  intro n
  induction n with
  | zero => intro l1 l2 hf; cases hf
  | succ n ih =>
    intro l1 l2 hf
    rw [f_X4_pairsAlike_10_4.eq_2] at hf
    refine am_b1 C0 am_YYk (pc := 4) (pc2 := 9) [(.iload_n 2, 0, 0, .null), (.aload_n 0, 0, 0, .null), (.getfield 18, 4, 0, .null)] (L := [some (.ref 10), some (.int (l1)), some (.int (l2)), none]) (st := []) (L' := [some (.ref 10), some (.int (l1)), some (.int (l2)), none]) (st' := [.ref 3, .int (l2)]) (g' := g) (w' := w) (cl := []) (by decide +kernel) rfl trivial ?_
    obtain ⟨q8, hq8, hf⟩ := Option.bind_eq_some_iff.mp hf
    refine am_callV (mi := mi_X2_windows) (rm := rm_X2_windows) [] C0.1 am_YYl cv_4_22 (M_X2_windows _ g w _ hq8) (ci := 2) rfl (by decide) rfl (by rw [hR]; rfl) rfl rfl (Nat.le_of_ble_eq_true rfl) (by decide +kernel) ?_
    refine am_icmp_ge C0 (off := 63) (tgt := 75) (by decide +kernel) (fun hc9 => ?_) (fun hc9 => ?_)
    · rw [if_pos hc9] at hf
      refine am_b1 C0 am_YYk (pc := 75) (pc2 := 76) [(.iload_n 1, 0, 0, .null)] (L := [some (.ref 10), some (.int (l1)), some (.int (l2)), none]) (st := []) (L' := [some (.ref 10), some (.int (l1)), some (.int (l2)), none]) (st' := [.int (l1)]) (g' := g) (w' := w) (cl := []) (by decide +kernel) rfl trivial ?_
      cases hf
      exact am_iret C0 (by decide +kernel)
    · rw [if_neg hc9] at hf
      refine am_b1 C0 am_YYk (pc := 15) (pc2 := 19) [(.iload_n 2, 0, 0, .null), (.iconst 1, 0, 0, .int 1), (.iadd, 0, 0, .null), (.istore_n 3, 0, 0, .null)] (L := [some (.ref 10), some (.int (l1)), some (.int (l2)), none]) (st := []) (L' := [some (.ref 10), some (.int (l1)), some (.int (l2)), some (.int (l2 + (1 : Int32)))]) (st' := []) (g' := g) (w' := w) (cl := []) (by decide +kernel) rfl trivial ?_
      refine B_X4_pairsAlike_10_19 x C0 hR w F g R _ ?_ F (l1) (l2) (l2 + (1 : Int32)) hf
      · intro l1 l2 hf
        exact B_X4_pairsAlike_10_69 x C0 hR w F g R _ (fun l1 l2 hf => ih l1 l2 hf) (l1) (l2) hf
def f_X4_pairsAlike_10 (F : Nat) (g : am_G) : Option (Int32) :=
  f_X4_pairsAlike_10_4 F g F ((0 : Int32)) ((0 : Int32))
set_option maxRecDepth 20000 in
theorem M_X4_pairsAlike_10 (l : Launch) (F : Nat) (g : am_G) (w : am_J)  (R : Int32) (hf : f_X4_pairsAlike_10 F g = some R) : am_Met l mi_X4_pairsAlike rm_X4_pairsAlike [.ref 10] am_YY g w (some (.int R)) am_YY g w := by
  refine am_met (own := 4) [some (.ref 10), none, none, none] (by decide) rfl rfl (by first | decide | exact Nat.le_of_ble_eq_true rfl) (fun x C0 hR hl hnm => ?_)
  unfold f_X4_pairsAlike_10 at hf
  refine am_b1 C0 am_YYk (pc := 0) (pc2 := 4) [(.iconst 0, 0, 0, .int 0), (.istore_n 1, 0, 0, .null), (.iconst 0, 0, 0, .int 0), (.istore_n 2, 0, 0, .null)] (L := [some (.ref 10), none, none, none]) (st := []) (L' := [some (.ref 10), some (.int ((0 : Int32))), some (.int ((0 : Int32))), none]) (st' := []) (g' := g) (w' := w) (cl := []) (by decide +kernel) rfl trivial ?_
  refine B_X4_pairsAlike_10_4 x C0 hR w F g R   F ((0 : Int32)) ((0 : Int32)) hf
/-! ShutterTown.count(I)I at (0,) -/
def f_X7_count (F : Nat) (g : am_G) (p1 : Int32) : Option (Int32) :=
  if p1 = (0 : Int32) then
    (f_X3_size g).bind fun q1 =>
      some (q1)
  else
  if p1 = (1 : Int32) then
    (f_X2_windows g).bind fun q2 =>
      some (q2)
  else
  if p1 = (2 : Int32) then
    (f_X2_sight g).bind fun q3 =>
      some (q3)
  else
  if p1 = (3 : Int32) then
    (f_X4_theHour g).bind fun q4 =>
      some (q4)
  else
  if p1 = (4 : Int32) then
    (f_X2_wordsAsFigures F g).bind fun q5 =>
      some (q5)
  else
  if p1 = (5 : Int32) then
    (f_X4_dueCount F g).bind fun q6 =>
      some (q6)
  else
  if p1 = (6 : Int32) then
    (f_X0_size g).bind fun q7 =>
      some (q7)
  else
  if p1 = (7 : Int32) then
    (f_X1_size g).bind fun q8 =>
      some (q8)
  else
  if p1 = (8 : Int32) then
    (f_X4_pairsAlike_10 F g).bind fun q9 =>
      some (q9)
  else
  some ((-2 : Int32))
set_option maxRecDepth 20000 in
theorem M_X7_count (l : Launch) (F : Nat) (g : am_G) (w : am_J) (p1 : Int32) (R : Int32) (hf : f_X7_count F g p1 = some R) : am_Met l mi_X7_count rm_X7_count [.ref 0, .int p1] am_YY g w (some (.int R)) am_YY g w := by
  refine am_met (own := 7) [some (.ref 0), some (.int (p1))] (by decide) rfl rfl (by first | decide | exact Nat.le_of_ble_eq_true rfl) (fun x C0 hR hl hnm => ?_)
  unfold f_X7_count at hf
  refine am_b1 C0 am_YYk (pc := 0) (pc2 := 1) [(.iload_n 1, 0, 0, .null)] (L := [some (.ref 0), some (.int (p1))]) (st := []) (L' := [some (.ref 0), some (.int (p1))]) (st' := [.int (p1)]) (g' := g) (w' := w) (cl := []) (by decide +kernel) rfl trivial ?_
  by_cases hs10 : p1 = (0 : Int32)
  · rw [if_pos hs10] at hf
    refine am_swIn C0 (n := 51) (dflt := 123) (lo := 0) (hi := 8) (offs := #[51, 59, 67, 75, 83, 91, 99, 107, 115]) (by decide +kernel) (off := 51) (tgt := 52) (by rw [hs10]; decide) (by rw [hs10]; decide) (by rw [hs10]; rfl) (by decide) ?_
    refine am_b1 C0 am_YYk (pc := 52) (pc2 := 56) [(.aload_n 0, 0, 0, .null), (.getfield 12, 7, 0, .null)] (L := [some (.ref 0), some (.int (p1))]) (st := []) (L' := [some (.ref 0), some (.int (p1))]) (st' := [.ref 1]) (g' := g) (w' := w) (cl := []) (by decide +kernel) rfl trivial ?_
    obtain ⟨q1, hq1, hf⟩ := Option.bind_eq_some_iff.mp hf
    refine am_callV (mi := mi_X3_size) (rm := rm_X3_size) [] C0.1 am_YYl cv_7_74 (M_X3_size _ g w _ hq1) (ci := 3) rfl (by decide) rfl (by rw [hR]; rfl) rfl rfl (Nat.le_of_ble_eq_true rfl) (by decide +kernel) ?_
    cases hf
    exact am_iret C0 (by decide +kernel)
  rw [if_neg hs10] at hf
  by_cases hs11 : p1 = (1 : Int32)
  · rw [if_pos hs11] at hf
    refine am_swIn C0 (n := 51) (dflt := 123) (lo := 0) (hi := 8) (offs := #[51, 59, 67, 75, 83, 91, 99, 107, 115]) (by decide +kernel) (off := 59) (tgt := 60) (by rw [hs11]; decide) (by rw [hs11]; decide) (by rw [hs11]; rfl) (by decide) ?_
    refine am_b1 C0 am_YYk (pc := 60) (pc2 := 64) [(.aload_n 0, 0, 0, .null), (.getfield 19, 7, 1, .null)] (L := [some (.ref 0), some (.int (p1))]) (st := []) (L' := [some (.ref 0), some (.int (p1))]) (st' := [.ref 3]) (g' := g) (w' := w) (cl := []) (by decide +kernel) rfl trivial ?_
    obtain ⟨q2, hq2, hf⟩ := Option.bind_eq_some_iff.mp hf
    refine am_callV (mi := mi_X2_windows) (rm := rm_X2_windows) [] C0.1 am_YYl cv_7_93 (M_X2_windows _ g w _ hq2) (ci := 2) rfl (by decide) rfl (by rw [hR]; rfl) rfl rfl (Nat.le_of_ble_eq_true rfl) (by decide +kernel) ?_
    cases hf
    exact am_iret C0 (by decide +kernel)
  rw [if_neg hs11] at hf
  by_cases hs12 : p1 = (2 : Int32)
  · rw [if_pos hs12] at hf
    refine am_swIn C0 (n := 51) (dflt := 123) (lo := 0) (hi := 8) (offs := #[51, 59, 67, 75, 83, 91, 99, 107, 115]) (by decide +kernel) (off := 67) (tgt := 68) (by rw [hs12]; decide) (by rw [hs12]; decide) (by rw [hs12]; rfl) (by decide) ?_
    refine am_b1 C0 am_YYk (pc := 68) (pc2 := 72) [(.aload_n 0, 0, 0, .null), (.getfield 19, 7, 1, .null)] (L := [some (.ref 0), some (.int (p1))]) (st := []) (L' := [some (.ref 0), some (.int (p1))]) (st' := [.ref 3]) (g' := g) (w' := w) (cl := []) (by decide +kernel) rfl trivial ?_
    obtain ⟨q3, hq3, hf⟩ := Option.bind_eq_some_iff.mp hf
    refine am_callV (mi := mi_X2_sight) (rm := rm_X2_sight) [] C0.1 am_YYl cv_7_256 (M_X2_sight _ g w _ hq3) (ci := 2) rfl (by decide) rfl (by rw [hR]; rfl) rfl rfl (Nat.le_of_ble_eq_true rfl) (by decide +kernel) ?_
    cases hf
    exact am_iret C0 (by decide +kernel)
  rw [if_neg hs12] at hf
  by_cases hs13 : p1 = (3 : Int32)
  · rw [if_pos hs13] at hf
    refine am_swIn C0 (n := 51) (dflt := 123) (lo := 0) (hi := 8) (offs := #[51, 59, 67, 75, 83, 91, 99, 107, 115]) (by decide +kernel) (off := 75) (tgt := 76) (by rw [hs13]; decide) (by rw [hs13]; decide) (by rw [hs13]; rfl) (by decide) ?_
    refine am_b1 C0 am_YYk (pc := 76) (pc2 := 80) [(.aload_n 0, 0, 0, .null), (.getfield 28, 7, 2, .null)] (L := [some (.ref 0), some (.int (p1))]) (st := []) (L' := [some (.ref 0), some (.int (p1))]) (st' := [.ref 10]) (g' := g) (w' := w) (cl := []) (by decide +kernel) rfl trivial ?_
    obtain ⟨q4, hq4, hf⟩ := Option.bind_eq_some_iff.mp hf
    refine am_callV (mi := mi_X4_theHour) (rm := rm_X4_theHour) [] C0.1 am_YYl cv_7_248 (M_X4_theHour _ g w _ hq4) (ci := 4) rfl (by decide) rfl (by rw [hR]; rfl) rfl rfl (Nat.le_of_ble_eq_true rfl) (by decide +kernel) ?_
    cases hf
    exact am_iret C0 (by decide +kernel)
  rw [if_neg hs13] at hf
  by_cases hs14 : p1 = (4 : Int32)
  · rw [if_pos hs14] at hf
    refine am_swIn C0 (n := 51) (dflt := 123) (lo := 0) (hi := 8) (offs := #[51, 59, 67, 75, 83, 91, 99, 107, 115]) (by decide +kernel) (off := 83) (tgt := 84) (by rw [hs14]; decide) (by rw [hs14]; decide) (by rw [hs14]; rfl) (by decide) ?_
    refine am_b1 C0 am_YYk (pc := 84) (pc2 := 88) [(.aload_n 0, 0, 0, .null), (.getfield 19, 7, 1, .null)] (L := [some (.ref 0), some (.int (p1))]) (st := []) (L' := [some (.ref 0), some (.int (p1))]) (st' := [.ref 3]) (g' := g) (w' := w) (cl := []) (by decide +kernel) rfl trivial ?_
    obtain ⟨q5, hq5, hf⟩ := Option.bind_eq_some_iff.mp hf
    refine am_callV (mi := mi_X2_wordsAsFigures) (rm := rm_X2_wordsAsFigures) [] C0.1 am_YYl cv_7_259 (M_X2_wordsAsFigures _ F g w _ hq5) (ci := 2) rfl (by decide) rfl (by rw [hR]; rfl) rfl rfl (Nat.le_of_ble_eq_true rfl) (by decide +kernel) ?_
    cases hf
    exact am_iret C0 (by decide +kernel)
  rw [if_neg hs14] at hf
  by_cases hs15 : p1 = (5 : Int32)
  · rw [if_pos hs15] at hf
    refine am_swIn C0 (n := 51) (dflt := 123) (lo := 0) (hi := 8) (offs := #[51, 59, 67, 75, 83, 91, 99, 107, 115]) (by decide +kernel) (off := 91) (tgt := 92) (by rw [hs15]; decide) (by rw [hs15]; decide) (by rw [hs15]; rfl) (by decide) ?_
    refine am_b1 C0 am_YYk (pc := 92) (pc2 := 96) [(.aload_n 0, 0, 0, .null), (.getfield 28, 7, 2, .null)] (L := [some (.ref 0), some (.int (p1))]) (st := []) (L' := [some (.ref 0), some (.int (p1))]) (st' := [.ref 10]) (g' := g) (w' := w) (cl := []) (by decide +kernel) rfl trivial ?_
    obtain ⟨q6, hq6, hf⟩ := Option.bind_eq_some_iff.mp hf
    refine am_callV (mi := mi_X4_dueCount) (rm := rm_X4_dueCount) [] C0.1 am_YYl cv_7_262 (M_X4_dueCount _ F g w _ hq6) (ci := 4) rfl (by decide) rfl (by rw [hR]; rfl) rfl rfl (Nat.le_of_ble_eq_true rfl) (by decide +kernel) ?_
    cases hf
    exact am_iret C0 (by decide +kernel)
  rw [if_neg hs15] at hf
  by_cases hs16 : p1 = (6 : Int32)
  · rw [if_pos hs16] at hf
    refine am_swIn C0 (n := 51) (dflt := 123) (lo := 0) (hi := 8) (offs := #[51, 59, 67, 75, 83, 91, 99, 107, 115]) (by decide +kernel) (off := 99) (tgt := 100) (by rw [hs16]; decide) (by rw [hs16]; decide) (by rw [hs16]; rfl) (by decide) ?_
    refine am_b1 C0 am_YYk (pc := 100) (pc2 := 104) [(.aload_n 0, 0, 0, .null), (.getfield 38, 7, 4, .null)] (L := [some (.ref 0), some (.int (p1))]) (st := []) (L' := [some (.ref 0), some (.int (p1))]) (st' := [.ref 16]) (g' := g) (w' := w) (cl := []) (by decide +kernel) rfl trivial ?_
    obtain ⟨q7, hq7, hf⟩ := Option.bind_eq_some_iff.mp hf
    refine am_callV (mi := mi_X0_size) (rm := rm_X0_size) [] C0.1 am_YYl cv_7_151 (M_X0_size _ g w _ hq7) (ci := 0) rfl (by decide) rfl (by rw [hR]; rfl) rfl rfl (Nat.le_of_ble_eq_true rfl) (by decide +kernel) ?_
    cases hf
    exact am_iret C0 (by decide +kernel)
  rw [if_neg hs16] at hf
  by_cases hs17 : p1 = (7 : Int32)
  · rw [if_pos hs17] at hf
    refine am_swIn C0 (n := 51) (dflt := 123) (lo := 0) (hi := 8) (offs := #[51, 59, 67, 75, 83, 91, 99, 107, 115]) (by decide +kernel) (off := 107) (tgt := 108) (by rw [hs17]; decide) (by rw [hs17]; decide) (by rw [hs17]; rfl) (by decide) ?_
    refine am_b1 C0 am_YYk (pc := 108) (pc2 := 112) [(.aload_n 0, 0, 0, .null), (.getfield 59, 7, 7, .null)] (L := [some (.ref 0), some (.int (p1))]) (st := []) (L' := [some (.ref 0), some (.int (p1))]) (st' := [.ref 22]) (g' := g) (w' := w) (cl := []) (by decide +kernel) rfl trivial ?_
    obtain ⟨q8, hq8, hf⟩ := Option.bind_eq_some_iff.mp hf
    refine am_callV (mi := mi_X1_size) (rm := rm_X1_size) [] C0.1 am_YYl cv_7_201 (M_X1_size _ g w _ hq8) (ci := 1) rfl (by decide) rfl (by rw [hR]; rfl) rfl rfl (Nat.le_of_ble_eq_true rfl) (by decide +kernel) ?_
    cases hf
    exact am_iret C0 (by decide +kernel)
  rw [if_neg hs17] at hf
  by_cases hs18 : p1 = (8 : Int32)
  · rw [if_pos hs18] at hf
    refine am_swIn C0 (n := 51) (dflt := 123) (lo := 0) (hi := 8) (offs := #[51, 59, 67, 75, 83, 91, 99, 107, 115]) (by decide +kernel) (off := 115) (tgt := 116) (by rw [hs18]; decide) (by rw [hs18]; decide) (by rw [hs18]; rfl) (by decide) ?_
    refine am_b1 C0 am_YYk (pc := 116) (pc2 := 120) [(.aload_n 0, 0, 0, .null), (.getfield 28, 7, 2, .null)] (L := [some (.ref 0), some (.int (p1))]) (st := []) (L' := [some (.ref 0), some (.int (p1))]) (st' := [.ref 10]) (g' := g) (w' := w) (cl := []) (by decide +kernel) rfl trivial ?_
    obtain ⟨q9, hq9, hf⟩ := Option.bind_eq_some_iff.mp hf
    refine am_callV (mi := mi_X4_pairsAlike) (rm := rm_X4_pairsAlike) [] C0.1 am_YYl cv_7_192 (M_X4_pairsAlike_10 _ F g w _ hq9) (ci := 4) rfl (by decide) rfl (by rw [hR]; rfl) rfl rfl (Nat.le_of_ble_eq_true rfl) (by decide +kernel) ?_
    cases hf
    exact am_iret C0 (by decide +kernel)
  rw [if_neg hs18] at hf
  refine am_swOut C0 (n := 51) (dflt := 123) (lo := 0) (hi := 8) (offs := #[51, 59, 67, 75, 83, 91, 99, 107, 115]) (by decide +kernel) (tgt := 124) (am_sw8 hs10 hs11 hs12 hs13 hs14 hs15 hs16 hs17 hs18) (by decide) ?_
  refine am_b1 C0 am_YYk (pc := 124) (pc2 := 126) [(.bipush (-2), 0, 0, .int (-2))] (L := [some (.ref 0), some (.int (p1))]) (st := []) (L' := [some (.ref 0), some (.int (p1))]) (st' := [.int ((-2 : Int32))]) (g' := g) (w' := w) (cl := []) (by decide +kernel) rfl trivial ?_
  cases hf
  exact am_iret C0 (by decide +kernel)
/-! ShutterTownModel.in(JJJ)Z at () -/
def f_X8_in (p0 : Int64) (p2 : Int64) (p4 : Int64) : Option (Int32) :=
  if (lg_cmp p0 p2) < 0 then
    some ((0 : Int32))
  else
    if 0 < (lg_cmp p0 p4) then
      some ((0 : Int32))
    else
      some ((1 : Int32))
set_option maxRecDepth 20000 in
theorem M_X8_in (l : Launch) (g : am_G) (w : am_J) (p0 : Int64) (p2 : Int64) (p4 : Int64) (R : Int32) (hf : f_X8_in p0 p2 p4 = some R) : am_Met l mi_X8_in rm_X8_in [.long p0, .long p2, .long p4] am_YY g w (some (.int R)) am_YY g w := by
  refine am_met (own := 8) [some (.long (p0)), none, some (.long (p2)), none, some (.long (p4)), none] (by decide) rfl rfl (by first | decide | exact Nat.le_of_ble_eq_true rfl) (fun x C0 hR hl hnm => ?_)
  unfold f_X8_in at hf
  refine am_b1 C0 am_YYk (pc := 0) (pc2 := 3) [(.lload_n 0, 0, 0, .null), (.lload_n 2, 0, 0, .null), (.lcmp, 0, 0, .null)] (L := [some (.long (p0)), none, some (.long (p2)), none, some (.long (p4)), none]) (st := []) (L' := [some (.long (p0)), none, some (.long (p2)), none, some (.long (p4)), none]) (st' := [.int (lg_cmp p0 p2)]) (g' := g) (w' := w) (cl := []) (by decide +kernel) rfl trivial ?_
  refine am_if_lt C0 (off := 14) (tgt := 17) (by decide +kernel) (fun hc2 => ?_) (fun hc2 => ?_)
  · rw [if_pos hc2] at hf
    refine am_b1 C0 am_YYk (pc := 17) (pc2 := 18) [(.iconst 0, 0, 0, .int 0)] (L := [some (.long (p0)), none, some (.long (p2)), none, some (.long (p4)), none]) (st := []) (L' := [some (.long (p0)), none, some (.long (p2)), none, some (.long (p4)), none]) (st' := [.int ((0 : Int32))]) (g' := g) (w' := w) (cl := []) (by decide +kernel) rfl trivial ?_
    cases hf
    exact am_zret C0 (by decide +kernel) (Or.inl rfl)
  · rw [if_neg hc2] at hf
    refine am_b1 C0 am_YYk (pc := 6) (pc2 := 10) [(.lload_n 0, 0, 0, .null), (.lload 4, 0, 0, .null), (.lcmp, 0, 0, .null)] (L := [some (.long (p0)), none, some (.long (p2)), none, some (.long (p4)), none]) (st := []) (L' := [some (.long (p0)), none, some (.long (p2)), none, some (.long (p4)), none]) (st' := [.int (lg_cmp p0 p4)]) (g' := g) (w' := w) (cl := []) (by decide +kernel) rfl trivial ?_
    refine am_if_gt C0 (off := 7) (tgt := 17) (by decide +kernel) (fun hc1 => ?_) (fun hc1 => ?_)
    · rw [if_pos hc1] at hf
      refine am_b1 C0 am_YYk (pc := 17) (pc2 := 18) [(.iconst 0, 0, 0, .int 0)] (L := [some (.long (p0)), none, some (.long (p2)), none, some (.long (p4)), none]) (st := []) (L' := [some (.long (p0)), none, some (.long (p2)), none, some (.long (p4)), none]) (st' := [.int ((0 : Int32))]) (g' := g) (w' := w) (cl := []) (by decide +kernel) rfl trivial ?_
      cases hf
      exact am_zret C0 (by decide +kernel) (Or.inl rfl)
    · rw [if_neg hc1] at hf
      refine am_b1 C0 am_YYk (pc := 13) (pc2 := 14) [(.iconst 1, 0, 0, .int 1)] (L := [some (.long (p0)), none, some (.long (p2)), none, some (.long (p4)), none]) (st := []) (L' := [some (.long (p0)), none, some (.long (p2)), none, some (.long (p4)), none]) (st' := [.int ((1 : Int32))]) (g' := g) (w' := w) (cl := []) (by decide +kernel) rfl trivial ?_
      refine am_goto C0 (off := 4) (tgt := 18) (by decide +kernel) ?_
      cases hf
      exact am_zret C0 (by decide +kernel) (Or.inr rfl)
/-! ShutterTownModel.write(I)I at (26,) -/
def f_X8_write (g : am_G) (p1 : Int32) : Option (Int32 × am_G) :=
  (f_X8_in (Int32.toInt64 p1) (0 : Int64) (255 : Int64)).bind fun q1 =>
    if q1 = 0 then
      some ((-2 : Int32), g)
    else
      if (g 26 14) = (48 : Int32) then
        some ((-4 : Int32), g)
      else
        if am_in (g 26 14) 48 then
          some ((am_u (am_u g 35 (Int32.toNatClampNeg (g 26 14)) p1) 26 14 (((am_u g 35 (Int32.toNatClampNeg (g 26 14)) p1) 26 14) + (1 : Int32))) 26 14, am_u (am_u g 35 (Int32.toNatClampNeg (g 26 14)) p1) 26 14 (((am_u g 35 (Int32.toNatClampNeg (g 26 14)) p1) 26 14) + (1 : Int32)))
        else none
set_option maxRecDepth 20000 in
theorem M_X8_write (l : Launch) (g : am_G) (w : am_J) (p1 : Int32) (R : Int32 × am_G) (hf : f_X8_write g p1 = some R) : am_Met l mi_X8_write rm_X8_write [.ref 26, .int p1] am_YY g w (some (.int R.1)) am_YY (R.2) w := by
  refine am_met (own := 8) [some (.ref 26), some (.int (p1))] (by decide) rfl rfl (by first | decide | exact Nat.le_of_ble_eq_true rfl) (fun x C0 hR hl hnm => ?_)
  unfold f_X8_write at hf
  refine am_b1 C0 am_YYk (pc := 0) (pc2 := 6) [(.iload_n 1, 0, 0, .null), (.i2l, 0, 0, .null), (.lconst 0, 0, 0, .long 0), (.ldc2_w 63, 0, 0, .long 255)] (L := [some (.ref 26), some (.int (p1))]) (st := []) (L' := [some (.ref 26), some (.int (p1))]) (st' := [.long ((255 : Int64)), .long ((0 : Int64)), .long (Int32.toInt64 p1)]) (g' := g) (w' := w) (cl := []) (by decide +kernel) rfl trivial ?_
  obtain ⟨q1, hq1, hf⟩ := Option.bind_eq_some_iff.mp hf
  refine am_callS (mi := mi_X8_in) (rm := rm_X8_in) [.long (Int32.toInt64 p1), .long ((0 : Int64)), .long ((255 : Int64))] C0.1 cv_8_65 (M_X8_in _ g w (Int32.toInt64 p1) (0 : Int64) (255 : Int64) _ hq1) (by rw [hR]; rfl) rfl rfl (Nat.le_of_ble_eq_true rfl) (by decide +kernel) ?_
  refine am_if_ne C0 (off := 6) (tgt := 15) (by decide +kernel) (fun hc4 => ?_) (fun hc4 => ?_)
  · rw [if_neg hc4] at hf
    refine am_b1 C0 am_YYk (pc := 15) (pc2 := 21) [(.aload_n 0, 0, 0, .null), (.getfield 69, 8, 14, .null), (.bipush 48, 0, 0, .int 48)] (L := [some (.ref 26), some (.int (p1))]) (st := []) (L' := [some (.ref 26), some (.int (p1))]) (st' := [.int ((48 : Int32)), .int (g 26 14)]) (g' := g) (w' := w) (cl := []) (by decide +kernel) rfl trivial ?_
    refine am_icmp_ne C0 (off := 6) (tgt := 27) (by decide +kernel) (fun hc3 => ?_) (fun hc3 => ?_)
    · rw [if_neg hc3] at hf
      obtain ⟨hg2, hf⟩ := am_g hf
      refine am_b1 C0 am_YYk (pc := 27) (pc2 := 51) [(.aload_n 0, 0, 0, .null), (.getfield 34, 8, 13, .null), (.aload_n 0, 0, 0, .null), (.getfield 69, 8, 14, .null), (.iload_n 1, 0, 0, .null), (.iastore, 0, 0, .null), (.aload_n 0, 0, 0, .null), (.dup, 0, 0, .null), (.getfield 69, 8, 14, .null), (.iconst 1, 0, 0, .int 1), (.iadd, 0, 0, .null), (.putfield 69, 8, 14, .null), (.aload_n 0, 0, 0, .null), (.getfield 69, 8, 14, .null)] (L := [some (.ref 26), some (.int (p1))]) (st := []) (L' := [some (.ref 26), some (.int (p1))]) (st' := [.int ((am_u (am_u g 35 (Int32.toNatClampNeg (g 26 14)) p1) 26 14 (((am_u g 35 (Int32.toNatClampNeg (g 26 14)) p1) 26 14) + (1 : Int32))) 26 14)]) (g' := am_u (am_u g 35 (Int32.toNatClampNeg (g 26 14)) p1) 26 14 (((am_u g 35 (Int32.toNatClampNeg (g 26 14)) p1) 26 14) + (1 : Int32))) (w' := w) (cl := [am_in (g 26 14) 48]) (by decide +kernel) rfl ⟨hg2, trivial⟩ ?_
      cases hf
      exact am_iret C0 (by decide +kernel)
    · rw [if_pos hc3] at hf
      refine am_b1 C0 am_YYk (pc := 24) (pc2 := 26) [(.bipush (-4), 0, 0, .int (-4))] (L := [some (.ref 26), some (.int (p1))]) (st := []) (L' := [some (.ref 26), some (.int (p1))]) (st' := [.int ((-4 : Int32))]) (g' := g) (w' := w) (cl := []) (by decide +kernel) rfl trivial ?_
      cases hf
      exact am_iret C0 (by decide +kernel)
  · rw [if_pos hc4] at hf
    refine am_b1 C0 am_YYk (pc := 12) (pc2 := 14) [(.bipush (-2), 0, 0, .int (-2))] (L := [some (.ref 26), some (.int (p1))]) (st := []) (L' := [some (.ref 26), some (.int (p1))]) (st' := [.int ((-2 : Int32))]) (g' := g) (w' := w) (cl := []) (by decide +kernel) rfl trivial ?_
    cases hf
    exact am_iret C0 (by decide +kernel)
/-! ShutterTownModel.wipe()I at (26,) -/
def f_X8_wipe (g : am_G) : Option (Int32 × am_G) :=
  some (g 26 14, am_u g 26 14 (0 : Int32))
set_option maxRecDepth 20000 in
theorem M_X8_wipe (l : Launch) (g : am_G) (w : am_J)  (R : Int32 × am_G) (hf : f_X8_wipe g = some R) : am_Met l mi_X8_wipe rm_X8_wipe [.ref 26] am_YY g w (some (.int R.1)) am_YY (R.2) w := by
  refine am_met (own := 8) [some (.ref 26), none] (by decide) rfl rfl (by first | decide | exact Nat.le_of_ble_eq_true rfl) (fun x C0 hR hl hnm => ?_)
  unfold f_X8_wipe at hf
  refine am_b1 C0 am_YYk (pc := 0) (pc2 := 11) [(.aload_n 0, 0, 0, .null), (.getfield 69, 8, 14, .null), (.istore_n 1, 0, 0, .null), (.aload_n 0, 0, 0, .null), (.iconst 0, 0, 0, .int 0), (.putfield 69, 8, 14, .null), (.iload_n 1, 0, 0, .null)] (L := [some (.ref 26), none]) (st := []) (L' := [some (.ref 26), some (.int (g 26 14))]) (st' := [.int (g 26 14)]) (g' := am_u g 26 14 (0 : Int32)) (w' := w) (cl := []) (by decide +kernel) rfl trivial ?_
  cases hf
  exact am_iret C0 (by decide +kernel)
/-! ShutterTownModel.figure(II)I at (26,) -/
def f_X8_figure_37 (p1 : Int32) (p2 : Int32)  (s0 : Int32) (g : am_G) : Option (Int32 × am_G) :=
  (f_X8_in (Int32.toInt64 s0) (Int32.toInt64 p1) (Int32.toInt64 p2)).bind fun q1 =>
    if q1 = 0 then
      if (g 26 16) = (-9 : Int32) then
        some (p1, am_u g 26 16 (g 26 15))
      else
        some (p1, am_u g 26 16 (g 26 16))
    else
      some (s0, am_u g 26 15 ((g 26 15) + (1 : Int32)))
set_option maxRecDepth 20000 in
theorem B_X8_figure_37 (x : am_X) (C0 : am_Cm x 8 cX8_figure 4 (some .int)) (hR : am_R x = rm_X8_figure) (w : am_J) (p1 : Int32) (p2 : Int32) (R : Int32 × am_G)   (s0 : Int32) (g : am_G) (hf : f_X8_figure_37 p1 p2 s0 g = some R) : am_Ev x 4 (0, 0) (am_Q x (0, 0) (some (.int R.1)) am_YY (R.2) w) 37 [some (.ref 26), some (.int (p1)), some (.int (p2)), none] [.int (s0)] am_YY g w := by
  unfold f_X8_figure_37 at hf
  refine am_b1 C0 am_YYk (pc := 37) (pc2 := 44) [(.istore_n 3, 0, 0, .null), (.iload_n 3, 0, 0, .null), (.i2l, 0, 0, .null), (.iload_n 1, 0, 0, .null), (.i2l, 0, 0, .null), (.iload_n 2, 0, 0, .null), (.i2l, 0, 0, .null)] (L := [some (.ref 26), some (.int (p1)), some (.int (p2)), none]) (st := [.int (s0)]) (L' := [some (.ref 26), some (.int (p1)), some (.int (p2)), some (.int (s0))]) (st' := [.long (Int32.toInt64 p2), .long (Int32.toInt64 p1), .long (Int32.toInt64 s0)]) (g' := g) (w' := w) (cl := []) (by decide +kernel) rfl trivial ?_
  obtain ⟨q1, hq1, hf⟩ := Option.bind_eq_some_iff.mp hf
  refine am_callS (mi := mi_X8_in) (rm := rm_X8_in) [.long (Int32.toInt64 s0), .long (Int32.toInt64 p1), .long (Int32.toInt64 p2)] C0.1 cv_8_65 (M_X8_in _ g w (Int32.toInt64 s0) (Int32.toInt64 p1) (Int32.toInt64 p2) _ hq1) (by rw [hR]; rfl) rfl rfl (Nat.le_of_ble_eq_true rfl) (by decide +kernel) ?_
  refine am_if_ne C0 (off := 29) (tgt := 76) (by decide +kernel) (fun hc3 => ?_) (fun hc3 => ?_)
  · rw [if_neg hc3] at hf
    refine am_b1 C0 am_YYk (pc := 76) (pc2 := 87) [(.aload_n 0, 0, 0, .null), (.dup, 0, 0, .null), (.getfield 75, 8, 15, .null), (.iconst 1, 0, 0, .int 1), (.iadd, 0, 0, .null), (.putfield 75, 8, 15, .null), (.iload_n 3, 0, 0, .null)] (L := [some (.ref 26), some (.int (p1)), some (.int (p2)), some (.int (s0))]) (st := []) (L' := [some (.ref 26), some (.int (p1)), some (.int (p2)), some (.int (s0))]) (st' := [.int (s0)]) (g' := am_u g 26 15 ((g 26 15) + (1 : Int32))) (w' := w) (cl := []) (by decide +kernel) rfl trivial ?_
    cases hf
    exact am_iret C0 (by decide +kernel)
  · rw [if_pos hc3] at hf
    refine am_b1 C0 am_YYk (pc := 50) (pc2 := 57) [(.aload_n 0, 0, 0, .null), (.aload_n 0, 0, 0, .null), (.getfield 72, 8, 16, .null), (.bipush (-9), 0, 0, .int (-9))] (L := [some (.ref 26), some (.int (p1)), some (.int (p2)), some (.int (s0))]) (st := []) (L' := [some (.ref 26), some (.int (p1)), some (.int (p2)), some (.int (s0))]) (st' := [.int ((-9 : Int32)), .int (g 26 16), .ref 26]) (g' := g) (w' := w) (cl := []) (by decide +kernel) rfl trivial ?_
    refine am_icmp_ne C0 (off := 10) (tgt := 67) (by decide +kernel) (fun hc2 => ?_) (fun hc2 => ?_)
    · rw [if_neg hc2] at hf
      refine am_b1 C0 am_YYk (pc := 67) (pc2 := 75) [(.aload_n 0, 0, 0, .null), (.getfield 72, 8, 16, .null), (.putfield 72, 8, 16, .null), (.iload_n 1, 0, 0, .null)] (L := [some (.ref 26), some (.int (p1)), some (.int (p2)), some (.int (s0))]) (st := [.ref 26]) (L' := [some (.ref 26), some (.int (p1)), some (.int (p2)), some (.int (s0))]) (st' := [.int (p1)]) (g' := am_u g 26 16 (g 26 16)) (w' := w) (cl := []) (by decide +kernel) rfl trivial ?_
      cases hf
      exact am_iret C0 (by decide +kernel)
    · rw [if_pos hc2] at hf
      refine am_b1 C0 am_YYk (pc := 60) (pc2 := 64) [(.aload_n 0, 0, 0, .null), (.getfield 75, 8, 15, .null)] (L := [some (.ref 26), some (.int (p1)), some (.int (p2)), some (.int (s0))]) (st := [.ref 26]) (L' := [some (.ref 26), some (.int (p1)), some (.int (p2)), some (.int (s0))]) (st' := [.int (g 26 15), .ref 26]) (g' := g) (w' := w) (cl := []) (by decide +kernel) rfl trivial ?_
      refine am_goto C0 (off := 7) (tgt := 71) (by decide +kernel) ?_
      refine am_b1 C0 am_YYk (pc := 71) (pc2 := 75) [(.putfield 72, 8, 16, .null), (.iload_n 1, 0, 0, .null)] (L := [some (.ref 26), some (.int (p1)), some (.int (p2)), some (.int (s0))]) (st := [.int (g 26 15), .ref 26]) (L' := [some (.ref 26), some (.int (p1)), some (.int (p2)), some (.int (s0))]) (st' := [.int (p1)]) (g' := am_u g 26 16 (g 26 15)) (w' := w) (cl := []) (by decide +kernel) rfl trivial ?_
      cases hf
      exact am_iret C0 (by decide +kernel)
def f_X8_figure_35 (p1 : Int32) (p2 : Int32)  (g : am_G) : Option (Int32 × am_G) :=
  f_X8_figure_37 p1 p2 ((-9 : Int32)) (g)
set_option maxRecDepth 20000 in
theorem B_X8_figure_35 (x : am_X) (C0 : am_Cm x 8 cX8_figure 4 (some .int)) (hR : am_R x = rm_X8_figure) (w : am_J) (p1 : Int32) (p2 : Int32) (R : Int32 × am_G)   (g : am_G) (hf : f_X8_figure_35 p1 p2 g = some R) : am_Ev x 4 (0, 0) (am_Q x (0, 0) (some (.int R.1)) am_YY (R.2) w) 35 [some (.ref 26), some (.int (p1)), some (.int (p2)), none] [] am_YY g w := by
  unfold f_X8_figure_35 at hf
  refine am_b1 C0 am_YYk (pc := 35) (pc2 := 37) [(.bipush (-9), 0, 0, .int (-9))] (L := [some (.ref 26), some (.int (p1)), some (.int (p2)), none]) (st := []) (L' := [some (.ref 26), some (.int (p1)), some (.int (p2)), none]) (st' := [.int ((-9 : Int32))]) (g' := g) (w' := w) (cl := []) (by decide +kernel) rfl trivial ?_
  exact B_X8_figure_37 x C0 hR w p1 p2 R  ((-9 : Int32)) (g) hf
def f_X8_figure (g : am_G) (p1 : Int32) (p2 : Int32) : Option (Int32 × am_G) :=
  if (g 26 16) = (-9 : Int32) then
    if (g 26 14) ≤ (g 26 15) then
      f_X8_figure_35 p1 p2 (g)
    else
      if am_in (g 26 15) 48 then
        f_X8_figure_37 p1 p2 ((g 35 (Int32.toNatClampNeg (g 26 15))) - (48 : Int32)) (g)
      else none
  else
    f_X8_figure_35 p1 p2 (g)
set_option maxRecDepth 20000 in
theorem M_X8_figure (l : Launch) (g : am_G) (w : am_J) (p1 : Int32) (p2 : Int32) (R : Int32 × am_G) (hf : f_X8_figure g p1 p2 = some R) : am_Met l mi_X8_figure rm_X8_figure [.ref 26, .int p1, .int p2] am_YY g w (some (.int R.1)) am_YY (R.2) w := by
  refine am_met (own := 8) [some (.ref 26), some (.int (p1)), some (.int (p2)), none] (by decide) rfl rfl (by first | decide | exact Nat.le_of_ble_eq_true rfl) (fun x C0 hR hl hnm => ?_)
  unfold f_X8_figure at hf
  refine am_b1 C0 am_YYk (pc := 0) (pc2 := 6) [(.aload_n 0, 0, 0, .null), (.getfield 72, 8, 16, .null), (.bipush (-9), 0, 0, .int (-9))] (L := [some (.ref 26), some (.int (p1)), some (.int (p2)), none]) (st := []) (L' := [some (.ref 26), some (.int (p1)), some (.int (p2)), none]) (st' := [.int ((-9 : Int32)), .int (g 26 16)]) (g' := g) (w' := w) (cl := []) (by decide +kernel) rfl trivial ?_
  refine am_icmp_ne C0 (off := 29) (tgt := 35) (by decide +kernel) (fun hc6 => ?_) (fun hc6 => ?_)
  · rw [if_neg hc6] at hf
    exact B_X8_figure_35 x C0 hR w p1 p2 R  (g) hf
  · rw [if_pos hc6] at hf
    refine am_b1 C0 am_YYk (pc := 9) (pc2 := 17) [(.aload_n 0, 0, 0, .null), (.getfield 75, 8, 15, .null), (.aload_n 0, 0, 0, .null), (.getfield 69, 8, 14, .null)] (L := [some (.ref 26), some (.int (p1)), some (.int (p2)), none]) (st := []) (L' := [some (.ref 26), some (.int (p1)), some (.int (p2)), none]) (st' := [.int (g 26 14), .int (g 26 15)]) (g' := g) (w' := w) (cl := []) (by decide +kernel) rfl trivial ?_
    refine am_icmp_ge C0 (off := 18) (tgt := 35) (by decide +kernel) (fun hc5 => ?_) (fun hc5 => ?_)
    · rw [if_pos hc5] at hf
      exact B_X8_figure_35 x C0 hR w p1 p2 R  (g) hf
    · rw [if_neg hc5] at hf
      obtain ⟨hg4, hf⟩ := am_g hf
      refine am_b1 C0 am_YYk (pc := 20) (pc2 := 32) [(.aload_n 0, 0, 0, .null), (.getfield 34, 8, 13, .null), (.aload_n 0, 0, 0, .null), (.getfield 75, 8, 15, .null), (.iaload, 0, 0, .null), (.bipush 48, 0, 0, .int 48), (.isub, 0, 0, .null)] (L := [some (.ref 26), some (.int (p1)), some (.int (p2)), none]) (st := []) (L' := [some (.ref 26), some (.int (p1)), some (.int (p2)), none]) (st' := [.int ((g 35 (Int32.toNatClampNeg (g 26 15))) - (48 : Int32))]) (g' := g) (w' := w) (cl := [am_in (g 26 15) 48]) (by decide +kernel) rfl ⟨hg4, trivial⟩ ?_
      refine am_goto C0 (off := 5) (tgt := 37) (by decide +kernel) ?_
      exact B_X8_figure_37 x C0 hR w p1 p2 R  ((g 35 (Int32.toNatClampNeg (g 26 15))) - (48 : Int32)) (g) hf
/-! ShutterTownModel.placesLeft()I at (26,) -/
def f_X8_placesLeft_32 (F : Nat) (g : am_G) (k4 : Int32 → Int32 → Option (Int32)) (l2 : Int32) (s0 : Int32) (s1 : Int32) : Option (Int32) :=
  k4 (s0 ||| s1) (l2 + (1 : Int32))
set_option maxRecDepth 20000 in
theorem B_X8_placesLeft_32 (x : am_X) (C0 : am_Cm x 8 cX8_placesLeft 3 (some .int)) (hR : am_R x = rm_X8_placesLeft) (w : am_J) (F : Nat) (g : am_G) (R : Int32) (k4 : Int32 → Int32 → Option (Int32)) (hk4 : ∀ (l1 : Int32) (l2 : Int32), k4 l1 l2 = some R → am_Ev x 3 (0, 0) (am_Q x (0, 0) (some (.int R)) am_YY g w) 4 [some (.ref 26), some (.int (l1)), some (.int (l2))] [] am_YY g w) (l2 : Int32) (s0 : Int32) (s1 : Int32) (hf : f_X8_placesLeft_32 F g k4 l2 s0 s1 = some R) : am_Ev x 3 (0, 0) (am_Q x (0, 0) (some (.int R)) am_YY g w) 32 [some (.ref 26), none, some (.int (l2))] [.int (s1), .int (s0)] am_YY g w := by
  unfold f_X8_placesLeft_32 at hf
  refine am_b1 C0 am_YYk (pc := 32) (pc2 := 37) [(.ior, 0, 0, .null), (.istore_n 1, 0, 0, .null), (.iinc 2 1, 0, 0, .int 1)] (L := [some (.ref 26), none, some (.int (l2))]) (st := [.int (s1), .int (s0)]) (L' := [some (.ref 26), some (.int (s0 ||| s1)), some (.int (l2 + (1 : Int32)))]) (st' := []) (g' := g) (w' := w) (cl := []) (by decide +kernel) rfl trivial ?_
  refine am_goto C0 (off := (-33)) (tgt := 4) (by decide +kernel) ?_
  exact hk4 (s0 ||| s1) (l2 + (1 : Int32)) hf
def f_X8_placesLeft_4 (F : Nat) (g : am_G)  : Nat → Int32 → Int32 → Option (Int32)
  | 0, _, _ => none
  | n + 1, l1, l2 =>
    if (10 : Int32) ≤ l2 then
      some (l1)
    else
      if (((g 26 12) >>> (((2 : Int32) * l2) &&& 31)) &&& (3 : Int32)) = (3 : Int32) then
        f_X8_placesLeft_32 F g (fun l1 l2 => f_X8_placesLeft_4 F g n l1 l2) (l2) (l1) ((0 : Int32))
      else
        f_X8_placesLeft_32 F g (fun l1 l2 => f_X8_placesLeft_4 F g n l1 l2) (l2) (l1) ((1 : Int32) <<< (l2 &&& 31))
set_option maxRecDepth 20000 in
theorem B_X8_placesLeft_4 (x : am_X) (C0 : am_Cm x 8 cX8_placesLeft 3 (some .int)) (hR : am_R x = rm_X8_placesLeft) (w : am_J) (F : Nat) (g : am_G) (R : Int32)   : ∀ (n : Nat) (l1 : Int32) (l2 : Int32), f_X8_placesLeft_4 F g n l1 l2 = some R → am_Ev x 3 (0, 0) (am_Q x (0, 0) (some (.int R)) am_YY g w) 4 [some (.ref 26), some (.int (l1)), some (.int (l2))] [] am_YY g w := by
  intro n
  induction n with
  | zero => intro l1 l2 hf; cases hf
  | succ n ih =>
    intro l1 l2 hf
    rw [f_X8_placesLeft_4.eq_2] at hf
    refine am_b1 C0 am_YYk (pc := 4) (pc2 := 7) [(.iload_n 2, 0, 0, .null), (.bipush 10, 0, 0, .int 10)] (L := [some (.ref 26), some (.int (l1)), some (.int (l2))]) (st := []) (L' := [some (.ref 26), some (.int (l1)), some (.int (l2))]) (st' := [.int ((10 : Int32)), .int (l2)]) (g' := g) (w' := w) (cl := []) (by decide +kernel) rfl trivial ?_
    refine am_icmp_ge C0 (off := 33) (tgt := 40) (by decide +kernel) (fun hc2 => ?_) (fun hc2 => ?_)
    · rw [if_pos hc2] at hf
      refine am_b1 C0 am_YYk (pc := 40) (pc2 := 41) [(.iload_n 1, 0, 0, .null)] (L := [some (.ref 26), some (.int (l1)), some (.int (l2))]) (st := []) (L' := [some (.ref 26), some (.int (l1)), some (.int (l2))]) (st' := [.int (l1)]) (g' := g) (w' := w) (cl := []) (by decide +kernel) rfl trivial ?_
      cases hf
      exact am_iret C0 (by decide +kernel)
    · rw [if_neg hc2] at hf
      refine am_b1 C0 am_YYk (pc := 10) (pc2 := 22) [(.iload_n 1, 0, 0, .null), (.aload_n 0, 0, 0, .null), (.getfield 87, 8, 12, .null), (.iconst 2, 0, 0, .int 2), (.iload_n 2, 0, 0, .null), (.imul, 0, 0, .null), (.ishr, 0, 0, .null), (.iconst 3, 0, 0, .int 3), (.iand, 0, 0, .null), (.iconst 3, 0, 0, .int 3)] (L := [some (.ref 26), some (.int (l1)), some (.int (l2))]) (st := []) (L' := [some (.ref 26), some (.int (l1)), some (.int (l2))]) (st' := [.int ((3 : Int32)), .int (((g 26 12) >>> (((2 : Int32) * l2) &&& 31)) &&& (3 : Int32)), .int (l1)]) (g' := g) (w' := w) (cl := []) (by decide +kernel) rfl trivial ?_
      refine am_icmp_eq C0 (off := 9) (tgt := 31) (by decide +kernel) (fun hc1 => ?_) (fun hc1 => ?_)
      · rw [if_pos hc1] at hf
        refine am_b1 C0 am_YYk (pc := 31) (pc2 := 32) [(.iconst 0, 0, 0, .int 0)] (L := [some (.ref 26), some (.int (l1)), some (.int (l2))]) (st := [.int (l1)]) (L' := [some (.ref 26), some (.int (l1)), some (.int (l2))]) (st' := [.int ((0 : Int32)), .int (l1)]) (g' := g) (w' := w) (cl := []) (by decide +kernel) rfl trivial ?_
        refine am_wk [some (.ref 26), none, some (.int (l2))] ⟨rfl, rfl, trivial⟩ rfl ?_
        exact B_X8_placesLeft_32 x C0 hR w F g R _ (fun l1 l2 hf => ih l1 l2 hf) (l2) (l1) ((0 : Int32)) hf
      · rw [if_neg hc1] at hf
        refine am_b1 C0 am_YYk (pc := 25) (pc2 := 28) [(.iconst 1, 0, 0, .int 1), (.iload_n 2, 0, 0, .null), (.ishl, 0, 0, .null)] (L := [some (.ref 26), some (.int (l1)), some (.int (l2))]) (st := [.int (l1)]) (L' := [some (.ref 26), some (.int (l1)), some (.int (l2))]) (st' := [.int ((1 : Int32) <<< (l2 &&& 31)), .int (l1)]) (g' := g) (w' := w) (cl := []) (by decide +kernel) rfl trivial ?_
        refine am_goto C0 (off := 4) (tgt := 32) (by decide +kernel) ?_
        refine am_wk [some (.ref 26), none, some (.int (l2))] ⟨rfl, rfl, trivial⟩ rfl ?_
        exact B_X8_placesLeft_32 x C0 hR w F g R _ (fun l1 l2 hf => ih l1 l2 hf) (l2) (l1) ((1 : Int32) <<< (l2 &&& 31)) hf
def f_X8_placesLeft (F : Nat) (g : am_G) : Option (Int32) :=
  f_X8_placesLeft_4 F g F ((0 : Int32)) ((0 : Int32))
set_option maxRecDepth 20000 in
theorem M_X8_placesLeft (l : Launch) (F : Nat) (g : am_G) (w : am_J)  (R : Int32) (hf : f_X8_placesLeft F g = some R) : am_Met l mi_X8_placesLeft rm_X8_placesLeft [.ref 26] am_YY g w (some (.int R)) am_YY g w := by
  refine am_met (own := 8) [some (.ref 26), none, none] (by decide) rfl rfl (by first | decide | exact Nat.le_of_ble_eq_true rfl) (fun x C0 hR hl hnm => ?_)
  unfold f_X8_placesLeft at hf
  refine am_b1 C0 am_YYk (pc := 0) (pc2 := 4) [(.iconst 0, 0, 0, .int 0), (.istore_n 1, 0, 0, .null), (.iconst 0, 0, 0, .int 0), (.istore_n 2, 0, 0, .null)] (L := [some (.ref 26), none, none]) (st := []) (L' := [some (.ref 26), some (.int ((0 : Int32))), some (.int ((0 : Int32)))]) (st' := []) (g' := g) (w' := w) (cl := []) (by decide +kernel) rfl trivial ?_
  refine B_X8_placesLeft_4 x C0 hR w F g R   F ((0 : Int32)) ((0 : Int32)) hf
/-! ShutterTownModel.has(II)Z at () -/
def f_X8_has (p0 : Int32) (p1 : Int32) : Option (Int32) :=
  if ((p0 >>> (p1 &&& 31)) &&& (1 : Int32)) = (1 : Int32) then
    some ((1 : Int32))
  else
    some ((0 : Int32))
set_option maxRecDepth 20000 in
theorem M_X8_has (l : Launch) (g : am_G) (w : am_J) (p0 : Int32) (p1 : Int32) (R : Int32) (hf : f_X8_has p0 p1 = some R) : am_Met l mi_X8_has rm_X8_has [.int p0, .int p1] am_YY g w (some (.int R)) am_YY g w := by
  refine am_met (own := 8) [some (.int (p0)), some (.int (p1))] (by decide) rfl rfl (by first | decide | exact Nat.le_of_ble_eq_true rfl) (fun x C0 hR hl hnm => ?_)
  unfold f_X8_has at hf
  refine am_b1 C0 am_YYk (pc := 0) (pc2 := 6) [(.iload_n 0, 0, 0, .null), (.iload_n 1, 0, 0, .null), (.ishr, 0, 0, .null), (.iconst 1, 0, 0, .int 1), (.iand, 0, 0, .null), (.iconst 1, 0, 0, .int 1)] (L := [some (.int (p0)), some (.int (p1))]) (st := []) (L' := [some (.int (p0)), some (.int (p1))]) (st' := [.int ((1 : Int32)), .int ((p0 >>> (p1 &&& 31)) &&& (1 : Int32))]) (g' := g) (w' := w) (cl := []) (by decide +kernel) rfl trivial ?_
  refine am_icmp_ne C0 (off := 7) (tgt := 13) (by decide +kernel) (fun hc1 => ?_) (fun hc1 => ?_)
  · rw [if_neg hc1] at hf
    refine am_b1 C0 am_YYk (pc := 13) (pc2 := 14) [(.iconst 0, 0, 0, .int 0)] (L := [some (.int (p0)), some (.int (p1))]) (st := []) (L' := [some (.int (p0)), some (.int (p1))]) (st' := [.int ((0 : Int32))]) (g' := g) (w' := w) (cl := []) (by decide +kernel) rfl trivial ?_
    cases hf
    exact am_zret C0 (by decide +kernel) (Or.inl rfl)
  · rw [if_pos hc1] at hf
    refine am_b1 C0 am_YYk (pc := 9) (pc2 := 10) [(.iconst 1, 0, 0, .int 1)] (L := [some (.int (p0)), some (.int (p1))]) (st := []) (L' := [some (.int (p0)), some (.int (p1))]) (st' := [.int ((1 : Int32))]) (g' := g) (w' := w) (cl := []) (by decide +kernel) rfl trivial ?_
    refine am_goto C0 (off := 4) (tgt := 14) (by decide +kernel) ?_
    cases hf
    exact am_zret C0 (by decide +kernel) (Or.inr rfl)
/-! ShutterTownModel.figureOf(I)I at (26,) -/
def f_X8_figureOf_58 (p1 : Int32)  (g : am_G) : Option (Int32 × am_G) :=
  if (g 26 16) = (-9 : Int32) then
    some ((0 : Int32), am_u g 26 16 (g 26 15))
  else
    some ((0 : Int32), am_u g 26 16 (g 26 16))
set_option maxRecDepth 20000 in
theorem B_X8_figureOf_58 (x : am_X) (C0 : am_Cm x 8 cX8_figureOf 3 (some .int)) (hR : am_R x = rm_X8_figureOf) (w : am_J) (p1 : Int32) (R : Int32 × am_G)   (g : am_G) (hf : f_X8_figureOf_58 p1 g = some R) : am_Ev x 3 (0, 0) (am_Q x (0, 0) (some (.int R.1)) am_YY (R.2) w) 58 [some (.ref 26), some (.int (p1)), none] [] am_YY g w := by
  unfold f_X8_figureOf_58 at hf
  refine am_b1 C0 am_YYk (pc := 58) (pc2 := 65) [(.aload_n 0, 0, 0, .null), (.aload_n 0, 0, 0, .null), (.getfield 72, 8, 16, .null), (.bipush (-9), 0, 0, .int (-9))] (L := [some (.ref 26), some (.int (p1)), none]) (st := []) (L' := [some (.ref 26), some (.int (p1)), none]) (st' := [.int ((-9 : Int32)), .int (g 26 16), .ref 26]) (g' := g) (w' := w) (cl := []) (by decide +kernel) rfl trivial ?_
  refine am_icmp_ne C0 (off := 10) (tgt := 75) (by decide +kernel) (fun hc1 => ?_) (fun hc1 => ?_)
  · rw [if_neg hc1] at hf
    refine am_b1 C0 am_YYk (pc := 75) (pc2 := 83) [(.aload_n 0, 0, 0, .null), (.getfield 72, 8, 16, .null), (.putfield 72, 8, 16, .null), (.iconst 0, 0, 0, .int 0)] (L := [some (.ref 26), some (.int (p1)), none]) (st := [.ref 26]) (L' := [some (.ref 26), some (.int (p1)), none]) (st' := [.int ((0 : Int32))]) (g' := am_u g 26 16 (g 26 16)) (w' := w) (cl := []) (by decide +kernel) rfl trivial ?_
    cases hf
    exact am_iret C0 (by decide +kernel)
  · rw [if_pos hc1] at hf
    refine am_b1 C0 am_YYk (pc := 68) (pc2 := 72) [(.aload_n 0, 0, 0, .null), (.getfield 75, 8, 15, .null)] (L := [some (.ref 26), some (.int (p1)), none]) (st := [.ref 26]) (L' := [some (.ref 26), some (.int (p1)), none]) (st' := [.int (g 26 15), .ref 26]) (g' := g) (w' := w) (cl := []) (by decide +kernel) rfl trivial ?_
    refine am_goto C0 (off := 7) (tgt := 79) (by decide +kernel) ?_
    refine am_b1 C0 am_YYk (pc := 79) (pc2 := 83) [(.putfield 72, 8, 16, .null), (.iconst 0, 0, 0, .int 0)] (L := [some (.ref 26), some (.int (p1)), none]) (st := [.int (g 26 15), .ref 26]) (L' := [some (.ref 26), some (.int (p1)), none]) (st' := [.int ((0 : Int32))]) (g' := am_u g 26 16 (g 26 15)) (w' := w) (cl := []) (by decide +kernel) rfl trivial ?_
    cases hf
    exact am_iret C0 (by decide +kernel)
def f_X8_figureOf_37 (p1 : Int32)  (s0 : Int32) (g : am_G) : Option (Int32 × am_G) :=
  (f_X8_in (Int32.toInt64 s0) (0 : Int64) (9 : Int64)).bind fun q2 =>
    if q2 = 0 then
      f_X8_figureOf_58 p1 (g)
    else
      (f_X8_has p1 s0).bind fun q3 =>
        if q3 = 0 then
          f_X8_figureOf_58 p1 (g)
        else
          some (s0, am_u g 26 15 ((g 26 15) + (1 : Int32)))
set_option maxRecDepth 20000 in
theorem B_X8_figureOf_37 (x : am_X) (C0 : am_Cm x 8 cX8_figureOf 3 (some .int)) (hR : am_R x = rm_X8_figureOf) (w : am_J) (p1 : Int32) (R : Int32 × am_G)   (s0 : Int32) (g : am_G) (hf : f_X8_figureOf_37 p1 s0 g = some R) : am_Ev x 3 (0, 0) (am_Q x (0, 0) (some (.int R.1)) am_YY (R.2) w) 37 [some (.ref 26), some (.int (p1)), none] [.int (s0)] am_YY g w := by
  unfold f_X8_figureOf_37 at hf
  refine am_b1 C0 am_YYk (pc := 37) (pc2 := 44) [(.istore_n 2, 0, 0, .null), (.iload_n 2, 0, 0, .null), (.i2l, 0, 0, .null), (.lconst 0, 0, 0, .long 0), (.ldc2_w 78, 0, 0, .long 9)] (L := [some (.ref 26), some (.int (p1)), none]) (st := [.int (s0)]) (L' := [some (.ref 26), some (.int (p1)), some (.int (s0))]) (st' := [.long ((9 : Int64)), .long ((0 : Int64)), .long (Int32.toInt64 s0)]) (g' := g) (w' := w) (cl := []) (by decide +kernel) rfl trivial ?_
  obtain ⟨q2, hq2, hf⟩ := Option.bind_eq_some_iff.mp hf
  refine am_callS (mi := mi_X8_in) (rm := rm_X8_in) [.long (Int32.toInt64 s0), .long ((0 : Int64)), .long ((9 : Int64))] C0.1 cv_8_65 (M_X8_in _ g w (Int32.toInt64 s0) (0 : Int64) (9 : Int64) _ hq2) (by rw [hR]; rfl) rfl rfl (Nat.le_of_ble_eq_true rfl) (by decide +kernel) ?_
  refine am_if_eq C0 (off := 11) (tgt := 58) (by decide +kernel) (fun hc5 => ?_) (fun hc5 => ?_)
  · rw [if_pos hc5] at hf
    refine am_wk [some (.ref 26), some (.int (p1)), none] ⟨rfl, rfl, trivial⟩ rfl ?_
    exact B_X8_figureOf_58 x C0 hR w p1 R  (g) hf
  · rw [if_neg hc5] at hf
    refine am_b1 C0 am_YYk (pc := 50) (pc2 := 52) [(.iload_n 1, 0, 0, .null), (.iload_n 2, 0, 0, .null)] (L := [some (.ref 26), some (.int (p1)), some (.int (s0))]) (st := []) (L' := [some (.ref 26), some (.int (p1)), some (.int (s0))]) (st' := [.int (s0), .int (p1)]) (g' := g) (w' := w) (cl := []) (by decide +kernel) rfl trivial ?_
    obtain ⟨q3, hq3, hf⟩ := Option.bind_eq_some_iff.mp hf
    refine am_callS (mi := mi_X8_has) (rm := rm_X8_has) [.int (p1), .int (s0)] C0.1 cv_8_80 (M_X8_has _ g w p1 s0 _ hq3) (by rw [hR]; rfl) rfl rfl (Nat.le_of_ble_eq_true rfl) (by decide +kernel) ?_
    refine am_if_ne C0 (off := 29) (tgt := 84) (by decide +kernel) (fun hc4 => ?_) (fun hc4 => ?_)
    · rw [if_neg hc4] at hf
      refine am_b1 C0 am_YYk (pc := 84) (pc2 := 95) [(.aload_n 0, 0, 0, .null), (.dup, 0, 0, .null), (.getfield 75, 8, 15, .null), (.iconst 1, 0, 0, .int 1), (.iadd, 0, 0, .null), (.putfield 75, 8, 15, .null), (.iload_n 2, 0, 0, .null)] (L := [some (.ref 26), some (.int (p1)), some (.int (s0))]) (st := []) (L' := [some (.ref 26), some (.int (p1)), some (.int (s0))]) (st' := [.int (s0)]) (g' := am_u g 26 15 ((g 26 15) + (1 : Int32))) (w' := w) (cl := []) (by decide +kernel) rfl trivial ?_
      cases hf
      exact am_iret C0 (by decide +kernel)
    · rw [if_pos hc4] at hf
      refine am_wk [some (.ref 26), some (.int (p1)), none] ⟨rfl, rfl, trivial⟩ rfl ?_
      exact B_X8_figureOf_58 x C0 hR w p1 R  (g) hf
def f_X8_figureOf_35 (p1 : Int32)  (g : am_G) : Option (Int32 × am_G) :=
  f_X8_figureOf_37 p1 ((-9 : Int32)) (g)
set_option maxRecDepth 20000 in
theorem B_X8_figureOf_35 (x : am_X) (C0 : am_Cm x 8 cX8_figureOf 3 (some .int)) (hR : am_R x = rm_X8_figureOf) (w : am_J) (p1 : Int32) (R : Int32 × am_G)   (g : am_G) (hf : f_X8_figureOf_35 p1 g = some R) : am_Ev x 3 (0, 0) (am_Q x (0, 0) (some (.int R.1)) am_YY (R.2) w) 35 [some (.ref 26), some (.int (p1)), none] [] am_YY g w := by
  unfold f_X8_figureOf_35 at hf
  refine am_b1 C0 am_YYk (pc := 35) (pc2 := 37) [(.bipush (-9), 0, 0, .int (-9))] (L := [some (.ref 26), some (.int (p1)), none]) (st := []) (L' := [some (.ref 26), some (.int (p1)), none]) (st' := [.int ((-9 : Int32))]) (g' := g) (w' := w) (cl := []) (by decide +kernel) rfl trivial ?_
  exact B_X8_figureOf_37 x C0 hR w p1 R  ((-9 : Int32)) (g) hf
def f_X8_figureOf (g : am_G) (p1 : Int32) : Option (Int32 × am_G) :=
  if (g 26 16) = (-9 : Int32) then
    if (g 26 14) ≤ (g 26 15) then
      f_X8_figureOf_35 p1 (g)
    else
      if am_in (g 26 15) 48 then
        f_X8_figureOf_37 p1 ((g 35 (Int32.toNatClampNeg (g 26 15))) - (48 : Int32)) (g)
      else none
  else
    f_X8_figureOf_35 p1 (g)
set_option maxRecDepth 20000 in
theorem M_X8_figureOf (l : Launch) (g : am_G) (w : am_J) (p1 : Int32) (R : Int32 × am_G) (hf : f_X8_figureOf g p1 = some R) : am_Met l mi_X8_figureOf rm_X8_figureOf [.ref 26, .int p1] am_YY g w (some (.int R.1)) am_YY (R.2) w := by
  refine am_met (own := 8) [some (.ref 26), some (.int (p1)), none] (by decide) rfl rfl (by first | decide | exact Nat.le_of_ble_eq_true rfl) (fun x C0 hR hl hnm => ?_)
  unfold f_X8_figureOf at hf
  refine am_b1 C0 am_YYk (pc := 0) (pc2 := 6) [(.aload_n 0, 0, 0, .null), (.getfield 72, 8, 16, .null), (.bipush (-9), 0, 0, .int (-9))] (L := [some (.ref 26), some (.int (p1)), none]) (st := []) (L' := [some (.ref 26), some (.int (p1)), none]) (st' := [.int ((-9 : Int32)), .int (g 26 16)]) (g' := g) (w' := w) (cl := []) (by decide +kernel) rfl trivial ?_
  refine am_icmp_ne C0 (off := 29) (tgt := 35) (by decide +kernel) (fun hc8 => ?_) (fun hc8 => ?_)
  · rw [if_neg hc8] at hf
    exact B_X8_figureOf_35 x C0 hR w p1 R  (g) hf
  · rw [if_pos hc8] at hf
    refine am_b1 C0 am_YYk (pc := 9) (pc2 := 17) [(.aload_n 0, 0, 0, .null), (.getfield 75, 8, 15, .null), (.aload_n 0, 0, 0, .null), (.getfield 69, 8, 14, .null)] (L := [some (.ref 26), some (.int (p1)), none]) (st := []) (L' := [some (.ref 26), some (.int (p1)), none]) (st' := [.int (g 26 14), .int (g 26 15)]) (g' := g) (w' := w) (cl := []) (by decide +kernel) rfl trivial ?_
    refine am_icmp_ge C0 (off := 18) (tgt := 35) (by decide +kernel) (fun hc7 => ?_) (fun hc7 => ?_)
    · rw [if_pos hc7] at hf
      exact B_X8_figureOf_35 x C0 hR w p1 R  (g) hf
    · rw [if_neg hc7] at hf
      obtain ⟨hg6, hf⟩ := am_g hf
      refine am_b1 C0 am_YYk (pc := 20) (pc2 := 32) [(.aload_n 0, 0, 0, .null), (.getfield 34, 8, 13, .null), (.aload_n 0, 0, 0, .null), (.getfield 75, 8, 15, .null), (.iaload, 0, 0, .null), (.bipush 48, 0, 0, .int 48), (.isub, 0, 0, .null)] (L := [some (.ref 26), some (.int (p1)), none]) (st := []) (L' := [some (.ref 26), some (.int (p1)), none]) (st' := [.int ((g 35 (Int32.toNatClampNeg (g 26 15))) - (48 : Int32))]) (g' := g) (w' := w) (cl := [am_in (g 26 15) 48]) (by decide +kernel) rfl ⟨hg6, trivial⟩ ?_
      refine am_goto C0 (off := 5) (tgt := 37) (by decide +kernel) ?_
      exact B_X8_figureOf_37 x C0 hR w p1 R  ((g 35 (Int32.toNatClampNeg (g 26 15))) - (48 : Int32)) (g) hf
/-! ShutterTownModel.readWindow()V at (26,) -/
def f_X8_readWindow_130 (F : Nat)  (g : am_G) : Option (am_G) :=
  some (am_u g 26 11 ((g 26 11) + (1 : Int32)))
set_option maxRecDepth 20000 in
theorem B_X8_readWindow_130 (x : am_X) (C0 : am_Cm x 8 cX8_readWindow 2 none) (hR : am_R x = rm_X8_readWindow) (w : am_J) (F : Nat) (R : am_G)   (g : am_G) (hf : f_X8_readWindow_130 F g = some R) : am_Ev x 2 (0, 0) (am_Q x (0, 0) none am_YY R w) 130 [some (.ref 26), none] [] am_YY g w := by
  unfold f_X8_readWindow_130 at hf
  refine am_b1 C0 am_YYk (pc := 130) (pc2 := 140) [(.aload_n 0, 0, 0, .null), (.dup, 0, 0, .null), (.getfield 84, 8, 11, .null), (.iconst 1, 0, 0, .int 1), (.iadd, 0, 0, .null), (.putfield 84, 8, 11, .null)] (L := [some (.ref 26), none]) (st := []) (L' := [some (.ref 26), none]) (st' := []) (g' := am_u g 26 11 ((g 26 11) + (1 : Int32))) (w' := w) (cl := []) (by decide +kernel) rfl trivial ?_
  cases hf
  exact am_vret C0 (by decide +kernel)
def f_X8_readWindow (F : Nat) (g : am_G) : Option (am_G) :=
  (f_X8_placesLeft F (am_u g 26 15 ((g 26 15) + (1 : Int32)))).bind fun q1 =>
    (f_X8_figureOf (am_u g 26 15 ((g 26 15) + (1 : Int32))) q1).bind fun q2 =>
      if am_in ((5 : Int32) * ((am_u g 26 15 ((g 26 15) + (1 : Int32))) 26 11)) 30 then
        if am_in ((5 : Int32) * ((am_u g 26 15 ((g 26 15) + (1 : Int32))) 26 11)) 30 then
          (f_X8_figureOf (am_u q2.2 34 (Int32.toNatClampNeg ((5 : Int32) * ((am_u g 26 15 ((g 26 15) + (1 : Int32))) 26 11))) q2.1) ((3 : Int32) &&& ((((am_u q2.2 34 (Int32.toNatClampNeg ((5 : Int32) * ((am_u g 26 15 ((g 26 15) + (1 : Int32))) 26 11))) q2.1) 26 12) >>> (((2 : Int32) * ((am_u q2.2 34 (Int32.toNatClampNeg ((5 : Int32) * ((am_u g 26 15 ((g 26 15) + (1 : Int32))) 26 11))) q2.1) 34 (Int32.toNatClampNeg ((5 : Int32) * ((am_u g 26 15 ((g 26 15) + (1 : Int32))) 26 11))))) &&& 31)) ^^^ (-1 : Int32)))).bind fun q5 =>
            if am_in (((5 : Int32) * ((am_u g 26 15 ((g 26 15) + (1 : Int32))) 26 11)) + (1 : Int32)) 30 then
              (f_X8_figure (am_u q5.2 34 (Int32.toNatClampNeg (((5 : Int32) * ((am_u g 26 15 ((g 26 15) + (1 : Int32))) 26 11)) + (1 : Int32))) q5.1) (0 : Int32) (3 : Int32)).bind fun q7 =>
                if am_in (((5 : Int32) * ((am_u g 26 15 ((g 26 15) + (1 : Int32))) 26 11)) + (2 : Int32)) 30 then
                  (f_X8_figure (am_u q7.2 34 (Int32.toNatClampNeg (((5 : Int32) * ((am_u g 26 15 ((g 26 15) + (1 : Int32))) 26 11)) + (2 : Int32))) q7.1) (0 : Int32) (3 : Int32)).bind fun q9 =>
                    if am_in (((5 : Int32) * ((am_u g 26 15 ((g 26 15) + (1 : Int32))) 26 11)) + (3 : Int32)) 30 then
                      (f_X8_figure (am_u q9.2 34 (Int32.toNatClampNeg (((5 : Int32) * ((am_u g 26 15 ((g 26 15) + (1 : Int32))) 26 11)) + (3 : Int32))) q9.1) (0 : Int32) (3 : Int32)).bind fun q11 =>
                        if am_in (((5 : Int32) * ((am_u g 26 15 ((g 26 15) + (1 : Int32))) 26 11)) + (4 : Int32)) 30 then
                          if am_in ((5 : Int32) * ((am_u g 26 15 ((g 26 15) + (1 : Int32))) 26 11)) 30 then
                            if am_in (((5 : Int32) * ((am_u g 26 15 ((g 26 15) + (1 : Int32))) 26 11)) + (1 : Int32)) 30 then
                              f_X8_readWindow_130 F (am_u (am_u q11.2 34 (Int32.toNatClampNeg (((5 : Int32) * ((am_u g 26 15 ((g 26 15) + (1 : Int32))) 26 11)) + (4 : Int32))) q11.1) 26 12 (((am_u q11.2 34 (Int32.toNatClampNeg (((5 : Int32) * ((am_u g 26 15 ((g 26 15) + (1 : Int32))) 26 11)) + (4 : Int32))) q11.1) 26 12) ||| ((1 : Int32) <<< ((((2 : Int32) * ((am_u q11.2 34 (Int32.toNatClampNeg (((5 : Int32) * ((am_u g 26 15 ((g 26 15) + (1 : Int32))) 26 11)) + (4 : Int32))) q11.1) 34 (Int32.toNatClampNeg ((5 : Int32) * ((am_u g 26 15 ((g 26 15) + (1 : Int32))) 26 11))))) + ((am_u q11.2 34 (Int32.toNatClampNeg (((5 : Int32) * ((am_u g 26 15 ((g 26 15) + (1 : Int32))) 26 11)) + (4 : Int32))) q11.1) 34 (Int32.toNatClampNeg (((5 : Int32) * ((am_u g 26 15 ((g 26 15) + (1 : Int32))) 26 11)) + (1 : Int32))))) &&& 31))))
                            else none
                          else none
                        else none
                    else none
                else none
            else none
        else none
      else none
set_option maxRecDepth 20000 in
theorem M_X8_readWindow (l : Launch) (F : Nat) (g : am_G) (w : am_J)  (R : am_G) (hf : f_X8_readWindow F g = some R) : am_Met l mi_X8_readWindow rm_X8_readWindow [.ref 26] am_YY g w none am_YY R w := by
  refine am_met (own := 8) [some (.ref 26), none] (by decide) rfl rfl (by first | decide | exact Nat.le_of_ble_eq_true rfl) (fun x C0 hR hl hnm => ?_)
  unfold f_X8_readWindow at hf
  refine am_b1 C0 am_YYk (pc := 0) (pc2 := 24) [(.aload_n 0, 0, 0, .null), (.dup, 0, 0, .null), (.getfield 75, 8, 15, .null), (.iconst 1, 0, 0, .int 1), (.iadd, 0, 0, .null), (.putfield 75, 8, 15, .null), (.iconst 5, 0, 0, .int 5), (.aload_n 0, 0, 0, .null), (.getfield 84, 8, 11, .null), (.imul, 0, 0, .null), (.istore_n 1, 0, 0, .null), (.aload_n 0, 0, 0, .null), (.getfield 31, 8, 9, .null), (.iload_n 1, 0, 0, .null), (.aload_n 0, 0, 0, .null), (.aload_n 0, 0, 0, .null)] (L := [some (.ref 26), none]) (st := []) (L' := [some (.ref 26), some (.int ((5 : Int32) * ((am_u g 26 15 ((g 26 15) + (1 : Int32))) 26 11)))]) (st' := [.ref 26, .ref 26, .int ((5 : Int32) * ((am_u g 26 15 ((g 26 15) + (1 : Int32))) 26 11)), .ref 34]) (g' := am_u g 26 15 ((g 26 15) + (1 : Int32))) (w' := w) (cl := []) (by decide +kernel) rfl trivial ?_
  obtain ⟨q1, hq1, hf⟩ := Option.bind_eq_some_iff.mp hf
  refine am_callV (mi := mi_X8_placesLeft) (rm := rm_X8_placesLeft) [] C0.1 am_YYl cv_8_100 (M_X8_placesLeft _ F (am_u g 26 15 ((g 26 15) + (1 : Int32))) w _ hq1) (ci := 8) rfl (by decide) rfl (by rw [hR]; rfl) rfl rfl (Nat.le_of_ble_eq_true rfl) (by decide +kernel) ?_
  obtain ⟨q2, hq2, hf⟩ := Option.bind_eq_some_iff.mp hf
  refine am_callV (mi := mi_X8_figureOf) (rm := rm_X8_figureOf) [.int (q1)] C0.1 am_YYl cv_8_104 (M_X8_figureOf _ (am_u g 26 15 ((g 26 15) + (1 : Int32))) w q1 _ hq2) (ci := 8) rfl (by decide) rfl (by rw [hR]; rfl) rfl rfl (Nat.le_of_ble_eq_true rfl) (by decide +kernel) ?_
  obtain ⟨hg3, hf⟩ := am_g hf
  obtain ⟨hg4, hf⟩ := am_g hf
  refine am_b1 C0 am_YYk (pc := 30) (pc2 := 56) [(.iastore, 0, 0, .null), (.aload_n 0, 0, 0, .null), (.getfield 31, 8, 9, .null), (.iload_n 1, 0, 0, .null), (.iconst 1, 0, 0, .int 1), (.iadd, 0, 0, .null), (.aload_n 0, 0, 0, .null), (.iconst 3, 0, 0, .int 3), (.aload_n 0, 0, 0, .null), (.getfield 87, 8, 12, .null), (.iconst 2, 0, 0, .int 2), (.aload_n 0, 0, 0, .null), (.getfield 31, 8, 9, .null), (.iload_n 1, 0, 0, .null), (.iaload, 0, 0, .null), (.imul, 0, 0, .null), (.ishr, 0, 0, .null), (.iconst (-1), 0, 0, .int (-1)), (.ixor, 0, 0, .null), (.iand, 0, 0, .null)] (L := [some (.ref 26), some (.int ((5 : Int32) * ((am_u g 26 15 ((g 26 15) + (1 : Int32))) 26 11)))]) (st := [.int (q2.1), .int ((5 : Int32) * ((am_u g 26 15 ((g 26 15) + (1 : Int32))) 26 11)), .ref 34]) (L' := [some (.ref 26), some (.int ((5 : Int32) * ((am_u g 26 15 ((g 26 15) + (1 : Int32))) 26 11)))]) (st' := [.int ((3 : Int32) &&& ((((am_u q2.2 34 (Int32.toNatClampNeg ((5 : Int32) * ((am_u g 26 15 ((g 26 15) + (1 : Int32))) 26 11))) q2.1) 26 12) >>> (((2 : Int32) * ((am_u q2.2 34 (Int32.toNatClampNeg ((5 : Int32) * ((am_u g 26 15 ((g 26 15) + (1 : Int32))) 26 11))) q2.1) 34 (Int32.toNatClampNeg ((5 : Int32) * ((am_u g 26 15 ((g 26 15) + (1 : Int32))) 26 11))))) &&& 31)) ^^^ (-1 : Int32))), .ref 26, .int (((5 : Int32) * ((am_u g 26 15 ((g 26 15) + (1 : Int32))) 26 11)) + (1 : Int32)), .ref 34]) (g' := am_u q2.2 34 (Int32.toNatClampNeg ((5 : Int32) * ((am_u g 26 15 ((g 26 15) + (1 : Int32))) 26 11))) q2.1) (w' := w) (cl := [am_in ((5 : Int32) * ((am_u g 26 15 ((g 26 15) + (1 : Int32))) 26 11)) 30, am_in ((5 : Int32) * ((am_u g 26 15 ((g 26 15) + (1 : Int32))) 26 11)) 30]) (by decide +kernel) rfl ⟨hg3, hg4, trivial⟩ ?_
  obtain ⟨q5, hq5, hf⟩ := Option.bind_eq_some_iff.mp hf
  refine am_callV (mi := mi_X8_figureOf) (rm := rm_X8_figureOf) [.int ((3 : Int32) &&& ((((am_u q2.2 34 (Int32.toNatClampNeg ((5 : Int32) * ((am_u g 26 15 ((g 26 15) + (1 : Int32))) 26 11))) q2.1) 26 12) >>> (((2 : Int32) * ((am_u q2.2 34 (Int32.toNatClampNeg ((5 : Int32) * ((am_u g 26 15 ((g 26 15) + (1 : Int32))) 26 11))) q2.1) 34 (Int32.toNatClampNeg ((5 : Int32) * ((am_u g 26 15 ((g 26 15) + (1 : Int32))) 26 11))))) &&& 31)) ^^^ (-1 : Int32)))] C0.1 am_YYl cv_8_104 (M_X8_figureOf _ (am_u q2.2 34 (Int32.toNatClampNeg ((5 : Int32) * ((am_u g 26 15 ((g 26 15) + (1 : Int32))) 26 11))) q2.1) w ((3 : Int32) &&& ((((am_u q2.2 34 (Int32.toNatClampNeg ((5 : Int32) * ((am_u g 26 15 ((g 26 15) + (1 : Int32))) 26 11))) q2.1) 26 12) >>> (((2 : Int32) * ((am_u q2.2 34 (Int32.toNatClampNeg ((5 : Int32) * ((am_u g 26 15 ((g 26 15) + (1 : Int32))) 26 11))) q2.1) 34 (Int32.toNatClampNeg ((5 : Int32) * ((am_u g 26 15 ((g 26 15) + (1 : Int32))) 26 11))))) &&& 31)) ^^^ (-1 : Int32))) _ hq5) (ci := 8) rfl (by decide) rfl (by rw [hR]; rfl) rfl rfl (Nat.le_of_ble_eq_true rfl) (by decide +kernel) ?_
  obtain ⟨hg6, hf⟩ := am_g hf
  refine am_b1 C0 am_YYk (pc := 59) (pc2 := 70) [(.iastore, 0, 0, .null), (.aload_n 0, 0, 0, .null), (.getfield 31, 8, 9, .null), (.iload_n 1, 0, 0, .null), (.iconst 2, 0, 0, .int 2), (.iadd, 0, 0, .null), (.aload_n 0, 0, 0, .null), (.iconst 0, 0, 0, .int 0), (.iconst 3, 0, 0, .int 3)] (L := [some (.ref 26), some (.int ((5 : Int32) * ((am_u g 26 15 ((g 26 15) + (1 : Int32))) 26 11)))]) (st := [.int (q5.1), .int (((5 : Int32) * ((am_u g 26 15 ((g 26 15) + (1 : Int32))) 26 11)) + (1 : Int32)), .ref 34]) (L' := [some (.ref 26), some (.int ((5 : Int32) * ((am_u g 26 15 ((g 26 15) + (1 : Int32))) 26 11)))]) (st' := [.int ((3 : Int32)), .int ((0 : Int32)), .ref 26, .int (((5 : Int32) * ((am_u g 26 15 ((g 26 15) + (1 : Int32))) 26 11)) + (2 : Int32)), .ref 34]) (g' := am_u q5.2 34 (Int32.toNatClampNeg (((5 : Int32) * ((am_u g 26 15 ((g 26 15) + (1 : Int32))) 26 11)) + (1 : Int32))) q5.1) (w' := w) (cl := [am_in (((5 : Int32) * ((am_u g 26 15 ((g 26 15) + (1 : Int32))) 26 11)) + (1 : Int32)) 30]) (by decide +kernel) rfl ⟨hg6, trivial⟩ ?_
  obtain ⟨q7, hq7, hf⟩ := Option.bind_eq_some_iff.mp hf
  refine am_callV (mi := mi_X8_figure) (rm := rm_X8_figure) [.int ((0 : Int32)), .int ((3 : Int32))] C0.1 am_YYl cv_8_90 (M_X8_figure _ (am_u q5.2 34 (Int32.toNatClampNeg (((5 : Int32) * ((am_u g 26 15 ((g 26 15) + (1 : Int32))) 26 11)) + (1 : Int32))) q5.1) w (0 : Int32) (3 : Int32) _ hq7) (ci := 8) rfl (by decide) rfl (by rw [hR]; rfl) rfl rfl (Nat.le_of_ble_eq_true rfl) (by decide +kernel) ?_
  obtain ⟨hg8, hf⟩ := am_g hf
  refine am_b1 C0 am_YYk (pc := 73) (pc2 := 84) [(.iastore, 0, 0, .null), (.aload_n 0, 0, 0, .null), (.getfield 31, 8, 9, .null), (.iload_n 1, 0, 0, .null), (.iconst 3, 0, 0, .int 3), (.iadd, 0, 0, .null), (.aload_n 0, 0, 0, .null), (.iconst 0, 0, 0, .int 0), (.iconst 3, 0, 0, .int 3)] (L := [some (.ref 26), some (.int ((5 : Int32) * ((am_u g 26 15 ((g 26 15) + (1 : Int32))) 26 11)))]) (st := [.int (q7.1), .int (((5 : Int32) * ((am_u g 26 15 ((g 26 15) + (1 : Int32))) 26 11)) + (2 : Int32)), .ref 34]) (L' := [some (.ref 26), some (.int ((5 : Int32) * ((am_u g 26 15 ((g 26 15) + (1 : Int32))) 26 11)))]) (st' := [.int ((3 : Int32)), .int ((0 : Int32)), .ref 26, .int (((5 : Int32) * ((am_u g 26 15 ((g 26 15) + (1 : Int32))) 26 11)) + (3 : Int32)), .ref 34]) (g' := am_u q7.2 34 (Int32.toNatClampNeg (((5 : Int32) * ((am_u g 26 15 ((g 26 15) + (1 : Int32))) 26 11)) + (2 : Int32))) q7.1) (w' := w) (cl := [am_in (((5 : Int32) * ((am_u g 26 15 ((g 26 15) + (1 : Int32))) 26 11)) + (2 : Int32)) 30]) (by decide +kernel) rfl ⟨hg8, trivial⟩ ?_
  obtain ⟨q9, hq9, hf⟩ := Option.bind_eq_some_iff.mp hf
  refine am_callV (mi := mi_X8_figure) (rm := rm_X8_figure) [.int ((0 : Int32)), .int ((3 : Int32))] C0.1 am_YYl cv_8_90 (M_X8_figure _ (am_u q7.2 34 (Int32.toNatClampNeg (((5 : Int32) * ((am_u g 26 15 ((g 26 15) + (1 : Int32))) 26 11)) + (2 : Int32))) q7.1) w (0 : Int32) (3 : Int32) _ hq9) (ci := 8) rfl (by decide) rfl (by rw [hR]; rfl) rfl rfl (Nat.le_of_ble_eq_true rfl) (by decide +kernel) ?_
  obtain ⟨hg10, hf⟩ := am_g hf
  refine am_b1 C0 am_YYk (pc := 87) (pc2 := 98) [(.iastore, 0, 0, .null), (.aload_n 0, 0, 0, .null), (.getfield 31, 8, 9, .null), (.iload_n 1, 0, 0, .null), (.iconst 4, 0, 0, .int 4), (.iadd, 0, 0, .null), (.aload_n 0, 0, 0, .null), (.iconst 0, 0, 0, .int 0), (.iconst 3, 0, 0, .int 3)] (L := [some (.ref 26), some (.int ((5 : Int32) * ((am_u g 26 15 ((g 26 15) + (1 : Int32))) 26 11)))]) (st := [.int (q9.1), .int (((5 : Int32) * ((am_u g 26 15 ((g 26 15) + (1 : Int32))) 26 11)) + (3 : Int32)), .ref 34]) (L' := [some (.ref 26), some (.int ((5 : Int32) * ((am_u g 26 15 ((g 26 15) + (1 : Int32))) 26 11)))]) (st' := [.int ((3 : Int32)), .int ((0 : Int32)), .ref 26, .int (((5 : Int32) * ((am_u g 26 15 ((g 26 15) + (1 : Int32))) 26 11)) + (4 : Int32)), .ref 34]) (g' := am_u q9.2 34 (Int32.toNatClampNeg (((5 : Int32) * ((am_u g 26 15 ((g 26 15) + (1 : Int32))) 26 11)) + (3 : Int32))) q9.1) (w' := w) (cl := [am_in (((5 : Int32) * ((am_u g 26 15 ((g 26 15) + (1 : Int32))) 26 11)) + (3 : Int32)) 30]) (by decide +kernel) rfl ⟨hg10, trivial⟩ ?_
  obtain ⟨q11, hq11, hf⟩ := Option.bind_eq_some_iff.mp hf
  refine am_callV (mi := mi_X8_figure) (rm := rm_X8_figure) [.int ((0 : Int32)), .int ((3 : Int32))] C0.1 am_YYl cv_8_90 (M_X8_figure _ (am_u q9.2 34 (Int32.toNatClampNeg (((5 : Int32) * ((am_u g 26 15 ((g 26 15) + (1 : Int32))) 26 11)) + (3 : Int32))) q9.1) w (0 : Int32) (3 : Int32) _ hq11) (ci := 8) rfl (by decide) rfl (by rw [hR]; rfl) rfl rfl (Nat.le_of_ble_eq_true rfl) (by decide +kernel) ?_
  obtain ⟨hg12, hf⟩ := am_g hf
  obtain ⟨hg13, hf⟩ := am_g hf
  obtain ⟨hg14, hf⟩ := am_g hf
  refine am_b1 C0 am_YYk (pc := 101) (pc2 := 130) [(.iastore, 0, 0, .null), (.aload_n 0, 0, 0, .null), (.dup, 0, 0, .null), (.getfield 87, 8, 12, .null), (.iconst 1, 0, 0, .int 1), (.iconst 2, 0, 0, .int 2), (.aload_n 0, 0, 0, .null), (.getfield 31, 8, 9, .null), (.iload_n 1, 0, 0, .null), (.iaload, 0, 0, .null), (.imul, 0, 0, .null), (.aload_n 0, 0, 0, .null), (.getfield 31, 8, 9, .null), (.iload_n 1, 0, 0, .null), (.iconst 1, 0, 0, .int 1), (.iadd, 0, 0, .null), (.iaload, 0, 0, .null), (.iadd, 0, 0, .null), (.ishl, 0, 0, .null), (.ior, 0, 0, .null), (.putfield 87, 8, 12, .null)] (L := [some (.ref 26), some (.int ((5 : Int32) * ((am_u g 26 15 ((g 26 15) + (1 : Int32))) 26 11)))]) (st := [.int (q11.1), .int (((5 : Int32) * ((am_u g 26 15 ((g 26 15) + (1 : Int32))) 26 11)) + (4 : Int32)), .ref 34]) (L' := [some (.ref 26), some (.int ((5 : Int32) * ((am_u g 26 15 ((g 26 15) + (1 : Int32))) 26 11)))]) (st' := []) (g' := am_u (am_u q11.2 34 (Int32.toNatClampNeg (((5 : Int32) * ((am_u g 26 15 ((g 26 15) + (1 : Int32))) 26 11)) + (4 : Int32))) q11.1) 26 12 (((am_u q11.2 34 (Int32.toNatClampNeg (((5 : Int32) * ((am_u g 26 15 ((g 26 15) + (1 : Int32))) 26 11)) + (4 : Int32))) q11.1) 26 12) ||| ((1 : Int32) <<< ((((2 : Int32) * ((am_u q11.2 34 (Int32.toNatClampNeg (((5 : Int32) * ((am_u g 26 15 ((g 26 15) + (1 : Int32))) 26 11)) + (4 : Int32))) q11.1) 34 (Int32.toNatClampNeg ((5 : Int32) * ((am_u g 26 15 ((g 26 15) + (1 : Int32))) 26 11))))) + ((am_u q11.2 34 (Int32.toNatClampNeg (((5 : Int32) * ((am_u g 26 15 ((g 26 15) + (1 : Int32))) 26 11)) + (4 : Int32))) q11.1) 34 (Int32.toNatClampNeg (((5 : Int32) * ((am_u g 26 15 ((g 26 15) + (1 : Int32))) 26 11)) + (1 : Int32))))) &&& 31)))) (w' := w) (cl := [am_in (((5 : Int32) * ((am_u g 26 15 ((g 26 15) + (1 : Int32))) 26 11)) + (4 : Int32)) 30, am_in ((5 : Int32) * ((am_u g 26 15 ((g 26 15) + (1 : Int32))) 26 11)) 30, am_in (((5 : Int32) * ((am_u g 26 15 ((g 26 15) + (1 : Int32))) 26 11)) + (1 : Int32)) 30]) (by decide +kernel) rfl ⟨hg12, hg13, hg14, trivial⟩ ?_
  refine am_wk [some (.ref 26), none] ⟨rfl, trivial⟩ rfl ?_
  exact B_X8_readWindow_130 x C0 hR w F R  (am_u (am_u q11.2 34 (Int32.toNatClampNeg (((5 : Int32) * ((am_u g 26 15 ((g 26 15) + (1 : Int32))) 26 11)) + (4 : Int32))) q11.1) 26 12 (((am_u q11.2 34 (Int32.toNatClampNeg (((5 : Int32) * ((am_u g 26 15 ((g 26 15) + (1 : Int32))) 26 11)) + (4 : Int32))) q11.1) 26 12) ||| ((1 : Int32) <<< ((((2 : Int32) * ((am_u q11.2 34 (Int32.toNatClampNeg (((5 : Int32) * ((am_u g 26 15 ((g 26 15) + (1 : Int32))) 26 11)) + (4 : Int32))) q11.1) 34 (Int32.toNatClampNeg ((5 : Int32) * ((am_u g 26 15 ((g 26 15) + (1 : Int32))) 26 11))))) + ((am_u q11.2 34 (Int32.toNatClampNeg (((5 : Int32) * ((am_u g 26 15 ((g 26 15) + (1 : Int32))) 26 11)) + (4 : Int32))) q11.1) 34 (Int32.toNatClampNeg (((5 : Int32) * ((am_u g 26 15 ((g 26 15) + (1 : Int32))) 26 11)) + (1 : Int32))))) &&& 31)))) hf
